theorem dX0_init_0 : decode cX0_init 0 = .ok (.aload_n 0, 1) := by decide +kernel
theorem dX0_init_1 : decode cX0_init 1 = .ok (.invokespecial 3, 3) := by decide +kernel
theorem dX0_init_4 : decode cX0_init 4 = .ok (.aload_n 0, 1) := by decide +kernel
theorem dX0_init_5 : decode cX0_init 5 = .ok (.bipush 48, 2) := by decide +kernel
theorem dX0_init_7 : decode cX0_init 7 = .ok (.newarray .int, 2) := by decide +kernel
theorem dX0_init_9 : decode cX0_init 9 = .ok (.putfield 9, 3) := by decide +kernel
theorem dX0_init_12 : decode cX0_init 12 = .ok (.return_, 1) := by decide +kernel
theorem dX0_copyFrom_0 : decode cX0_copyFrom 0 = .ok (.aload_n 0, 1) := by decide +kernel
theorem dX0_copyFrom_1 : decode cX0_copyFrom 1 = .ok (.aload_n 1, 1) := by decide +kernel
theorem dX0_copyFrom_2 : decode cX0_copyFrom 2 = .ok (.getfield 15, 3) := by decide +kernel
theorem dX0_copyFrom_5 : decode cX0_copyFrom 5 = .ok (.putfield 15, 3) := by decide +kernel
theorem dX0_copyFrom_8 : decode cX0_copyFrom 8 = .ok (.aload_n 0, 1) := by decide +kernel
theorem dX0_copyFrom_9 : decode cX0_copyFrom 9 = .ok (.aload_n 1, 1) := by decide +kernel
theorem dX0_copyFrom_10 : decode cX0_copyFrom 10 = .ok (.getfield 19, 3) := by decide +kernel
theorem dX0_copyFrom_13 : decode cX0_copyFrom 13 = .ok (.putfield 19, 3) := by decide +kernel
theorem dX0_copyFrom_16 : decode cX0_copyFrom 16 = .ok (.aload_n 1, 1) := by decide +kernel
theorem dX0_copyFrom_17 : decode cX0_copyFrom 17 = .ok (.getfield 9, 3) := by decide +kernel
theorem dX0_copyFrom_20 : decode cX0_copyFrom 20 = .ok (.iconst 0, 1) := by decide +kernel
theorem dX0_copyFrom_21 : decode cX0_copyFrom 21 = .ok (.aload_n 0, 1) := by decide +kernel
theorem dX0_copyFrom_22 : decode cX0_copyFrom 22 = .ok (.getfield 9, 3) := by decide +kernel
theorem dX0_copyFrom_25 : decode cX0_copyFrom 25 = .ok (.iconst 0, 1) := by decide +kernel
theorem dX0_copyFrom_26 : decode cX0_copyFrom 26 = .ok (.bipush 48, 2) := by decide +kernel
theorem dX0_copyFrom_28 : decode cX0_copyFrom 28 = .ok (.invokestatic 22, 3) := by decide +kernel
theorem dX0_copyFrom_31 : decode cX0_copyFrom 31 = .ok (.return_, 1) := by decide +kernel
theorem dX0_has_0 : decode cX0_has 0 = .ok (.iload_n 1, 1) := by decide +kernel
theorem dX0_has_1 : decode cX0_has 1 = .ok (.ifCond .lt 15, 3) := by decide +kernel
theorem dX0_has_4 : decode cX0_has 4 = .ok (.iload_n 1, 1) := by decide +kernel
theorem dX0_has_5 : decode cX0_has 5 = .ok (.aload_n 0, 1) := by decide +kernel
theorem dX0_has_6 : decode cX0_has 6 = .ok (.getfield 15, 3) := by decide +kernel
theorem dX0_has_9 : decode cX0_has 9 = .ok (.if_icmp .ge 7, 3) := by decide +kernel
theorem dX0_has_12 : decode cX0_has 12 = .ok (.iconst 1, 1) := by decide +kernel
theorem dX0_has_13 : decode cX0_has 13 = .ok (.goto 4, 3) := by decide +kernel
theorem dX0_has_16 : decode cX0_has 16 = .ok (.iconst 0, 1) := by decide +kernel
theorem dX0_has_17 : decode cX0_has 17 = .ok (.ireturn, 1) := by decide +kernel
theorem dX0_leastSample_0 : decode cX0_leastSample 0 = .ok (.sipush 999, 3) := by decide +kernel
theorem dX0_leastSample_3 : decode cX0_leastSample 3 = .ok (.istore_n 1, 1) := by decide +kernel
theorem dX0_leastSample_4 : decode cX0_leastSample 4 = .ok (.iconst 0, 1) := by decide +kernel
theorem dX0_leastSample_5 : decode cX0_leastSample 5 = .ok (.istore_n 2, 1) := by decide +kernel
theorem dX0_leastSample_6 : decode cX0_leastSample 6 = .ok (.iload_n 2, 1) := by decide +kernel
theorem dX0_leastSample_7 : decode cX0_leastSample 7 = .ok (.aload_n 0, 1) := by decide +kernel
theorem dX0_leastSample_8 : decode cX0_leastSample 8 = .ok (.getfield 15, 3) := by decide +kernel
theorem dX0_leastSample_11 : decode cX0_leastSample 11 = .ok (.if_icmp .ge 20, 3) := by decide +kernel
theorem dX0_leastSample_14 : decode cX0_leastSample 14 = .ok (.iload_n 1, 1) := by decide +kernel
theorem dX0_leastSample_15 : decode cX0_leastSample 15 = .ok (.aload_n 0, 1) := by decide +kernel
theorem dX0_leastSample_16 : decode cX0_leastSample 16 = .ok (.getfield 9, 3) := by decide +kernel
theorem dX0_leastSample_19 : decode cX0_leastSample 19 = .ok (.iload_n 2, 1) := by decide +kernel
theorem dX0_leastSample_20 : decode cX0_leastSample 20 = .ok (.iaload, 1) := by decide +kernel
theorem dX0_leastSample_21 : decode cX0_leastSample 21 = .ok (.invokestatic 28, 3) := by decide +kernel
theorem dX0_leastSample_24 : decode cX0_leastSample 24 = .ok (.istore_n 1, 1) := by decide +kernel
theorem dX0_leastSample_25 : decode cX0_leastSample 25 = .ok (.iinc 2 1, 3) := by decide +kernel
theorem dX0_leastSample_28 : decode cX0_leastSample 28 = .ok (.goto (-22), 3) := by decide +kernel
theorem dX0_leastSample_31 : decode cX0_leastSample 31 = .ok (.iload_n 1, 1) := by decide +kernel
theorem dX0_leastSample_32 : decode cX0_leastSample 32 = .ok (.ireturn, 1) := by decide +kernel
theorem dX0_greatestSample_0 : decode cX0_greatestSample 0 = .ok (.iconst 0, 1) := by decide +kernel
theorem dX0_greatestSample_1 : decode cX0_greatestSample 1 = .ok (.istore_n 1, 1) := by decide +kernel
theorem dX0_greatestSample_2 : decode cX0_greatestSample 2 = .ok (.iconst 0, 1) := by decide +kernel
theorem dX0_greatestSample_3 : decode cX0_greatestSample 3 = .ok (.istore_n 2, 1) := by decide +kernel
theorem dX0_greatestSample_4 : decode cX0_greatestSample 4 = .ok (.iload_n 2, 1) := by decide +kernel
theorem dX0_greatestSample_5 : decode cX0_greatestSample 5 = .ok (.aload_n 0, 1) := by decide +kernel
theorem dX0_greatestSample_6 : decode cX0_greatestSample 6 = .ok (.getfield 15, 3) := by decide +kernel
theorem dX0_greatestSample_9 : decode cX0_greatestSample 9 = .ok (.if_icmp .ge 20, 3) := by decide +kernel
theorem dX0_greatestSample_12 : decode cX0_greatestSample 12 = .ok (.iload_n 1, 1) := by decide +kernel
theorem dX0_greatestSample_13 : decode cX0_greatestSample 13 = .ok (.aload_n 0, 1) := by decide +kernel
theorem dX0_greatestSample_14 : decode cX0_greatestSample 14 = .ok (.getfield 9, 3) := by decide +kernel
theorem dX0_greatestSample_17 : decode cX0_greatestSample 17 = .ok (.iload_n 2, 1) := by decide +kernel
theorem dX0_greatestSample_18 : decode cX0_greatestSample 18 = .ok (.iaload, 1) := by decide +kernel
theorem dX0_greatestSample_19 : decode cX0_greatestSample 19 = .ok (.invokestatic 34, 3) := by decide +kernel
theorem dX0_greatestSample_22 : decode cX0_greatestSample 22 = .ok (.istore_n 1, 1) := by decide +kernel
theorem dX0_greatestSample_23 : decode cX0_greatestSample 23 = .ok (.iinc 2 1, 3) := by decide +kernel
theorem dX0_greatestSample_26 : decode cX0_greatestSample 26 = .ok (.goto (-22), 3) := by decide +kernel
theorem dX0_greatestSample_29 : decode cX0_greatestSample 29 = .ok (.iload_n 1, 1) := by decide +kernel
theorem dX0_greatestSample_30 : decode cX0_greatestSample 30 = .ok (.ireturn, 1) := by decide +kernel
theorem dX0_sumOfSamples_0 : decode cX0_sumOfSamples 0 = .ok (.iconst 0, 1) := by decide +kernel
theorem dX0_sumOfSamples_1 : decode cX0_sumOfSamples 1 = .ok (.istore_n 1, 1) := by decide +kernel
theorem dX0_sumOfSamples_2 : decode cX0_sumOfSamples 2 = .ok (.iconst 0, 1) := by decide +kernel
theorem dX0_sumOfSamples_3 : decode cX0_sumOfSamples 3 = .ok (.istore_n 2, 1) := by decide +kernel
theorem dX0_sumOfSamples_4 : decode cX0_sumOfSamples 4 = .ok (.iload_n 2, 1) := by decide +kernel
theorem dX0_sumOfSamples_5 : decode cX0_sumOfSamples 5 = .ok (.aload_n 0, 1) := by decide +kernel
theorem dX0_sumOfSamples_6 : decode cX0_sumOfSamples 6 = .ok (.getfield 15, 3) := by decide +kernel
theorem dX0_sumOfSamples_9 : decode cX0_sumOfSamples 9 = .ok (.if_icmp .ge 18, 3) := by decide +kernel
theorem dX0_sumOfSamples_12 : decode cX0_sumOfSamples 12 = .ok (.iload_n 1, 1) := by decide +kernel
theorem dX0_sumOfSamples_13 : decode cX0_sumOfSamples 13 = .ok (.aload_n 0, 1) := by decide +kernel
theorem dX0_sumOfSamples_14 : decode cX0_sumOfSamples 14 = .ok (.getfield 9, 3) := by decide +kernel
theorem dX0_sumOfSamples_17 : decode cX0_sumOfSamples 17 = .ok (.iload_n 2, 1) := by decide +kernel
theorem dX0_sumOfSamples_18 : decode cX0_sumOfSamples 18 = .ok (.iaload, 1) := by decide +kernel
theorem dX0_sumOfSamples_19 : decode cX0_sumOfSamples 19 = .ok (.iadd, 1) := by decide +kernel
theorem dX0_sumOfSamples_20 : decode cX0_sumOfSamples 20 = .ok (.istore_n 1, 1) := by decide +kernel
theorem dX0_sumOfSamples_21 : decode cX0_sumOfSamples 21 = .ok (.iinc 2 1, 3) := by decide +kernel
theorem dX0_sumOfSamples_24 : decode cX0_sumOfSamples 24 = .ok (.goto (-20), 3) := by decide +kernel
theorem dX0_sumOfSamples_27 : decode cX0_sumOfSamples 27 = .ok (.iload_n 1, 1) := by decide +kernel
theorem dX0_sumOfSamples_28 : decode cX0_sumOfSamples 28 = .ok (.ireturn, 1) := by decide +kernel
theorem dX0_leastPlace_0 : decode cX0_leastPlace 0 = .ok (.iload_n 1, 1) := by decide +kernel
theorem dX0_leastPlace_1 : decode cX0_leastPlace 1 = .ok (.istore_n 3, 1) := by decide +kernel
theorem dX0_leastPlace_2 : decode cX0_leastPlace 2 = .ok (.iload_n 1, 1) := by decide +kernel
theorem dX0_leastPlace_3 : decode cX0_leastPlace 3 = .ok (.iconst 1, 1) := by decide +kernel
theorem dX0_leastPlace_4 : decode cX0_leastPlace 4 = .ok (.iadd, 1) := by decide +kernel
theorem dX0_leastPlace_5 : decode cX0_leastPlace 5 = .ok (.istore 4, 2) := by decide +kernel
theorem dX0_leastPlace_7 : decode cX0_leastPlace 7 = .ok (.iload 4, 2) := by decide +kernel
theorem dX0_leastPlace_9 : decode cX0_leastPlace 9 = .ok (.iload_n 2, 1) := by decide +kernel
theorem dX0_leastPlace_10 : decode cX0_leastPlace 10 = .ok (.if_icmp .gt 45, 3) := by decide +kernel
theorem dX0_leastPlace_13 : decode cX0_leastPlace 13 = .ok (.aload_n 0, 1) := by decide +kernel
theorem dX0_leastPlace_14 : decode cX0_leastPlace 14 = .ok (.iload 4, 2) := by decide +kernel
theorem dX0_leastPlace_16 : decode cX0_leastPlace 16 = .ok (.invokevirtual 37, 3) := by decide +kernel
theorem dX0_leastPlace_19 : decode cX0_leastPlace 19 = .ok (.ifCond .eq 30, 3) := by decide +kernel
theorem dX0_leastPlace_22 : decode cX0_leastPlace 22 = .ok (.aload_n 0, 1) := by decide +kernel
theorem dX0_leastPlace_23 : decode cX0_leastPlace 23 = .ok (.iload_n 3, 1) := by decide +kernel
theorem dX0_leastPlace_24 : decode cX0_leastPlace 24 = .ok (.invokevirtual 37, 3) := by decide +kernel
theorem dX0_leastPlace_27 : decode cX0_leastPlace 27 = .ok (.ifCond .eq 22, 3) := by decide +kernel
theorem dX0_leastPlace_30 : decode cX0_leastPlace 30 = .ok (.aload_n 0, 1) := by decide +kernel
theorem dX0_leastPlace_31 : decode cX0_leastPlace 31 = .ok (.getfield 9, 3) := by decide +kernel
theorem dX0_leastPlace_34 : decode cX0_leastPlace 34 = .ok (.iload 4, 2) := by decide +kernel
theorem dX0_leastPlace_36 : decode cX0_leastPlace 36 = .ok (.iaload, 1) := by decide +kernel
theorem dX0_leastPlace_37 : decode cX0_leastPlace 37 = .ok (.aload_n 0, 1) := by decide +kernel
theorem dX0_leastPlace_38 : decode cX0_leastPlace 38 = .ok (.getfield 9, 3) := by decide +kernel
theorem dX0_leastPlace_41 : decode cX0_leastPlace 41 = .ok (.iload_n 3, 1) := by decide +kernel
theorem dX0_leastPlace_42 : decode cX0_leastPlace 42 = .ok (.iaload, 1) := by decide +kernel
theorem dX0_leastPlace_43 : decode cX0_leastPlace 43 = .ok (.if_icmp .ge 6, 3) := by decide +kernel
theorem dX0_leastPlace_46 : decode cX0_leastPlace 46 = .ok (.iload 4, 2) := by decide +kernel
theorem dX0_leastPlace_48 : decode cX0_leastPlace 48 = .ok (.istore_n 3, 1) := by decide +kernel
theorem dX0_leastPlace_49 : decode cX0_leastPlace 49 = .ok (.iinc 4 1, 3) := by decide +kernel
theorem dX0_leastPlace_52 : decode cX0_leastPlace 52 = .ok (.goto (-45), 3) := by decide +kernel
theorem dX0_leastPlace_55 : decode cX0_leastPlace 55 = .ok (.iload_n 3, 1) := by decide +kernel
theorem dX0_leastPlace_56 : decode cX0_leastPlace 56 = .ok (.ireturn, 1) := by decide +kernel
theorem dX0_runStart_0 : decode cX0_runStart 0 = .ok (.iload_n 1, 1) := by decide +kernel
theorem dX0_runStart_1 : decode cX0_runStart 1 = .ok (.istore_n 3, 1) := by decide +kernel
theorem dX0_runStart_2 : decode cX0_runStart 2 = .ok (.iload_n 3, 1) := by decide +kernel
theorem dX0_runStart_3 : decode cX0_runStart 3 = .ok (.ifCond .le 29, 3) := by decide +kernel
theorem dX0_runStart_6 : decode cX0_runStart 6 = .ok (.iload_n 3, 1) := by decide +kernel
theorem dX0_runStart_7 : decode cX0_runStart 7 = .ok (.aload_n 0, 1) := by decide +kernel
theorem dX0_runStart_8 : decode cX0_runStart 8 = .ok (.getfield 15, 3) := by decide +kernel
theorem dX0_runStart_11 : decode cX0_runStart 11 = .ok (.if_icmp .gt 21, 3) := by decide +kernel
theorem dX0_runStart_14 : decode cX0_runStart 14 = .ok (.aload_n 0, 1) := by decide +kernel
theorem dX0_runStart_15 : decode cX0_runStart 15 = .ok (.getfield 9, 3) := by decide +kernel
theorem dX0_runStart_18 : decode cX0_runStart 18 = .ok (.iload_n 3, 1) := by decide +kernel
theorem dX0_runStart_19 : decode cX0_runStart 19 = .ok (.iconst 1, 1) := by decide +kernel
theorem dX0_runStart_20 : decode cX0_runStart 20 = .ok (.isub, 1) := by decide +kernel
theorem dX0_runStart_21 : decode cX0_runStart 21 = .ok (.iaload, 1) := by decide +kernel
theorem dX0_runStart_22 : decode cX0_runStart 22 = .ok (.iload_n 2, 1) := by decide +kernel
theorem dX0_runStart_23 : decode cX0_runStart 23 = .ok (.if_icmp .lt 9, 3) := by decide +kernel
theorem dX0_runStart_26 : decode cX0_runStart 26 = .ok (.iinc 3 (-1), 3) := by decide +kernel
theorem dX0_runStart_29 : decode cX0_runStart 29 = .ok (.goto (-27), 3) := by decide +kernel
theorem dX0_runStart_32 : decode cX0_runStart 32 = .ok (.iload_n 3, 1) := by decide +kernel
theorem dX0_runStart_33 : decode cX0_runStart 33 = .ok (.ireturn, 1) := by decide +kernel
theorem dX0_runEnd_0 : decode cX0_runEnd 0 = .ok (.iload_n 1, 1) := by decide +kernel
theorem dX0_runEnd_1 : decode cX0_runEnd 1 = .ok (.istore_n 3, 1) := by decide +kernel
theorem dX0_runEnd_2 : decode cX0_runEnd 2 = .ok (.iload_n 3, 1) := by decide +kernel
theorem dX0_runEnd_3 : decode cX0_runEnd 3 = .ok (.ifCond .lt 31, 3) := by decide +kernel
theorem dX0_runEnd_6 : decode cX0_runEnd 6 = .ok (.iload_n 3, 1) := by decide +kernel
theorem dX0_runEnd_7 : decode cX0_runEnd 7 = .ok (.iconst 1, 1) := by decide +kernel
theorem dX0_runEnd_8 : decode cX0_runEnd 8 = .ok (.iadd, 1) := by decide +kernel
theorem dX0_runEnd_9 : decode cX0_runEnd 9 = .ok (.aload_n 0, 1) := by decide +kernel
theorem dX0_runEnd_10 : decode cX0_runEnd 10 = .ok (.getfield 15, 3) := by decide +kernel
theorem dX0_runEnd_13 : decode cX0_runEnd 13 = .ok (.if_icmp .ge 21, 3) := by decide +kernel
theorem dX0_runEnd_16 : decode cX0_runEnd 16 = .ok (.aload_n 0, 1) := by decide +kernel
theorem dX0_runEnd_17 : decode cX0_runEnd 17 = .ok (.getfield 9, 3) := by decide +kernel
theorem dX0_runEnd_20 : decode cX0_runEnd 20 = .ok (.iload_n 3, 1) := by decide +kernel
theorem dX0_runEnd_21 : decode cX0_runEnd 21 = .ok (.iconst 1, 1) := by decide +kernel
theorem dX0_runEnd_22 : decode cX0_runEnd 22 = .ok (.iadd, 1) := by decide +kernel
theorem dX0_runEnd_23 : decode cX0_runEnd 23 = .ok (.iaload, 1) := by decide +kernel
theorem dX0_runEnd_24 : decode cX0_runEnd 24 = .ok (.iload_n 2, 1) := by decide +kernel
theorem dX0_runEnd_25 : decode cX0_runEnd 25 = .ok (.if_icmp .lt 9, 3) := by decide +kernel
theorem dX0_runEnd_28 : decode cX0_runEnd 28 = .ok (.iinc 3 1, 3) := by decide +kernel
theorem dX0_runEnd_31 : decode cX0_runEnd 31 = .ok (.goto (-29), 3) := by decide +kernel
theorem dX0_runEnd_34 : decode cX0_runEnd 34 = .ok (.iload_n 3, 1) := by decide +kernel
theorem dX0_runEnd_35 : decode cX0_runEnd 35 = .ok (.ireturn, 1) := by decide +kernel
theorem dX0_refusal_0 : decode cX0_refusal 0 = .ok (.iload_n 1, 1) := by decide +kernel
theorem dX0_refusal_1 : decode cX0_refusal 1 = .ok (.bipush 7, 2) := by decide +kernel
theorem dX0_refusal_3 : decode cX0_refusal 3 = .ok (.if_icmp .eq 9, 3) := by decide +kernel
theorem dX0_refusal_6 : decode cX0_refusal 6 = .ok (.iload_n 1, 1) := by decide +kernel
theorem dX0_refusal_7 : decode cX0_refusal 7 = .ok (.bipush 9, 2) := by decide +kernel
theorem dX0_refusal_9 : decode cX0_refusal 9 = .ok (.if_icmp .ne 7, 3) := by decide +kernel
theorem dX0_refusal_12 : decode cX0_refusal 12 = .ok (.iconst 1, 1) := by decide +kernel
theorem dX0_refusal_13 : decode cX0_refusal 13 = .ok (.goto 4, 3) := by decide +kernel
theorem dX0_refusal_16 : decode cX0_refusal 16 = .ok (.iconst 0, 1) := by decide +kernel
theorem dX0_refusal_17 : decode cX0_refusal 17 = .ok (.istore 4, 2) := by decide +kernel
theorem dX0_refusal_19 : decode cX0_refusal 19 = .ok (.aload_n 0, 1) := by decide +kernel
theorem dX0_refusal_20 : decode cX0_refusal 20 = .ok (.getfield 15, 3) := by decide +kernel
theorem dX0_refusal_23 : decode cX0_refusal 23 = .ok (.ifCond .eq 16, 3) := by decide +kernel
theorem dX0_refusal_26 : decode cX0_refusal 26 = .ok (.iload 4, 2) := by decide +kernel
theorem dX0_refusal_28 : decode cX0_refusal 28 = .ok (.ifCond .eq 13, 3) := by decide +kernel
theorem dX0_refusal_31 : decode cX0_refusal 31 = .ok (.aload_n 0, 1) := by decide +kernel
theorem dX0_refusal_32 : decode cX0_refusal 32 = .ok (.iload_n 2, 1) := by decide +kernel
theorem dX0_refusal_33 : decode cX0_refusal 33 = .ok (.invokevirtual 37, 3) := by decide +kernel
theorem dX0_refusal_36 : decode cX0_refusal 36 = .ok (.ifCond .ne 5, 3) := by decide +kernel
theorem dX0_refusal_39 : decode cX0_refusal 39 = .ok (.iconst 0, 1) := by decide +kernel
theorem dX0_refusal_40 : decode cX0_refusal 40 = .ok (.ireturn, 1) := by decide +kernel
theorem dX0_refusal_41 : decode cX0_refusal 41 = .ok (.aload_n 0, 1) := by decide +kernel
theorem dX0_refusal_42 : decode cX0_refusal 42 = .ok (.iload_n 1, 1) := by decide +kernel
theorem dX0_refusal_43 : decode cX0_refusal 43 = .ok (.iload_n 2, 1) := by decide +kernel
theorem dX0_refusal_44 : decode cX0_refusal 44 = .ok (.iload_n 3, 1) := by decide +kernel
theorem dX0_refusal_45 : decode cX0_refusal 45 = .ok (.invokevirtual 41, 3) := by decide +kernel
theorem dX0_refusal_48 : decode cX0_refusal 48 = .ok (.ifCond .eq 7, 3) := by decide +kernel
theorem dX0_refusal_51 : decode cX0_refusal 51 = .ok (.iconst (-1), 1) := by decide +kernel
theorem dX0_refusal_52 : decode cX0_refusal 52 = .ok (.goto 4, 3) := by decide +kernel
theorem dX0_refusal_55 : decode cX0_refusal 55 = .ok (.iconst 1, 1) := by decide +kernel
theorem dX0_refusal_56 : decode cX0_refusal 56 = .ok (.ireturn, 1) := by decide +kernel
theorem dX0_inBounds_0 : decode cX0_inBounds 0 = .ok (.iload_n 1, 1) := by decide +kernel
theorem dX0_inBounds_1 : decode cX0_inBounds 1 = .ok (.tableswitch 141 4 9 #[39, 56, 76, 103, 39, 120], 39) := by decide +kernel
theorem dX0_inBounds_40 : decode cX0_inBounds 40 = .ok (.iload_n 2, 1) := by decide +kernel
theorem dX0_inBounds_41 : decode cX0_inBounds 41 = .ok (.ifCond .lt 14, 3) := by decide +kernel
theorem dX0_inBounds_44 : decode cX0_inBounds 44 = .ok (.iload_n 2, 1) := by decide +kernel
theorem dX0_inBounds_45 : decode cX0_inBounds 45 = .ok (.sipush 999, 3) := by decide +kernel
theorem dX0_inBounds_48 : decode cX0_inBounds 48 = .ok (.if_icmp .gt 7, 3) := by decide +kernel
theorem dX0_inBounds_51 : decode cX0_inBounds 51 = .ok (.iconst 1, 1) := by decide +kernel
theorem dX0_inBounds_52 : decode cX0_inBounds 52 = .ok (.goto 4, 3) := by decide +kernel
theorem dX0_inBounds_55 : decode cX0_inBounds 55 = .ok (.iconst 0, 1) := by decide +kernel
theorem dX0_inBounds_56 : decode cX0_inBounds 56 = .ok (.ireturn, 1) := by decide +kernel
theorem dX0_inBounds_57 : decode cX0_inBounds 57 = .ok (.iload_n 2, 1) := by decide +kernel
theorem dX0_inBounds_58 : decode cX0_inBounds 58 = .ok (.sipush (-999), 3) := by decide +kernel
theorem dX0_inBounds_61 : decode cX0_inBounds 61 = .ok (.if_icmp .lt 14, 3) := by decide +kernel
theorem dX0_inBounds_64 : decode cX0_inBounds 64 = .ok (.iload_n 2, 1) := by decide +kernel
theorem dX0_inBounds_65 : decode cX0_inBounds 65 = .ok (.sipush 999, 3) := by decide +kernel
theorem dX0_inBounds_68 : decode cX0_inBounds 68 = .ok (.if_icmp .gt 7, 3) := by decide +kernel
theorem dX0_inBounds_71 : decode cX0_inBounds 71 = .ok (.iconst 1, 1) := by decide +kernel
theorem dX0_inBounds_72 : decode cX0_inBounds 72 = .ok (.goto 4, 3) := by decide +kernel
theorem dX0_inBounds_75 : decode cX0_inBounds 75 = .ok (.iconst 0, 1) := by decide +kernel
theorem dX0_inBounds_76 : decode cX0_inBounds 76 = .ok (.ireturn, 1) := by decide +kernel
theorem dX0_inBounds_77 : decode cX0_inBounds 77 = .ok (.iload_n 2, 1) := by decide +kernel
theorem dX0_inBounds_78 : decode cX0_inBounds 78 = .ok (.ifCond .lt 24, 3) := by decide +kernel
theorem dX0_inBounds_81 : decode cX0_inBounds 81 = .ok (.iload_n 2, 1) := by decide +kernel
theorem dX0_inBounds_82 : decode cX0_inBounds 82 = .ok (.bipush 99, 2) := by decide +kernel
theorem dX0_inBounds_84 : decode cX0_inBounds 84 = .ok (.if_icmp .gt 18, 3) := by decide +kernel
theorem dX0_inBounds_87 : decode cX0_inBounds 87 = .ok (.iload_n 3, 1) := by decide +kernel
theorem dX0_inBounds_88 : decode cX0_inBounds 88 = .ok (.iconst 1, 1) := by decide +kernel
theorem dX0_inBounds_89 : decode cX0_inBounds 89 = .ok (.if_icmp .lt 13, 3) := by decide +kernel
theorem dX0_inBounds_92 : decode cX0_inBounds 92 = .ok (.iload_n 3, 1) := by decide +kernel
theorem dX0_inBounds_93 : decode cX0_inBounds 93 = .ok (.bipush 99, 2) := by decide +kernel
theorem dX0_inBounds_95 : decode cX0_inBounds 95 = .ok (.if_icmp .gt 7, 3) := by decide +kernel
theorem dX0_inBounds_98 : decode cX0_inBounds 98 = .ok (.iconst 1, 1) := by decide +kernel
theorem dX0_inBounds_99 : decode cX0_inBounds 99 = .ok (.goto 4, 3) := by decide +kernel
theorem dX0_inBounds_102 : decode cX0_inBounds 102 = .ok (.iconst 0, 1) := by decide +kernel
theorem dX0_inBounds_103 : decode cX0_inBounds 103 = .ok (.ireturn, 1) := by decide +kernel
theorem dX0_inBounds_104 : decode cX0_inBounds 104 = .ok (.iload_n 3, 1) := by decide +kernel
theorem dX0_inBounds_105 : decode cX0_inBounds 105 = .ok (.ifCond .lt 14, 3) := by decide +kernel
theorem dX0_inBounds_108 : decode cX0_inBounds 108 = .ok (.iload_n 3, 1) := by decide +kernel
theorem dX0_inBounds_109 : decode cX0_inBounds 109 = .ok (.sipush 999, 3) := by decide +kernel
theorem dX0_inBounds_112 : decode cX0_inBounds 112 = .ok (.if_icmp .gt 7, 3) := by decide +kernel
theorem dX0_inBounds_115 : decode cX0_inBounds 115 = .ok (.iconst 1, 1) := by decide +kernel
theorem dX0_inBounds_116 : decode cX0_inBounds 116 = .ok (.goto 4, 3) := by decide +kernel
theorem dX0_inBounds_119 : decode cX0_inBounds 119 = .ok (.iconst 0, 1) := by decide +kernel
theorem dX0_inBounds_120 : decode cX0_inBounds 120 = .ok (.ireturn, 1) := by decide +kernel
theorem dX0_inBounds_121 : decode cX0_inBounds 121 = .ok (.iload_n 3, 1) := by decide +kernel
theorem dX0_inBounds_122 : decode cX0_inBounds 122 = .ok (.iconst 1, 1) := by decide +kernel
theorem dX0_inBounds_123 : decode cX0_inBounds 123 = .ok (.if_icmp .lt 17, 3) := by decide +kernel
theorem dX0_inBounds_126 : decode cX0_inBounds 126 = .ok (.iload_n 3, 1) := by decide +kernel
theorem dX0_inBounds_127 : decode cX0_inBounds 127 = .ok (.aload_n 0, 1) := by decide +kernel
theorem dX0_inBounds_128 : decode cX0_inBounds 128 = .ok (.getfield 15, 3) := by decide +kernel
theorem dX0_inBounds_131 : decode cX0_inBounds 131 = .ok (.iload_n 2, 1) := by decide +kernel
theorem dX0_inBounds_132 : decode cX0_inBounds 132 = .ok (.isub, 1) := by decide +kernel
theorem dX0_inBounds_133 : decode cX0_inBounds 133 = .ok (.if_icmp .gt 7, 3) := by decide +kernel
theorem dX0_inBounds_136 : decode cX0_inBounds 136 = .ok (.iconst 1, 1) := by decide +kernel
theorem dX0_inBounds_137 : decode cX0_inBounds 137 = .ok (.goto 4, 3) := by decide +kernel
theorem dX0_inBounds_140 : decode cX0_inBounds 140 = .ok (.iconst 0, 1) := by decide +kernel
theorem dX0_inBounds_141 : decode cX0_inBounds 141 = .ok (.ireturn, 1) := by decide +kernel
theorem dX0_inBounds_142 : decode cX0_inBounds 142 = .ok (.iconst 1, 1) := by decide +kernel
theorem dX0_inBounds_143 : decode cX0_inBounds 143 = .ok (.ireturn, 1) := by decide +kernel
theorem dX0_undergo_0 : decode cX0_undergo 0 = .ok (.iload_n 1, 1) := by decide +kernel
theorem dX0_undergo_1 : decode cX0_undergo 1 = .ok (.tableswitch 121 0 9 #[55, 55, 70, 77, 82, 88, 94, 101, 108, 114], 55) := by decide +kernel
theorem dX0_undergo_56 : decode cX0_undergo 56 = .ok (.aload_n 0, 1) := by decide +kernel
theorem dX0_undergo_57 : decode cX0_undergo 57 = .ok (.iload_n 1, 1) := by decide +kernel
theorem dX0_undergo_58 : decode cX0_undergo 58 = .ok (.iconst 1, 1) := by decide +kernel
theorem dX0_undergo_59 : decode cX0_undergo 59 = .ok (.if_icmp .ne 7, 3) := by decide +kernel
theorem dX0_undergo_62 : decode cX0_undergo 62 = .ok (.iconst 1, 1) := by decide +kernel
theorem dX0_undergo_63 : decode cX0_undergo 63 = .ok (.goto 4, 3) := by decide +kernel
theorem dX0_undergo_66 : decode cX0_undergo 66 = .ok (.iconst 0, 1) := by decide +kernel
theorem dX0_undergo_67 : decode cX0_undergo 67 = .ok (.invokevirtual 45, 3) := by decide +kernel
theorem dX0_undergo_70 : decode cX0_undergo 70 = .ok (.ireturn, 1) := by decide +kernel
theorem dX0_undergo_71 : decode cX0_undergo 71 = .ok (.aload_n 0, 1) := by decide +kernel
theorem dX0_undergo_72 : decode cX0_undergo 72 = .ok (.aload 4, 2) := by decide +kernel
theorem dX0_undergo_74 : decode cX0_undergo 74 = .ok (.invokevirtual 49, 3) := by decide +kernel
theorem dX0_undergo_77 : decode cX0_undergo 77 = .ok (.ireturn, 1) := by decide +kernel
theorem dX0_undergo_78 : decode cX0_undergo 78 = .ok (.aload_n 0, 1) := by decide +kernel
theorem dX0_undergo_79 : decode cX0_undergo 79 = .ok (.invokevirtual 53, 3) := by decide +kernel
theorem dX0_undergo_82 : decode cX0_undergo 82 = .ok (.ireturn, 1) := by decide +kernel
theorem dX0_undergo_83 : decode cX0_undergo 83 = .ok (.aload_n 0, 1) := by decide +kernel
theorem dX0_undergo_84 : decode cX0_undergo 84 = .ok (.iload_n 2, 1) := by decide +kernel
theorem dX0_undergo_85 : decode cX0_undergo 85 = .ok (.invokevirtual 57, 3) := by decide +kernel
theorem dX0_undergo_88 : decode cX0_undergo 88 = .ok (.ireturn, 1) := by decide +kernel
theorem dX0_undergo_89 : decode cX0_undergo 89 = .ok (.aload_n 0, 1) := by decide +kernel
theorem dX0_undergo_90 : decode cX0_undergo 90 = .ok (.iload_n 2, 1) := by decide +kernel
theorem dX0_undergo_91 : decode cX0_undergo 91 = .ok (.invokevirtual 61, 3) := by decide +kernel
theorem dX0_undergo_94 : decode cX0_undergo 94 = .ok (.ireturn, 1) := by decide +kernel
theorem dX0_undergo_95 : decode cX0_undergo 95 = .ok (.aload_n 0, 1) := by decide +kernel
theorem dX0_undergo_96 : decode cX0_undergo 96 = .ok (.iload_n 2, 1) := by decide +kernel
theorem dX0_undergo_97 : decode cX0_undergo 97 = .ok (.iload_n 3, 1) := by decide +kernel
theorem dX0_undergo_98 : decode cX0_undergo 98 = .ok (.invokevirtual 64, 3) := by decide +kernel
theorem dX0_undergo_101 : decode cX0_undergo 101 = .ok (.ireturn, 1) := by decide +kernel
theorem dX0_undergo_102 : decode cX0_undergo 102 = .ok (.aload_n 0, 1) := by decide +kernel
theorem dX0_undergo_103 : decode cX0_undergo 103 = .ok (.iload_n 2, 1) := by decide +kernel
theorem dX0_undergo_104 : decode cX0_undergo 104 = .ok (.iload_n 3, 1) := by decide +kernel
theorem dX0_undergo_105 : decode cX0_undergo 105 = .ok (.invokevirtual 67, 3) := by decide +kernel
theorem dX0_undergo_108 : decode cX0_undergo 108 = .ok (.ireturn, 1) := by decide +kernel
theorem dX0_undergo_109 : decode cX0_undergo 109 = .ok (.aload_n 0, 1) := by decide +kernel
theorem dX0_undergo_110 : decode cX0_undergo 110 = .ok (.iload_n 2, 1) := by decide +kernel
theorem dX0_undergo_111 : decode cX0_undergo 111 = .ok (.invokevirtual 70, 3) := by decide +kernel
theorem dX0_undergo_114 : decode cX0_undergo 114 = .ok (.ireturn, 1) := by decide +kernel
theorem dX0_undergo_115 : decode cX0_undergo 115 = .ok (.aload_n 0, 1) := by decide +kernel
theorem dX0_undergo_116 : decode cX0_undergo 116 = .ok (.iload_n 2, 1) := by decide +kernel
theorem dX0_undergo_117 : decode cX0_undergo 117 = .ok (.iload_n 3, 1) := by decide +kernel
theorem dX0_undergo_118 : decode cX0_undergo 118 = .ok (.invokevirtual 73, 3) := by decide +kernel
theorem dX0_undergo_121 : decode cX0_undergo 121 = .ok (.ireturn, 1) := by decide +kernel
theorem dX0_undergo_122 : decode cX0_undergo 122 = .ok (.iconst (-1), 1) := by decide +kernel
theorem dX0_undergo_123 : decode cX0_undergo 123 = .ok (.ireturn, 1) := by decide +kernel
theorem dX0_blend_0 : decode cX0_blend 0 = .ok (.aload_n 0, 1) := by decide +kernel
theorem dX0_blend_1 : decode cX0_blend 1 = .ok (.getfield 15, 3) := by decide +kernel
theorem dX0_blend_4 : decode cX0_blend 4 = .ok (.ifCond .le 12, 3) := by decide +kernel
theorem dX0_blend_7 : decode cX0_blend 7 = .ok (.aload_n 0, 1) := by decide +kernel
theorem dX0_blend_8 : decode cX0_blend 8 = .ok (.getfield 9, 3) := by decide +kernel
theorem dX0_blend_11 : decode cX0_blend 11 = .ok (.iconst 0, 1) := by decide +kernel
theorem dX0_blend_12 : decode cX0_blend 12 = .ok (.iaload, 1) := by decide +kernel
theorem dX0_blend_13 : decode cX0_blend 13 = .ok (.goto 4, 3) := by decide +kernel
theorem dX0_blend_16 : decode cX0_blend 16 = .ok (.iconst 0, 1) := by decide +kernel
theorem dX0_blend_17 : decode cX0_blend 17 = .ok (.istore_n 2, 1) := by decide +kernel
theorem dX0_blend_18 : decode cX0_blend 18 = .ok (.iconst 0, 1) := by decide +kernel
theorem dX0_blend_19 : decode cX0_blend 19 = .ok (.istore_n 3, 1) := by decide +kernel
theorem dX0_blend_20 : decode cX0_blend 20 = .ok (.iload_n 3, 1) := by decide +kernel
theorem dX0_blend_21 : decode cX0_blend 21 = .ok (.aload_n 0, 1) := by decide +kernel
theorem dX0_blend_22 : decode cX0_blend 22 = .ok (.getfield 15, 3) := by decide +kernel
theorem dX0_blend_25 : decode cX0_blend 25 = .ok (.if_icmp .ge 77, 3) := by decide +kernel
theorem dX0_blend_28 : decode cX0_blend 28 = .ok (.aload_n 0, 1) := by decide +kernel
theorem dX0_blend_29 : decode cX0_blend 29 = .ok (.getfield 9, 3) := by decide +kernel
theorem dX0_blend_32 : decode cX0_blend 32 = .ok (.iload_n 3, 1) := by decide +kernel
theorem dX0_blend_33 : decode cX0_blend 33 = .ok (.iaload, 1) := by decide +kernel
theorem dX0_blend_34 : decode cX0_blend 34 = .ok (.istore 4, 2) := by decide +kernel
theorem dX0_blend_36 : decode cX0_blend 36 = .ok (.aload_n 0, 1) := by decide +kernel
theorem dX0_blend_37 : decode cX0_blend 37 = .ok (.iload_n 3, 1) := by decide +kernel
theorem dX0_blend_38 : decode cX0_blend 38 = .ok (.iconst 1, 1) := by decide +kernel
theorem dX0_blend_39 : decode cX0_blend 39 = .ok (.iadd, 1) := by decide +kernel
theorem dX0_blend_40 : decode cX0_blend 40 = .ok (.invokevirtual 37, 3) := by decide +kernel
theorem dX0_blend_43 : decode cX0_blend 43 = .ok (.ifCond .eq 14, 3) := by decide +kernel
theorem dX0_blend_46 : decode cX0_blend 46 = .ok (.aload_n 0, 1) := by decide +kernel
theorem dX0_blend_47 : decode cX0_blend 47 = .ok (.getfield 9, 3) := by decide +kernel
theorem dX0_blend_50 : decode cX0_blend 50 = .ok (.iload_n 3, 1) := by decide +kernel
theorem dX0_blend_51 : decode cX0_blend 51 = .ok (.iconst 1, 1) := by decide +kernel
theorem dX0_blend_52 : decode cX0_blend 52 = .ok (.iadd, 1) := by decide +kernel
theorem dX0_blend_53 : decode cX0_blend 53 = .ok (.iaload, 1) := by decide +kernel
theorem dX0_blend_54 : decode cX0_blend 54 = .ok (.goto 5, 3) := by decide +kernel
theorem dX0_blend_57 : decode cX0_blend 57 = .ok (.iload 4, 2) := by decide +kernel
theorem dX0_blend_59 : decode cX0_blend 59 = .ok (.istore 5, 2) := by decide +kernel
theorem dX0_blend_61 : decode cX0_blend 61 = .ok (.aload_n 0, 1) := by decide +kernel
theorem dX0_blend_62 : decode cX0_blend 62 = .ok (.getfield 9, 3) := by decide +kernel
theorem dX0_blend_65 : decode cX0_blend 65 = .ok (.iload_n 3, 1) := by decide +kernel
theorem dX0_blend_66 : decode cX0_blend 66 = .ok (.iload_n 1, 1) := by decide +kernel
theorem dX0_blend_67 : decode cX0_blend 67 = .ok (.ifCond .eq 14, 3) := by decide +kernel
theorem dX0_blend_70 : decode cX0_blend 70 = .ok (.iload_n 2, 1) := by decide +kernel
theorem dX0_blend_71 : decode cX0_blend 71 = .ok (.iload 4, 2) := by decide +kernel
theorem dX0_blend_73 : decode cX0_blend 73 = .ok (.iload 5, 2) := by decide +kernel
theorem dX0_blend_75 : decode cX0_blend 75 = .ok (.invokestatic 76, 3) := by decide +kernel
theorem dX0_blend_78 : decode cX0_blend 78 = .ok (.goto 14, 3) := by decide +kernel
theorem dX0_blend_81 : decode cX0_blend 81 = .ok (.iload_n 2, 1) := by decide +kernel
theorem dX0_blend_82 : decode cX0_blend 82 = .ok (.iconst 2, 1) := by decide +kernel
theorem dX0_blend_83 : decode cX0_blend 83 = .ok (.iload 4, 2) := by decide +kernel
theorem dX0_blend_85 : decode cX0_blend 85 = .ok (.imul, 1) := by decide +kernel
theorem dX0_blend_86 : decode cX0_blend 86 = .ok (.iadd, 1) := by decide +kernel
theorem dX0_blend_87 : decode cX0_blend 87 = .ok (.iload 5, 2) := by decide +kernel
theorem dX0_blend_89 : decode cX0_blend 89 = .ok (.iadd, 1) := by decide +kernel
theorem dX0_blend_90 : decode cX0_blend 90 = .ok (.iconst 4, 1) := by decide +kernel
theorem dX0_blend_91 : decode cX0_blend 91 = .ok (.idiv, 1) := by decide +kernel
theorem dX0_blend_92 : decode cX0_blend 92 = .ok (.iastore, 1) := by decide +kernel
theorem dX0_blend_93 : decode cX0_blend 93 = .ok (.iload 4, 2) := by decide +kernel
theorem dX0_blend_95 : decode cX0_blend 95 = .ok (.istore_n 2, 1) := by decide +kernel
theorem dX0_blend_96 : decode cX0_blend 96 = .ok (.iinc 3 1, 3) := by decide +kernel
theorem dX0_blend_99 : decode cX0_blend 99 = .ok (.goto (-79), 3) := by decide +kernel
theorem dX0_blend_102 : decode cX0_blend 102 = .ok (.aload_n 0, 1) := by decide +kernel
theorem dX0_blend_103 : decode cX0_blend 103 = .ok (.getfield 15, 3) := by decide +kernel
theorem dX0_blend_106 : decode cX0_blend 106 = .ok (.ireturn, 1) := by decide +kernel
theorem dX0_middle_0 : decode cX0_middle 0 = .ok (.iload_n 0, 1) := by decide +kernel
theorem dX0_middle_1 : decode cX0_middle 1 = .ok (.iload_n 1, 1) := by decide +kernel
theorem dX0_middle_2 : decode cX0_middle 2 = .ok (.invokestatic 28, 3) := by decide +kernel
theorem dX0_middle_5 : decode cX0_middle 5 = .ok (.istore_n 3, 1) := by decide +kernel
theorem dX0_middle_6 : decode cX0_middle 6 = .ok (.iload_n 0, 1) := by decide +kernel
theorem dX0_middle_7 : decode cX0_middle 7 = .ok (.iload_n 1, 1) := by decide +kernel
theorem dX0_middle_8 : decode cX0_middle 8 = .ok (.invokestatic 34, 3) := by decide +kernel
theorem dX0_middle_11 : decode cX0_middle 11 = .ok (.istore 4, 2) := by decide +kernel
theorem dX0_middle_13 : decode cX0_middle 13 = .ok (.iload_n 3, 1) := by decide +kernel
theorem dX0_middle_14 : decode cX0_middle 14 = .ok (.iload 4, 2) := by decide +kernel
theorem dX0_middle_16 : decode cX0_middle 16 = .ok (.iload_n 2, 1) := by decide +kernel
theorem dX0_middle_17 : decode cX0_middle 17 = .ok (.invokestatic 28, 3) := by decide +kernel
theorem dX0_middle_20 : decode cX0_middle 20 = .ok (.invokestatic 34, 3) := by decide +kernel
theorem dX0_middle_23 : decode cX0_middle 23 = .ok (.ireturn, 1) := by decide +kernel
theorem dX0_flatten_0 : decode cX0_flatten 0 = .ok (.aload_n 1, 1) := by decide +kernel
theorem dX0_flatten_1 : decode cX0_flatten 1 = .ok (.aload_n 0, 1) := by decide +kernel
theorem dX0_flatten_2 : decode cX0_flatten 2 = .ok (.invokevirtual 80, 3) := by decide +kernel
theorem dX0_flatten_5 : decode cX0_flatten 5 = .ok (.astore_n 2, 1) := by decide +kernel
theorem dX0_flatten_6 : decode cX0_flatten 6 = .ok (.iconst 0, 1) := by decide +kernel
theorem dX0_flatten_7 : decode cX0_flatten 7 = .ok (.istore_n 3, 1) := by decide +kernel
theorem dX0_flatten_8 : decode cX0_flatten 8 = .ok (.iconst 0, 1) := by decide +kernel
theorem dX0_flatten_9 : decode cX0_flatten 9 = .ok (.istore 4, 2) := by decide +kernel
theorem dX0_flatten_11 : decode cX0_flatten 11 = .ok (.iload 4, 2) := by decide +kernel
theorem dX0_flatten_13 : decode cX0_flatten 13 = .ok (.aload_n 0, 1) := by decide +kernel
theorem dX0_flatten_14 : decode cX0_flatten 14 = .ok (.getfield 15, 3) := by decide +kernel
theorem dX0_flatten_17 : decode cX0_flatten 17 = .ok (.if_icmp .ge 37, 3) := by decide +kernel
theorem dX0_flatten_20 : decode cX0_flatten 20 = .ok (.aload_n 2, 1) := by decide +kernel
theorem dX0_flatten_21 : decode cX0_flatten 21 = .ok (.iload 4, 2) := by decide +kernel
theorem dX0_flatten_23 : decode cX0_flatten 23 = .ok (.iaload, 1) := by decide +kernel
theorem dX0_flatten_24 : decode cX0_flatten 24 = .ok (.aload_n 0, 1) := by decide +kernel
theorem dX0_flatten_25 : decode cX0_flatten 25 = .ok (.getfield 9, 3) := by decide +kernel
theorem dX0_flatten_28 : decode cX0_flatten 28 = .ok (.iload 4, 2) := by decide +kernel
theorem dX0_flatten_30 : decode cX0_flatten 30 = .ok (.iaload, 1) := by decide +kernel
theorem dX0_flatten_31 : decode cX0_flatten 31 = .ok (.if_icmp .ge 17, 3) := by decide +kernel
theorem dX0_flatten_34 : decode cX0_flatten 34 = .ok (.aload_n 0, 1) := by decide +kernel
theorem dX0_flatten_35 : decode cX0_flatten 35 = .ok (.getfield 9, 3) := by decide +kernel
theorem dX0_flatten_38 : decode cX0_flatten 38 = .ok (.iload 4, 2) := by decide +kernel
theorem dX0_flatten_40 : decode cX0_flatten 40 = .ok (.aload_n 2, 1) := by decide +kernel
theorem dX0_flatten_41 : decode cX0_flatten 41 = .ok (.iload 4, 2) := by decide +kernel
theorem dX0_flatten_43 : decode cX0_flatten 43 = .ok (.iaload, 1) := by decide +kernel
theorem dX0_flatten_44 : decode cX0_flatten 44 = .ok (.iastore, 1) := by decide +kernel
theorem dX0_flatten_45 : decode cX0_flatten 45 = .ok (.iinc 3 1, 3) := by decide +kernel
theorem dX0_flatten_48 : decode cX0_flatten 48 = .ok (.iinc 4 1, 3) := by decide +kernel
theorem dX0_flatten_51 : decode cX0_flatten 51 = .ok (.goto (-40), 3) := by decide +kernel
theorem dX0_flatten_54 : decode cX0_flatten 54 = .ok (.iload_n 3, 1) := by decide +kernel
theorem dX0_flatten_55 : decode cX0_flatten 55 = .ok (.ireturn, 1) := by decide +kernel
theorem dX0_reverse_0 : decode cX0_reverse 0 = .ok (.iconst 0, 1) := by decide +kernel
theorem dX0_reverse_1 : decode cX0_reverse 1 = .ok (.istore_n 1, 1) := by decide +kernel
theorem dX0_reverse_2 : decode cX0_reverse 2 = .ok (.iload_n 1, 1) := by decide +kernel
theorem dX0_reverse_3 : decode cX0_reverse 3 = .ok (.aload_n 0, 1) := by decide +kernel
theorem dX0_reverse_4 : decode cX0_reverse 4 = .ok (.getfield 15, 3) := by decide +kernel
theorem dX0_reverse_7 : decode cX0_reverse 7 = .ok (.iconst 2, 1) := by decide +kernel
theorem dX0_reverse_8 : decode cX0_reverse 8 = .ok (.idiv, 1) := by decide +kernel
theorem dX0_reverse_9 : decode cX0_reverse 9 = .ok (.if_icmp .ge 49, 3) := by decide +kernel
theorem dX0_reverse_12 : decode cX0_reverse 12 = .ok (.aload_n 0, 1) := by decide +kernel
theorem dX0_reverse_13 : decode cX0_reverse 13 = .ok (.getfield 9, 3) := by decide +kernel
theorem dX0_reverse_16 : decode cX0_reverse 16 = .ok (.iload_n 1, 1) := by decide +kernel
theorem dX0_reverse_17 : decode cX0_reverse 17 = .ok (.iaload, 1) := by decide +kernel
theorem dX0_reverse_18 : decode cX0_reverse 18 = .ok (.istore_n 2, 1) := by decide +kernel
theorem dX0_reverse_19 : decode cX0_reverse 19 = .ok (.aload_n 0, 1) := by decide +kernel
theorem dX0_reverse_20 : decode cX0_reverse 20 = .ok (.getfield 9, 3) := by decide +kernel
theorem dX0_reverse_23 : decode cX0_reverse 23 = .ok (.iload_n 1, 1) := by decide +kernel
theorem dX0_reverse_24 : decode cX0_reverse 24 = .ok (.aload_n 0, 1) := by decide +kernel
theorem dX0_reverse_25 : decode cX0_reverse 25 = .ok (.getfield 9, 3) := by decide +kernel
theorem dX0_reverse_28 : decode cX0_reverse 28 = .ok (.aload_n 0, 1) := by decide +kernel
theorem dX0_reverse_29 : decode cX0_reverse 29 = .ok (.getfield 15, 3) := by decide +kernel
theorem dX0_reverse_32 : decode cX0_reverse 32 = .ok (.iconst 1, 1) := by decide +kernel
theorem dX0_reverse_33 : decode cX0_reverse 33 = .ok (.isub, 1) := by decide +kernel
theorem dX0_reverse_34 : decode cX0_reverse 34 = .ok (.iload_n 1, 1) := by decide +kernel
theorem dX0_reverse_35 : decode cX0_reverse 35 = .ok (.isub, 1) := by decide +kernel
theorem dX0_reverse_36 : decode cX0_reverse 36 = .ok (.iaload, 1) := by decide +kernel
theorem dX0_reverse_37 : decode cX0_reverse 37 = .ok (.iastore, 1) := by decide +kernel
theorem dX0_reverse_38 : decode cX0_reverse 38 = .ok (.aload_n 0, 1) := by decide +kernel
theorem dX0_reverse_39 : decode cX0_reverse 39 = .ok (.getfield 9, 3) := by decide +kernel
theorem dX0_reverse_42 : decode cX0_reverse 42 = .ok (.aload_n 0, 1) := by decide +kernel
theorem dX0_reverse_43 : decode cX0_reverse 43 = .ok (.getfield 15, 3) := by decide +kernel
theorem dX0_reverse_46 : decode cX0_reverse 46 = .ok (.iconst 1, 1) := by decide +kernel
theorem dX0_reverse_47 : decode cX0_reverse 47 = .ok (.isub, 1) := by decide +kernel
theorem dX0_reverse_48 : decode cX0_reverse 48 = .ok (.iload_n 1, 1) := by decide +kernel
theorem dX0_reverse_49 : decode cX0_reverse 49 = .ok (.isub, 1) := by decide +kernel
theorem dX0_reverse_50 : decode cX0_reverse 50 = .ok (.iload_n 2, 1) := by decide +kernel
theorem dX0_reverse_51 : decode cX0_reverse 51 = .ok (.iastore, 1) := by decide +kernel
theorem dX0_reverse_52 : decode cX0_reverse 52 = .ok (.iinc 1 1, 3) := by decide +kernel
theorem dX0_reverse_55 : decode cX0_reverse 55 = .ok (.goto (-53), 3) := by decide +kernel
theorem dX0_reverse_58 : decode cX0_reverse 58 = .ok (.aload_n 0, 1) := by decide +kernel
theorem dX0_reverse_59 : decode cX0_reverse 59 = .ok (.getfield 9, 3) := by decide +kernel
theorem dX0_reverse_62 : decode cX0_reverse 62 = .ok (.iconst 0, 1) := by decide +kernel
theorem dX0_reverse_63 : decode cX0_reverse 63 = .ok (.iaload, 1) := by decide +kernel
theorem dX0_reverse_64 : decode cX0_reverse 64 = .ok (.ireturn, 1) := by decide +kernel
theorem dX0_cap_0 : decode cX0_cap 0 = .ok (.iconst 0, 1) := by decide +kernel
theorem dX0_cap_1 : decode cX0_cap 1 = .ok (.istore_n 2, 1) := by decide +kernel
theorem dX0_cap_2 : decode cX0_cap 2 = .ok (.iconst 0, 1) := by decide +kernel
theorem dX0_cap_3 : decode cX0_cap 3 = .ok (.istore_n 3, 1) := by decide +kernel
theorem dX0_cap_4 : decode cX0_cap 4 = .ok (.iload_n 3, 1) := by decide +kernel
theorem dX0_cap_5 : decode cX0_cap 5 = .ok (.aload_n 0, 1) := by decide +kernel
theorem dX0_cap_6 : decode cX0_cap 6 = .ok (.getfield 15, 3) := by decide +kernel
theorem dX0_cap_9 : decode cX0_cap 9 = .ok (.if_icmp .ge 29, 3) := by decide +kernel
theorem dX0_cap_12 : decode cX0_cap 12 = .ok (.aload_n 0, 1) := by decide +kernel
theorem dX0_cap_13 : decode cX0_cap 13 = .ok (.getfield 9, 3) := by decide +kernel
theorem dX0_cap_16 : decode cX0_cap 16 = .ok (.iload_n 3, 1) := by decide +kernel
theorem dX0_cap_17 : decode cX0_cap 17 = .ok (.iaload, 1) := by decide +kernel
theorem dX0_cap_18 : decode cX0_cap 18 = .ok (.iload_n 1, 1) := by decide +kernel
theorem dX0_cap_19 : decode cX0_cap 19 = .ok (.if_icmp .le 13, 3) := by decide +kernel
theorem dX0_cap_22 : decode cX0_cap 22 = .ok (.aload_n 0, 1) := by decide +kernel
theorem dX0_cap_23 : decode cX0_cap 23 = .ok (.getfield 9, 3) := by decide +kernel
theorem dX0_cap_26 : decode cX0_cap 26 = .ok (.iload_n 3, 1) := by decide +kernel
theorem dX0_cap_27 : decode cX0_cap 27 = .ok (.iload_n 1, 1) := by decide +kernel
theorem dX0_cap_28 : decode cX0_cap 28 = .ok (.iastore, 1) := by decide +kernel
theorem dX0_cap_29 : decode cX0_cap 29 = .ok (.iinc 2 1, 3) := by decide +kernel
theorem dX0_cap_32 : decode cX0_cap 32 = .ok (.iinc 3 1, 3) := by decide +kernel
theorem dX0_cap_35 : decode cX0_cap 35 = .ok (.goto (-31), 3) := by decide +kernel
theorem dX0_cap_38 : decode cX0_cap 38 = .ok (.iload_n 2, 1) := by decide +kernel
theorem dX0_cap_39 : decode cX0_cap 39 = .ok (.ireturn, 1) := by decide +kernel
theorem dX0_raise_0 : decode cX0_raise 0 = .ok (.iconst 0, 1) := by decide +kernel
theorem dX0_raise_1 : decode cX0_raise 1 = .ok (.istore_n 2, 1) := by decide +kernel
theorem dX0_raise_2 : decode cX0_raise 2 = .ok (.iload_n 2, 1) := by decide +kernel
theorem dX0_raise_3 : decode cX0_raise 3 = .ok (.aload_n 0, 1) := by decide +kernel
theorem dX0_raise_4 : decode cX0_raise 4 = .ok (.getfield 15, 3) := by decide +kernel
theorem dX0_raise_7 : decode cX0_raise 7 = .ok (.if_icmp .ge 33, 3) := by decide +kernel
theorem dX0_raise_10 : decode cX0_raise 10 = .ok (.aload_n 0, 1) := by decide +kernel
theorem dX0_raise_11 : decode cX0_raise 11 = .ok (.getfield 9, 3) := by decide +kernel
theorem dX0_raise_14 : decode cX0_raise 14 = .ok (.iload_n 2, 1) := by decide +kernel
theorem dX0_raise_15 : decode cX0_raise 15 = .ok (.iconst 0, 1) := by decide +kernel
theorem dX0_raise_16 : decode cX0_raise 16 = .ok (.sipush 999, 3) := by decide +kernel
theorem dX0_raise_19 : decode cX0_raise 19 = .ok (.aload_n 0, 1) := by decide +kernel
theorem dX0_raise_20 : decode cX0_raise 20 = .ok (.getfield 9, 3) := by decide +kernel
theorem dX0_raise_23 : decode cX0_raise 23 = .ok (.iload_n 2, 1) := by decide +kernel
theorem dX0_raise_24 : decode cX0_raise 24 = .ok (.iaload, 1) := by decide +kernel
theorem dX0_raise_25 : decode cX0_raise 25 = .ok (.iload_n 1, 1) := by decide +kernel
theorem dX0_raise_26 : decode cX0_raise 26 = .ok (.iadd, 1) := by decide +kernel
theorem dX0_raise_27 : decode cX0_raise 27 = .ok (.invokestatic 28, 3) := by decide +kernel
theorem dX0_raise_30 : decode cX0_raise 30 = .ok (.invokestatic 34, 3) := by decide +kernel
theorem dX0_raise_33 : decode cX0_raise 33 = .ok (.iastore, 1) := by decide +kernel
theorem dX0_raise_34 : decode cX0_raise 34 = .ok (.iinc 2 1, 3) := by decide +kernel
theorem dX0_raise_37 : decode cX0_raise 37 = .ok (.goto (-35), 3) := by decide +kernel
theorem dX0_raise_40 : decode cX0_raise 40 = .ok (.aload_n 0, 1) := by decide +kernel
theorem dX0_raise_41 : decode cX0_raise 41 = .ok (.invokevirtual 86, 3) := by decide +kernel
theorem dX0_raise_44 : decode cX0_raise 44 = .ok (.ireturn, 1) := by decide +kernel
theorem dX0_stretch_0 : decode cX0_stretch 0 = .ok (.iconst 0, 1) := by decide +kernel
theorem dX0_stretch_1 : decode cX0_stretch 1 = .ok (.istore_n 3, 1) := by decide +kernel
theorem dX0_stretch_2 : decode cX0_stretch 2 = .ok (.iload_n 2, 1) := by decide +kernel
theorem dX0_stretch_3 : decode cX0_stretch 3 = .ok (.ifCond .le 39, 3) := by decide +kernel
theorem dX0_stretch_6 : decode cX0_stretch 6 = .ok (.iload_n 3, 1) := by decide +kernel
theorem dX0_stretch_7 : decode cX0_stretch 7 = .ok (.aload_n 0, 1) := by decide +kernel
theorem dX0_stretch_8 : decode cX0_stretch 8 = .ok (.getfield 15, 3) := by decide +kernel
theorem dX0_stretch_11 : decode cX0_stretch 11 = .ok (.if_icmp .ge 31, 3) := by decide +kernel
theorem dX0_stretch_14 : decode cX0_stretch 14 = .ok (.aload_n 0, 1) := by decide +kernel
theorem dX0_stretch_15 : decode cX0_stretch 15 = .ok (.getfield 9, 3) := by decide +kernel
theorem dX0_stretch_18 : decode cX0_stretch 18 = .ok (.iload_n 3, 1) := by decide +kernel
theorem dX0_stretch_19 : decode cX0_stretch 19 = .ok (.sipush 999, 3) := by decide +kernel
theorem dX0_stretch_22 : decode cX0_stretch 22 = .ok (.aload_n 0, 1) := by decide +kernel
theorem dX0_stretch_23 : decode cX0_stretch 23 = .ok (.getfield 9, 3) := by decide +kernel
theorem dX0_stretch_26 : decode cX0_stretch 26 = .ok (.iload_n 3, 1) := by decide +kernel
theorem dX0_stretch_27 : decode cX0_stretch 27 = .ok (.iaload, 1) := by decide +kernel
theorem dX0_stretch_28 : decode cX0_stretch 28 = .ok (.iload_n 1, 1) := by decide +kernel
theorem dX0_stretch_29 : decode cX0_stretch 29 = .ok (.imul, 1) := by decide +kernel
theorem dX0_stretch_30 : decode cX0_stretch 30 = .ok (.iload_n 2, 1) := by decide +kernel
theorem dX0_stretch_31 : decode cX0_stretch 31 = .ok (.idiv, 1) := by decide +kernel
theorem dX0_stretch_32 : decode cX0_stretch 32 = .ok (.invokestatic 28, 3) := by decide +kernel
theorem dX0_stretch_35 : decode cX0_stretch 35 = .ok (.iastore, 1) := by decide +kernel
theorem dX0_stretch_36 : decode cX0_stretch 36 = .ok (.iinc 3 1, 3) := by decide +kernel
theorem dX0_stretch_39 : decode cX0_stretch 39 = .ok (.goto (-37), 3) := by decide +kernel
theorem dX0_stretch_42 : decode cX0_stretch 42 = .ok (.aload_n 0, 1) := by decide +kernel
theorem dX0_stretch_43 : decode cX0_stretch 43 = .ok (.invokevirtual 89, 3) := by decide +kernel
theorem dX0_stretch_46 : decode cX0_stretch 46 = .ok (.ireturn, 1) := by decide +kernel
theorem dX0_put_0 : decode cX0_put 0 = .ok (.aload_n 0, 1) := by decide +kernel
theorem dX0_put_1 : decode cX0_put 1 = .ok (.iload_n 1, 1) := by decide +kernel
theorem dX0_put_2 : decode cX0_put 2 = .ok (.invokevirtual 37, 3) := by decide +kernel
theorem dX0_put_5 : decode cX0_put 5 = .ok (.ifCond .ne 5, 3) := by decide +kernel
theorem dX0_put_8 : decode cX0_put 8 = .ok (.iconst (-1), 1) := by decide +kernel
theorem dX0_put_9 : decode cX0_put 9 = .ok (.ireturn, 1) := by decide +kernel
theorem dX0_put_10 : decode cX0_put 10 = .ok (.aload_n 0, 1) := by decide +kernel
theorem dX0_put_11 : decode cX0_put 11 = .ok (.getfield 9, 3) := by decide +kernel
theorem dX0_put_14 : decode cX0_put 14 = .ok (.iload_n 1, 1) := by decide +kernel
theorem dX0_put_15 : decode cX0_put 15 = .ok (.iaload, 1) := by decide +kernel
theorem dX0_put_16 : decode cX0_put 16 = .ok (.istore_n 3, 1) := by decide +kernel
theorem dX0_put_17 : decode cX0_put 17 = .ok (.aload_n 0, 1) := by decide +kernel
theorem dX0_put_18 : decode cX0_put 18 = .ok (.getfield 9, 3) := by decide +kernel
theorem dX0_put_21 : decode cX0_put 21 = .ok (.iload_n 1, 1) := by decide +kernel
theorem dX0_put_22 : decode cX0_put 22 = .ok (.iload_n 2, 1) := by decide +kernel
theorem dX0_put_23 : decode cX0_put 23 = .ok (.iastore, 1) := by decide +kernel
theorem dX0_put_24 : decode cX0_put 24 = .ok (.iload_n 3, 1) := by decide +kernel
theorem dX0_put_25 : decode cX0_put 25 = .ok (.ireturn, 1) := by decide +kernel
theorem dX0_hush_0 : decode cX0_hush 0 = .ok (.aload_n 0, 1) := by decide +kernel
theorem dX0_hush_1 : decode cX0_hush 1 = .ok (.getfield 19, 3) := by decide +kernel
theorem dX0_hush_4 : decode cX0_hush 4 = .ok (.istore_n 2, 1) := by decide +kernel
theorem dX0_hush_5 : decode cX0_hush 5 = .ok (.aload_n 0, 1) := by decide +kernel
theorem dX0_hush_6 : decode cX0_hush 6 = .ok (.iload_n 1, 1) := by decide +kernel
theorem dX0_hush_7 : decode cX0_hush 7 = .ok (.putfield 19, 3) := by decide +kernel
theorem dX0_hush_10 : decode cX0_hush 10 = .ok (.iload_n 2, 1) := by decide +kernel
theorem dX0_hush_11 : decode cX0_hush 11 = .ok (.ireturn, 1) := by decide +kernel
theorem dX0_keepOnly_0 : decode cX0_keepOnly 0 = .ok (.aload_n 0, 1) := by decide +kernel
theorem dX0_keepOnly_1 : decode cX0_keepOnly 1 = .ok (.getfield 15, 3) := by decide +kernel
theorem dX0_keepOnly_4 : decode cX0_keepOnly 4 = .ok (.iload_n 2, 1) := by decide +kernel
theorem dX0_keepOnly_5 : decode cX0_keepOnly 5 = .ok (.isub, 1) := by decide +kernel
theorem dX0_keepOnly_6 : decode cX0_keepOnly 6 = .ok (.istore_n 3, 1) := by decide +kernel
theorem dX0_keepOnly_7 : decode cX0_keepOnly 7 = .ok (.iconst 0, 1) := by decide +kernel
theorem dX0_keepOnly_8 : decode cX0_keepOnly 8 = .ok (.istore 4, 2) := by decide +kernel
theorem dX0_keepOnly_10 : decode cX0_keepOnly 10 = .ok (.iload 4, 2) := by decide +kernel
theorem dX0_keepOnly_12 : decode cX0_keepOnly 12 = .ok (.iload_n 2, 1) := by decide +kernel
theorem dX0_keepOnly_13 : decode cX0_keepOnly 13 = .ok (.if_icmp .ge 36, 3) := by decide +kernel
theorem dX0_keepOnly_16 : decode cX0_keepOnly 16 = .ok (.aload_n 0, 1) := by decide +kernel
theorem dX0_keepOnly_17 : decode cX0_keepOnly 17 = .ok (.iload_n 1, 1) := by decide +kernel
theorem dX0_keepOnly_18 : decode cX0_keepOnly 18 = .ok (.iload 4, 2) := by decide +kernel
theorem dX0_keepOnly_20 : decode cX0_keepOnly 20 = .ok (.iadd, 1) := by decide +kernel
theorem dX0_keepOnly_21 : decode cX0_keepOnly 21 = .ok (.invokevirtual 37, 3) := by decide +kernel
theorem dX0_keepOnly_24 : decode cX0_keepOnly 24 = .ok (.ifCond .eq 25, 3) := by decide +kernel
theorem dX0_keepOnly_27 : decode cX0_keepOnly 27 = .ok (.aload_n 0, 1) := by decide +kernel
theorem dX0_keepOnly_28 : decode cX0_keepOnly 28 = .ok (.getfield 9, 3) := by decide +kernel
theorem dX0_keepOnly_31 : decode cX0_keepOnly 31 = .ok (.iload 4, 2) := by decide +kernel
theorem dX0_keepOnly_33 : decode cX0_keepOnly 33 = .ok (.aload_n 0, 1) := by decide +kernel
theorem dX0_keepOnly_34 : decode cX0_keepOnly 34 = .ok (.getfield 9, 3) := by decide +kernel
theorem dX0_keepOnly_37 : decode cX0_keepOnly 37 = .ok (.iload_n 1, 1) := by decide +kernel
theorem dX0_keepOnly_38 : decode cX0_keepOnly 38 = .ok (.iload 4, 2) := by decide +kernel
theorem dX0_keepOnly_40 : decode cX0_keepOnly 40 = .ok (.iadd, 1) := by decide +kernel
theorem dX0_keepOnly_41 : decode cX0_keepOnly 41 = .ok (.iaload, 1) := by decide +kernel
theorem dX0_keepOnly_42 : decode cX0_keepOnly 42 = .ok (.iastore, 1) := by decide +kernel
theorem dX0_keepOnly_43 : decode cX0_keepOnly 43 = .ok (.iinc 4 1, 3) := by decide +kernel
theorem dX0_keepOnly_46 : decode cX0_keepOnly 46 = .ok (.goto (-36), 3) := by decide +kernel
theorem dX0_keepOnly_49 : decode cX0_keepOnly 49 = .ok (.aload_n 0, 1) := by decide +kernel
theorem dX0_keepOnly_50 : decode cX0_keepOnly 50 = .ok (.iload_n 2, 1) := by decide +kernel
theorem dX0_keepOnly_51 : decode cX0_keepOnly 51 = .ok (.putfield 15, 3) := by decide +kernel
theorem dX0_keepOnly_54 : decode cX0_keepOnly 54 = .ok (.iload_n 3, 1) := by decide +kernel
theorem dX0_keepOnly_55 : decode cX0_keepOnly 55 = .ok (.ireturn, 1) := by decide +kernel
theorem dX1_init_0 : decode cX1_init 0 = .ok (.aload_n 0, 1) := by decide +kernel
theorem dX1_init_1 : decode cX1_init 1 = .ok (.invokespecial 1, 3) := by decide +kernel
theorem dX1_init_4 : decode cX1_init 4 = .ok (.return_, 1) := by decide +kernel
theorem dX1_next_0 : decode cX1_next 0 = .ok (.aload_n 0, 1) := by decide +kernel
theorem dX1_next_1 : decode cX1_next 1 = .ok (.aload_n 0, 1) := by decide +kernel
theorem dX1_next_2 : decode cX1_next 2 = .ok (.getfield 7, 3) := by decide +kernel
theorem dX1_next_5 : decode cX1_next 5 = .ok (.ldc2_w 13, 3) := by decide +kernel
theorem dX1_next_8 : decode cX1_next 8 = .ok (.lmul, 1) := by decide +kernel
theorem dX1_next_9 : decode cX1_next 9 = .ok (.ldc2_w 15, 3) := by decide +kernel
theorem dX1_next_12 : decode cX1_next 12 = .ok (.ladd, 1) := by decide +kernel
theorem dX1_next_13 : decode cX1_next 13 = .ok (.putfield 7, 3) := by decide +kernel
theorem dX1_next_16 : decode cX1_next 16 = .ok (.iload_n 1, 1) := by decide +kernel
theorem dX1_next_17 : decode cX1_next 17 = .ok (.ifCond .le 17, 3) := by decide +kernel
theorem dX1_next_20 : decode cX1_next 20 = .ok (.aload_n 0, 1) := by decide +kernel
theorem dX1_next_21 : decode cX1_next 21 = .ok (.getfield 7, 3) := by decide +kernel
theorem dX1_next_24 : decode cX1_next 24 = .ok (.bipush 33, 2) := by decide +kernel
theorem dX1_next_26 : decode cX1_next 26 = .ok (.lushr, 1) := by decide +kernel
theorem dX1_next_27 : decode cX1_next 27 = .ok (.iload_n 1, 1) := by decide +kernel
theorem dX1_next_28 : decode cX1_next 28 = .ok (.i2l, 1) := by decide +kernel
theorem dX1_next_29 : decode cX1_next 29 = .ok (.lrem, 1) := by decide +kernel
theorem dX1_next_30 : decode cX1_next 30 = .ok (.l2i, 1) := by decide +kernel
theorem dX1_next_31 : decode cX1_next 31 = .ok (.goto 4, 3) := by decide +kernel
theorem dX1_next_34 : decode cX1_next 34 = .ok (.iconst 0, 1) := by decide +kernel
theorem dX1_next_35 : decode cX1_next 35 = .ok (.ireturn, 1) := by decide +kernel
theorem dX2_init_0 : decode cX2_init 0 = .ok (.aload_n 0, 1) := by decide +kernel
theorem dX2_init_1 : decode cX2_init 1 = .ok (.invokespecial 3, 3) := by decide +kernel
theorem dX2_init_4 : decode cX2_init 4 = .ok (.aload_n 0, 1) := by decide +kernel
theorem dX2_init_5 : decode cX2_init 5 = .ok (.bipush 40, 2) := by decide +kernel
theorem dX2_init_7 : decode cX2_init 7 = .ok (.anewarray 9, 3) := by decide +kernel
theorem dX2_init_10 : decode cX2_init 10 = .ok (.putfield 11, 3) := by decide +kernel
theorem dX2_init_13 : decode cX2_init 13 = .ok (.iconst 0, 1) := by decide +kernel
theorem dX2_init_14 : decode cX2_init 14 = .ok (.istore_n 1, 1) := by decide +kernel
theorem dX2_init_15 : decode cX2_init 15 = .ok (.iload_n 1, 1) := by decide +kernel
theorem dX2_init_16 : decode cX2_init 16 = .ok (.bipush 40, 2) := by decide +kernel
theorem dX2_init_18 : decode cX2_init 18 = .ok (.if_icmp .ge 22, 3) := by decide +kernel
theorem dX2_init_21 : decode cX2_init 21 = .ok (.aload_n 0, 1) := by decide +kernel
theorem dX2_init_22 : decode cX2_init 22 = .ok (.getfield 11, 3) := by decide +kernel
theorem dX2_init_25 : decode cX2_init 25 = .ok (.iload_n 1, 1) := by decide +kernel
theorem dX2_init_26 : decode cX2_init 26 = .ok (.new 9, 3) := by decide +kernel
theorem dX2_init_29 : decode cX2_init 29 = .ok (.dup, 1) := by decide +kernel
theorem dX2_init_30 : decode cX2_init 30 = .ok (.invokespecial 17, 3) := by decide +kernel
theorem dX2_init_33 : decode cX2_init 33 = .ok (.aastore, 1) := by decide +kernel
theorem dX2_init_34 : decode cX2_init 34 = .ok (.iinc 1 1, 3) := by decide +kernel
theorem dX2_init_37 : decode cX2_init 37 = .ok (.goto (-22), 3) := by decide +kernel
theorem dX2_init_40 : decode cX2_init 40 = .ok (.return_, 1) := by decide +kernel
theorem dX2_forget_0 : decode cX2_forget 0 = .ok (.aload_n 0, 1) := by decide +kernel
theorem dX2_forget_1 : decode cX2_forget 1 = .ok (.iconst 0, 1) := by decide +kernel
theorem dX2_forget_2 : decode cX2_forget 2 = .ok (.putfield 18, 3) := by decide +kernel
theorem dX2_forget_5 : decode cX2_forget 5 = .ok (.return_, 1) := by decide +kernel
theorem dX2_keep_0 : decode cX2_keep 0 = .ok (.aload_n 0, 1) := by decide +kernel
theorem dX2_keep_1 : decode cX2_keep 1 = .ok (.getfield 11, 3) := by decide +kernel
theorem dX2_keep_4 : decode cX2_keep 4 = .ok (.aload_n 0, 1) := by decide +kernel
theorem dX2_keep_5 : decode cX2_keep 5 = .ok (.getfield 22, 3) := by decide +kernel
theorem dX2_keep_8 : decode cX2_keep 8 = .ok (.aaload, 1) := by decide +kernel
theorem dX2_keep_9 : decode cX2_keep 9 = .ok (.aload_n 1, 1) := by decide +kernel
theorem dX2_keep_10 : decode cX2_keep 10 = .ok (.invokevirtual 25, 3) := by decide +kernel
theorem dX2_keep_13 : decode cX2_keep 13 = .ok (.aload_n 0, 1) := by decide +kernel
theorem dX2_keep_14 : decode cX2_keep 14 = .ok (.aload_n 0, 1) := by decide +kernel
theorem dX2_keep_15 : decode cX2_keep 15 = .ok (.getfield 22, 3) := by decide +kernel
theorem dX2_keep_18 : decode cX2_keep 18 = .ok (.iconst 1, 1) := by decide +kernel
theorem dX2_keep_19 : decode cX2_keep 19 = .ok (.iadd, 1) := by decide +kernel
theorem dX2_keep_20 : decode cX2_keep 20 = .ok (.bipush 40, 2) := by decide +kernel
theorem dX2_keep_22 : decode cX2_keep 22 = .ok (.irem, 1) := by decide +kernel
theorem dX2_keep_23 : decode cX2_keep 23 = .ok (.putfield 22, 3) := by decide +kernel
theorem dX2_keep_26 : decode cX2_keep 26 = .ok (.aload_n 0, 1) := by decide +kernel
theorem dX2_keep_27 : decode cX2_keep 27 = .ok (.aload_n 0, 1) := by decide +kernel
theorem dX2_keep_28 : decode cX2_keep 28 = .ok (.getfield 18, 3) := by decide +kernel
theorem dX2_keep_31 : decode cX2_keep 31 = .ok (.iconst 1, 1) := by decide +kernel
theorem dX2_keep_32 : decode cX2_keep 32 = .ok (.iadd, 1) := by decide +kernel
theorem dX2_keep_33 : decode cX2_keep 33 = .ok (.bipush 40, 2) := by decide +kernel
theorem dX2_keep_35 : decode cX2_keep 35 = .ok (.invokestatic 29, 3) := by decide +kernel
theorem dX2_keep_38 : decode cX2_keep 38 = .ok (.putfield 18, 3) := by decide +kernel
theorem dX2_keep_41 : decode cX2_keep 41 = .ok (.return_, 1) := by decide +kernel
theorem dX2_takeBack_0 : decode cX2_takeBack 0 = .ok (.aload_n 0, 1) := by decide +kernel
theorem dX2_takeBack_1 : decode cX2_takeBack 1 = .ok (.aload_n 0, 1) := by decide +kernel
theorem dX2_takeBack_2 : decode cX2_takeBack 2 = .ok (.getfield 22, 3) := by decide +kernel
theorem dX2_takeBack_5 : decode cX2_takeBack 5 = .ok (.bipush 40, 2) := by decide +kernel
theorem dX2_takeBack_7 : decode cX2_takeBack 7 = .ok (.iadd, 1) := by decide +kernel
theorem dX2_takeBack_8 : decode cX2_takeBack 8 = .ok (.iconst 1, 1) := by decide +kernel
theorem dX2_takeBack_9 : decode cX2_takeBack 9 = .ok (.isub, 1) := by decide +kernel
theorem dX2_takeBack_10 : decode cX2_takeBack 10 = .ok (.bipush 40, 2) := by decide +kernel
theorem dX2_takeBack_12 : decode cX2_takeBack 12 = .ok (.irem, 1) := by decide +kernel
theorem dX2_takeBack_13 : decode cX2_takeBack 13 = .ok (.putfield 22, 3) := by decide +kernel
theorem dX2_takeBack_16 : decode cX2_takeBack 16 = .ok (.aload_n 0, 1) := by decide +kernel
theorem dX2_takeBack_17 : decode cX2_takeBack 17 = .ok (.dup, 1) := by decide +kernel
theorem dX2_takeBack_18 : decode cX2_takeBack 18 = .ok (.getfield 18, 3) := by decide +kernel
theorem dX2_takeBack_21 : decode cX2_takeBack 21 = .ok (.iconst 1, 1) := by decide +kernel
theorem dX2_takeBack_22 : decode cX2_takeBack 22 = .ok (.isub, 1) := by decide +kernel
theorem dX2_takeBack_23 : decode cX2_takeBack 23 = .ok (.putfield 18, 3) := by decide +kernel
theorem dX2_takeBack_26 : decode cX2_takeBack 26 = .ok (.aload_n 1, 1) := by decide +kernel
theorem dX2_takeBack_27 : decode cX2_takeBack 27 = .ok (.aload_n 0, 1) := by decide +kernel
theorem dX2_takeBack_28 : decode cX2_takeBack 28 = .ok (.getfield 11, 3) := by decide +kernel
theorem dX2_takeBack_31 : decode cX2_takeBack 31 = .ok (.aload_n 0, 1) := by decide +kernel
theorem dX2_takeBack_32 : decode cX2_takeBack 32 = .ok (.getfield 22, 3) := by decide +kernel
theorem dX2_takeBack_35 : decode cX2_takeBack 35 = .ok (.aaload, 1) := by decide +kernel
theorem dX2_takeBack_36 : decode cX2_takeBack 36 = .ok (.invokevirtual 25, 3) := by decide +kernel
theorem dX2_takeBack_39 : decode cX2_takeBack 39 = .ok (.return_, 1) := by decide +kernel
theorem dX3_init_0 : decode cX3_init 0 = .ok (.aload_n 0, 1) := by decide +kernel
theorem dX3_init_1 : decode cX3_init 1 = .ok (.invokespecial 3, 3) := by decide +kernel
theorem dX3_init_4 : decode cX3_init 4 = .ok (.aload_n 0, 1) := by decide +kernel
theorem dX3_init_5 : decode cX3_init 5 = .ok (.bipush 8, 2) := by decide +kernel
theorem dX3_init_7 : decode cX3_init 7 = .ok (.newarray .int, 2) := by decide +kernel
theorem dX3_init_9 : decode cX3_init 9 = .ok (.putfield 9, 3) := by decide +kernel
theorem dX3_init_12 : decode cX3_init 12 = .ok (.aload_n 0, 1) := by decide +kernel
theorem dX3_init_13 : decode cX3_init 13 = .ok (.bipush 8, 2) := by decide +kernel
theorem dX3_init_15 : decode cX3_init 15 = .ok (.newarray .int, 2) := by decide +kernel
theorem dX3_init_17 : decode cX3_init 17 = .ok (.putfield 15, 3) := by decide +kernel
theorem dX3_init_20 : decode cX3_init 20 = .ok (.aload_n 0, 1) := by decide +kernel
theorem dX3_init_21 : decode cX3_init 21 = .ok (.bipush 8, 2) := by decide +kernel
theorem dX3_init_23 : decode cX3_init 23 = .ok (.newarray .int, 2) := by decide +kernel
theorem dX3_init_25 : decode cX3_init 25 = .ok (.putfield 18, 3) := by decide +kernel
theorem dX3_init_28 : decode cX3_init 28 = .ok (.aload_n 0, 1) := by decide +kernel
theorem dX3_init_29 : decode cX3_init 29 = .ok (.bipush 48, 2) := by decide +kernel
theorem dX3_init_31 : decode cX3_init 31 = .ok (.newarray .char, 2) := by decide +kernel
theorem dX3_init_33 : decode cX3_init 33 = .ok (.putfield 21, 3) := by decide +kernel
theorem dX3_init_36 : decode cX3_init 36 = .ok (.return_, 1) := by decide +kernel
theorem dX3_copyFrom_0 : decode cX3_copyFrom 0 = .ok (.aload_n 0, 1) := by decide +kernel
theorem dX3_copyFrom_1 : decode cX3_copyFrom 1 = .ok (.aload_n 1, 1) := by decide +kernel
theorem dX3_copyFrom_2 : decode cX3_copyFrom 2 = .ok (.getfield 25, 3) := by decide +kernel
theorem dX3_copyFrom_5 : decode cX3_copyFrom 5 = .ok (.putfield 25, 3) := by decide +kernel
theorem dX3_copyFrom_8 : decode cX3_copyFrom 8 = .ok (.aload_n 0, 1) := by decide +kernel
theorem dX3_copyFrom_9 : decode cX3_copyFrom 9 = .ok (.aload_n 1, 1) := by decide +kernel
theorem dX3_copyFrom_10 : decode cX3_copyFrom 10 = .ok (.getfield 29, 3) := by decide +kernel
theorem dX3_copyFrom_13 : decode cX3_copyFrom 13 = .ok (.putfield 29, 3) := by decide +kernel
theorem dX3_copyFrom_16 : decode cX3_copyFrom 16 = .ok (.aload_n 1, 1) := by decide +kernel
theorem dX3_copyFrom_17 : decode cX3_copyFrom 17 = .ok (.getfield 9, 3) := by decide +kernel
theorem dX3_copyFrom_20 : decode cX3_copyFrom 20 = .ok (.iconst 0, 1) := by decide +kernel
theorem dX3_copyFrom_21 : decode cX3_copyFrom 21 = .ok (.aload_n 0, 1) := by decide +kernel
theorem dX3_copyFrom_22 : decode cX3_copyFrom 22 = .ok (.getfield 9, 3) := by decide +kernel
theorem dX3_copyFrom_25 : decode cX3_copyFrom 25 = .ok (.iconst 0, 1) := by decide +kernel
theorem dX3_copyFrom_26 : decode cX3_copyFrom 26 = .ok (.bipush 8, 2) := by decide +kernel
theorem dX3_copyFrom_28 : decode cX3_copyFrom 28 = .ok (.invokestatic 32, 3) := by decide +kernel
theorem dX3_copyFrom_31 : decode cX3_copyFrom 31 = .ok (.aload_n 1, 1) := by decide +kernel
theorem dX3_copyFrom_32 : decode cX3_copyFrom 32 = .ok (.getfield 15, 3) := by decide +kernel
theorem dX3_copyFrom_35 : decode cX3_copyFrom 35 = .ok (.iconst 0, 1) := by decide +kernel
theorem dX3_copyFrom_36 : decode cX3_copyFrom 36 = .ok (.aload_n 0, 1) := by decide +kernel
theorem dX3_copyFrom_37 : decode cX3_copyFrom 37 = .ok (.getfield 15, 3) := by decide +kernel
theorem dX3_copyFrom_40 : decode cX3_copyFrom 40 = .ok (.iconst 0, 1) := by decide +kernel
theorem dX3_copyFrom_41 : decode cX3_copyFrom 41 = .ok (.bipush 8, 2) := by decide +kernel
theorem dX3_copyFrom_43 : decode cX3_copyFrom 43 = .ok (.invokestatic 32, 3) := by decide +kernel
theorem dX3_copyFrom_46 : decode cX3_copyFrom 46 = .ok (.aload_n 1, 1) := by decide +kernel
theorem dX3_copyFrom_47 : decode cX3_copyFrom 47 = .ok (.getfield 21, 3) := by decide +kernel
theorem dX3_copyFrom_50 : decode cX3_copyFrom 50 = .ok (.iconst 0, 1) := by decide +kernel
theorem dX3_copyFrom_51 : decode cX3_copyFrom 51 = .ok (.aload_n 0, 1) := by decide +kernel
theorem dX3_copyFrom_52 : decode cX3_copyFrom 52 = .ok (.getfield 21, 3) := by decide +kernel
theorem dX3_copyFrom_55 : decode cX3_copyFrom 55 = .ok (.iconst 0, 1) := by decide +kernel
theorem dX3_copyFrom_56 : decode cX3_copyFrom 56 = .ok (.bipush 48, 2) := by decide +kernel
theorem dX3_copyFrom_58 : decode cX3_copyFrom 58 = .ok (.invokestatic 32, 3) := by decide +kernel
theorem dX3_copyFrom_61 : decode cX3_copyFrom 61 = .ok (.return_, 1) := by decide +kernel
theorem dX3_add_0 : decode cX3_add 0 = .ok (.aload_n 0, 1) := by decide +kernel
theorem dX3_add_1 : decode cX3_add 1 = .ok (.getfield 25, 3) := by decide +kernel
theorem dX3_add_4 : decode cX3_add 4 = .ok (.bipush 8, 2) := by decide +kernel
theorem dX3_add_6 : decode cX3_add 6 = .ok (.if_icmp .lt 4, 3) := by decide +kernel
theorem dX3_add_9 : decode cX3_add 9 = .ok (.return_, 1) := by decide +kernel
theorem dX3_add_10 : decode cX3_add 10 = .ok (.iconst 0, 1) := by decide +kernel
theorem dX3_add_11 : decode cX3_add 11 = .ok (.istore 5, 2) := by decide +kernel
theorem dX3_add_13 : decode cX3_add 13 = .ok (.iload 5, 2) := by decide +kernel
theorem dX3_add_15 : decode cX3_add 15 = .ok (.iload_n 3, 1) := by decide +kernel
theorem dX3_add_16 : decode cX3_add 16 = .ok (.if_icmp .ge 39, 3) := by decide +kernel
theorem dX3_add_19 : decode cX3_add 19 = .ok (.iload 5, 2) := by decide +kernel
theorem dX3_add_21 : decode cX3_add 21 = .ok (.bipush 6, 2) := by decide +kernel
theorem dX3_add_23 : decode cX3_add 23 = .ok (.if_icmp .ge 32, 3) := by decide +kernel
theorem dX3_add_26 : decode cX3_add 26 = .ok (.aload_n 0, 1) := by decide +kernel
theorem dX3_add_27 : decode cX3_add 27 = .ok (.getfield 21, 3) := by decide +kernel
theorem dX3_add_30 : decode cX3_add 30 = .ok (.aload_n 0, 1) := by decide +kernel
theorem dX3_add_31 : decode cX3_add 31 = .ok (.getfield 25, 3) := by decide +kernel
theorem dX3_add_34 : decode cX3_add 34 = .ok (.bipush 6, 2) := by decide +kernel
theorem dX3_add_36 : decode cX3_add 36 = .ok (.imul, 1) := by decide +kernel
theorem dX3_add_37 : decode cX3_add 37 = .ok (.iload 5, 2) := by decide +kernel
theorem dX3_add_39 : decode cX3_add 39 = .ok (.iadd, 1) := by decide +kernel
theorem dX3_add_40 : decode cX3_add 40 = .ok (.aload_n 1, 1) := by decide +kernel
theorem dX3_add_41 : decode cX3_add 41 = .ok (.iload_n 2, 1) := by decide +kernel
theorem dX3_add_42 : decode cX3_add 42 = .ok (.iload 5, 2) := by decide +kernel
theorem dX3_add_44 : decode cX3_add 44 = .ok (.iadd, 1) := by decide +kernel
theorem dX3_add_45 : decode cX3_add 45 = .ok (.invokevirtual 38, 3) := by decide +kernel
theorem dX3_add_48 : decode cX3_add 48 = .ok (.castore, 1) := by decide +kernel
theorem dX3_add_49 : decode cX3_add 49 = .ok (.iinc 5 1, 3) := by decide +kernel
theorem dX3_add_52 : decode cX3_add 52 = .ok (.goto (-39), 3) := by decide +kernel
theorem dX3_add_55 : decode cX3_add 55 = .ok (.aload_n 0, 1) := by decide +kernel
theorem dX3_add_56 : decode cX3_add 56 = .ok (.getfield 15, 3) := by decide +kernel
theorem dX3_add_59 : decode cX3_add 59 = .ok (.aload_n 0, 1) := by decide +kernel
theorem dX3_add_60 : decode cX3_add 60 = .ok (.getfield 25, 3) := by decide +kernel
theorem dX3_add_63 : decode cX3_add 63 = .ok (.iload_n 3, 1) := by decide +kernel
theorem dX3_add_64 : decode cX3_add 64 = .ok (.iastore, 1) := by decide +kernel
theorem dX3_add_65 : decode cX3_add 65 = .ok (.aload_n 0, 1) := by decide +kernel
theorem dX3_add_66 : decode cX3_add 66 = .ok (.getfield 9, 3) := by decide +kernel
theorem dX3_add_69 : decode cX3_add 69 = .ok (.aload_n 0, 1) := by decide +kernel
theorem dX3_add_70 : decode cX3_add 70 = .ok (.getfield 25, 3) := by decide +kernel
theorem dX3_add_73 : decode cX3_add 73 = .ok (.iload 4, 2) := by decide +kernel
theorem dX3_add_75 : decode cX3_add 75 = .ok (.iastore, 1) := by decide +kernel
theorem dX3_add_76 : decode cX3_add 76 = .ok (.aload_n 0, 1) := by decide +kernel
theorem dX3_add_77 : decode cX3_add 77 = .ok (.dup, 1) := by decide +kernel
theorem dX3_add_78 : decode cX3_add 78 = .ok (.getfield 25, 3) := by decide +kernel
theorem dX3_add_81 : decode cX3_add 81 = .ok (.iconst 1, 1) := by decide +kernel
theorem dX3_add_82 : decode cX3_add 82 = .ok (.iadd, 1) := by decide +kernel
theorem dX3_add_83 : decode cX3_add 83 = .ok (.putfield 25, 3) := by decide +kernel
theorem dX3_add_86 : decode cX3_add 86 = .ok (.return_, 1) := by decide +kernel
theorem dX3_letter_0 : decode cX3_letter 0 = .ok (.aload_n 0, 1) := by decide +kernel
theorem dX3_letter_1 : decode cX3_letter 1 = .ok (.getfield 21, 3) := by decide +kernel
theorem dX3_letter_4 : decode cX3_letter 4 = .ok (.iload_n 1, 1) := by decide +kernel
theorem dX3_letter_5 : decode cX3_letter 5 = .ok (.bipush 6, 2) := by decide +kernel
theorem dX3_letter_7 : decode cX3_letter 7 = .ok (.imul, 1) := by decide +kernel
theorem dX3_letter_8 : decode cX3_letter 8 = .ok (.iload_n 2, 1) := by decide +kernel
theorem dX3_letter_9 : decode cX3_letter 9 = .ok (.iadd, 1) := by decide +kernel
theorem dX3_letter_10 : decode cX3_letter 10 = .ok (.caload, 1) := by decide +kernel
theorem dX3_letter_11 : decode cX3_letter 11 = .ok (.ireturn, 1) := by decide +kernel
theorem dX3_hasName_0 : decode cX3_hasName 0 = .ok (.iconst 0, 1) := by decide +kernel
theorem dX3_hasName_1 : decode cX3_hasName 1 = .ok (.istore 4, 2) := by decide +kernel
theorem dX3_hasName_3 : decode cX3_hasName 3 = .ok (.iload 4, 2) := by decide +kernel
theorem dX3_hasName_5 : decode cX3_hasName 5 = .ok (.aload_n 0, 1) := by decide +kernel
theorem dX3_hasName_6 : decode cX3_hasName 6 = .ok (.getfield 25, 3) := by decide +kernel
theorem dX3_hasName_9 : decode cX3_hasName 9 = .ok (.if_icmp .ge 33, 3) := by decide +kernel
theorem dX3_hasName_12 : decode cX3_hasName 12 = .ok (.aload_n 0, 1) := by decide +kernel
theorem dX3_hasName_13 : decode cX3_hasName 13 = .ok (.getfield 15, 3) := by decide +kernel
theorem dX3_hasName_16 : decode cX3_hasName 16 = .ok (.iload 4, 2) := by decide +kernel
theorem dX3_hasName_18 : decode cX3_hasName 18 = .ok (.iaload, 1) := by decide +kernel
theorem dX3_hasName_19 : decode cX3_hasName 19 = .ok (.iload_n 3, 1) := by decide +kernel
theorem dX3_hasName_20 : decode cX3_hasName 20 = .ok (.if_icmp .ne 16, 3) := by decide +kernel
theorem dX3_hasName_23 : decode cX3_hasName 23 = .ok (.aload_n 0, 1) := by decide +kernel
theorem dX3_hasName_24 : decode cX3_hasName 24 = .ok (.iload 4, 2) := by decide +kernel
theorem dX3_hasName_26 : decode cX3_hasName 26 = .ok (.aload_n 1, 1) := by decide +kernel
theorem dX3_hasName_27 : decode cX3_hasName 27 = .ok (.iload_n 2, 1) := by decide +kernel
theorem dX3_hasName_28 : decode cX3_hasName 28 = .ok (.invokevirtual 44, 3) := by decide +kernel
theorem dX3_hasName_31 : decode cX3_hasName 31 = .ok (.ifCond .eq 5, 3) := by decide +kernel
theorem dX3_hasName_34 : decode cX3_hasName 34 = .ok (.iconst 1, 1) := by decide +kernel
theorem dX3_hasName_35 : decode cX3_hasName 35 = .ok (.ireturn, 1) := by decide +kernel
theorem dX3_hasName_36 : decode cX3_hasName 36 = .ok (.iinc 4 1, 3) := by decide +kernel
theorem dX3_hasName_39 : decode cX3_hasName 39 = .ok (.goto (-36), 3) := by decide +kernel
theorem dX3_hasName_42 : decode cX3_hasName 42 = .ok (.iconst 0, 1) := by decide +kernel
theorem dX3_hasName_43 : decode cX3_hasName 43 = .ok (.ireturn, 1) := by decide +kernel
theorem dX3_isNamed_0 : decode cX3_isNamed 0 = .ok (.iconst 0, 1) := by decide +kernel
theorem dX3_isNamed_1 : decode cX3_isNamed 1 = .ok (.istore 4, 2) := by decide +kernel
theorem dX3_isNamed_3 : decode cX3_isNamed 3 = .ok (.iload 4, 2) := by decide +kernel
theorem dX3_isNamed_5 : decode cX3_isNamed 5 = .ok (.aload_n 0, 1) := by decide +kernel
theorem dX3_isNamed_6 : decode cX3_isNamed 6 = .ok (.getfield 15, 3) := by decide +kernel
theorem dX3_isNamed_9 : decode cX3_isNamed 9 = .ok (.iload_n 1, 1) := by decide +kernel
theorem dX3_isNamed_10 : decode cX3_isNamed 10 = .ok (.iaload, 1) := by decide +kernel
theorem dX3_isNamed_11 : decode cX3_isNamed 11 = .ok (.if_icmp .ge 29, 3) := by decide +kernel
theorem dX3_isNamed_14 : decode cX3_isNamed 14 = .ok (.aload_n 0, 1) := by decide +kernel
theorem dX3_isNamed_15 : decode cX3_isNamed 15 = .ok (.iload_n 1, 1) := by decide +kernel
theorem dX3_isNamed_16 : decode cX3_isNamed 16 = .ok (.iload 4, 2) := by decide +kernel
theorem dX3_isNamed_18 : decode cX3_isNamed 18 = .ok (.invokevirtual 48, 3) := by decide +kernel
theorem dX3_isNamed_21 : decode cX3_isNamed 21 = .ok (.aload_n 2, 1) := by decide +kernel
theorem dX3_isNamed_22 : decode cX3_isNamed 22 = .ok (.iload_n 3, 1) := by decide +kernel
theorem dX3_isNamed_23 : decode cX3_isNamed 23 = .ok (.iload 4, 2) := by decide +kernel
theorem dX3_isNamed_25 : decode cX3_isNamed 25 = .ok (.iadd, 1) := by decide +kernel
theorem dX3_isNamed_26 : decode cX3_isNamed 26 = .ok (.invokevirtual 38, 3) := by decide +kernel
theorem dX3_isNamed_29 : decode cX3_isNamed 29 = .ok (.if_icmp .eq 5, 3) := by decide +kernel
theorem dX3_isNamed_32 : decode cX3_isNamed 32 = .ok (.iconst 0, 1) := by decide +kernel
theorem dX3_isNamed_33 : decode cX3_isNamed 33 = .ok (.ireturn, 1) := by decide +kernel
theorem dX3_isNamed_34 : decode cX3_isNamed 34 = .ok (.iinc 4 1, 3) := by decide +kernel
theorem dX3_isNamed_37 : decode cX3_isNamed 37 = .ok (.goto (-34), 3) := by decide +kernel
theorem dX3_isNamed_40 : decode cX3_isNamed 40 = .ok (.iconst 1, 1) := by decide +kernel
theorem dX3_isNamed_41 : decode cX3_isNamed 41 = .ok (.ireturn, 1) := by decide +kernel
theorem dX3_match_0 : decode cX3_match 0 = .ok (.iconst 0, 1) := by decide +kernel
theorem dX3_match_1 : decode cX3_match 1 = .ok (.istore_n 3, 1) := by decide +kernel
theorem dX3_match_2 : decode cX3_match 2 = .ok (.iload_n 3, 1) := by decide +kernel
theorem dX3_match_3 : decode cX3_match 3 = .ok (.aload_n 0, 1) := by decide +kernel
theorem dX3_match_4 : decode cX3_match 4 = .ok (.getfield 25, 3) := by decide +kernel
theorem dX3_match_7 : decode cX3_match 7 = .ok (.if_icmp .ge 16, 3) := by decide +kernel
theorem dX3_match_10 : decode cX3_match 10 = .ok (.aload_n 0, 1) := by decide +kernel
theorem dX3_match_11 : decode cX3_match 11 = .ok (.getfield 18, 3) := by decide +kernel
theorem dX3_match_14 : decode cX3_match 14 = .ok (.iload_n 3, 1) := by decide +kernel
theorem dX3_match_15 : decode cX3_match 15 = .ok (.iconst (-1), 1) := by decide +kernel
theorem dX3_match_16 : decode cX3_match 16 = .ok (.iastore, 1) := by decide +kernel
theorem dX3_match_17 : decode cX3_match 17 = .ok (.iinc 3 1, 3) := by decide +kernel
theorem dX3_match_20 : decode cX3_match 20 = .ok (.goto (-18), 3) := by decide +kernel
theorem dX3_match_23 : decode cX3_match 23 = .ok (.iconst 0, 1) := by decide +kernel
theorem dX3_match_24 : decode cX3_match 24 = .ok (.istore_n 3, 1) := by decide +kernel
theorem dX3_match_25 : decode cX3_match 25 = .ok (.iconst 0, 1) := by decide +kernel
theorem dX3_match_26 : decode cX3_match 26 = .ok (.istore 4, 2) := by decide +kernel
theorem dX3_match_28 : decode cX3_match 28 = .ok (.iload 4, 2) := by decide +kernel
theorem dX3_match_30 : decode cX3_match 30 = .ok (.aload_n 1, 1) := by decide +kernel
theorem dX3_match_31 : decode cX3_match 31 = .ok (.getfield 52, 3) := by decide +kernel
theorem dX3_match_34 : decode cX3_match 34 = .ok (.if_icmp .ge 73, 3) := by decide +kernel
theorem dX3_match_37 : decode cX3_match 37 = .ok (.iload_n 3, 1) := by decide +kernel
theorem dX3_match_38 : decode cX3_match 38 = .ok (.aload_n 0, 1) := by decide +kernel
theorem dX3_match_39 : decode cX3_match 39 = .ok (.getfield 25, 3) := by decide +kernel
theorem dX3_match_42 : decode cX3_match 42 = .ok (.if_icmp .ge 65, 3) := by decide +kernel
theorem dX3_match_45 : decode cX3_match 45 = .ok (.aload_n 1, 1) := by decide +kernel
theorem dX3_match_46 : decode cX3_match 46 = .ok (.iload 4, 2) := by decide +kernel
theorem dX3_match_48 : decode cX3_match 48 = .ok (.invokevirtual 57, 3) := by decide +kernel
theorem dX3_match_51 : decode cX3_match 51 = .ok (.iload_n 2, 1) := by decide +kernel
theorem dX3_match_52 : decode cX3_match 52 = .ok (.iadd, 1) := by decide +kernel
theorem dX3_match_53 : decode cX3_match 53 = .ok (.istore 5, 2) := by decide +kernel
theorem dX3_match_55 : decode cX3_match 55 = .ok (.aload_n 0, 1) := by decide +kernel
theorem dX3_match_56 : decode cX3_match 56 = .ok (.iload 5, 2) := by decide +kernel
theorem dX3_match_58 : decode cX3_match 58 = .ok (.invokevirtual 61, 3) := by decide +kernel
theorem dX3_match_61 : decode cX3_match 61 = .ok (.istore 6, 2) := by decide +kernel
theorem dX3_match_63 : decode cX3_match 63 = .ok (.iload 6, 2) := by decide +kernel
theorem dX3_match_65 : decode cX3_match 65 = .ok (.iconst (-1), 1) := by decide +kernel
theorem dX3_match_66 : decode cX3_match 66 = .ok (.if_icmp .eq 35, 3) := by decide +kernel
theorem dX3_match_69 : decode cX3_match 69 = .ok (.aload_n 0, 1) := by decide +kernel
theorem dX3_match_70 : decode cX3_match 70 = .ok (.getfield 9, 3) := by decide +kernel
theorem dX3_match_73 : decode cX3_match 73 = .ok (.iload 6, 2) := by decide +kernel
theorem dX3_match_75 : decode cX3_match 75 = .ok (.iaload, 1) := by decide +kernel
theorem dX3_match_76 : decode cX3_match 76 = .ok (.iload 5, 2) := by decide +kernel
theorem dX3_match_78 : decode cX3_match 78 = .ok (.isub, 1) := by decide +kernel
theorem dX3_match_79 : decode cX3_match 79 = .ok (.invokestatic 64, 3) := by decide +kernel
theorem dX3_match_82 : decode cX3_match 82 = .ok (.aload_n 0, 1) := by decide +kernel
theorem dX3_match_83 : decode cX3_match 83 = .ok (.getfield 29, 3) := by decide +kernel
theorem dX3_match_86 : decode cX3_match 86 = .ok (.if_icmp .gt 15, 3) := by decide +kernel
theorem dX3_match_89 : decode cX3_match 89 = .ok (.aload_n 0, 1) := by decide +kernel
theorem dX3_match_90 : decode cX3_match 90 = .ok (.getfield 18, 3) := by decide +kernel
theorem dX3_match_93 : decode cX3_match 93 = .ok (.iload 6, 2) := by decide +kernel
theorem dX3_match_95 : decode cX3_match 95 = .ok (.iload 4, 2) := by decide +kernel
theorem dX3_match_97 : decode cX3_match 97 = .ok (.iastore, 1) := by decide +kernel
theorem dX3_match_98 : decode cX3_match 98 = .ok (.iinc 3 1, 3) := by decide +kernel
theorem dX3_match_101 : decode cX3_match 101 = .ok (.iinc 4 1, 3) := by decide +kernel
theorem dX3_match_104 : decode cX3_match 104 = .ok (.goto (-76), 3) := by decide +kernel
theorem dX3_match_107 : decode cX3_match 107 = .ok (.iload_n 3, 1) := by decide +kernel
theorem dX3_match_108 : decode cX3_match 108 = .ok (.ireturn, 1) := by decide +kernel
theorem dX3_nearestFree_0 : decode cX3_nearestFree 0 = .ok (.iconst (-1), 1) := by decide +kernel
theorem dX3_nearestFree_1 : decode cX3_nearestFree 1 = .ok (.istore_n 2, 1) := by decide +kernel
theorem dX3_nearestFree_2 : decode cX3_nearestFree 2 = .ok (.iconst 0, 1) := by decide +kernel
theorem dX3_nearestFree_3 : decode cX3_nearestFree 3 = .ok (.istore_n 3, 1) := by decide +kernel
theorem dX3_nearestFree_4 : decode cX3_nearestFree 4 = .ok (.iload_n 3, 1) := by decide +kernel
theorem dX3_nearestFree_5 : decode cX3_nearestFree 5 = .ok (.aload_n 0, 1) := by decide +kernel
theorem dX3_nearestFree_6 : decode cX3_nearestFree 6 = .ok (.getfield 25, 3) := by decide +kernel
theorem dX3_nearestFree_9 : decode cX3_nearestFree 9 = .ok (.if_icmp .ge 51, 3) := by decide +kernel
theorem dX3_nearestFree_12 : decode cX3_nearestFree 12 = .ok (.aload_n 0, 1) := by decide +kernel
theorem dX3_nearestFree_13 : decode cX3_nearestFree 13 = .ok (.getfield 18, 3) := by decide +kernel
theorem dX3_nearestFree_16 : decode cX3_nearestFree 16 = .ok (.iload_n 3, 1) := by decide +kernel
theorem dX3_nearestFree_17 : decode cX3_nearestFree 17 = .ok (.iaload, 1) := by decide +kernel
theorem dX3_nearestFree_18 : decode cX3_nearestFree 18 = .ok (.iconst (-1), 1) := by decide +kernel
theorem dX3_nearestFree_19 : decode cX3_nearestFree 19 = .ok (.if_icmp .ne 35, 3) := by decide +kernel
theorem dX3_nearestFree_22 : decode cX3_nearestFree 22 = .ok (.iload_n 2, 1) := by decide +kernel
theorem dX3_nearestFree_23 : decode cX3_nearestFree 23 = .ok (.iconst (-1), 1) := by decide +kernel
theorem dX3_nearestFree_24 : decode cX3_nearestFree 24 = .ok (.if_icmp .eq 28, 3) := by decide +kernel
theorem dX3_nearestFree_27 : decode cX3_nearestFree 27 = .ok (.aload_n 0, 1) := by decide +kernel
theorem dX3_nearestFree_28 : decode cX3_nearestFree 28 = .ok (.getfield 9, 3) := by decide +kernel
theorem dX3_nearestFree_31 : decode cX3_nearestFree 31 = .ok (.iload_n 3, 1) := by decide +kernel
theorem dX3_nearestFree_32 : decode cX3_nearestFree 32 = .ok (.iaload, 1) := by decide +kernel
theorem dX3_nearestFree_33 : decode cX3_nearestFree 33 = .ok (.iload_n 1, 1) := by decide +kernel
theorem dX3_nearestFree_34 : decode cX3_nearestFree 34 = .ok (.isub, 1) := by decide +kernel
theorem dX3_nearestFree_35 : decode cX3_nearestFree 35 = .ok (.invokestatic 64, 3) := by decide +kernel
theorem dX3_nearestFree_38 : decode cX3_nearestFree 38 = .ok (.aload_n 0, 1) := by decide +kernel
theorem dX3_nearestFree_39 : decode cX3_nearestFree 39 = .ok (.getfield 9, 3) := by decide +kernel
theorem dX3_nearestFree_42 : decode cX3_nearestFree 42 = .ok (.iload_n 2, 1) := by decide +kernel
theorem dX3_nearestFree_43 : decode cX3_nearestFree 43 = .ok (.iaload, 1) := by decide +kernel
theorem dX3_nearestFree_44 : decode cX3_nearestFree 44 = .ok (.iload_n 1, 1) := by decide +kernel
theorem dX3_nearestFree_45 : decode cX3_nearestFree 45 = .ok (.isub, 1) := by decide +kernel
theorem dX3_nearestFree_46 : decode cX3_nearestFree 46 = .ok (.invokestatic 64, 3) := by decide +kernel
theorem dX3_nearestFree_49 : decode cX3_nearestFree 49 = .ok (.if_icmp .ge 5, 3) := by decide +kernel
theorem dX3_nearestFree_52 : decode cX3_nearestFree 52 = .ok (.iload_n 3, 1) := by decide +kernel
theorem dX3_nearestFree_53 : decode cX3_nearestFree 53 = .ok (.istore_n 2, 1) := by decide +kernel
theorem dX3_nearestFree_54 : decode cX3_nearestFree 54 = .ok (.iinc 3 1, 3) := by decide +kernel
theorem dX3_nearestFree_57 : decode cX3_nearestFree 57 = .ok (.goto (-53), 3) := by decide +kernel
theorem dX3_nearestFree_60 : decode cX3_nearestFree 60 = .ok (.iload_n 2, 1) := by decide +kernel
theorem dX3_nearestFree_61 : decode cX3_nearestFree 61 = .ok (.ireturn, 1) := by decide +kernel
theorem dX3_takenBy_0 : decode cX3_takenBy 0 = .ok (.iconst 0, 1) := by decide +kernel
theorem dX3_takenBy_1 : decode cX3_takenBy 1 = .ok (.istore_n 2, 1) := by decide +kernel
theorem dX3_takenBy_2 : decode cX3_takenBy 2 = .ok (.iload_n 2, 1) := by decide +kernel
theorem dX3_takenBy_3 : decode cX3_takenBy 3 = .ok (.aload_n 0, 1) := by decide +kernel
theorem dX3_takenBy_4 : decode cX3_takenBy 4 = .ok (.getfield 25, 3) := by decide +kernel
theorem dX3_takenBy_7 : decode cX3_takenBy 7 = .ok (.if_icmp .ge 21, 3) := by decide +kernel
theorem dX3_takenBy_10 : decode cX3_takenBy 10 = .ok (.aload_n 0, 1) := by decide +kernel
theorem dX3_takenBy_11 : decode cX3_takenBy 11 = .ok (.getfield 18, 3) := by decide +kernel
theorem dX3_takenBy_14 : decode cX3_takenBy 14 = .ok (.iload_n 2, 1) := by decide +kernel
theorem dX3_takenBy_15 : decode cX3_takenBy 15 = .ok (.iaload, 1) := by decide +kernel
theorem dX3_takenBy_16 : decode cX3_takenBy 16 = .ok (.iload_n 1, 1) := by decide +kernel
theorem dX3_takenBy_17 : decode cX3_takenBy 17 = .ok (.if_icmp .ne 5, 3) := by decide +kernel
theorem dX3_takenBy_20 : decode cX3_takenBy 20 = .ok (.iload_n 2, 1) := by decide +kernel
theorem dX3_takenBy_21 : decode cX3_takenBy 21 = .ok (.ireturn, 1) := by decide +kernel
theorem dX3_takenBy_22 : decode cX3_takenBy 22 = .ok (.iinc 2 1, 3) := by decide +kernel
theorem dX3_takenBy_25 : decode cX3_takenBy 25 = .ok (.goto (-23), 3) := by decide +kernel
theorem dX3_takenBy_28 : decode cX3_takenBy 28 = .ok (.iconst (-1), 1) := by decide +kernel
theorem dX3_takenBy_29 : decode cX3_takenBy 29 = .ok (.ireturn, 1) := by decide +kernel
theorem dX4_init_0 : decode cX4_init 0 = .ok (.aload_n 0, 1) := by decide +kernel
theorem dX4_init_1 : decode cX4_init 1 = .ok (.invokespecial 3, 3) := by decide +kernel
theorem dX4_init_4 : decode cX4_init 4 = .ok (.aload_n 0, 1) := by decide +kernel
theorem dX4_init_5 : decode cX4_init 5 = .ok (.bipush 100, 2) := by decide +kernel
theorem dX4_init_7 : decode cX4_init 7 = .ok (.newarray .int, 2) := by decide +kernel
theorem dX4_init_9 : decode cX4_init 9 = .ok (.putfield 11, 3) := by decide +kernel
theorem dX4_init_12 : decode cX4_init 12 = .ok (.aload_n 0, 1) := by decide +kernel
theorem dX4_init_13 : decode cX4_init 13 = .ok (.bipush 100, 2) := by decide +kernel
theorem dX4_init_15 : decode cX4_init 15 = .ok (.newarray .int, 2) := by decide +kernel
theorem dX4_init_17 : decode cX4_init 17 = .ok (.putfield 15, 3) := by decide +kernel
theorem dX4_init_20 : decode cX4_init 20 = .ok (.aload_n 0, 1) := by decide +kernel
theorem dX4_init_21 : decode cX4_init 21 = .ok (.bipush 100, 2) := by decide +kernel
theorem dX4_init_23 : decode cX4_init 23 = .ok (.newarray .int, 2) := by decide +kernel
theorem dX4_init_25 : decode cX4_init 25 = .ok (.putfield 18, 3) := by decide +kernel
theorem dX4_init_28 : decode cX4_init 28 = .ok (.return_, 1) := by decide +kernel
theorem dX4_copyFrom_0 : decode cX4_copyFrom 0 = .ok (.aload_n 0, 1) := by decide +kernel
theorem dX4_copyFrom_1 : decode cX4_copyFrom 1 = .ok (.aload_n 1, 1) := by decide +kernel
theorem dX4_copyFrom_2 : decode cX4_copyFrom 2 = .ok (.getfield 21, 3) := by decide +kernel
theorem dX4_copyFrom_5 : decode cX4_copyFrom 5 = .ok (.putfield 21, 3) := by decide +kernel
theorem dX4_copyFrom_8 : decode cX4_copyFrom 8 = .ok (.aload_n 0, 1) := by decide +kernel
theorem dX4_copyFrom_9 : decode cX4_copyFrom 9 = .ok (.aload_n 1, 1) := by decide +kernel
theorem dX4_copyFrom_10 : decode cX4_copyFrom 10 = .ok (.getfield 25, 3) := by decide +kernel
theorem dX4_copyFrom_13 : decode cX4_copyFrom 13 = .ok (.putfield 25, 3) := by decide +kernel
theorem dX4_copyFrom_16 : decode cX4_copyFrom 16 = .ok (.aload_n 1, 1) := by decide +kernel
theorem dX4_copyFrom_17 : decode cX4_copyFrom 17 = .ok (.getfield 11, 3) := by decide +kernel
theorem dX4_copyFrom_20 : decode cX4_copyFrom 20 = .ok (.iconst 0, 1) := by decide +kernel
theorem dX4_copyFrom_21 : decode cX4_copyFrom 21 = .ok (.aload_n 0, 1) := by decide +kernel
theorem dX4_copyFrom_22 : decode cX4_copyFrom 22 = .ok (.getfield 11, 3) := by decide +kernel
theorem dX4_copyFrom_25 : decode cX4_copyFrom 25 = .ok (.iconst 0, 1) := by decide +kernel
theorem dX4_copyFrom_26 : decode cX4_copyFrom 26 = .ok (.bipush 100, 2) := by decide +kernel
theorem dX4_copyFrom_28 : decode cX4_copyFrom 28 = .ok (.invokestatic 28, 3) := by decide +kernel
theorem dX4_copyFrom_31 : decode cX4_copyFrom 31 = .ok (.aload_n 1, 1) := by decide +kernel
theorem dX4_copyFrom_32 : decode cX4_copyFrom 32 = .ok (.getfield 15, 3) := by decide +kernel
theorem dX4_copyFrom_35 : decode cX4_copyFrom 35 = .ok (.iconst 0, 1) := by decide +kernel
theorem dX4_copyFrom_36 : decode cX4_copyFrom 36 = .ok (.aload_n 0, 1) := by decide +kernel
theorem dX4_copyFrom_37 : decode cX4_copyFrom 37 = .ok (.getfield 15, 3) := by decide +kernel
theorem dX4_copyFrom_40 : decode cX4_copyFrom 40 = .ok (.iconst 0, 1) := by decide +kernel
theorem dX4_copyFrom_41 : decode cX4_copyFrom 41 = .ok (.bipush 100, 2) := by decide +kernel
theorem dX4_copyFrom_43 : decode cX4_copyFrom 43 = .ok (.invokestatic 28, 3) := by decide +kernel
theorem dX4_copyFrom_46 : decode cX4_copyFrom 46 = .ok (.aload_n 1, 1) := by decide +kernel
theorem dX4_copyFrom_47 : decode cX4_copyFrom 47 = .ok (.getfield 18, 3) := by decide +kernel
theorem dX4_copyFrom_50 : decode cX4_copyFrom 50 = .ok (.iconst 0, 1) := by decide +kernel
theorem dX4_copyFrom_51 : decode cX4_copyFrom 51 = .ok (.aload_n 0, 1) := by decide +kernel
theorem dX4_copyFrom_52 : decode cX4_copyFrom 52 = .ok (.getfield 18, 3) := by decide +kernel
theorem dX4_copyFrom_55 : decode cX4_copyFrom 55 = .ok (.iconst 0, 1) := by decide +kernel
theorem dX4_copyFrom_56 : decode cX4_copyFrom 56 = .ok (.bipush 100, 2) := by decide +kernel
theorem dX4_copyFrom_58 : decode cX4_copyFrom 58 = .ok (.invokestatic 28, 3) := by decide +kernel
theorem dX4_copyFrom_61 : decode cX4_copyFrom 61 = .ok (.return_, 1) := by decide +kernel
theorem dX4_forget_0 : decode cX4_forget 0 = .ok (.aload_n 0, 1) := by decide +kernel
theorem dX4_forget_1 : decode cX4_forget 1 = .ok (.iconst 0, 1) := by decide +kernel
theorem dX4_forget_2 : decode cX4_forget 2 = .ok (.putfield 21, 3) := by decide +kernel
theorem dX4_forget_5 : decode cX4_forget 5 = .ok (.return_, 1) := by decide +kernel
theorem dX4_add_0 : decode cX4_add 0 = .ok (.aload_n 0, 1) := by decide +kernel
theorem dX4_add_1 : decode cX4_add 1 = .ok (.getfield 11, 3) := by decide +kernel
theorem dX4_add_4 : decode cX4_add 4 = .ok (.aload_n 0, 1) := by decide +kernel
theorem dX4_add_5 : decode cX4_add 5 = .ok (.getfield 25, 3) := by decide +kernel
theorem dX4_add_8 : decode cX4_add 8 = .ok (.iload_n 1, 1) := by decide +kernel
theorem dX4_add_9 : decode cX4_add 9 = .ok (.iastore, 1) := by decide +kernel
theorem dX4_add_10 : decode cX4_add 10 = .ok (.aload_n 0, 1) := by decide +kernel
theorem dX4_add_11 : decode cX4_add 11 = .ok (.getfield 15, 3) := by decide +kernel
theorem dX4_add_14 : decode cX4_add 14 = .ok (.aload_n 0, 1) := by decide +kernel
theorem dX4_add_15 : decode cX4_add 15 = .ok (.getfield 25, 3) := by decide +kernel
theorem dX4_add_18 : decode cX4_add 18 = .ok (.iload_n 2, 1) := by decide +kernel
theorem dX4_add_19 : decode cX4_add 19 = .ok (.iastore, 1) := by decide +kernel
theorem dX4_add_20 : decode cX4_add 20 = .ok (.aload_n 0, 1) := by decide +kernel
theorem dX4_add_21 : decode cX4_add 21 = .ok (.getfield 18, 3) := by decide +kernel
theorem dX4_add_24 : decode cX4_add 24 = .ok (.aload_n 0, 1) := by decide +kernel
theorem dX4_add_25 : decode cX4_add 25 = .ok (.getfield 25, 3) := by decide +kernel
theorem dX4_add_28 : decode cX4_add 28 = .ok (.iload_n 3, 1) := by decide +kernel
theorem dX4_add_29 : decode cX4_add 29 = .ok (.iastore, 1) := by decide +kernel
theorem dX4_add_30 : decode cX4_add 30 = .ok (.aload_n 0, 1) := by decide +kernel
theorem dX4_add_31 : decode cX4_add 31 = .ok (.aload_n 0, 1) := by decide +kernel
theorem dX4_add_32 : decode cX4_add 32 = .ok (.getfield 25, 3) := by decide +kernel
theorem dX4_add_35 : decode cX4_add 35 = .ok (.iconst 1, 1) := by decide +kernel
theorem dX4_add_36 : decode cX4_add 36 = .ok (.iadd, 1) := by decide +kernel
theorem dX4_add_37 : decode cX4_add 37 = .ok (.bipush 100, 2) := by decide +kernel
theorem dX4_add_39 : decode cX4_add 39 = .ok (.irem, 1) := by decide +kernel
theorem dX4_add_40 : decode cX4_add 40 = .ok (.putfield 25, 3) := by decide +kernel
theorem dX4_add_43 : decode cX4_add 43 = .ok (.aload_n 0, 1) := by decide +kernel
theorem dX4_add_44 : decode cX4_add 44 = .ok (.aload_n 0, 1) := by decide +kernel
theorem dX4_add_45 : decode cX4_add 45 = .ok (.getfield 21, 3) := by decide +kernel
theorem dX4_add_48 : decode cX4_add 48 = .ok (.iconst 1, 1) := by decide +kernel
theorem dX4_add_49 : decode cX4_add 49 = .ok (.iadd, 1) := by decide +kernel
theorem dX4_add_50 : decode cX4_add 50 = .ok (.bipush 100, 2) := by decide +kernel
theorem dX4_add_52 : decode cX4_add 52 = .ok (.invokestatic 34, 3) := by decide +kernel
theorem dX4_add_55 : decode cX4_add 55 = .ok (.putfield 21, 3) := by decide +kernel
theorem dX4_add_58 : decode cX4_add 58 = .ok (.return_, 1) := by decide +kernel
theorem dX4_dropLatest_0 : decode cX4_dropLatest 0 = .ok (.aload_n 0, 1) := by decide +kernel
theorem dX4_dropLatest_1 : decode cX4_dropLatest 1 = .ok (.getfield 21, 3) := by decide +kernel
theorem dX4_dropLatest_4 : decode cX4_dropLatest 4 = .ok (.ifCond .le 29, 3) := by decide +kernel
theorem dX4_dropLatest_7 : decode cX4_dropLatest 7 = .ok (.aload_n 0, 1) := by decide +kernel
theorem dX4_dropLatest_8 : decode cX4_dropLatest 8 = .ok (.aload_n 0, 1) := by decide +kernel
theorem dX4_dropLatest_9 : decode cX4_dropLatest 9 = .ok (.getfield 25, 3) := by decide +kernel
theorem dX4_dropLatest_12 : decode cX4_dropLatest 12 = .ok (.bipush 100, 2) := by decide +kernel
theorem dX4_dropLatest_14 : decode cX4_dropLatest 14 = .ok (.iadd, 1) := by decide +kernel
theorem dX4_dropLatest_15 : decode cX4_dropLatest 15 = .ok (.iconst 1, 1) := by decide +kernel
theorem dX4_dropLatest_16 : decode cX4_dropLatest 16 = .ok (.isub, 1) := by decide +kernel
theorem dX4_dropLatest_17 : decode cX4_dropLatest 17 = .ok (.bipush 100, 2) := by decide +kernel
theorem dX4_dropLatest_19 : decode cX4_dropLatest 19 = .ok (.irem, 1) := by decide +kernel
theorem dX4_dropLatest_20 : decode cX4_dropLatest 20 = .ok (.putfield 25, 3) := by decide +kernel
theorem dX4_dropLatest_23 : decode cX4_dropLatest 23 = .ok (.aload_n 0, 1) := by decide +kernel
theorem dX4_dropLatest_24 : decode cX4_dropLatest 24 = .ok (.dup, 1) := by decide +kernel
theorem dX4_dropLatest_25 : decode cX4_dropLatest 25 = .ok (.getfield 21, 3) := by decide +kernel
theorem dX4_dropLatest_28 : decode cX4_dropLatest 28 = .ok (.iconst 1, 1) := by decide +kernel
theorem dX4_dropLatest_29 : decode cX4_dropLatest 29 = .ok (.isub, 1) := by decide +kernel
theorem dX4_dropLatest_30 : decode cX4_dropLatest 30 = .ok (.putfield 21, 3) := by decide +kernel
theorem dX4_dropLatest_33 : decode cX4_dropLatest 33 = .ok (.return_, 1) := by decide +kernel
theorem dX4_shown_0 : decode cX4_shown 0 = .ok (.aload_n 0, 1) := by decide +kernel
theorem dX4_shown_1 : decode cX4_shown 1 = .ok (.getfield 21, 3) := by decide +kernel
theorem dX4_shown_4 : decode cX4_shown 4 = .ok (.bipush 60, 2) := by decide +kernel
theorem dX4_shown_6 : decode cX4_shown 6 = .ok (.invokestatic 34, 3) := by decide +kernel
theorem dX4_shown_9 : decode cX4_shown 9 = .ok (.ireturn, 1) := by decide +kernel
theorem dX4_tell_0 : decode cX4_tell 0 = .ok (.iload_n 1, 1) := by decide +kernel
theorem dX4_tell_1 : decode cX4_tell 1 = .ok (.ifCond .lt 11, 3) := by decide +kernel
theorem dX4_tell_4 : decode cX4_tell 4 = .ok (.iload_n 1, 1) := by decide +kernel
theorem dX4_tell_5 : decode cX4_tell 5 = .ok (.aload_n 0, 1) := by decide +kernel
theorem dX4_tell_6 : decode cX4_tell 6 = .ok (.invokevirtual 40, 3) := by decide +kernel
theorem dX4_tell_9 : decode cX4_tell 9 = .ok (.if_icmp .lt 6, 3) := by decide +kernel
theorem dX4_tell_12 : decode cX4_tell 12 = .ok (.ldc 44, 2) := by decide +kernel
theorem dX4_tell_14 : decode cX4_tell 14 = .ok (.ireturn, 1) := by decide +kernel
theorem dX4_tell_15 : decode cX4_tell 15 = .ok (.aload_n 0, 1) := by decide +kernel
theorem dX4_tell_16 : decode cX4_tell 16 = .ok (.getfield 25, 3) := by decide +kernel
theorem dX4_tell_19 : decode cX4_tell 19 = .ok (.bipush 100, 2) := by decide +kernel
theorem dX4_tell_21 : decode cX4_tell 21 = .ok (.iadd, 1) := by decide +kernel
theorem dX4_tell_22 : decode cX4_tell 22 = .ok (.iconst 1, 1) := by decide +kernel
theorem dX4_tell_23 : decode cX4_tell 23 = .ok (.isub, 1) := by decide +kernel
theorem dX4_tell_24 : decode cX4_tell 24 = .ok (.iload_n 1, 1) := by decide +kernel
theorem dX4_tell_25 : decode cX4_tell 25 = .ok (.isub, 1) := by decide +kernel
theorem dX4_tell_26 : decode cX4_tell 26 = .ok (.bipush 100, 2) := by decide +kernel
theorem dX4_tell_28 : decode cX4_tell 28 = .ok (.irem, 1) := by decide +kernel
theorem dX4_tell_29 : decode cX4_tell 29 = .ok (.istore_n 3, 1) := by decide +kernel
theorem dX4_tell_30 : decode cX4_tell 30 = .ok (.iload_n 2, 1) := by decide +kernel
theorem dX4_tell_31 : decode cX4_tell 31 = .ok (.tableswitch 46 0 2 #[25, 32, 39], 25) := by decide +kernel
theorem dX4_tell_56 : decode cX4_tell 56 = .ok (.aload_n 0, 1) := by decide +kernel
theorem dX4_tell_57 : decode cX4_tell 57 = .ok (.getfield 11, 3) := by decide +kernel
theorem dX4_tell_60 : decode cX4_tell 60 = .ok (.iload_n 3, 1) := by decide +kernel
theorem dX4_tell_61 : decode cX4_tell 61 = .ok (.iaload, 1) := by decide +kernel
theorem dX4_tell_62 : decode cX4_tell 62 = .ok (.ireturn, 1) := by decide +kernel
theorem dX4_tell_63 : decode cX4_tell 63 = .ok (.aload_n 0, 1) := by decide +kernel
theorem dX4_tell_64 : decode cX4_tell 64 = .ok (.getfield 15, 3) := by decide +kernel
theorem dX4_tell_67 : decode cX4_tell 67 = .ok (.iload_n 3, 1) := by decide +kernel
theorem dX4_tell_68 : decode cX4_tell 68 = .ok (.iaload, 1) := by decide +kernel
theorem dX4_tell_69 : decode cX4_tell 69 = .ok (.ireturn, 1) := by decide +kernel
theorem dX4_tell_70 : decode cX4_tell 70 = .ok (.aload_n 0, 1) := by decide +kernel
theorem dX4_tell_71 : decode cX4_tell 71 = .ok (.getfield 18, 3) := by decide +kernel
theorem dX4_tell_74 : decode cX4_tell 74 = .ok (.iload_n 3, 1) := by decide +kernel
theorem dX4_tell_75 : decode cX4_tell 75 = .ok (.iaload, 1) := by decide +kernel
theorem dX4_tell_76 : decode cX4_tell 76 = .ok (.ireturn, 1) := by decide +kernel
theorem dX4_tell_77 : decode cX4_tell 77 = .ok (.ldc 44, 2) := by decide +kernel
theorem dX4_tell_79 : decode cX4_tell 79 = .ok (.ireturn, 1) := by decide +kernel
theorem dX5_init_0 : decode cX5_init 0 = .ok (.aload_n 0, 1) := by decide +kernel
theorem dX5_init_1 : decode cX5_init 1 = .ok (.invokespecial 3, 3) := by decide +kernel
theorem dX5_init_4 : decode cX5_init 4 = .ok (.aload_n 0, 1) := by decide +kernel
theorem dX5_init_5 : decode cX5_init 5 = .ok (.bipush 48, 2) := by decide +kernel
theorem dX5_init_7 : decode cX5_init 7 = .ok (.newarray .int, 2) := by decide +kernel
theorem dX5_init_9 : decode cX5_init 9 = .ok (.putfield 9, 3) := by decide +kernel
theorem dX5_init_12 : decode cX5_init 12 = .ok (.aload_n 0, 1) := by decide +kernel
theorem dX5_init_13 : decode cX5_init 13 = .ok (.bipush 48, 2) := by decide +kernel
theorem dX5_init_15 : decode cX5_init 15 = .ok (.newarray .int, 2) := by decide +kernel
theorem dX5_init_17 : decode cX5_init 17 = .ok (.putfield 15, 3) := by decide +kernel
theorem dX5_init_20 : decode cX5_init 20 = .ok (.aload_n 0, 1) := by decide +kernel
theorem dX5_init_21 : decode cX5_init 21 = .ok (.bipush 48, 2) := by decide +kernel
theorem dX5_init_23 : decode cX5_init 23 = .ok (.newarray .int, 2) := by decide +kernel
theorem dX5_init_25 : decode cX5_init 25 = .ok (.putfield 18, 3) := by decide +kernel
theorem dX5_init_28 : decode cX5_init 28 = .ok (.aload_n 0, 1) := by decide +kernel
theorem dX5_init_29 : decode cX5_init 29 = .ok (.bipush 48, 2) := by decide +kernel
theorem dX5_init_31 : decode cX5_init 31 = .ok (.newarray .int, 2) := by decide +kernel
theorem dX5_init_33 : decode cX5_init 33 = .ok (.putfield 21, 3) := by decide +kernel
theorem dX5_init_36 : decode cX5_init 36 = .ok (.aload_n 0, 1) := by decide +kernel
theorem dX5_init_37 : decode cX5_init 37 = .ok (.bipush 48, 2) := by decide +kernel
theorem dX5_init_39 : decode cX5_init 39 = .ok (.newarray .int, 2) := by decide +kernel
theorem dX5_init_41 : decode cX5_init 41 = .ok (.putfield 24, 3) := by decide +kernel
theorem dX5_init_44 : decode cX5_init 44 = .ok (.aload_n 0, 1) := by decide +kernel
theorem dX5_init_45 : decode cX5_init 45 = .ok (.bipush 48, 2) := by decide +kernel
theorem dX5_init_47 : decode cX5_init 47 = .ok (.newarray .int, 2) := by decide +kernel
theorem dX5_init_49 : decode cX5_init 49 = .ok (.putfield 27, 3) := by decide +kernel
theorem dX5_init_52 : decode cX5_init 52 = .ok (.aload_n 0, 1) := by decide +kernel
theorem dX5_init_53 : decode cX5_init 53 = .ok (.bipush 48, 2) := by decide +kernel
theorem dX5_init_55 : decode cX5_init 55 = .ok (.newarray .int, 2) := by decide +kernel
theorem dX5_init_57 : decode cX5_init 57 = .ok (.putfield 30, 3) := by decide +kernel
theorem dX5_init_60 : decode cX5_init 60 = .ok (.aload_n 0, 1) := by decide +kernel
theorem dX5_init_61 : decode cX5_init 61 = .ok (.bipush 48, 2) := by decide +kernel
theorem dX5_init_63 : decode cX5_init 63 = .ok (.newarray .int, 2) := by decide +kernel
theorem dX5_init_65 : decode cX5_init 65 = .ok (.putfield 33, 3) := by decide +kernel
theorem dX5_init_68 : decode cX5_init 68 = .ok (.aload_n 0, 1) := by decide +kernel
theorem dX5_init_69 : decode cX5_init 69 = .ok (.bipush 48, 2) := by decide +kernel
theorem dX5_init_71 : decode cX5_init 71 = .ok (.newarray .int, 2) := by decide +kernel
theorem dX5_init_73 : decode cX5_init 73 = .ok (.putfield 36, 3) := by decide +kernel
theorem dX5_init_76 : decode cX5_init 76 = .ok (.aload_n 0, 1) := by decide +kernel
theorem dX5_init_77 : decode cX5_init 77 = .ok (.bipush 48, 2) := by decide +kernel
theorem dX5_init_79 : decode cX5_init 79 = .ok (.newarray .int, 2) := by decide +kernel
theorem dX5_init_81 : decode cX5_init 81 = .ok (.putfield 39, 3) := by decide +kernel
theorem dX5_init_84 : decode cX5_init 84 = .ok (.aload_n 0, 1) := by decide +kernel
theorem dX5_init_85 : decode cX5_init 85 = .ok (.bipush 48, 2) := by decide +kernel
theorem dX5_init_87 : decode cX5_init 87 = .ok (.newarray .int, 2) := by decide +kernel
theorem dX5_init_89 : decode cX5_init 89 = .ok (.putfield 42, 3) := by decide +kernel
theorem dX5_init_92 : decode cX5_init 92 = .ok (.aload_n 0, 1) := by decide +kernel
theorem dX5_init_93 : decode cX5_init 93 = .ok (.bipush 48, 2) := by decide +kernel
theorem dX5_init_95 : decode cX5_init 95 = .ok (.newarray .int, 2) := by decide +kernel
theorem dX5_init_97 : decode cX5_init 97 = .ok (.putfield 45, 3) := by decide +kernel
theorem dX5_init_100 : decode cX5_init 100 = .ok (.aload_n 0, 1) := by decide +kernel
theorem dX5_init_101 : decode cX5_init 101 = .ok (.bipush 48, 2) := by decide +kernel
theorem dX5_init_103 : decode cX5_init 103 = .ok (.newarray .int, 2) := by decide +kernel
theorem dX5_init_105 : decode cX5_init 105 = .ok (.putfield 48, 3) := by decide +kernel
theorem dX5_init_108 : decode cX5_init 108 = .ok (.return_, 1) := by decide +kernel
theorem dX5_find_0 : decode cX5_find 0 = .ok (.aload_n 0, 1) := by decide +kernel
theorem dX5_find_1 : decode cX5_find 1 = .ok (.iconst 0, 1) := by decide +kernel
theorem dX5_find_2 : decode cX5_find 2 = .ok (.putfield 51, 3) := by decide +kernel
theorem dX5_find_5 : decode cX5_find 5 = .ok (.aload_n 0, 1) := by decide +kernel
theorem dX5_find_6 : decode cX5_find 6 = .ok (.iconst 0, 1) := by decide +kernel
theorem dX5_find_7 : decode cX5_find 7 = .ok (.putfield 55, 3) := by decide +kernel
theorem dX5_find_10 : decode cX5_find 10 = .ok (.aload_n 1, 1) := by decide +kernel
theorem dX5_find_11 : decode cX5_find 11 = .ok (.getfield 58, 3) := by decide +kernel
theorem dX5_find_14 : decode cX5_find 14 = .ok (.ifCond .ne 4, 3) := by decide +kernel
theorem dX5_find_17 : decode cX5_find 17 = .ok (.return_, 1) := by decide +kernel
theorem dX5_find_18 : decode cX5_find 18 = .ok (.aload_n 0, 1) := by decide +kernel
theorem dX5_find_19 : decode cX5_find 19 = .ok (.aload_n 1, 1) := by decide +kernel
theorem dX5_find_20 : decode cX5_find 20 = .ok (.invokevirtual 61, 3) := by decide +kernel
theorem dX5_find_23 : decode cX5_find 23 = .ok (.iconst 0, 1) := by decide +kernel
theorem dX5_find_24 : decode cX5_find 24 = .ok (.istore_n 2, 1) := by decide +kernel
theorem dX5_find_25 : decode cX5_find 25 = .ok (.iload_n 2, 1) := by decide +kernel
theorem dX5_find_26 : decode cX5_find 26 = .ok (.aload_n 1, 1) := by decide +kernel
theorem dX5_find_27 : decode cX5_find 27 = .ok (.getfield 58, 3) := by decide +kernel
theorem dX5_find_30 : decode cX5_find 30 = .ok (.if_icmp .ge 16, 3) := by decide +kernel
theorem dX5_find_33 : decode cX5_find 33 = .ok (.aload_n 0, 1) := by decide +kernel
theorem dX5_find_34 : decode cX5_find 34 = .ok (.getfield 15, 3) := by decide +kernel
theorem dX5_find_37 : decode cX5_find 37 = .ok (.iload_n 2, 1) := by decide +kernel
theorem dX5_find_38 : decode cX5_find 38 = .ok (.iconst (-1), 1) := by decide +kernel
theorem dX5_find_39 : decode cX5_find 39 = .ok (.iastore, 1) := by decide +kernel
theorem dX5_find_40 : decode cX5_find 40 = .ok (.iinc 2 1, 3) := by decide +kernel
theorem dX5_find_43 : decode cX5_find 43 = .ok (.goto (-18), 3) := by decide +kernel
theorem dX5_find_46 : decode cX5_find 46 = .ok (.iconst 0, 1) := by decide +kernel
theorem dX5_find_47 : decode cX5_find 47 = .ok (.istore_n 2, 1) := by decide +kernel
theorem dX5_find_48 : decode cX5_find 48 = .ok (.iload_n 2, 1) := by decide +kernel
theorem dX5_find_49 : decode cX5_find 49 = .ok (.aload_n 1, 1) := by decide +kernel
theorem dX5_find_50 : decode cX5_find 50 = .ok (.getfield 58, 3) := by decide +kernel
theorem dX5_find_53 : decode cX5_find 53 = .ok (.if_icmp .ge 20, 3) := by decide +kernel
theorem dX5_find_56 : decode cX5_find 56 = .ok (.aload_n 0, 1) := by decide +kernel
theorem dX5_find_57 : decode cX5_find 57 = .ok (.aload_n 1, 1) := by decide +kernel
theorem dX5_find_58 : decode cX5_find 58 = .ok (.aload_n 0, 1) := by decide +kernel
theorem dX5_find_59 : decode cX5_find 59 = .ok (.getfield 9, 3) := by decide +kernel
theorem dX5_find_62 : decode cX5_find 62 = .ok (.iload_n 2, 1) := by decide +kernel
theorem dX5_find_63 : decode cX5_find 63 = .ok (.iaload, 1) := by decide +kernel
theorem dX5_find_64 : decode cX5_find 64 = .ok (.invokevirtual 65, 3) := by decide +kernel
theorem dX5_find_67 : decode cX5_find 67 = .ok (.iinc 2 1, 3) := by decide +kernel
theorem dX5_find_70 : decode cX5_find 70 = .ok (.goto (-22), 3) := by decide +kernel
theorem dX5_find_73 : decode cX5_find 73 = .ok (.aload_n 0, 1) := by decide +kernel
theorem dX5_find_74 : decode cX5_find 74 = .ok (.getfield 33, 3) := by decide +kernel
theorem dX5_find_77 : decode cX5_find 77 = .ok (.iconst 0, 1) := by decide +kernel
theorem dX5_find_78 : decode cX5_find 78 = .ok (.aload_n 1, 1) := by decide +kernel
theorem dX5_find_79 : decode cX5_find 79 = .ok (.getfield 69, 3) := by decide +kernel
theorem dX5_find_82 : decode cX5_find 82 = .ok (.aload_n 0, 1) := by decide +kernel
theorem dX5_find_83 : decode cX5_find 83 = .ok (.getfield 9, 3) := by decide +kernel
theorem dX5_find_86 : decode cX5_find 86 = .ok (.aload_n 1, 1) := by decide +kernel
theorem dX5_find_87 : decode cX5_find 87 = .ok (.getfield 58, 3) := by decide +kernel
theorem dX5_find_90 : decode cX5_find 90 = .ok (.iconst 1, 1) := by decide +kernel
theorem dX5_find_91 : decode cX5_find 91 = .ok (.isub, 1) := by decide +kernel
theorem dX5_find_92 : decode cX5_find 92 = .ok (.iaload, 1) := by decide +kernel
theorem dX5_find_93 : decode cX5_find 93 = .ok (.iaload, 1) := by decide +kernel
theorem dX5_find_94 : decode cX5_find 94 = .ok (.iastore, 1) := by decide +kernel
theorem dX5_find_95 : decode cX5_find 95 = .ok (.aload_n 0, 1) := by decide +kernel
theorem dX5_find_96 : decode cX5_find 96 = .ok (.invokevirtual 72, 3) := by decide +kernel
theorem dX5_find_99 : decode cX5_find 99 = .ok (.aload_n 0, 1) := by decide +kernel
theorem dX5_find_100 : decode cX5_find 100 = .ok (.invokevirtual 75, 3) := by decide +kernel
theorem dX5_find_103 : decode cX5_find 103 = .ok (.aload_n 0, 1) := by decide +kernel
theorem dX5_find_104 : decode cX5_find 104 = .ok (.iconst 1, 1) := by decide +kernel
theorem dX5_find_105 : decode cX5_find 105 = .ok (.putfield 55, 3) := by decide +kernel
theorem dX5_find_108 : decode cX5_find 108 = .ok (.aload_n 0, 1) := by decide +kernel
theorem dX5_find_109 : decode cX5_find 109 = .ok (.getfield 55, 3) := by decide +kernel
theorem dX5_find_112 : decode cX5_find 112 = .ok (.aload_n 0, 1) := by decide +kernel
theorem dX5_find_113 : decode cX5_find 113 = .ok (.getfield 51, 3) := by decide +kernel
theorem dX5_find_116 : decode cX5_find 116 = .ok (.if_icmp .ge 31, 3) := by decide +kernel
theorem dX5_find_119 : decode cX5_find 119 = .ok (.aload_n 0, 1) := by decide +kernel
theorem dX5_find_120 : decode cX5_find 120 = .ok (.aload_n 0, 1) := by decide +kernel
theorem dX5_find_121 : decode cX5_find 121 = .ok (.getfield 55, 3) := by decide +kernel
theorem dX5_find_124 : decode cX5_find 124 = .ok (.invokevirtual 78, 3) := by decide +kernel
theorem dX5_find_127 : decode cX5_find 127 = .ok (.aload_n 1, 1) := by decide +kernel
theorem dX5_find_128 : decode cX5_find 128 = .ok (.getfield 82, 3) := by decide +kernel
theorem dX5_find_131 : decode cX5_find 131 = .ok (.if_icmp .le 16, 3) := by decide +kernel
theorem dX5_find_134 : decode cX5_find 134 = .ok (.aload_n 0, 1) := by decide +kernel
theorem dX5_find_135 : decode cX5_find 135 = .ok (.dup, 1) := by decide +kernel
theorem dX5_find_136 : decode cX5_find 136 = .ok (.getfield 55, 3) := by decide +kernel
theorem dX5_find_139 : decode cX5_find 139 = .ok (.iconst 1, 1) := by decide +kernel
theorem dX5_find_140 : decode cX5_find 140 = .ok (.iadd, 1) := by decide +kernel
theorem dX5_find_141 : decode cX5_find 141 = .ok (.putfield 55, 3) := by decide +kernel
theorem dX5_find_144 : decode cX5_find 144 = .ok (.goto (-36), 3) := by decide +kernel
theorem dX5_find_147 : decode cX5_find 147 = .ok (.return_, 1) := by decide +kernel
theorem dX5_sortByHeight_0 : decode cX5_sortByHeight 0 = .ok (.iconst 0, 1) := by decide +kernel
theorem dX5_sortByHeight_1 : decode cX5_sortByHeight 1 = .ok (.istore_n 2, 1) := by decide +kernel
theorem dX5_sortByHeight_2 : decode cX5_sortByHeight 2 = .ok (.iload_n 2, 1) := by decide +kernel
theorem dX5_sortByHeight_3 : decode cX5_sortByHeight 3 = .ok (.aload_n 1, 1) := by decide +kernel
theorem dX5_sortByHeight_4 : decode cX5_sortByHeight 4 = .ok (.getfield 58, 3) := by decide +kernel
theorem dX5_sortByHeight_7 : decode cX5_sortByHeight 7 = .ok (.if_icmp .ge 64, 3) := by decide +kernel
theorem dX5_sortByHeight_10 : decode cX5_sortByHeight 10 = .ok (.iload_n 2, 1) := by decide +kernel
theorem dX5_sortByHeight_11 : decode cX5_sortByHeight 11 = .ok (.istore_n 3, 1) := by decide +kernel
theorem dX5_sortByHeight_12 : decode cX5_sortByHeight 12 = .ok (.iload_n 3, 1) := by decide +kernel
theorem dX5_sortByHeight_13 : decode cX5_sortByHeight 13 = .ok (.ifCond .le 45, 3) := by decide +kernel
theorem dX5_sortByHeight_16 : decode cX5_sortByHeight 16 = .ok (.aload_n 1, 1) := by decide +kernel
theorem dX5_sortByHeight_17 : decode cX5_sortByHeight 17 = .ok (.getfield 69, 3) := by decide +kernel
theorem dX5_sortByHeight_20 : decode cX5_sortByHeight 20 = .ok (.aload_n 0, 1) := by decide +kernel
theorem dX5_sortByHeight_21 : decode cX5_sortByHeight 21 = .ok (.getfield 9, 3) := by decide +kernel
theorem dX5_sortByHeight_24 : decode cX5_sortByHeight 24 = .ok (.iload_n 3, 1) := by decide +kernel
theorem dX5_sortByHeight_25 : decode cX5_sortByHeight 25 = .ok (.iconst 1, 1) := by decide +kernel
theorem dX5_sortByHeight_26 : decode cX5_sortByHeight 26 = .ok (.isub, 1) := by decide +kernel
theorem dX5_sortByHeight_27 : decode cX5_sortByHeight 27 = .ok (.iaload, 1) := by decide +kernel
theorem dX5_sortByHeight_28 : decode cX5_sortByHeight 28 = .ok (.iaload, 1) := by decide +kernel
theorem dX5_sortByHeight_29 : decode cX5_sortByHeight 29 = .ok (.aload_n 1, 1) := by decide +kernel
theorem dX5_sortByHeight_30 : decode cX5_sortByHeight 30 = .ok (.getfield 69, 3) := by decide +kernel
theorem dX5_sortByHeight_33 : decode cX5_sortByHeight 33 = .ok (.iload_n 2, 1) := by decide +kernel
theorem dX5_sortByHeight_34 : decode cX5_sortByHeight 34 = .ok (.iaload, 1) := by decide +kernel
theorem dX5_sortByHeight_35 : decode cX5_sortByHeight 35 = .ok (.if_icmp .ge 23, 3) := by decide +kernel
theorem dX5_sortByHeight_38 : decode cX5_sortByHeight 38 = .ok (.aload_n 0, 1) := by decide +kernel
theorem dX5_sortByHeight_39 : decode cX5_sortByHeight 39 = .ok (.getfield 9, 3) := by decide +kernel
theorem dX5_sortByHeight_42 : decode cX5_sortByHeight 42 = .ok (.iload_n 3, 1) := by decide +kernel
theorem dX5_sortByHeight_43 : decode cX5_sortByHeight 43 = .ok (.aload_n 0, 1) := by decide +kernel
theorem dX5_sortByHeight_44 : decode cX5_sortByHeight 44 = .ok (.getfield 9, 3) := by decide +kernel
theorem dX5_sortByHeight_47 : decode cX5_sortByHeight 47 = .ok (.iload_n 3, 1) := by decide +kernel
theorem dX5_sortByHeight_48 : decode cX5_sortByHeight 48 = .ok (.iconst 1, 1) := by decide +kernel
theorem dX5_sortByHeight_49 : decode cX5_sortByHeight 49 = .ok (.isub, 1) := by decide +kernel
theorem dX5_sortByHeight_50 : decode cX5_sortByHeight 50 = .ok (.iaload, 1) := by decide +kernel
theorem dX5_sortByHeight_51 : decode cX5_sortByHeight 51 = .ok (.iastore, 1) := by decide +kernel
theorem dX5_sortByHeight_52 : decode cX5_sortByHeight 52 = .ok (.iinc 3 (-1), 3) := by decide +kernel
theorem dX5_sortByHeight_55 : decode cX5_sortByHeight 55 = .ok (.goto (-43), 3) := by decide +kernel
theorem dX5_sortByHeight_58 : decode cX5_sortByHeight 58 = .ok (.aload_n 0, 1) := by decide +kernel
theorem dX5_sortByHeight_59 : decode cX5_sortByHeight 59 = .ok (.getfield 9, 3) := by decide +kernel
theorem dX5_sortByHeight_62 : decode cX5_sortByHeight 62 = .ok (.iload_n 3, 1) := by decide +kernel
theorem dX5_sortByHeight_63 : decode cX5_sortByHeight 63 = .ok (.iload_n 2, 1) := by decide +kernel
theorem dX5_sortByHeight_64 : decode cX5_sortByHeight 64 = .ok (.iastore, 1) := by decide +kernel
theorem dX5_sortByHeight_65 : decode cX5_sortByHeight 65 = .ok (.iinc 2 1, 3) := by decide +kernel
theorem dX5_sortByHeight_68 : decode cX5_sortByHeight 68 = .ok (.goto (-66), 3) := by decide +kernel
theorem dX5_sortByHeight_71 : decode cX5_sortByHeight 71 = .ok (.return_, 1) := by decide +kernel
theorem dX5_come_0 : decode cX5_come 0 = .ok (.iload_n 2, 1) := by decide +kernel
theorem dX5_come_1 : decode cX5_come 1 = .ok (.ifCond .le 14, 3) := by decide +kernel
theorem dX5_come_4 : decode cX5_come 4 = .ok (.aload_n 0, 1) := by decide +kernel
theorem dX5_come_5 : decode cX5_come 5 = .ok (.getfield 15, 3) := by decide +kernel
theorem dX5_come_8 : decode cX5_come 8 = .ok (.iload_n 2, 1) := by decide +kernel
theorem dX5_come_9 : decode cX5_come 9 = .ok (.iconst 1, 1) := by decide +kernel
theorem dX5_come_10 : decode cX5_come 10 = .ok (.isub, 1) := by decide +kernel
theorem dX5_come_11 : decode cX5_come 11 = .ok (.iaload, 1) := by decide +kernel
theorem dX5_come_12 : decode cX5_come 12 = .ok (.goto 4, 3) := by decide +kernel
theorem dX5_come_15 : decode cX5_come 15 = .ok (.iconst (-1), 1) := by decide +kernel
theorem dX5_come_16 : decode cX5_come 16 = .ok (.istore_n 3, 1) := by decide +kernel
theorem dX5_come_17 : decode cX5_come 17 = .ok (.iload_n 2, 1) := by decide +kernel
theorem dX5_come_18 : decode cX5_come 18 = .ok (.iconst 1, 1) := by decide +kernel
theorem dX5_come_19 : decode cX5_come 19 = .ok (.iadd, 1) := by decide +kernel
theorem dX5_come_20 : decode cX5_come 20 = .ok (.aload_n 1, 1) := by decide +kernel
theorem dX5_come_21 : decode cX5_come 21 = .ok (.getfield 58, 3) := by decide +kernel
theorem dX5_come_24 : decode cX5_come 24 = .ok (.if_icmp .ge 14, 3) := by decide +kernel
theorem dX5_come_27 : decode cX5_come 27 = .ok (.aload_n 0, 1) := by decide +kernel
theorem dX5_come_28 : decode cX5_come 28 = .ok (.getfield 15, 3) := by decide +kernel
theorem dX5_come_31 : decode cX5_come 31 = .ok (.iload_n 2, 1) := by decide +kernel
theorem dX5_come_32 : decode cX5_come 32 = .ok (.iconst 1, 1) := by decide +kernel
theorem dX5_come_33 : decode cX5_come 33 = .ok (.iadd, 1) := by decide +kernel
theorem dX5_come_34 : decode cX5_come 34 = .ok (.iaload, 1) := by decide +kernel
theorem dX5_come_35 : decode cX5_come 35 = .ok (.goto 4, 3) := by decide +kernel
theorem dX5_come_38 : decode cX5_come 38 = .ok (.iconst (-1), 1) := by decide +kernel
theorem dX5_come_39 : decode cX5_come 39 = .ok (.istore 4, 2) := by decide +kernel
theorem dX5_come_41 : decode cX5_come 41 = .ok (.iload_n 3, 1) := by decide +kernel
theorem dX5_come_42 : decode cX5_come 42 = .ok (.iconst (-1), 1) := by decide +kernel
theorem dX5_come_43 : decode cX5_come 43 = .ok (.if_icmp .ne 23, 3) := by decide +kernel
theorem dX5_come_46 : decode cX5_come 46 = .ok (.iload 4, 2) := by decide +kernel
theorem dX5_come_48 : decode cX5_come 48 = .ok (.iconst (-1), 1) := by decide +kernel
theorem dX5_come_49 : decode cX5_come 49 = .ok (.if_icmp .ne 17, 3) := by decide +kernel
theorem dX5_come_52 : decode cX5_come 52 = .ok (.aload_n 0, 1) := by decide +kernel
theorem dX5_come_53 : decode cX5_come 53 = .ok (.iload_n 2, 1) := by decide +kernel
theorem dX5_come_54 : decode cX5_come 54 = .ok (.aload_n 1, 1) := by decide +kernel
theorem dX5_come_55 : decode cX5_come 55 = .ok (.getfield 69, 3) := by decide +kernel
theorem dX5_come_58 : decode cX5_come 58 = .ok (.iload_n 2, 1) := by decide +kernel
theorem dX5_come_59 : decode cX5_come 59 = .ok (.iaload, 1) := by decide +kernel
theorem dX5_come_60 : decode cX5_come 60 = .ok (.invokevirtual 85, 3) := by decide +kernel
theorem dX5_come_63 : decode cX5_come 63 = .ok (.goto 64, 3) := by decide +kernel
theorem dX5_come_66 : decode cX5_come 66 = .ok (.iload 4, 2) := by decide +kernel
theorem dX5_come_68 : decode cX5_come 68 = .ok (.iconst (-1), 1) := by decide +kernel
theorem dX5_come_69 : decode cX5_come 69 = .ok (.if_icmp .ne 20, 3) := by decide +kernel
theorem dX5_come_72 : decode cX5_come 72 = .ok (.aload_n 0, 1) := by decide +kernel
theorem dX5_come_73 : decode cX5_come 73 = .ok (.getfield 21, 3) := by decide +kernel
theorem dX5_come_76 : decode cX5_come 76 = .ok (.iload_n 3, 1) := by decide +kernel
theorem dX5_come_77 : decode cX5_come 77 = .ok (.iload_n 2, 1) := by decide +kernel
theorem dX5_come_78 : decode cX5_come 78 = .ok (.iastore, 1) := by decide +kernel
theorem dX5_come_79 : decode cX5_come 79 = .ok (.aload_n 0, 1) := by decide +kernel
theorem dX5_come_80 : decode cX5_come 80 = .ok (.getfield 15, 3) := by decide +kernel
theorem dX5_come_83 : decode cX5_come 83 = .ok (.iload_n 2, 1) := by decide +kernel
theorem dX5_come_84 : decode cX5_come 84 = .ok (.iload_n 3, 1) := by decide +kernel
theorem dX5_come_85 : decode cX5_come 85 = .ok (.iastore, 1) := by decide +kernel
theorem dX5_come_86 : decode cX5_come 86 = .ok (.goto 41, 3) := by decide +kernel
theorem dX5_come_89 : decode cX5_come 89 = .ok (.iload_n 3, 1) := by decide +kernel
theorem dX5_come_90 : decode cX5_come 90 = .ok (.iconst (-1), 1) := by decide +kernel
theorem dX5_come_91 : decode cX5_come 91 = .ok (.if_icmp .ne 22, 3) := by decide +kernel
theorem dX5_come_94 : decode cX5_come 94 = .ok (.aload_n 0, 1) := by decide +kernel
theorem dX5_come_95 : decode cX5_come 95 = .ok (.getfield 18, 3) := by decide +kernel
theorem dX5_come_98 : decode cX5_come 98 = .ok (.iload 4, 2) := by decide +kernel
theorem dX5_come_100 : decode cX5_come 100 = .ok (.iload_n 2, 1) := by decide +kernel
theorem dX5_come_101 : decode cX5_come 101 = .ok (.iastore, 1) := by decide +kernel
theorem dX5_come_102 : decode cX5_come 102 = .ok (.aload_n 0, 1) := by decide +kernel
theorem dX5_come_103 : decode cX5_come 103 = .ok (.getfield 15, 3) := by decide +kernel
theorem dX5_come_106 : decode cX5_come 106 = .ok (.iload_n 2, 1) := by decide +kernel
theorem dX5_come_107 : decode cX5_come 107 = .ok (.iload 4, 2) := by decide +kernel
theorem dX5_come_109 : decode cX5_come 109 = .ok (.iastore, 1) := by decide +kernel
theorem dX5_come_110 : decode cX5_come 110 = .ok (.goto 17, 3) := by decide +kernel
theorem dX5_come_113 : decode cX5_come 113 = .ok (.aload_n 0, 1) := by decide +kernel
theorem dX5_come_114 : decode cX5_come 114 = .ok (.iload_n 3, 1) := by decide +kernel
theorem dX5_come_115 : decode cX5_come 115 = .ok (.iload 4, 2) := by decide +kernel
theorem dX5_come_117 : decode cX5_come 117 = .ok (.iload_n 2, 1) := by decide +kernel
theorem dX5_come_118 : decode cX5_come 118 = .ok (.aload_n 1, 1) := by decide +kernel
theorem dX5_come_119 : decode cX5_come 119 = .ok (.getfield 69, 3) := by decide +kernel
theorem dX5_come_122 : decode cX5_come 122 = .ok (.iload_n 2, 1) := by decide +kernel
theorem dX5_come_123 : decode cX5_come 123 = .ok (.iaload, 1) := by decide +kernel
theorem dX5_come_124 : decode cX5_come 124 = .ok (.invokevirtual 89, 3) := by decide +kernel
theorem dX5_come_127 : decode cX5_come 127 = .ok (.return_, 1) := by decide +kernel
theorem dX5_begin_0 : decode cX5_begin 0 = .ok (.aload_n 0, 1) := by decide +kernel
theorem dX5_begin_1 : decode cX5_begin 1 = .ok (.getfield 24, 3) := by decide +kernel
theorem dX5_begin_4 : decode cX5_begin 4 = .ok (.aload_n 0, 1) := by decide +kernel
theorem dX5_begin_5 : decode cX5_begin 5 = .ok (.getfield 51, 3) := by decide +kernel
theorem dX5_begin_8 : decode cX5_begin 8 = .ok (.iload_n 1, 1) := by decide +kernel
theorem dX5_begin_9 : decode cX5_begin 9 = .ok (.iastore, 1) := by decide +kernel
theorem dX5_begin_10 : decode cX5_begin 10 = .ok (.aload_n 0, 1) := by decide +kernel
theorem dX5_begin_11 : decode cX5_begin 11 = .ok (.getfield 27, 3) := by decide +kernel
theorem dX5_begin_14 : decode cX5_begin 14 = .ok (.aload_n 0, 1) := by decide +kernel
theorem dX5_begin_15 : decode cX5_begin 15 = .ok (.getfield 51, 3) := by decide +kernel
theorem dX5_begin_18 : decode cX5_begin 18 = .ok (.iload_n 2, 1) := by decide +kernel
theorem dX5_begin_19 : decode cX5_begin 19 = .ok (.iastore, 1) := by decide +kernel
theorem dX5_begin_20 : decode cX5_begin 20 = .ok (.aload_n 0, 1) := by decide +kernel
theorem dX5_begin_21 : decode cX5_begin 21 = .ok (.getfield 30, 3) := by decide +kernel
theorem dX5_begin_24 : decode cX5_begin 24 = .ok (.aload_n 0, 1) := by decide +kernel
theorem dX5_begin_25 : decode cX5_begin 25 = .ok (.getfield 51, 3) := by decide +kernel
theorem dX5_begin_28 : decode cX5_begin 28 = .ok (.iconst (-1), 1) := by decide +kernel
theorem dX5_begin_29 : decode cX5_begin 29 = .ok (.iastore, 1) := by decide +kernel
theorem dX5_begin_30 : decode cX5_begin 30 = .ok (.aload_n 0, 1) := by decide +kernel
theorem dX5_begin_31 : decode cX5_begin 31 = .ok (.getfield 36, 3) := by decide +kernel
theorem dX5_begin_34 : decode cX5_begin 34 = .ok (.aload_n 0, 1) := by decide +kernel
theorem dX5_begin_35 : decode cX5_begin 35 = .ok (.getfield 51, 3) := by decide +kernel
theorem dX5_begin_38 : decode cX5_begin 38 = .ok (.iconst (-1), 1) := by decide +kernel
theorem dX5_begin_39 : decode cX5_begin 39 = .ok (.iastore, 1) := by decide +kernel
theorem dX5_begin_40 : decode cX5_begin 40 = .ok (.aload_n 0, 1) := by decide +kernel
theorem dX5_begin_41 : decode cX5_begin 41 = .ok (.getfield 18, 3) := by decide +kernel
theorem dX5_begin_44 : decode cX5_begin 44 = .ok (.aload_n 0, 1) := by decide +kernel
theorem dX5_begin_45 : decode cX5_begin 45 = .ok (.getfield 51, 3) := by decide +kernel
theorem dX5_begin_48 : decode cX5_begin 48 = .ok (.iload_n 1, 1) := by decide +kernel
theorem dX5_begin_49 : decode cX5_begin 49 = .ok (.iastore, 1) := by decide +kernel
theorem dX5_begin_50 : decode cX5_begin 50 = .ok (.aload_n 0, 1) := by decide +kernel
theorem dX5_begin_51 : decode cX5_begin 51 = .ok (.getfield 21, 3) := by decide +kernel
theorem dX5_begin_54 : decode cX5_begin 54 = .ok (.aload_n 0, 1) := by decide +kernel
theorem dX5_begin_55 : decode cX5_begin 55 = .ok (.getfield 51, 3) := by decide +kernel
theorem dX5_begin_58 : decode cX5_begin 58 = .ok (.iload_n 1, 1) := by decide +kernel
theorem dX5_begin_59 : decode cX5_begin 59 = .ok (.iastore, 1) := by decide +kernel
theorem dX5_begin_60 : decode cX5_begin 60 = .ok (.aload_n 0, 1) := by decide +kernel
theorem dX5_begin_61 : decode cX5_begin 61 = .ok (.getfield 15, 3) := by decide +kernel
theorem dX5_begin_64 : decode cX5_begin 64 = .ok (.iload_n 1, 1) := by decide +kernel
theorem dX5_begin_65 : decode cX5_begin 65 = .ok (.aload_n 0, 1) := by decide +kernel
theorem dX5_begin_66 : decode cX5_begin 66 = .ok (.getfield 51, 3) := by decide +kernel
theorem dX5_begin_69 : decode cX5_begin 69 = .ok (.iastore, 1) := by decide +kernel
theorem dX5_begin_70 : decode cX5_begin 70 = .ok (.aload_n 0, 1) := by decide +kernel
theorem dX5_begin_71 : decode cX5_begin 71 = .ok (.dup, 1) := by decide +kernel
theorem dX5_begin_72 : decode cX5_begin 72 = .ok (.getfield 51, 3) := by decide +kernel
theorem dX5_begin_75 : decode cX5_begin 75 = .ok (.iconst 1, 1) := by decide +kernel
theorem dX5_begin_76 : decode cX5_begin 76 = .ok (.iadd, 1) := by decide +kernel
theorem dX5_begin_77 : decode cX5_begin 77 = .ok (.putfield 51, 3) := by decide +kernel
theorem dX5_begin_80 : decode cX5_begin 80 = .ok (.return_, 1) := by decide +kernel
theorem dX5_join_0 : decode cX5_join 0 = .ok (.iload_n 1, 1) := by decide +kernel
theorem dX5_join_1 : decode cX5_join 1 = .ok (.iload_n 2, 1) := by decide +kernel
theorem dX5_join_2 : decode cX5_join 2 = .ok (.invokestatic 93, 3) := by decide +kernel
theorem dX5_join_5 : decode cX5_join 5 = .ok (.istore 5, 2) := by decide +kernel
theorem dX5_join_7 : decode cX5_join 7 = .ok (.iload_n 1, 1) := by decide +kernel
theorem dX5_join_8 : decode cX5_join 8 = .ok (.iload_n 2, 1) := by decide +kernel
theorem dX5_join_9 : decode cX5_join 9 = .ok (.invokestatic 99, 3) := by decide +kernel
theorem dX5_join_12 : decode cX5_join 12 = .ok (.istore 6, 2) := by decide +kernel
theorem dX5_join_14 : decode cX5_join 14 = .ok (.aload_n 0, 1) := by decide +kernel
theorem dX5_join_15 : decode cX5_join 15 = .ok (.getfield 30, 3) := by decide +kernel
theorem dX5_join_18 : decode cX5_join 18 = .ok (.iload 6, 2) := by decide +kernel
theorem dX5_join_20 : decode cX5_join 20 = .ok (.iload_n 3, 1) := by decide +kernel
theorem dX5_join_21 : decode cX5_join 21 = .ok (.iastore, 1) := by decide +kernel
theorem dX5_join_22 : decode cX5_join 22 = .ok (.aload_n 0, 1) := by decide +kernel
theorem dX5_join_23 : decode cX5_join 23 = .ok (.getfield 33, 3) := by decide +kernel
theorem dX5_join_26 : decode cX5_join 26 = .ok (.iload 6, 2) := by decide +kernel
theorem dX5_join_28 : decode cX5_join 28 = .ok (.iload 4, 2) := by decide +kernel
theorem dX5_join_30 : decode cX5_join 30 = .ok (.iastore, 1) := by decide +kernel
theorem dX5_join_31 : decode cX5_join 31 = .ok (.aload_n 0, 1) := by decide +kernel
theorem dX5_join_32 : decode cX5_join 32 = .ok (.getfield 36, 3) := by decide +kernel
theorem dX5_join_35 : decode cX5_join 35 = .ok (.iload 6, 2) := by decide +kernel
theorem dX5_join_37 : decode cX5_join 37 = .ok (.iload 5, 2) := by decide +kernel
theorem dX5_join_39 : decode cX5_join 39 = .ok (.iastore, 1) := by decide +kernel
theorem dX5_join_40 : decode cX5_join 40 = .ok (.aload_n 0, 1) := by decide +kernel
theorem dX5_join_41 : decode cX5_join 41 = .ok (.getfield 18, 3) := by decide +kernel
theorem dX5_join_44 : decode cX5_join 44 = .ok (.iload 5, 2) := by decide +kernel
theorem dX5_join_46 : decode cX5_join 46 = .ok (.aload_n 0, 1) := by decide +kernel
theorem dX5_join_47 : decode cX5_join 47 = .ok (.getfield 18, 3) := by decide +kernel
theorem dX5_join_50 : decode cX5_join 50 = .ok (.iload_n 1, 1) := by decide +kernel
theorem dX5_join_51 : decode cX5_join 51 = .ok (.iaload, 1) := by decide +kernel
theorem dX5_join_52 : decode cX5_join 52 = .ok (.iastore, 1) := by decide +kernel
theorem dX5_join_53 : decode cX5_join 53 = .ok (.aload_n 0, 1) := by decide +kernel
theorem dX5_join_54 : decode cX5_join 54 = .ok (.getfield 21, 3) := by decide +kernel
theorem dX5_join_57 : decode cX5_join 57 = .ok (.iload 5, 2) := by decide +kernel
theorem dX5_join_59 : decode cX5_join 59 = .ok (.aload_n 0, 1) := by decide +kernel
theorem dX5_join_60 : decode cX5_join 60 = .ok (.getfield 21, 3) := by decide +kernel
theorem dX5_join_63 : decode cX5_join 63 = .ok (.iload_n 2, 1) := by decide +kernel
theorem dX5_join_64 : decode cX5_join 64 = .ok (.iaload, 1) := by decide +kernel
theorem dX5_join_65 : decode cX5_join 65 = .ok (.iastore, 1) := by decide +kernel
theorem dX5_join_66 : decode cX5_join 66 = .ok (.aload_n 0, 1) := by decide +kernel
theorem dX5_join_67 : decode cX5_join 67 = .ok (.getfield 15, 3) := by decide +kernel
theorem dX5_join_70 : decode cX5_join 70 = .ok (.iload_n 3, 1) := by decide +kernel
theorem dX5_join_71 : decode cX5_join 71 = .ok (.iload 5, 2) := by decide +kernel
theorem dX5_join_73 : decode cX5_join 73 = .ok (.iastore, 1) := by decide +kernel
theorem dX5_join_74 : decode cX5_join 74 = .ok (.aload_n 0, 1) := by decide +kernel
theorem dX5_join_75 : decode cX5_join 75 = .ok (.getfield 15, 3) := by decide +kernel
theorem dX5_join_78 : decode cX5_join 78 = .ok (.aload_n 0, 1) := by decide +kernel
theorem dX5_join_79 : decode cX5_join 79 = .ok (.getfield 18, 3) := by decide +kernel
theorem dX5_join_82 : decode cX5_join 82 = .ok (.iload 5, 2) := by decide +kernel
theorem dX5_join_84 : decode cX5_join 84 = .ok (.iaload, 1) := by decide +kernel
theorem dX5_join_85 : decode cX5_join 85 = .ok (.iload 5, 2) := by decide +kernel
theorem dX5_join_87 : decode cX5_join 87 = .ok (.iastore, 1) := by decide +kernel
theorem dX5_join_88 : decode cX5_join 88 = .ok (.aload_n 0, 1) := by decide +kernel
theorem dX5_join_89 : decode cX5_join 89 = .ok (.getfield 15, 3) := by decide +kernel
theorem dX5_join_92 : decode cX5_join 92 = .ok (.aload_n 0, 1) := by decide +kernel
theorem dX5_join_93 : decode cX5_join 93 = .ok (.getfield 21, 3) := by decide +kernel
theorem dX5_join_96 : decode cX5_join 96 = .ok (.iload 5, 2) := by decide +kernel
theorem dX5_join_98 : decode cX5_join 98 = .ok (.iaload, 1) := by decide +kernel
theorem dX5_join_99 : decode cX5_join 99 = .ok (.iload 5, 2) := by decide +kernel
theorem dX5_join_101 : decode cX5_join 101 = .ok (.iastore, 1) := by decide +kernel
theorem dX5_join_102 : decode cX5_join 102 = .ok (.return_, 1) := by decide +kernel
theorem dX5_tellGenerations_0 : decode cX5_tellGenerations 0 = .ok (.aload_n 0, 1) := by decide +kernel
theorem dX5_tellGenerations_1 : decode cX5_tellGenerations 1 = .ok (.getfield 39, 3) := by decide +kernel
theorem dX5_tellGenerations_4 : decode cX5_tellGenerations 4 = .ok (.iconst 0, 1) := by decide +kernel
theorem dX5_tellGenerations_5 : decode cX5_tellGenerations 5 = .ok (.iconst 0, 1) := by decide +kernel
theorem dX5_tellGenerations_6 : decode cX5_tellGenerations 6 = .ok (.iastore, 1) := by decide +kernel
theorem dX5_tellGenerations_7 : decode cX5_tellGenerations 7 = .ok (.iconst 1, 1) := by decide +kernel
theorem dX5_tellGenerations_8 : decode cX5_tellGenerations 8 = .ok (.istore_n 1, 1) := by decide +kernel
theorem dX5_tellGenerations_9 : decode cX5_tellGenerations 9 = .ok (.iload_n 1, 1) := by decide +kernel
theorem dX5_tellGenerations_10 : decode cX5_tellGenerations 10 = .ok (.aload_n 0, 1) := by decide +kernel
theorem dX5_tellGenerations_11 : decode cX5_tellGenerations 11 = .ok (.getfield 51, 3) := by decide +kernel
theorem dX5_tellGenerations_14 : decode cX5_tellGenerations 14 = .ok (.if_icmp .ge 43, 3) := by decide +kernel
theorem dX5_tellGenerations_17 : decode cX5_tellGenerations 17 = .ok (.aload_n 0, 1) := by decide +kernel
theorem dX5_tellGenerations_18 : decode cX5_tellGenerations 18 = .ok (.getfield 36, 3) := by decide +kernel
theorem dX5_tellGenerations_21 : decode cX5_tellGenerations 21 = .ok (.iload_n 1, 1) := by decide +kernel
theorem dX5_tellGenerations_22 : decode cX5_tellGenerations 22 = .ok (.iaload, 1) := by decide +kernel
theorem dX5_tellGenerations_23 : decode cX5_tellGenerations 23 = .ok (.istore_n 2, 1) := by decide +kernel
theorem dX5_tellGenerations_24 : decode cX5_tellGenerations 24 = .ok (.aload_n 0, 1) := by decide +kernel
theorem dX5_tellGenerations_25 : decode cX5_tellGenerations 25 = .ok (.getfield 39, 3) := by decide +kernel
theorem dX5_tellGenerations_28 : decode cX5_tellGenerations 28 = .ok (.iload_n 1, 1) := by decide +kernel
theorem dX5_tellGenerations_29 : decode cX5_tellGenerations 29 = .ok (.iload_n 2, 1) := by decide +kernel
theorem dX5_tellGenerations_30 : decode cX5_tellGenerations 30 = .ok (.ifCond .lt 19, 3) := by decide +kernel
theorem dX5_tellGenerations_33 : decode cX5_tellGenerations 33 = .ok (.iload_n 2, 1) := by decide +kernel
theorem dX5_tellGenerations_34 : decode cX5_tellGenerations 34 = .ok (.iload_n 1, 1) := by decide +kernel
theorem dX5_tellGenerations_35 : decode cX5_tellGenerations 35 = .ok (.if_icmp .ge 14, 3) := by decide +kernel
theorem dX5_tellGenerations_38 : decode cX5_tellGenerations 38 = .ok (.aload_n 0, 1) := by decide +kernel
theorem dX5_tellGenerations_39 : decode cX5_tellGenerations 39 = .ok (.getfield 39, 3) := by decide +kernel
theorem dX5_tellGenerations_42 : decode cX5_tellGenerations 42 = .ok (.iload_n 2, 1) := by decide +kernel
theorem dX5_tellGenerations_43 : decode cX5_tellGenerations 43 = .ok (.iaload, 1) := by decide +kernel
theorem dX5_tellGenerations_44 : decode cX5_tellGenerations 44 = .ok (.iconst 1, 1) := by decide +kernel
theorem dX5_tellGenerations_45 : decode cX5_tellGenerations 45 = .ok (.iadd, 1) := by decide +kernel
theorem dX5_tellGenerations_46 : decode cX5_tellGenerations 46 = .ok (.goto 4, 3) := by decide +kernel
theorem dX5_tellGenerations_49 : decode cX5_tellGenerations 49 = .ok (.iconst 1, 1) := by decide +kernel
theorem dX5_tellGenerations_50 : decode cX5_tellGenerations 50 = .ok (.iastore, 1) := by decide +kernel
theorem dX5_tellGenerations_51 : decode cX5_tellGenerations 51 = .ok (.iinc 1 1, 3) := by decide +kernel
theorem dX5_tellGenerations_54 : decode cX5_tellGenerations 54 = .ok (.goto (-45), 3) := by decide +kernel
theorem dX5_tellGenerations_57 : decode cX5_tellGenerations 57 = .ok (.return_, 1) := by decide +kernel
theorem dX5_giveNumbers_0 : decode cX5_giveNumbers 0 = .ok (.aload_n 0, 1) := by decide +kernel
theorem dX5_giveNumbers_1 : decode cX5_giveNumbers 1 = .ok (.getfield 42, 3) := by decide +kernel
theorem dX5_giveNumbers_4 : decode cX5_giveNumbers 4 = .ok (.iconst 0, 1) := by decide +kernel
theorem dX5_giveNumbers_5 : decode cX5_giveNumbers 5 = .ok (.iconst 0, 1) := by decide +kernel
theorem dX5_giveNumbers_6 : decode cX5_giveNumbers 6 = .ok (.iastore, 1) := by decide +kernel
theorem dX5_giveNumbers_7 : decode cX5_giveNumbers 7 = .ok (.iconst 1, 1) := by decide +kernel
theorem dX5_giveNumbers_8 : decode cX5_giveNumbers 8 = .ok (.istore_n 1, 1) := by decide +kernel
theorem dX5_giveNumbers_9 : decode cX5_giveNumbers 9 = .ok (.iload_n 1, 1) := by decide +kernel
theorem dX5_giveNumbers_10 : decode cX5_giveNumbers 10 = .ok (.aload_n 0, 1) := by decide +kernel
theorem dX5_giveNumbers_11 : decode cX5_giveNumbers 11 = .ok (.getfield 51, 3) := by decide +kernel
theorem dX5_giveNumbers_14 : decode cX5_giveNumbers 14 = .ok (.if_icmp .ge 59, 3) := by decide +kernel
theorem dX5_giveNumbers_17 : decode cX5_giveNumbers 17 = .ok (.iload_n 1, 1) := by decide +kernel
theorem dX5_giveNumbers_18 : decode cX5_giveNumbers 18 = .ok (.istore_n 2, 1) := by decide +kernel
theorem dX5_giveNumbers_19 : decode cX5_giveNumbers 19 = .ok (.iload_n 2, 1) := by decide +kernel
theorem dX5_giveNumbers_20 : decode cX5_giveNumbers 20 = .ok (.iconst 1, 1) := by decide +kernel
theorem dX5_giveNumbers_21 : decode cX5_giveNumbers 21 = .ok (.if_icmp .le 39, 3) := by decide +kernel
theorem dX5_giveNumbers_24 : decode cX5_giveNumbers 24 = .ok (.aload_n 0, 1) := by decide +kernel
theorem dX5_giveNumbers_25 : decode cX5_giveNumbers 25 = .ok (.iload_n 1, 1) := by decide +kernel
theorem dX5_giveNumbers_26 : decode cX5_giveNumbers 26 = .ok (.aload_n 0, 1) := by decide +kernel
theorem dX5_giveNumbers_27 : decode cX5_giveNumbers 27 = .ok (.getfield 42, 3) := by decide +kernel
theorem dX5_giveNumbers_30 : decode cX5_giveNumbers 30 = .ok (.iload_n 2, 1) := by decide +kernel
theorem dX5_giveNumbers_31 : decode cX5_giveNumbers 31 = .ok (.iconst 1, 1) := by decide +kernel
theorem dX5_giveNumbers_32 : decode cX5_giveNumbers 32 = .ok (.isub, 1) := by decide +kernel
theorem dX5_giveNumbers_33 : decode cX5_giveNumbers 33 = .ok (.iaload, 1) := by decide +kernel
theorem dX5_giveNumbers_34 : decode cX5_giveNumbers 34 = .ok (.invokevirtual 102, 3) := by decide +kernel
theorem dX5_giveNumbers_37 : decode cX5_giveNumbers 37 = .ok (.ifCond .eq 23, 3) := by decide +kernel
theorem dX5_giveNumbers_40 : decode cX5_giveNumbers 40 = .ok (.aload_n 0, 1) := by decide +kernel
theorem dX5_giveNumbers_41 : decode cX5_giveNumbers 41 = .ok (.getfield 42, 3) := by decide +kernel
theorem dX5_giveNumbers_44 : decode cX5_giveNumbers 44 = .ok (.iload_n 2, 1) := by decide +kernel
theorem dX5_giveNumbers_45 : decode cX5_giveNumbers 45 = .ok (.aload_n 0, 1) := by decide +kernel
theorem dX5_giveNumbers_46 : decode cX5_giveNumbers 46 = .ok (.getfield 42, 3) := by decide +kernel
theorem dX5_giveNumbers_49 : decode cX5_giveNumbers 49 = .ok (.iload_n 2, 1) := by decide +kernel
theorem dX5_giveNumbers_50 : decode cX5_giveNumbers 50 = .ok (.iconst 1, 1) := by decide +kernel
theorem dX5_giveNumbers_51 : decode cX5_giveNumbers 51 = .ok (.isub, 1) := by decide +kernel
theorem dX5_giveNumbers_52 : decode cX5_giveNumbers 52 = .ok (.iaload, 1) := by decide +kernel
theorem dX5_giveNumbers_53 : decode cX5_giveNumbers 53 = .ok (.iastore, 1) := by decide +kernel
theorem dX5_giveNumbers_54 : decode cX5_giveNumbers 54 = .ok (.iinc 2 (-1), 3) := by decide +kernel
theorem dX5_giveNumbers_57 : decode cX5_giveNumbers 57 = .ok (.goto (-38), 3) := by decide +kernel
theorem dX5_giveNumbers_60 : decode cX5_giveNumbers 60 = .ok (.aload_n 0, 1) := by decide +kernel
theorem dX5_giveNumbers_61 : decode cX5_giveNumbers 61 = .ok (.getfield 42, 3) := by decide +kernel
theorem dX5_giveNumbers_64 : decode cX5_giveNumbers 64 = .ok (.iload_n 2, 1) := by decide +kernel
theorem dX5_giveNumbers_65 : decode cX5_giveNumbers 65 = .ok (.iload_n 1, 1) := by decide +kernel
theorem dX5_giveNumbers_66 : decode cX5_giveNumbers 66 = .ok (.iastore, 1) := by decide +kernel
theorem dX5_giveNumbers_67 : decode cX5_giveNumbers 67 = .ok (.iinc 1 1, 3) := by decide +kernel
theorem dX5_giveNumbers_70 : decode cX5_giveNumbers 70 = .ok (.goto (-61), 3) := by decide +kernel
theorem dX5_giveNumbers_73 : decode cX5_giveNumbers 73 = .ok (.iconst 0, 1) := by decide +kernel
theorem dX5_giveNumbers_74 : decode cX5_giveNumbers 74 = .ok (.istore_n 1, 1) := by decide +kernel
theorem dX5_giveNumbers_75 : decode cX5_giveNumbers 75 = .ok (.iload_n 1, 1) := by decide +kernel
theorem dX5_giveNumbers_76 : decode cX5_giveNumbers 76 = .ok (.aload_n 0, 1) := by decide +kernel
theorem dX5_giveNumbers_77 : decode cX5_giveNumbers 77 = .ok (.getfield 51, 3) := by decide +kernel
theorem dX5_giveNumbers_80 : decode cX5_giveNumbers 80 = .ok (.if_icmp .ge 21, 3) := by decide +kernel
theorem dX5_giveNumbers_83 : decode cX5_giveNumbers 83 = .ok (.aload_n 0, 1) := by decide +kernel
theorem dX5_giveNumbers_84 : decode cX5_giveNumbers 84 = .ok (.getfield 45, 3) := by decide +kernel
theorem dX5_giveNumbers_87 : decode cX5_giveNumbers 87 = .ok (.aload_n 0, 1) := by decide +kernel
theorem dX5_giveNumbers_88 : decode cX5_giveNumbers 88 = .ok (.getfield 42, 3) := by decide +kernel
theorem dX5_giveNumbers_91 : decode cX5_giveNumbers 91 = .ok (.iload_n 1, 1) := by decide +kernel
theorem dX5_giveNumbers_92 : decode cX5_giveNumbers 92 = .ok (.iaload, 1) := by decide +kernel
theorem dX5_giveNumbers_93 : decode cX5_giveNumbers 93 = .ok (.iload_n 1, 1) := by decide +kernel
theorem dX5_giveNumbers_94 : decode cX5_giveNumbers 94 = .ok (.iastore, 1) := by decide +kernel
theorem dX5_giveNumbers_95 : decode cX5_giveNumbers 95 = .ok (.iinc 1 1, 3) := by decide +kernel
theorem dX5_giveNumbers_98 : decode cX5_giveNumbers 98 = .ok (.goto (-23), 3) := by decide +kernel
theorem dX5_giveNumbers_101 : decode cX5_giveNumbers 101 = .ok (.return_, 1) := by decide +kernel
theorem dX5_isAhead_0 : decode cX5_isAhead 0 = .ok (.aload_n 0, 1) := by decide +kernel
theorem dX5_isAhead_1 : decode cX5_isAhead 1 = .ok (.getfield 27, 3) := by decide +kernel
theorem dX5_isAhead_4 : decode cX5_isAhead 4 = .ok (.iload_n 1, 1) := by decide +kernel
theorem dX5_isAhead_5 : decode cX5_isAhead 5 = .ok (.iaload, 1) := by decide +kernel
theorem dX5_isAhead_6 : decode cX5_isAhead 6 = .ok (.aload_n 0, 1) := by decide +kernel
theorem dX5_isAhead_7 : decode cX5_isAhead 7 = .ok (.getfield 33, 3) := by decide +kernel
theorem dX5_isAhead_10 : decode cX5_isAhead 10 = .ok (.iload_n 1, 1) := by decide +kernel
theorem dX5_isAhead_11 : decode cX5_isAhead 11 = .ok (.iaload, 1) := by decide +kernel
theorem dX5_isAhead_12 : decode cX5_isAhead 12 = .ok (.isub, 1) := by decide +kernel
theorem dX5_isAhead_13 : decode cX5_isAhead 13 = .ok (.aload_n 0, 1) := by decide +kernel
theorem dX5_isAhead_14 : decode cX5_isAhead 14 = .ok (.getfield 27, 3) := by decide +kernel
theorem dX5_isAhead_17 : decode cX5_isAhead 17 = .ok (.iload_n 2, 1) := by decide +kernel
theorem dX5_isAhead_18 : decode cX5_isAhead 18 = .ok (.iaload, 1) := by decide +kernel
theorem dX5_isAhead_19 : decode cX5_isAhead 19 = .ok (.aload_n 0, 1) := by decide +kernel
theorem dX5_isAhead_20 : decode cX5_isAhead 20 = .ok (.getfield 33, 3) := by decide +kernel
theorem dX5_isAhead_23 : decode cX5_isAhead 23 = .ok (.iload_n 2, 1) := by decide +kernel
theorem dX5_isAhead_24 : decode cX5_isAhead 24 = .ok (.iaload, 1) := by decide +kernel
theorem dX5_isAhead_25 : decode cX5_isAhead 25 = .ok (.isub, 1) := by decide +kernel
theorem dX5_isAhead_26 : decode cX5_isAhead 26 = .ok (.isub, 1) := by decide +kernel
theorem dX5_isAhead_27 : decode cX5_isAhead 27 = .ok (.istore_n 3, 1) := by decide +kernel
theorem dX5_isAhead_28 : decode cX5_isAhead 28 = .ok (.iload_n 3, 1) := by decide +kernel
theorem dX5_isAhead_29 : decode cX5_isAhead 29 = .ok (.ifCond .gt 22, 3) := by decide +kernel
theorem dX5_isAhead_32 : decode cX5_isAhead 32 = .ok (.iload_n 3, 1) := by decide +kernel
theorem dX5_isAhead_33 : decode cX5_isAhead 33 = .ok (.ifCond .ne 22, 3) := by decide +kernel
theorem dX5_isAhead_36 : decode cX5_isAhead 36 = .ok (.aload_n 0, 1) := by decide +kernel
theorem dX5_isAhead_37 : decode cX5_isAhead 37 = .ok (.getfield 24, 3) := by decide +kernel
theorem dX5_isAhead_40 : decode cX5_isAhead 40 = .ok (.iload_n 1, 1) := by decide +kernel
theorem dX5_isAhead_41 : decode cX5_isAhead 41 = .ok (.iaload, 1) := by decide +kernel
theorem dX5_isAhead_42 : decode cX5_isAhead 42 = .ok (.aload_n 0, 1) := by decide +kernel
theorem dX5_isAhead_43 : decode cX5_isAhead 43 = .ok (.getfield 24, 3) := by decide +kernel
theorem dX5_isAhead_46 : decode cX5_isAhead 46 = .ok (.iload_n 2, 1) := by decide +kernel
theorem dX5_isAhead_47 : decode cX5_isAhead 47 = .ok (.iaload, 1) := by decide +kernel
theorem dX5_isAhead_48 : decode cX5_isAhead 48 = .ok (.if_icmp .ge 7, 3) := by decide +kernel
theorem dX5_isAhead_51 : decode cX5_isAhead 51 = .ok (.iconst 1, 1) := by decide +kernel
theorem dX5_isAhead_52 : decode cX5_isAhead 52 = .ok (.goto 4, 3) := by decide +kernel
theorem dX5_isAhead_55 : decode cX5_isAhead 55 = .ok (.iconst 0, 1) := by decide +kernel
theorem dX5_isAhead_56 : decode cX5_isAhead 56 = .ok (.ireturn, 1) := by decide +kernel
theorem dX5_placeOf_0 : decode cX5_placeOf 0 = .ok (.aload_n 0, 1) := by decide +kernel
theorem dX5_placeOf_1 : decode cX5_placeOf 1 = .ok (.getfield 24, 3) := by decide +kernel
theorem dX5_placeOf_4 : decode cX5_placeOf 4 = .ok (.aload_n 0, 1) := by decide +kernel
theorem dX5_placeOf_5 : decode cX5_placeOf 5 = .ok (.getfield 42, 3) := by decide +kernel
theorem dX5_placeOf_8 : decode cX5_placeOf 8 = .ok (.iload_n 1, 1) := by decide +kernel
theorem dX5_placeOf_9 : decode cX5_placeOf 9 = .ok (.iaload, 1) := by decide +kernel
theorem dX5_placeOf_10 : decode cX5_placeOf 10 = .ok (.iaload, 1) := by decide +kernel
theorem dX5_placeOf_11 : decode cX5_placeOf 11 = .ok (.ireturn, 1) := by decide +kernel
theorem dX5_heightOf_0 : decode cX5_heightOf 0 = .ok (.aload_n 0, 1) := by decide +kernel
theorem dX5_heightOf_1 : decode cX5_heightOf 1 = .ok (.getfield 27, 3) := by decide +kernel
theorem dX5_heightOf_4 : decode cX5_heightOf 4 = .ok (.aload_n 0, 1) := by decide +kernel
theorem dX5_heightOf_5 : decode cX5_heightOf 5 = .ok (.getfield 42, 3) := by decide +kernel
theorem dX5_heightOf_8 : decode cX5_heightOf 8 = .ok (.iload_n 1, 1) := by decide +kernel
theorem dX5_heightOf_9 : decode cX5_heightOf 9 = .ok (.iaload, 1) := by decide +kernel
theorem dX5_heightOf_10 : decode cX5_heightOf 10 = .ok (.iaload, 1) := by decide +kernel
theorem dX5_heightOf_11 : decode cX5_heightOf 11 = .ok (.ireturn, 1) := by decide +kernel
theorem dX5_valleyOf_0 : decode cX5_valleyOf 0 = .ok (.aload_n 0, 1) := by decide +kernel
theorem dX5_valleyOf_1 : decode cX5_valleyOf 1 = .ok (.getfield 30, 3) := by decide +kernel
theorem dX5_valleyOf_4 : decode cX5_valleyOf 4 = .ok (.aload_n 0, 1) := by decide +kernel
theorem dX5_valleyOf_5 : decode cX5_valleyOf 5 = .ok (.getfield 42, 3) := by decide +kernel
theorem dX5_valleyOf_8 : decode cX5_valleyOf 8 = .ok (.iload_n 1, 1) := by decide +kernel
theorem dX5_valleyOf_9 : decode cX5_valleyOf 9 = .ok (.iaload, 1) := by decide +kernel
theorem dX5_valleyOf_10 : decode cX5_valleyOf 10 = .ok (.iaload, 1) := by decide +kernel
theorem dX5_valleyOf_11 : decode cX5_valleyOf 11 = .ok (.ireturn, 1) := by decide +kernel
theorem dX5_deathOf_0 : decode cX5_deathOf 0 = .ok (.aload_n 0, 1) := by decide +kernel
theorem dX5_deathOf_1 : decode cX5_deathOf 1 = .ok (.getfield 33, 3) := by decide +kernel
theorem dX5_deathOf_4 : decode cX5_deathOf 4 = .ok (.aload_n 0, 1) := by decide +kernel
theorem dX5_deathOf_5 : decode cX5_deathOf 5 = .ok (.getfield 42, 3) := by decide +kernel
theorem dX5_deathOf_8 : decode cX5_deathOf 8 = .ok (.iload_n 1, 1) := by decide +kernel
theorem dX5_deathOf_9 : decode cX5_deathOf 9 = .ok (.iaload, 1) := by decide +kernel
theorem dX5_deathOf_10 : decode cX5_deathOf 10 = .ok (.iaload, 1) := by decide +kernel
theorem dX5_deathOf_11 : decode cX5_deathOf 11 = .ok (.ireturn, 1) := by decide +kernel
theorem dX5_persistenceOf_0 : decode cX5_persistenceOf 0 = .ok (.aload_n 0, 1) := by decide +kernel
theorem dX5_persistenceOf_1 : decode cX5_persistenceOf 1 = .ok (.iload_n 1, 1) := by decide +kernel
theorem dX5_persistenceOf_2 : decode cX5_persistenceOf 2 = .ok (.invokevirtual 106, 3) := by decide +kernel
theorem dX5_persistenceOf_5 : decode cX5_persistenceOf 5 = .ok (.aload_n 0, 1) := by decide +kernel
theorem dX5_persistenceOf_6 : decode cX5_persistenceOf 6 = .ok (.iload_n 1, 1) := by decide +kernel
theorem dX5_persistenceOf_7 : decode cX5_persistenceOf 7 = .ok (.invokevirtual 109, 3) := by decide +kernel
theorem dX5_persistenceOf_10 : decode cX5_persistenceOf 10 = .ok (.isub, 1) := by decide +kernel
theorem dX5_persistenceOf_11 : decode cX5_persistenceOf 11 = .ok (.ireturn, 1) := by decide +kernel
theorem dX5_parentOf_0 : decode cX5_parentOf 0 = .ok (.aload_n 0, 1) := by decide +kernel
theorem dX5_parentOf_1 : decode cX5_parentOf 1 = .ok (.getfield 36, 3) := by decide +kernel
theorem dX5_parentOf_4 : decode cX5_parentOf 4 = .ok (.aload_n 0, 1) := by decide +kernel
theorem dX5_parentOf_5 : decode cX5_parentOf 5 = .ok (.getfield 42, 3) := by decide +kernel
theorem dX5_parentOf_8 : decode cX5_parentOf 8 = .ok (.iload_n 1, 1) := by decide +kernel
theorem dX5_parentOf_9 : decode cX5_parentOf 9 = .ok (.iaload, 1) := by decide +kernel
theorem dX5_parentOf_10 : decode cX5_parentOf 10 = .ok (.iaload, 1) := by decide +kernel
theorem dX5_parentOf_11 : decode cX5_parentOf 11 = .ok (.istore_n 2, 1) := by decide +kernel
theorem dX5_parentOf_12 : decode cX5_parentOf 12 = .ok (.iload_n 2, 1) := by decide +kernel
theorem dX5_parentOf_13 : decode cX5_parentOf 13 = .ok (.iconst (-1), 1) := by decide +kernel
theorem dX5_parentOf_14 : decode cX5_parentOf 14 = .ok (.if_icmp .ne 7, 3) := by decide +kernel
theorem dX5_parentOf_17 : decode cX5_parentOf 17 = .ok (.iconst (-1), 1) := by decide +kernel
theorem dX5_parentOf_18 : decode cX5_parentOf 18 = .ok (.goto 9, 3) := by decide +kernel
theorem dX5_parentOf_21 : decode cX5_parentOf 21 = .ok (.aload_n 0, 1) := by decide +kernel
theorem dX5_parentOf_22 : decode cX5_parentOf 22 = .ok (.getfield 45, 3) := by decide +kernel
theorem dX5_parentOf_25 : decode cX5_parentOf 25 = .ok (.iload_n 2, 1) := by decide +kernel
theorem dX5_parentOf_26 : decode cX5_parentOf 26 = .ok (.iaload, 1) := by decide +kernel
theorem dX5_parentOf_27 : decode cX5_parentOf 27 = .ok (.ireturn, 1) := by decide +kernel
theorem dX5_generationOf_0 : decode cX5_generationOf 0 = .ok (.aload_n 0, 1) := by decide +kernel
theorem dX5_generationOf_1 : decode cX5_generationOf 1 = .ok (.getfield 39, 3) := by decide +kernel
theorem dX5_generationOf_4 : decode cX5_generationOf 4 = .ok (.aload_n 0, 1) := by decide +kernel
theorem dX5_generationOf_5 : decode cX5_generationOf 5 = .ok (.getfield 42, 3) := by decide +kernel
theorem dX5_generationOf_8 : decode cX5_generationOf 8 = .ok (.iload_n 1, 1) := by decide +kernel
theorem dX5_generationOf_9 : decode cX5_generationOf 9 = .ok (.iaload, 1) := by decide +kernel
theorem dX5_generationOf_10 : decode cX5_generationOf 10 = .ok (.iaload, 1) := by decide +kernel
theorem dX5_generationOf_11 : decode cX5_generationOf 11 = .ok (.ireturn, 1) := by decide +kernel
theorem dX5_sumOfPersistences_0 : decode cX5_sumOfPersistences 0 = .ok (.iconst 0, 1) := by decide +kernel
theorem dX5_sumOfPersistences_1 : decode cX5_sumOfPersistences 1 = .ok (.istore_n 2, 1) := by decide +kernel
theorem dX5_sumOfPersistences_2 : decode cX5_sumOfPersistences 2 = .ok (.iconst 0, 1) := by decide +kernel
theorem dX5_sumOfPersistences_3 : decode cX5_sumOfPersistences 3 = .ok (.istore_n 3, 1) := by decide +kernel
theorem dX5_sumOfPersistences_4 : decode cX5_sumOfPersistences 4 = .ok (.iload_n 3, 1) := by decide +kernel
theorem dX5_sumOfPersistences_5 : decode cX5_sumOfPersistences 5 = .ok (.iload_n 1, 1) := by decide +kernel
theorem dX5_sumOfPersistences_6 : decode cX5_sumOfPersistences 6 = .ok (.if_icmp .ge 17, 3) := by decide +kernel
theorem dX5_sumOfPersistences_9 : decode cX5_sumOfPersistences 9 = .ok (.iload_n 2, 1) := by decide +kernel
theorem dX5_sumOfPersistences_10 : decode cX5_sumOfPersistences 10 = .ok (.aload_n 0, 1) := by decide +kernel
theorem dX5_sumOfPersistences_11 : decode cX5_sumOfPersistences 11 = .ok (.iload_n 3, 1) := by decide +kernel
theorem dX5_sumOfPersistences_12 : decode cX5_sumOfPersistences 12 = .ok (.invokevirtual 78, 3) := by decide +kernel
theorem dX5_sumOfPersistences_15 : decode cX5_sumOfPersistences 15 = .ok (.iadd, 1) := by decide +kernel
theorem dX5_sumOfPersistences_16 : decode cX5_sumOfPersistences 16 = .ok (.istore_n 2, 1) := by decide +kernel
theorem dX5_sumOfPersistences_17 : decode cX5_sumOfPersistences 17 = .ok (.iinc 3 1, 3) := by decide +kernel
theorem dX5_sumOfPersistences_20 : decode cX5_sumOfPersistences 20 = .ok (.goto (-16), 3) := by decide +kernel
theorem dX5_sumOfPersistences_23 : decode cX5_sumOfPersistences 23 = .ok (.iload_n 2, 1) := by decide +kernel
theorem dX5_sumOfPersistences_24 : decode cX5_sumOfPersistences 24 = .ok (.ireturn, 1) := by decide +kernel
theorem dX5_beginningAt_0 : decode cX5_beginningAt 0 = .ok (.iconst 0, 1) := by decide +kernel
theorem dX5_beginningAt_1 : decode cX5_beginningAt 1 = .ok (.istore_n 2, 1) := by decide +kernel
theorem dX5_beginningAt_2 : decode cX5_beginningAt 2 = .ok (.iload_n 2, 1) := by decide +kernel
theorem dX5_beginningAt_3 : decode cX5_beginningAt 3 = .ok (.aload_n 0, 1) := by decide +kernel
theorem dX5_beginningAt_4 : decode cX5_beginningAt 4 = .ok (.getfield 51, 3) := by decide +kernel
theorem dX5_beginningAt_7 : decode cX5_beginningAt 7 = .ok (.if_icmp .ge 20, 3) := by decide +kernel
theorem dX5_beginningAt_10 : decode cX5_beginningAt 10 = .ok (.aload_n 0, 1) := by decide +kernel
theorem dX5_beginningAt_11 : decode cX5_beginningAt 11 = .ok (.iload_n 2, 1) := by decide +kernel
theorem dX5_beginningAt_12 : decode cX5_beginningAt 12 = .ok (.invokevirtual 112, 3) := by decide +kernel
theorem dX5_beginningAt_15 : decode cX5_beginningAt 15 = .ok (.iload_n 1, 1) := by decide +kernel
theorem dX5_beginningAt_16 : decode cX5_beginningAt 16 = .ok (.if_icmp .ne 5, 3) := by decide +kernel
theorem dX5_beginningAt_19 : decode cX5_beginningAt 19 = .ok (.iload_n 2, 1) := by decide +kernel
theorem dX5_beginningAt_20 : decode cX5_beginningAt 20 = .ok (.ireturn, 1) := by decide +kernel
theorem dX5_beginningAt_21 : decode cX5_beginningAt 21 = .ok (.iinc 2 1, 3) := by decide +kernel
theorem dX5_beginningAt_24 : decode cX5_beginningAt 24 = .ok (.goto (-22), 3) := by decide +kernel
theorem dX5_beginningAt_27 : decode cX5_beginningAt 27 = .ok (.iconst (-1), 1) := by decide +kernel
theorem dX5_beginningAt_28 : decode cX5_beginningAt 28 = .ok (.ireturn, 1) := by decide +kernel
theorem dX5_basinStart_0 : decode cX5_basinStart 0 = .ok (.aload_n 0, 1) := by decide +kernel
theorem dX5_basinStart_1 : decode cX5_basinStart 1 = .ok (.iload_n 2, 1) := by decide +kernel
theorem dX5_basinStart_2 : decode cX5_basinStart 2 = .ok (.invokevirtual 112, 3) := by decide +kernel
theorem dX5_basinStart_5 : decode cX5_basinStart 5 = .ok (.istore_n 3, 1) := by decide +kernel
theorem dX5_basinStart_6 : decode cX5_basinStart 6 = .ok (.iconst (-1), 1) := by decide +kernel
theorem dX5_basinStart_7 : decode cX5_basinStart 7 = .ok (.istore 4, 2) := by decide +kernel
theorem dX5_basinStart_9 : decode cX5_basinStart 9 = .ok (.iconst 0, 1) := by decide +kernel
theorem dX5_basinStart_10 : decode cX5_basinStart 10 = .ok (.istore 5, 2) := by decide +kernel
theorem dX5_basinStart_12 : decode cX5_basinStart 12 = .ok (.iload 5, 2) := by decide +kernel
theorem dX5_basinStart_14 : decode cX5_basinStart 14 = .ok (.aload_n 0, 1) := by decide +kernel
theorem dX5_basinStart_15 : decode cX5_basinStart 15 = .ok (.getfield 55, 3) := by decide +kernel
theorem dX5_basinStart_18 : decode cX5_basinStart 18 = .ok (.if_icmp .ge 34, 3) := by decide +kernel
theorem dX5_basinStart_21 : decode cX5_basinStart 21 = .ok (.aload_n 0, 1) := by decide +kernel
theorem dX5_basinStart_22 : decode cX5_basinStart 22 = .ok (.iload 5, 2) := by decide +kernel
theorem dX5_basinStart_24 : decode cX5_basinStart 24 = .ok (.invokevirtual 112, 3) := by decide +kernel
theorem dX5_basinStart_27 : decode cX5_basinStart 27 = .ok (.istore 6, 2) := by decide +kernel
theorem dX5_basinStart_29 : decode cX5_basinStart 29 = .ok (.iload 6, 2) := by decide +kernel
theorem dX5_basinStart_31 : decode cX5_basinStart 31 = .ok (.iload_n 3, 1) := by decide +kernel
theorem dX5_basinStart_32 : decode cX5_basinStart 32 = .ok (.if_icmp .ge 14, 3) := by decide +kernel
theorem dX5_basinStart_35 : decode cX5_basinStart 35 = .ok (.iload 6, 2) := by decide +kernel
theorem dX5_basinStart_37 : decode cX5_basinStart 37 = .ok (.iload 4, 2) := by decide +kernel
theorem dX5_basinStart_39 : decode cX5_basinStart 39 = .ok (.if_icmp .le 7, 3) := by decide +kernel
theorem dX5_basinStart_42 : decode cX5_basinStart 42 = .ok (.iload 6, 2) := by decide +kernel
theorem dX5_basinStart_44 : decode cX5_basinStart 44 = .ok (.istore 4, 2) := by decide +kernel
theorem dX5_basinStart_46 : decode cX5_basinStart 46 = .ok (.iinc 5 1, 3) := by decide +kernel
theorem dX5_basinStart_49 : decode cX5_basinStart 49 = .ok (.goto (-37), 3) := by decide +kernel
theorem dX5_basinStart_52 : decode cX5_basinStart 52 = .ok (.iload 4, 2) := by decide +kernel
theorem dX5_basinStart_54 : decode cX5_basinStart 54 = .ok (.iconst (-1), 1) := by decide +kernel
theorem dX5_basinStart_55 : decode cX5_basinStart 55 = .ok (.if_icmp .ne 7, 3) := by decide +kernel
theorem dX5_basinStart_58 : decode cX5_basinStart 58 = .ok (.iconst 0, 1) := by decide +kernel
theorem dX5_basinStart_59 : decode cX5_basinStart 59 = .ok (.goto 14, 3) := by decide +kernel
theorem dX5_basinStart_62 : decode cX5_basinStart 62 = .ok (.aload_n 1, 1) := by decide +kernel
theorem dX5_basinStart_63 : decode cX5_basinStart 63 = .ok (.iload 4, 2) := by decide +kernel
theorem dX5_basinStart_65 : decode cX5_basinStart 65 = .ok (.iconst 1, 1) := by decide +kernel
theorem dX5_basinStart_66 : decode cX5_basinStart 66 = .ok (.iadd, 1) := by decide +kernel
theorem dX5_basinStart_67 : decode cX5_basinStart 67 = .ok (.iload_n 3, 1) := by decide +kernel
theorem dX5_basinStart_68 : decode cX5_basinStart 68 = .ok (.iconst 1, 1) := by decide +kernel
theorem dX5_basinStart_69 : decode cX5_basinStart 69 = .ok (.isub, 1) := by decide +kernel
theorem dX5_basinStart_70 : decode cX5_basinStart 70 = .ok (.invokevirtual 115, 3) := by decide +kernel
theorem dX5_basinStart_73 : decode cX5_basinStart 73 = .ok (.ireturn, 1) := by decide +kernel
theorem dX5_basinEnd_0 : decode cX5_basinEnd 0 = .ok (.aload_n 0, 1) := by decide +kernel
theorem dX5_basinEnd_1 : decode cX5_basinEnd 1 = .ok (.iload_n 2, 1) := by decide +kernel
theorem dX5_basinEnd_2 : decode cX5_basinEnd 2 = .ok (.invokevirtual 112, 3) := by decide +kernel
theorem dX5_basinEnd_5 : decode cX5_basinEnd 5 = .ok (.istore_n 3, 1) := by decide +kernel
theorem dX5_basinEnd_6 : decode cX5_basinEnd 6 = .ok (.aload_n 1, 1) := by decide +kernel
theorem dX5_basinEnd_7 : decode cX5_basinEnd 7 = .ok (.getfield 58, 3) := by decide +kernel
theorem dX5_basinEnd_10 : decode cX5_basinEnd 10 = .ok (.istore 4, 2) := by decide +kernel
theorem dX5_basinEnd_12 : decode cX5_basinEnd 12 = .ok (.iconst 0, 1) := by decide +kernel
theorem dX5_basinEnd_13 : decode cX5_basinEnd 13 = .ok (.istore 5, 2) := by decide +kernel
theorem dX5_basinEnd_15 : decode cX5_basinEnd 15 = .ok (.iload 5, 2) := by decide +kernel
theorem dX5_basinEnd_17 : decode cX5_basinEnd 17 = .ok (.aload_n 0, 1) := by decide +kernel
theorem dX5_basinEnd_18 : decode cX5_basinEnd 18 = .ok (.getfield 55, 3) := by decide +kernel
theorem dX5_basinEnd_21 : decode cX5_basinEnd 21 = .ok (.if_icmp .ge 34, 3) := by decide +kernel
theorem dX5_basinEnd_24 : decode cX5_basinEnd 24 = .ok (.aload_n 0, 1) := by decide +kernel
theorem dX5_basinEnd_25 : decode cX5_basinEnd 25 = .ok (.iload 5, 2) := by decide +kernel
theorem dX5_basinEnd_27 : decode cX5_basinEnd 27 = .ok (.invokevirtual 112, 3) := by decide +kernel
theorem dX5_basinEnd_30 : decode cX5_basinEnd 30 = .ok (.istore 6, 2) := by decide +kernel
theorem dX5_basinEnd_32 : decode cX5_basinEnd 32 = .ok (.iload 6, 2) := by decide +kernel
theorem dX5_basinEnd_34 : decode cX5_basinEnd 34 = .ok (.iload_n 3, 1) := by decide +kernel
theorem dX5_basinEnd_35 : decode cX5_basinEnd 35 = .ok (.if_icmp .le 14, 3) := by decide +kernel
theorem dX5_basinEnd_38 : decode cX5_basinEnd 38 = .ok (.iload 6, 2) := by decide +kernel
theorem dX5_basinEnd_40 : decode cX5_basinEnd 40 = .ok (.iload 4, 2) := by decide +kernel
theorem dX5_basinEnd_42 : decode cX5_basinEnd 42 = .ok (.if_icmp .ge 7, 3) := by decide +kernel
theorem dX5_basinEnd_45 : decode cX5_basinEnd 45 = .ok (.iload 6, 2) := by decide +kernel
theorem dX5_basinEnd_47 : decode cX5_basinEnd 47 = .ok (.istore 4, 2) := by decide +kernel
theorem dX5_basinEnd_49 : decode cX5_basinEnd 49 = .ok (.iinc 5 1, 3) := by decide +kernel
theorem dX5_basinEnd_52 : decode cX5_basinEnd 52 = .ok (.goto (-37), 3) := by decide +kernel
theorem dX5_basinEnd_55 : decode cX5_basinEnd 55 = .ok (.iload 4, 2) := by decide +kernel
theorem dX5_basinEnd_57 : decode cX5_basinEnd 57 = .ok (.aload_n 1, 1) := by decide +kernel
theorem dX5_basinEnd_58 : decode cX5_basinEnd 58 = .ok (.getfield 58, 3) := by decide +kernel
theorem dX5_basinEnd_61 : decode cX5_basinEnd 61 = .ok (.if_icmp .ne 10, 3) := by decide +kernel
theorem dX5_basinEnd_64 : decode cX5_basinEnd 64 = .ok (.iload 4, 2) := by decide +kernel
theorem dX5_basinEnd_66 : decode cX5_basinEnd 66 = .ok (.iconst 1, 1) := by decide +kernel
theorem dX5_basinEnd_67 : decode cX5_basinEnd 67 = .ok (.isub, 1) := by decide +kernel
theorem dX5_basinEnd_68 : decode cX5_basinEnd 68 = .ok (.goto 16, 3) := by decide +kernel
theorem dX5_basinEnd_71 : decode cX5_basinEnd 71 = .ok (.aload_n 1, 1) := by decide +kernel
theorem dX5_basinEnd_72 : decode cX5_basinEnd 72 = .ok (.iload_n 3, 1) := by decide +kernel
theorem dX5_basinEnd_73 : decode cX5_basinEnd 73 = .ok (.iconst 1, 1) := by decide +kernel
theorem dX5_basinEnd_74 : decode cX5_basinEnd 74 = .ok (.iadd, 1) := by decide +kernel
theorem dX5_basinEnd_75 : decode cX5_basinEnd 75 = .ok (.iload 4, 2) := by decide +kernel
theorem dX5_basinEnd_77 : decode cX5_basinEnd 77 = .ok (.iconst 1, 1) := by decide +kernel
theorem dX5_basinEnd_78 : decode cX5_basinEnd 78 = .ok (.isub, 1) := by decide +kernel
theorem dX5_basinEnd_79 : decode cX5_basinEnd 79 = .ok (.invokevirtual 115, 3) := by decide +kernel
theorem dX5_basinEnd_82 : decode cX5_basinEnd 82 = .ok (.iconst 1, 1) := by decide +kernel
theorem dX5_basinEnd_83 : decode cX5_basinEnd 83 = .ok (.isub, 1) := by decide +kernel
theorem dX5_basinEnd_84 : decode cX5_basinEnd 84 = .ok (.ireturn, 1) := by decide +kernel
theorem dX5_withBasinAt_0 : decode cX5_withBasinAt 0 = .ok (.iconst 0, 1) := by decide +kernel
theorem dX5_withBasinAt_1 : decode cX5_withBasinAt 1 = .ok (.istore_n 3, 1) := by decide +kernel
theorem dX5_withBasinAt_2 : decode cX5_withBasinAt 2 = .ok (.iload_n 3, 1) := by decide +kernel
theorem dX5_withBasinAt_3 : decode cX5_withBasinAt 3 = .ok (.aload_n 0, 1) := by decide +kernel
theorem dX5_withBasinAt_4 : decode cX5_withBasinAt 4 = .ok (.getfield 55, 3) := by decide +kernel
theorem dX5_withBasinAt_7 : decode cX5_withBasinAt 7 = .ok (.if_icmp .ge 31, 3) := by decide +kernel
theorem dX5_withBasinAt_10 : decode cX5_withBasinAt 10 = .ok (.iload_n 2, 1) := by decide +kernel
theorem dX5_withBasinAt_11 : decode cX5_withBasinAt 11 = .ok (.aload_n 0, 1) := by decide +kernel
theorem dX5_withBasinAt_12 : decode cX5_withBasinAt 12 = .ok (.aload_n 1, 1) := by decide +kernel
theorem dX5_withBasinAt_13 : decode cX5_withBasinAt 13 = .ok (.iload_n 3, 1) := by decide +kernel
theorem dX5_withBasinAt_14 : decode cX5_withBasinAt 14 = .ok (.invokevirtual 118, 3) := by decide +kernel
theorem dX5_withBasinAt_17 : decode cX5_withBasinAt 17 = .ok (.if_icmp .lt 15, 3) := by decide +kernel
theorem dX5_withBasinAt_20 : decode cX5_withBasinAt 20 = .ok (.iload_n 2, 1) := by decide +kernel
theorem dX5_withBasinAt_21 : decode cX5_withBasinAt 21 = .ok (.aload_n 0, 1) := by decide +kernel
theorem dX5_withBasinAt_22 : decode cX5_withBasinAt 22 = .ok (.aload_n 1, 1) := by decide +kernel
theorem dX5_withBasinAt_23 : decode cX5_withBasinAt 23 = .ok (.iload_n 3, 1) := by decide +kernel
theorem dX5_withBasinAt_24 : decode cX5_withBasinAt 24 = .ok (.invokevirtual 122, 3) := by decide +kernel
theorem dX5_withBasinAt_27 : decode cX5_withBasinAt 27 = .ok (.if_icmp .gt 5, 3) := by decide +kernel
theorem dX5_withBasinAt_30 : decode cX5_withBasinAt 30 = .ok (.iload_n 3, 1) := by decide +kernel
theorem dX5_withBasinAt_31 : decode cX5_withBasinAt 31 = .ok (.ireturn, 1) := by decide +kernel
theorem dX5_withBasinAt_32 : decode cX5_withBasinAt 32 = .ok (.iinc 3 1, 3) := by decide +kernel
theorem dX5_withBasinAt_35 : decode cX5_withBasinAt 35 = .ok (.goto (-33), 3) := by decide +kernel
theorem dX5_withBasinAt_38 : decode cX5_withBasinAt 38 = .ok (.iconst (-1), 1) := by decide +kernel
theorem dX5_withBasinAt_39 : decode cX5_withBasinAt 39 = .ok (.ireturn, 1) := by decide +kernel
theorem dX5_area_0 : decode cX5_area 0 = .ok (.aload_n 0, 1) := by decide +kernel
theorem dX5_area_1 : decode cX5_area 1 = .ok (.aload_n 1, 1) := by decide +kernel
theorem dX5_area_2 : decode cX5_area 2 = .ok (.iload_n 2, 1) := by decide +kernel
theorem dX5_area_3 : decode cX5_area 3 = .ok (.invokevirtual 118, 3) := by decide +kernel
theorem dX5_area_6 : decode cX5_area 6 = .ok (.istore_n 3, 1) := by decide +kernel
theorem dX5_area_7 : decode cX5_area 7 = .ok (.aload_n 0, 1) := by decide +kernel
theorem dX5_area_8 : decode cX5_area 8 = .ok (.aload_n 1, 1) := by decide +kernel
theorem dX5_area_9 : decode cX5_area 9 = .ok (.iload_n 2, 1) := by decide +kernel
theorem dX5_area_10 : decode cX5_area 10 = .ok (.invokevirtual 122, 3) := by decide +kernel
theorem dX5_area_13 : decode cX5_area 13 = .ok (.istore 4, 2) := by decide +kernel
theorem dX5_area_15 : decode cX5_area 15 = .ok (.aload_n 0, 1) := by decide +kernel
theorem dX5_area_16 : decode cX5_area 16 = .ok (.iload_n 2, 1) := by decide +kernel
theorem dX5_area_17 : decode cX5_area 17 = .ok (.invokevirtual 109, 3) := by decide +kernel
theorem dX5_area_20 : decode cX5_area 20 = .ok (.istore 5, 2) := by decide +kernel
theorem dX5_area_22 : decode cX5_area 22 = .ok (.iconst 0, 1) := by decide +kernel
theorem dX5_area_23 : decode cX5_area 23 = .ok (.istore 6, 2) := by decide +kernel
theorem dX5_area_25 : decode cX5_area 25 = .ok (.iload_n 3, 1) := by decide +kernel
theorem dX5_area_26 : decode cX5_area 26 = .ok (.istore 7, 2) := by decide +kernel
theorem dX5_area_28 : decode cX5_area 28 = .ok (.iload 7, 2) := by decide +kernel
theorem dX5_area_30 : decode cX5_area 30 = .ok (.iload 4, 2) := by decide +kernel
theorem dX5_area_32 : decode cX5_area 32 = .ok (.if_icmp .gt 37, 3) := by decide +kernel
theorem dX5_area_35 : decode cX5_area 35 = .ok (.aload_n 1, 1) := by decide +kernel
theorem dX5_area_36 : decode cX5_area 36 = .ok (.iload 7, 2) := by decide +kernel
theorem dX5_area_38 : decode cX5_area 38 = .ok (.invokevirtual 125, 3) := by decide +kernel
theorem dX5_area_41 : decode cX5_area 41 = .ok (.ifCond .eq 22, 3) := by decide +kernel
theorem dX5_area_44 : decode cX5_area 44 = .ok (.iload 6, 2) := by decide +kernel
theorem dX5_area_46 : decode cX5_area 46 = .ok (.iconst 0, 1) := by decide +kernel
theorem dX5_area_47 : decode cX5_area 47 = .ok (.aload_n 1, 1) := by decide +kernel
theorem dX5_area_48 : decode cX5_area 48 = .ok (.getfield 69, 3) := by decide +kernel
theorem dX5_area_51 : decode cX5_area 51 = .ok (.iload 7, 2) := by decide +kernel
theorem dX5_area_53 : decode cX5_area 53 = .ok (.iaload, 1) := by decide +kernel
theorem dX5_area_54 : decode cX5_area 54 = .ok (.iload 5, 2) := by decide +kernel
theorem dX5_area_56 : decode cX5_area 56 = .ok (.isub, 1) := by decide +kernel
theorem dX5_area_57 : decode cX5_area 57 = .ok (.invokestatic 99, 3) := by decide +kernel
theorem dX5_area_60 : decode cX5_area 60 = .ok (.iadd, 1) := by decide +kernel
theorem dX5_area_61 : decode cX5_area 61 = .ok (.istore 6, 2) := by decide +kernel
theorem dX5_area_63 : decode cX5_area 63 = .ok (.iinc 7 1, 3) := by decide +kernel
theorem dX5_area_66 : decode cX5_area 66 = .ok (.goto (-38), 3) := by decide +kernel
theorem dX5_area_69 : decode cX5_area 69 = .ok (.iload 6, 2) := by decide +kernel
theorem dX5_area_71 : decode cX5_area 71 = .ok (.ireturn, 1) := by decide +kernel
theorem dX5_width_0 : decode cX5_width 0 = .ok (.aload_n 0, 1) := by decide +kernel
theorem dX5_width_1 : decode cX5_width 1 = .ok (.iload_n 2, 1) := by decide +kernel
theorem dX5_width_2 : decode cX5_width 2 = .ok (.invokevirtual 106, 3) := by decide +kernel
theorem dX5_width_5 : decode cX5_width 5 = .ok (.aload_n 0, 1) := by decide +kernel
theorem dX5_width_6 : decode cX5_width 6 = .ok (.iload_n 2, 1) := by decide +kernel
theorem dX5_width_7 : decode cX5_width 7 = .ok (.invokevirtual 78, 3) := by decide +kernel
theorem dX5_width_10 : decode cX5_width 10 = .ok (.iconst 2, 1) := by decide +kernel
theorem dX5_width_11 : decode cX5_width 11 = .ok (.idiv, 1) := by decide +kernel
theorem dX5_width_12 : decode cX5_width 12 = .ok (.isub, 1) := by decide +kernel
theorem dX5_width_13 : decode cX5_width 13 = .ok (.istore_n 3, 1) := by decide +kernel
theorem dX5_width_14 : decode cX5_width 14 = .ok (.aload_n 0, 1) := by decide +kernel
theorem dX5_width_15 : decode cX5_width 15 = .ok (.iload_n 2, 1) := by decide +kernel
theorem dX5_width_16 : decode cX5_width 16 = .ok (.invokevirtual 112, 3) := by decide +kernel
theorem dX5_width_19 : decode cX5_width 19 = .ok (.istore 4, 2) := by decide +kernel
theorem dX5_width_21 : decode cX5_width 21 = .ok (.aload_n 1, 1) := by decide +kernel
theorem dX5_width_22 : decode cX5_width 22 = .ok (.iload 4, 2) := by decide +kernel
theorem dX5_width_24 : decode cX5_width 24 = .ok (.iload_n 3, 1) := by decide +kernel
theorem dX5_width_25 : decode cX5_width 25 = .ok (.invokevirtual 129, 3) := by decide +kernel
theorem dX5_width_28 : decode cX5_width 28 = .ok (.aload_n 1, 1) := by decide +kernel
theorem dX5_width_29 : decode cX5_width 29 = .ok (.iload 4, 2) := by decide +kernel
theorem dX5_width_31 : decode cX5_width 31 = .ok (.iload_n 3, 1) := by decide +kernel
theorem dX5_width_32 : decode cX5_width 32 = .ok (.invokevirtual 132, 3) := by decide +kernel
theorem dX5_width_35 : decode cX5_width 35 = .ok (.isub, 1) := by decide +kernel
theorem dX5_width_36 : decode cX5_width 36 = .ok (.iconst 1, 1) := by decide +kernel
theorem dX5_width_37 : decode cX5_width 37 = .ok (.iadd, 1) := by decide +kernel
theorem dX5_width_38 : decode cX5_width 38 = .ok (.ireturn, 1) := by decide +kernel
theorem dX5_flatLevels_0 : decode cX5_flatLevels 0 = .ok (.aload_n 1, 1) := by decide +kernel
theorem dX5_flatLevels_1 : decode cX5_flatLevels 1 = .ok (.getfield 69, 3) := by decide +kernel
theorem dX5_flatLevels_4 : decode cX5_flatLevels 4 = .ok (.iconst 0, 1) := by decide +kernel
theorem dX5_flatLevels_5 : decode cX5_flatLevels 5 = .ok (.aload_n 0, 1) := by decide +kernel
theorem dX5_flatLevels_6 : decode cX5_flatLevels 6 = .ok (.getfield 48, 3) := by decide +kernel
theorem dX5_flatLevels_9 : decode cX5_flatLevels 9 = .ok (.iconst 0, 1) := by decide +kernel
theorem dX5_flatLevels_10 : decode cX5_flatLevels 10 = .ok (.bipush 48, 2) := by decide +kernel
theorem dX5_flatLevels_12 : decode cX5_flatLevels 12 = .ok (.invokestatic 135, 3) := by decide +kernel
theorem dX5_flatLevels_15 : decode cX5_flatLevels 15 = .ok (.aload_n 0, 1) := by decide +kernel
theorem dX5_flatLevels_16 : decode cX5_flatLevels 16 = .ok (.getfield 55, 3) := by decide +kernel
theorem dX5_flatLevels_19 : decode cX5_flatLevels 19 = .ok (.istore_n 2, 1) := by decide +kernel
theorem dX5_flatLevels_20 : decode cX5_flatLevels 20 = .ok (.iload_n 2, 1) := by decide +kernel
theorem dX5_flatLevels_21 : decode cX5_flatLevels 21 = .ok (.aload_n 0, 1) := by decide +kernel
theorem dX5_flatLevels_22 : decode cX5_flatLevels 22 = .ok (.getfield 51, 3) := by decide +kernel
theorem dX5_flatLevels_25 : decode cX5_flatLevels 25 = .ok (.if_icmp .ge 84, 3) := by decide +kernel
theorem dX5_flatLevels_28 : decode cX5_flatLevels 28 = .ok (.aload_n 0, 1) := by decide +kernel
theorem dX5_flatLevels_29 : decode cX5_flatLevels 29 = .ok (.iload_n 2, 1) := by decide +kernel
theorem dX5_flatLevels_30 : decode cX5_flatLevels 30 = .ok (.invokevirtual 109, 3) := by decide +kernel
theorem dX5_flatLevels_33 : decode cX5_flatLevels 33 = .ok (.istore_n 3, 1) := by decide +kernel
theorem dX5_flatLevels_34 : decode cX5_flatLevels 34 = .ok (.aload_n 0, 1) := by decide +kernel
theorem dX5_flatLevels_35 : decode cX5_flatLevels 35 = .ok (.iload_n 2, 1) := by decide +kernel
theorem dX5_flatLevels_36 : decode cX5_flatLevels 36 = .ok (.invokevirtual 112, 3) := by decide +kernel
theorem dX5_flatLevels_39 : decode cX5_flatLevels 39 = .ok (.istore 4, 2) := by decide +kernel
theorem dX5_flatLevels_41 : decode cX5_flatLevels 41 = .ok (.aload_n 0, 1) := by decide +kernel
theorem dX5_flatLevels_42 : decode cX5_flatLevels 42 = .ok (.iload_n 2, 1) := by decide +kernel
theorem dX5_flatLevels_43 : decode cX5_flatLevels 43 = .ok (.invokevirtual 106, 3) := by decide +kernel
theorem dX5_flatLevels_46 : decode cX5_flatLevels 46 = .ok (.iload_n 3, 1) := by decide +kernel
theorem dX5_flatLevels_47 : decode cX5_flatLevels 47 = .ok (.if_icmp .le 56, 3) := by decide +kernel
theorem dX5_flatLevels_50 : decode cX5_flatLevels 50 = .ok (.aload_n 1, 1) := by decide +kernel
theorem dX5_flatLevels_51 : decode cX5_flatLevels 51 = .ok (.iload 4, 2) := by decide +kernel
theorem dX5_flatLevels_53 : decode cX5_flatLevels 53 = .ok (.iload_n 3, 1) := by decide +kernel
theorem dX5_flatLevels_54 : decode cX5_flatLevels 54 = .ok (.iconst 1, 1) := by decide +kernel
theorem dX5_flatLevels_55 : decode cX5_flatLevels 55 = .ok (.iadd, 1) := by decide +kernel
theorem dX5_flatLevels_56 : decode cX5_flatLevels 56 = .ok (.invokevirtual 129, 3) := by decide +kernel
theorem dX5_flatLevels_59 : decode cX5_flatLevels 59 = .ok (.istore 5, 2) := by decide +kernel
theorem dX5_flatLevels_61 : decode cX5_flatLevels 61 = .ok (.aload_n 1, 1) := by decide +kernel
theorem dX5_flatLevels_62 : decode cX5_flatLevels 62 = .ok (.iload 4, 2) := by decide +kernel
theorem dX5_flatLevels_64 : decode cX5_flatLevels 64 = .ok (.iload_n 3, 1) := by decide +kernel
theorem dX5_flatLevels_65 : decode cX5_flatLevels 65 = .ok (.iconst 1, 1) := by decide +kernel
theorem dX5_flatLevels_66 : decode cX5_flatLevels 66 = .ok (.iadd, 1) := by decide +kernel
theorem dX5_flatLevels_67 : decode cX5_flatLevels 67 = .ok (.invokevirtual 132, 3) := by decide +kernel
theorem dX5_flatLevels_70 : decode cX5_flatLevels 70 = .ok (.istore 6, 2) := by decide +kernel
theorem dX5_flatLevels_72 : decode cX5_flatLevels 72 = .ok (.iload 6, 2) := by decide +kernel
theorem dX5_flatLevels_74 : decode cX5_flatLevels 74 = .ok (.iload 5, 2) := by decide +kernel
theorem dX5_flatLevels_76 : decode cX5_flatLevels 76 = .ok (.if_icmp .gt 27, 3) := by decide +kernel
theorem dX5_flatLevels_79 : decode cX5_flatLevels 79 = .ok (.aload_n 0, 1) := by decide +kernel
theorem dX5_flatLevels_80 : decode cX5_flatLevels 80 = .ok (.getfield 48, 3) := by decide +kernel
theorem dX5_flatLevels_83 : decode cX5_flatLevels 83 = .ok (.iload 6, 2) := by decide +kernel
theorem dX5_flatLevels_85 : decode cX5_flatLevels 85 = .ok (.aload_n 0, 1) := by decide +kernel
theorem dX5_flatLevels_86 : decode cX5_flatLevels 86 = .ok (.getfield 48, 3) := by decide +kernel
theorem dX5_flatLevels_89 : decode cX5_flatLevels 89 = .ok (.iload 6, 2) := by decide +kernel
theorem dX5_flatLevels_91 : decode cX5_flatLevels 91 = .ok (.iaload, 1) := by decide +kernel
theorem dX5_flatLevels_92 : decode cX5_flatLevels 92 = .ok (.iload_n 3, 1) := by decide +kernel
theorem dX5_flatLevels_93 : decode cX5_flatLevels 93 = .ok (.invokestatic 93, 3) := by decide +kernel
theorem dX5_flatLevels_96 : decode cX5_flatLevels 96 = .ok (.iastore, 1) := by decide +kernel
theorem dX5_flatLevels_97 : decode cX5_flatLevels 97 = .ok (.iinc 6 1, 3) := by decide +kernel
theorem dX5_flatLevels_100 : decode cX5_flatLevels 100 = .ok (.goto (-28), 3) := by decide +kernel
theorem dX5_flatLevels_103 : decode cX5_flatLevels 103 = .ok (.iinc 2 1, 3) := by decide +kernel
theorem dX5_flatLevels_106 : decode cX5_flatLevels 106 = .ok (.goto (-86), 3) := by decide +kernel
theorem dX5_flatLevels_109 : decode cX5_flatLevels 109 = .ok (.aload_n 0, 1) := by decide +kernel
theorem dX5_flatLevels_110 : decode cX5_flatLevels 110 = .ok (.getfield 48, 3) := by decide +kernel
theorem dX5_flatLevels_113 : decode cX5_flatLevels 113 = .ok (.areturn, 1) := by decide +kernel
theorem dX6_init_0 : decode cX6_init 0 = .ok (.aload_n 0, 1) := by decide +kernel
theorem dX6_init_1 : decode cX6_init 1 = .ok (.invokespecial 3, 3) := by decide +kernel
theorem dX6_init_4 : decode cX6_init 4 = .ok (.aload_n 0, 1) := by decide +kernel
theorem dX6_init_5 : decode cX6_init 5 = .ok (.new 9, 3) := by decide +kernel
theorem dX6_init_8 : decode cX6_init 8 = .ok (.dup, 1) := by decide +kernel
theorem dX6_init_9 : decode cX6_init 9 = .ok (.invokespecial 11, 3) := by decide +kernel
theorem dX6_init_12 : decode cX6_init 12 = .ok (.putfield 12, 3) := by decide +kernel
theorem dX6_init_15 : decode cX6_init 15 = .ok (.return_, 1) := by decide +kernel
theorem dX6_readTrace_0 : decode cX6_readTrace 0 = .ok (.aload_n 0, 1) := by decide +kernel
theorem dX6_readTrace_1 : decode cX6_readTrace 1 = .ok (.invokevirtual 18, 3) := by decide +kernel
theorem dX6_readTrace_4 : decode cX6_readTrace 4 = .ok (.aload_n 1, 1) := by decide +kernel
theorem dX6_readTrace_5 : decode cX6_readTrace 5 = .ok (.iconst 0, 1) := by decide +kernel
theorem dX6_readTrace_6 : decode cX6_readTrace 6 = .ok (.putfield 21, 3) := by decide +kernel
theorem dX6_readTrace_9 : decode cX6_readTrace 9 = .ok (.aload_n 1, 1) := by decide +kernel
theorem dX6_readTrace_10 : decode cX6_readTrace 10 = .ok (.iconst 0, 1) := by decide +kernel
theorem dX6_readTrace_11 : decode cX6_readTrace 11 = .ok (.putfield 27, 3) := by decide +kernel
theorem dX6_readTrace_14 : decode cX6_readTrace 14 = .ok (.aload_n 2, 1) := by decide +kernel
theorem dX6_readTrace_15 : decode cX6_readTrace 15 = .ok (.iconst 0, 1) := by decide +kernel
theorem dX6_readTrace_16 : decode cX6_readTrace 16 = .ok (.putfield 30, 3) := by decide +kernel
theorem dX6_readTrace_19 : decode cX6_readTrace 19 = .ok (.aload_n 2, 1) := by decide +kernel
theorem dX6_readTrace_20 : decode cX6_readTrace 20 = .ok (.iconst 1, 1) := by decide +kernel
theorem dX6_readTrace_21 : decode cX6_readTrace 21 = .ok (.putfield 33, 3) := by decide +kernel
theorem dX6_readTrace_24 : decode cX6_readTrace 24 = .ok (.iconst 1, 1) := by decide +kernel
theorem dX6_readTrace_25 : decode cX6_readTrace 25 = .ok (.istore_n 3, 1) := by decide +kernel
theorem dX6_readTrace_26 : decode cX6_readTrace 26 = .ok (.iconst 0, 1) := by decide +kernel
theorem dX6_readTrace_27 : decode cX6_readTrace 27 = .ok (.istore 4, 2) := by decide +kernel
theorem dX6_readTrace_29 : decode cX6_readTrace 29 = .ok (.iload_n 3, 1) := by decide +kernel
theorem dX6_readTrace_30 : decode cX6_readTrace 30 = .ok (.ifCond .eq 40, 3) := by decide +kernel
theorem dX6_readTrace_33 : decode cX6_readTrace 33 = .ok (.iload 4, 2) := by decide +kernel
theorem dX6_readTrace_35 : decode cX6_readTrace 35 = .ok (.sipush 400, 3) := by decide +kernel
theorem dX6_readTrace_38 : decode cX6_readTrace 38 = .ok (.if_icmp .gt 32, 3) := by decide +kernel
theorem dX6_readTrace_41 : decode cX6_readTrace 41 = .ok (.aload_n 0, 1) := by decide +kernel
theorem dX6_readTrace_42 : decode cX6_readTrace 42 = .ok (.aload_n 1, 1) := by decide +kernel
theorem dX6_readTrace_43 : decode cX6_readTrace 43 = .ok (.aload_n 2, 1) := by decide +kernel
theorem dX6_readTrace_44 : decode cX6_readTrace 44 = .ok (.invokevirtual 36, 3) := by decide +kernel
theorem dX6_readTrace_47 : decode cX6_readTrace 47 = .ok (.ifCond .eq 15, 3) := by decide +kernel
theorem dX6_readTrace_50 : decode cX6_readTrace 50 = .ok (.aload_n 0, 1) := by decide +kernel
theorem dX6_readTrace_51 : decode cX6_readTrace 51 = .ok (.iconst 1, 1) := by decide +kernel
theorem dX6_readTrace_52 : decode cX6_readTrace 52 = .ok (.invokevirtual 40, 3) := by decide +kernel
theorem dX6_readTrace_55 : decode cX6_readTrace 55 = .ok (.ifCond .eq 7, 3) := by decide +kernel
theorem dX6_readTrace_58 : decode cX6_readTrace 58 = .ok (.iconst 1, 1) := by decide +kernel
theorem dX6_readTrace_59 : decode cX6_readTrace 59 = .ok (.goto 4, 3) := by decide +kernel
theorem dX6_readTrace_62 : decode cX6_readTrace 62 = .ok (.iconst 0, 1) := by decide +kernel
theorem dX6_readTrace_63 : decode cX6_readTrace 63 = .ok (.istore_n 3, 1) := by decide +kernel
theorem dX6_readTrace_64 : decode cX6_readTrace 64 = .ok (.iinc 4 1, 3) := by decide +kernel
theorem dX6_readTrace_67 : decode cX6_readTrace 67 = .ok (.goto (-38), 3) := by decide +kernel
theorem dX6_readTrace_70 : decode cX6_readTrace 70 = .ok (.aload_n 0, 1) := by decide +kernel
theorem dX6_readTrace_71 : decode cX6_readTrace 71 = .ok (.getfield 44, 3) := by decide +kernel
theorem dX6_readTrace_74 : decode cX6_readTrace 74 = .ok (.iconst (-1), 1) := by decide +kernel
theorem dX6_readTrace_75 : decode cX6_readTrace 75 = .ok (.if_icmp .ne 21, 3) := by decide +kernel
theorem dX6_readTrace_78 : decode cX6_readTrace 78 = .ok (.aload_n 1, 1) := by decide +kernel
theorem dX6_readTrace_79 : decode cX6_readTrace 79 = .ok (.getfield 21, 3) := by decide +kernel
theorem dX6_readTrace_82 : decode cX6_readTrace 82 = .ok (.ifCond .ne 14, 3) := by decide +kernel
theorem dX6_readTrace_85 : decode cX6_readTrace 85 = .ok (.aload_n 0, 1) := by decide +kernel
theorem dX6_readTrace_86 : decode cX6_readTrace 86 = .ok (.aload_n 0, 1) := by decide +kernel
theorem dX6_readTrace_87 : decode cX6_readTrace 87 = .ok (.getfield 12, 3) := by decide +kernel
theorem dX6_readTrace_90 : decode cX6_readTrace 90 = .ok (.getfield 47, 3) := by decide +kernel
theorem dX6_readTrace_93 : decode cX6_readTrace 93 = .ok (.putfield 44, 3) := by decide +kernel
theorem dX6_readTrace_96 : decode cX6_readTrace 96 = .ok (.aload_n 0, 1) := by decide +kernel
theorem dX6_readTrace_97 : decode cX6_readTrace 97 = .ok (.getfield 44, 3) := by decide +kernel
theorem dX6_readTrace_100 : decode cX6_readTrace 100 = .ok (.ireturn, 1) := by decide +kernel
theorem dX6_readScript_0 : decode cX6_readScript 0 = .ok (.aload_n 0, 1) := by decide +kernel
theorem dX6_readScript_1 : decode cX6_readScript 1 = .ok (.invokevirtual 18, 3) := by decide +kernel
theorem dX6_readScript_4 : decode cX6_readScript 4 = .ok (.aload_n 1, 1) := by decide +kernel
theorem dX6_readScript_5 : decode cX6_readScript 5 = .ok (.iconst 0, 1) := by decide +kernel
theorem dX6_readScript_6 : decode cX6_readScript 6 = .ok (.putfield 50, 3) := by decide +kernel
theorem dX6_readScript_9 : decode cX6_readScript 9 = .ok (.iconst 1, 1) := by decide +kernel
theorem dX6_readScript_10 : decode cX6_readScript 10 = .ok (.istore_n 2, 1) := by decide +kernel
theorem dX6_readScript_11 : decode cX6_readScript 11 = .ok (.iconst 1, 1) := by decide +kernel
theorem dX6_readScript_12 : decode cX6_readScript 12 = .ok (.istore_n 3, 1) := by decide +kernel
theorem dX6_readScript_13 : decode cX6_readScript 13 = .ok (.iload_n 2, 1) := by decide +kernel
theorem dX6_readScript_14 : decode cX6_readScript 14 = .ok (.ifCond .eq 47, 3) := by decide +kernel
theorem dX6_readScript_17 : decode cX6_readScript 17 = .ok (.iload_n 3, 1) := by decide +kernel
theorem dX6_readScript_18 : decode cX6_readScript 18 = .ok (.bipush 12, 2) := by decide +kernel
theorem dX6_readScript_20 : decode cX6_readScript 20 = .ok (.if_icmp .gt 41, 3) := by decide +kernel
theorem dX6_readScript_23 : decode cX6_readScript 23 = .ok (.aload_n 0, 1) := by decide +kernel
theorem dX6_readScript_24 : decode cX6_readScript 24 = .ok (.aload_n 1, 1) := by decide +kernel
theorem dX6_readScript_25 : decode cX6_readScript 25 = .ok (.invokevirtual 53, 3) := by decide +kernel
theorem dX6_readScript_28 : decode cX6_readScript 28 = .ok (.ifCond .eq 25, 3) := by decide +kernel
theorem dX6_readScript_31 : decode cX6_readScript 31 = .ok (.aload_n 0, 1) := by decide +kernel
theorem dX6_readScript_32 : decode cX6_readScript 32 = .ok (.iload_n 3, 1) := by decide +kernel
theorem dX6_readScript_33 : decode cX6_readScript 33 = .ok (.bipush 12, 2) := by decide +kernel
theorem dX6_readScript_35 : decode cX6_readScript 35 = .ok (.if_icmp .ge 7, 3) := by decide +kernel
theorem dX6_readScript_38 : decode cX6_readScript 38 = .ok (.iconst 1, 1) := by decide +kernel
theorem dX6_readScript_39 : decode cX6_readScript 39 = .ok (.goto 4, 3) := by decide +kernel
theorem dX6_readScript_42 : decode cX6_readScript 42 = .ok (.iconst 0, 1) := by decide +kernel
theorem dX6_readScript_43 : decode cX6_readScript 43 = .ok (.invokevirtual 40, 3) := by decide +kernel
theorem dX6_readScript_46 : decode cX6_readScript 46 = .ok (.ifCond .eq 7, 3) := by decide +kernel
theorem dX6_readScript_49 : decode cX6_readScript 49 = .ok (.iconst 1, 1) := by decide +kernel
theorem dX6_readScript_50 : decode cX6_readScript 50 = .ok (.goto 4, 3) := by decide +kernel
theorem dX6_readScript_53 : decode cX6_readScript 53 = .ok (.iconst 0, 1) := by decide +kernel
theorem dX6_readScript_54 : decode cX6_readScript 54 = .ok (.istore_n 2, 1) := by decide +kernel
theorem dX6_readScript_55 : decode cX6_readScript 55 = .ok (.iinc 3 1, 3) := by decide +kernel
theorem dX6_readScript_58 : decode cX6_readScript 58 = .ok (.goto (-45), 3) := by decide +kernel
theorem dX6_readScript_61 : decode cX6_readScript 61 = .ok (.aload_n 0, 1) := by decide +kernel
theorem dX6_readScript_62 : decode cX6_readScript 62 = .ok (.getfield 44, 3) := by decide +kernel
theorem dX6_readScript_65 : decode cX6_readScript 65 = .ok (.ireturn, 1) := by decide +kernel
theorem dX6_begin_0 : decode cX6_begin 0 = .ok (.aload_n 0, 1) := by decide +kernel
theorem dX6_begin_1 : decode cX6_begin 1 = .ok (.iconst 0, 1) := by decide +kernel
theorem dX6_begin_2 : decode cX6_begin 2 = .ok (.putfield 57, 3) := by decide +kernel
theorem dX6_begin_5 : decode cX6_begin 5 = .ok (.aload_n 0, 1) := by decide +kernel
theorem dX6_begin_6 : decode cX6_begin 6 = .ok (.iconst (-1), 1) := by decide +kernel
theorem dX6_begin_7 : decode cX6_begin 7 = .ok (.putfield 44, 3) := by decide +kernel
theorem dX6_begin_10 : decode cX6_begin 10 = .ok (.aload_n 0, 1) := by decide +kernel
theorem dX6_begin_11 : decode cX6_begin 11 = .ok (.iconst 0, 1) := by decide +kernel
theorem dX6_begin_12 : decode cX6_begin 12 = .ok (.putfield 60, 3) := by decide +kernel
theorem dX6_begin_15 : decode cX6_begin 15 = .ok (.aload_n 0, 1) := by decide +kernel
theorem dX6_begin_16 : decode cX6_begin 16 = .ok (.iconst 0, 1) := by decide +kernel
theorem dX6_begin_17 : decode cX6_begin 17 = .ok (.putfield 64, 3) := by decide +kernel
theorem dX6_begin_20 : decode cX6_begin 20 = .ok (.return_, 1) := by decide +kernel
theorem dX6_fail_0 : decode cX6_fail 0 = .ok (.aload_n 0, 1) := by decide +kernel
theorem dX6_fail_1 : decode cX6_fail 1 = .ok (.iload_n 1, 1) := by decide +kernel
theorem dX6_fail_2 : decode cX6_fail 2 = .ok (.putfield 44, 3) := by decide +kernel
theorem dX6_fail_5 : decode cX6_fail 5 = .ok (.iconst 0, 1) := by decide +kernel
theorem dX6_fail_6 : decode cX6_fail 6 = .ok (.ireturn, 1) := by decide +kernel
theorem dX6_skipBlanks_0 : decode cX6_skipBlanks 0 = .ok (.aload_n 0, 1) := by decide +kernel
theorem dX6_skipBlanks_1 : decode cX6_skipBlanks 1 = .ok (.getfield 57, 3) := by decide +kernel
theorem dX6_skipBlanks_4 : decode cX6_skipBlanks 4 = .ok (.aload_n 0, 1) := by decide +kernel
theorem dX6_skipBlanks_5 : decode cX6_skipBlanks 5 = .ok (.getfield 12, 3) := by decide +kernel
theorem dX6_skipBlanks_8 : decode cX6_skipBlanks 8 = .ok (.getfield 47, 3) := by decide +kernel
theorem dX6_skipBlanks_11 : decode cX6_skipBlanks 11 = .ok (.if_icmp .ge 32, 3) := by decide +kernel
theorem dX6_skipBlanks_14 : decode cX6_skipBlanks 14 = .ok (.aload_n 0, 1) := by decide +kernel
theorem dX6_skipBlanks_15 : decode cX6_skipBlanks 15 = .ok (.getfield 12, 3) := by decide +kernel
theorem dX6_skipBlanks_18 : decode cX6_skipBlanks 18 = .ok (.aload_n 0, 1) := by decide +kernel
theorem dX6_skipBlanks_19 : decode cX6_skipBlanks 19 = .ok (.getfield 57, 3) := by decide +kernel
theorem dX6_skipBlanks_22 : decode cX6_skipBlanks 22 = .ok (.invokevirtual 67, 3) := by decide +kernel
theorem dX6_skipBlanks_25 : decode cX6_skipBlanks 25 = .ok (.bipush 32, 2) := by decide +kernel
theorem dX6_skipBlanks_27 : decode cX6_skipBlanks 27 = .ok (.if_icmp .ne 16, 3) := by decide +kernel
theorem dX6_skipBlanks_30 : decode cX6_skipBlanks 30 = .ok (.aload_n 0, 1) := by decide +kernel
theorem dX6_skipBlanks_31 : decode cX6_skipBlanks 31 = .ok (.dup, 1) := by decide +kernel
theorem dX6_skipBlanks_32 : decode cX6_skipBlanks 32 = .ok (.getfield 57, 3) := by decide +kernel
theorem dX6_skipBlanks_35 : decode cX6_skipBlanks 35 = .ok (.iconst 1, 1) := by decide +kernel
theorem dX6_skipBlanks_36 : decode cX6_skipBlanks 36 = .ok (.iadd, 1) := by decide +kernel
theorem dX6_skipBlanks_37 : decode cX6_skipBlanks 37 = .ok (.putfield 57, 3) := by decide +kernel
theorem dX6_skipBlanks_40 : decode cX6_skipBlanks 40 = .ok (.goto (-40), 3) := by decide +kernel
theorem dX6_skipBlanks_43 : decode cX6_skipBlanks 43 = .ok (.return_, 1) := by decide +kernel
theorem dX6_readSemicolon_0 : decode cX6_readSemicolon 0 = .ok (.aload_n 0, 1) := by decide +kernel
theorem dX6_readSemicolon_1 : decode cX6_readSemicolon 1 = .ok (.invokevirtual 71, 3) := by decide +kernel
theorem dX6_readSemicolon_4 : decode cX6_readSemicolon 4 = .ok (.aload_n 0, 1) := by decide +kernel
theorem dX6_readSemicolon_5 : decode cX6_readSemicolon 5 = .ok (.getfield 57, 3) := by decide +kernel
theorem dX6_readSemicolon_8 : decode cX6_readSemicolon 8 = .ok (.aload_n 0, 1) := by decide +kernel
theorem dX6_readSemicolon_9 : decode cX6_readSemicolon 9 = .ok (.getfield 12, 3) := by decide +kernel
theorem dX6_readSemicolon_12 : decode cX6_readSemicolon 12 = .ok (.getfield 47, 3) := by decide +kernel
theorem dX6_readSemicolon_15 : decode cX6_readSemicolon 15 = .ok (.if_icmp .lt 5, 3) := by decide +kernel
theorem dX6_readSemicolon_18 : decode cX6_readSemicolon 18 = .ok (.iconst 0, 1) := by decide +kernel
theorem dX6_readSemicolon_19 : decode cX6_readSemicolon 19 = .ok (.ireturn, 1) := by decide +kernel
theorem dX6_readSemicolon_20 : decode cX6_readSemicolon 20 = .ok (.aload_n 0, 1) := by decide +kernel
theorem dX6_readSemicolon_21 : decode cX6_readSemicolon 21 = .ok (.getfield 12, 3) := by decide +kernel
theorem dX6_readSemicolon_24 : decode cX6_readSemicolon 24 = .ok (.aload_n 0, 1) := by decide +kernel
theorem dX6_readSemicolon_25 : decode cX6_readSemicolon 25 = .ok (.getfield 57, 3) := by decide +kernel
theorem dX6_readSemicolon_28 : decode cX6_readSemicolon 28 = .ok (.invokevirtual 67, 3) := by decide +kernel
theorem dX6_readSemicolon_31 : decode cX6_readSemicolon 31 = .ok (.bipush 59, 2) := by decide +kernel
theorem dX6_readSemicolon_33 : decode cX6_readSemicolon 33 = .ok (.if_icmp .ne 7, 3) := by decide +kernel
theorem dX6_readSemicolon_36 : decode cX6_readSemicolon 36 = .ok (.iload_n 1, 1) := by decide +kernel
theorem dX6_readSemicolon_37 : decode cX6_readSemicolon 37 = .ok (.ifCond .ne 12, 3) := by decide +kernel
theorem dX6_readSemicolon_40 : decode cX6_readSemicolon 40 = .ok (.aload_n 0, 1) := by decide +kernel
theorem dX6_readSemicolon_41 : decode cX6_readSemicolon 41 = .ok (.aload_n 0, 1) := by decide +kernel
theorem dX6_readSemicolon_42 : decode cX6_readSemicolon 42 = .ok (.getfield 57, 3) := by decide +kernel
theorem dX6_readSemicolon_45 : decode cX6_readSemicolon 45 = .ok (.invokevirtual 74, 3) := by decide +kernel
theorem dX6_readSemicolon_48 : decode cX6_readSemicolon 48 = .ok (.ireturn, 1) := by decide +kernel
theorem dX6_readSemicolon_49 : decode cX6_readSemicolon 49 = .ok (.aload_n 0, 1) := by decide +kernel
theorem dX6_readSemicolon_50 : decode cX6_readSemicolon 50 = .ok (.dup, 1) := by decide +kernel
theorem dX6_readSemicolon_51 : decode cX6_readSemicolon 51 = .ok (.getfield 57, 3) := by decide +kernel
theorem dX6_readSemicolon_54 : decode cX6_readSemicolon 54 = .ok (.iconst 1, 1) := by decide +kernel
theorem dX6_readSemicolon_55 : decode cX6_readSemicolon 55 = .ok (.iadd, 1) := by decide +kernel
theorem dX6_readSemicolon_56 : decode cX6_readSemicolon 56 = .ok (.putfield 57, 3) := by decide +kernel
theorem dX6_readSemicolon_59 : decode cX6_readSemicolon 59 = .ok (.iconst 1, 1) := by decide +kernel
theorem dX6_readSemicolon_60 : decode cX6_readSemicolon 60 = .ok (.ireturn, 1) := by decide +kernel
theorem dX6_readWord_0 : decode cX6_readWord 0 = .ok (.aload_n 0, 1) := by decide +kernel
theorem dX6_readWord_1 : decode cX6_readWord 1 = .ok (.invokevirtual 71, 3) := by decide +kernel
theorem dX6_readWord_4 : decode cX6_readWord 4 = .ok (.aload_n 0, 1) := by decide +kernel
theorem dX6_readWord_5 : decode cX6_readWord 5 = .ok (.aload_n 0, 1) := by decide +kernel
theorem dX6_readWord_6 : decode cX6_readWord 6 = .ok (.getfield 57, 3) := by decide +kernel
theorem dX6_readWord_9 : decode cX6_readWord 9 = .ok (.putfield 78, 3) := by decide +kernel
theorem dX6_readWord_12 : decode cX6_readWord 12 = .ok (.aload_n 0, 1) := by decide +kernel
theorem dX6_readWord_13 : decode cX6_readWord 13 = .ok (.getfield 57, 3) := by decide +kernel
theorem dX6_readWord_16 : decode cX6_readWord 16 = .ok (.aload_n 0, 1) := by decide +kernel
theorem dX6_readWord_17 : decode cX6_readWord 17 = .ok (.getfield 12, 3) := by decide +kernel
theorem dX6_readWord_20 : decode cX6_readWord 20 = .ok (.getfield 47, 3) := by decide +kernel
theorem dX6_readWord_23 : decode cX6_readWord 23 = .ok (.if_icmp .ge 30, 3) := by decide +kernel
theorem dX6_readWord_26 : decode cX6_readWord 26 = .ok (.aload_n 0, 1) := by decide +kernel
theorem dX6_readWord_27 : decode cX6_readWord 27 = .ok (.getfield 12, 3) := by decide +kernel
theorem dX6_readWord_30 : decode cX6_readWord 30 = .ok (.aload_n 0, 1) := by decide +kernel
theorem dX6_readWord_31 : decode cX6_readWord 31 = .ok (.getfield 57, 3) := by decide +kernel
theorem dX6_readWord_34 : decode cX6_readWord 34 = .ok (.invokevirtual 81, 3) := by decide +kernel
theorem dX6_readWord_37 : decode cX6_readWord 37 = .ok (.ifCond .eq 16, 3) := by decide +kernel
theorem dX6_readWord_40 : decode cX6_readWord 40 = .ok (.aload_n 0, 1) := by decide +kernel
theorem dX6_readWord_41 : decode cX6_readWord 41 = .ok (.dup, 1) := by decide +kernel
theorem dX6_readWord_42 : decode cX6_readWord 42 = .ok (.getfield 57, 3) := by decide +kernel
theorem dX6_readWord_45 : decode cX6_readWord 45 = .ok (.iconst 1, 1) := by decide +kernel
theorem dX6_readWord_46 : decode cX6_readWord 46 = .ok (.iadd, 1) := by decide +kernel
theorem dX6_readWord_47 : decode cX6_readWord 47 = .ok (.putfield 57, 3) := by decide +kernel
theorem dX6_readWord_50 : decode cX6_readWord 50 = .ok (.goto (-38), 3) := by decide +kernel
theorem dX6_readWord_53 : decode cX6_readWord 53 = .ok (.aload_n 0, 1) := by decide +kernel
theorem dX6_readWord_54 : decode cX6_readWord 54 = .ok (.aload_n 0, 1) := by decide +kernel
theorem dX6_readWord_55 : decode cX6_readWord 55 = .ok (.getfield 57, 3) := by decide +kernel
theorem dX6_readWord_58 : decode cX6_readWord 58 = .ok (.aload_n 0, 1) := by decide +kernel
theorem dX6_readWord_59 : decode cX6_readWord 59 = .ok (.getfield 78, 3) := by decide +kernel
theorem dX6_readWord_62 : decode cX6_readWord 62 = .ok (.isub, 1) := by decide +kernel
theorem dX6_readWord_63 : decode cX6_readWord 63 = .ok (.putfield 84, 3) := by decide +kernel
theorem dX6_readWord_66 : decode cX6_readWord 66 = .ok (.aload_n 0, 1) := by decide +kernel
theorem dX6_readWord_67 : decode cX6_readWord 67 = .ok (.getfield 84, 3) := by decide +kernel
theorem dX6_readWord_70 : decode cX6_readWord 70 = .ok (.ifCond .gt 14, 3) := by decide +kernel
theorem dX6_readWord_73 : decode cX6_readWord 73 = .ok (.aload_n 0, 1) := by decide +kernel
theorem dX6_readWord_74 : decode cX6_readWord 74 = .ok (.aload_n 0, 1) := by decide +kernel
theorem dX6_readWord_75 : decode cX6_readWord 75 = .ok (.getfield 78, 3) := by decide +kernel
theorem dX6_readWord_78 : decode cX6_readWord 78 = .ok (.invokevirtual 74, 3) := by decide +kernel
theorem dX6_readWord_81 : decode cX6_readWord 81 = .ok (.ifCond .eq 7, 3) := by decide +kernel
theorem dX6_readWord_84 : decode cX6_readWord 84 = .ok (.iconst 1, 1) := by decide +kernel
theorem dX6_readWord_85 : decode cX6_readWord 85 = .ok (.goto 4, 3) := by decide +kernel
theorem dX6_readWord_88 : decode cX6_readWord 88 = .ok (.iconst 0, 1) := by decide +kernel
theorem dX6_readWord_89 : decode cX6_readWord 89 = .ok (.ireturn, 1) := by decide +kernel
theorem dX6_isWord_0 : decode cX6_isWord 0 = .ok (.aload_n 1, 1) := by decide +kernel
theorem dX6_isWord_1 : decode cX6_isWord 1 = .ok (.invokevirtual 87, 3) := by decide +kernel
theorem dX6_isWord_4 : decode cX6_isWord 4 = .ok (.aload_n 0, 1) := by decide +kernel
theorem dX6_isWord_5 : decode cX6_isWord 5 = .ok (.getfield 84, 3) := by decide +kernel
theorem dX6_isWord_8 : decode cX6_isWord 8 = .ok (.if_icmp .eq 5, 3) := by decide +kernel
theorem dX6_isWord_11 : decode cX6_isWord 11 = .ok (.iconst 0, 1) := by decide +kernel
theorem dX6_isWord_12 : decode cX6_isWord 12 = .ok (.ireturn, 1) := by decide +kernel
theorem dX6_isWord_13 : decode cX6_isWord 13 = .ok (.iconst 0, 1) := by decide +kernel
theorem dX6_isWord_14 : decode cX6_isWord 14 = .ok (.istore_n 2, 1) := by decide +kernel
theorem dX6_isWord_15 : decode cX6_isWord 15 = .ok (.iload_n 2, 1) := by decide +kernel
theorem dX6_isWord_16 : decode cX6_isWord 16 = .ok (.aload_n 1, 1) := by decide +kernel
theorem dX6_isWord_17 : decode cX6_isWord 17 = .ok (.invokevirtual 87, 3) := by decide +kernel
theorem dX6_isWord_20 : decode cX6_isWord 20 = .ok (.if_icmp .ge 32, 3) := by decide +kernel
theorem dX6_isWord_23 : decode cX6_isWord 23 = .ok (.aload_n 1, 1) := by decide +kernel
theorem dX6_isWord_24 : decode cX6_isWord 24 = .ok (.iload_n 2, 1) := by decide +kernel
theorem dX6_isWord_25 : decode cX6_isWord 25 = .ok (.invokevirtual 92, 3) := by decide +kernel
theorem dX6_isWord_28 : decode cX6_isWord 28 = .ok (.aload_n 0, 1) := by decide +kernel
theorem dX6_isWord_29 : decode cX6_isWord 29 = .ok (.getfield 12, 3) := by decide +kernel
theorem dX6_isWord_32 : decode cX6_isWord 32 = .ok (.aload_n 0, 1) := by decide +kernel
theorem dX6_isWord_33 : decode cX6_isWord 33 = .ok (.getfield 78, 3) := by decide +kernel
theorem dX6_isWord_36 : decode cX6_isWord 36 = .ok (.iload_n 2, 1) := by decide +kernel
theorem dX6_isWord_37 : decode cX6_isWord 37 = .ok (.iadd, 1) := by decide +kernel
theorem dX6_isWord_38 : decode cX6_isWord 38 = .ok (.invokevirtual 67, 3) := by decide +kernel
theorem dX6_isWord_41 : decode cX6_isWord 41 = .ok (.if_icmp .eq 5, 3) := by decide +kernel
theorem dX6_isWord_44 : decode cX6_isWord 44 = .ok (.iconst 0, 1) := by decide +kernel
theorem dX6_isWord_45 : decode cX6_isWord 45 = .ok (.ireturn, 1) := by decide +kernel
theorem dX6_isWord_46 : decode cX6_isWord 46 = .ok (.iinc 2 1, 3) := by decide +kernel
theorem dX6_isWord_49 : decode cX6_isWord 49 = .ok (.goto (-34), 3) := by decide +kernel
theorem dX6_isWord_52 : decode cX6_isWord 52 = .ok (.iconst 1, 1) := by decide +kernel
theorem dX6_isWord_53 : decode cX6_isWord 53 = .ok (.ireturn, 1) := by decide +kernel
theorem dX6_readNumber_0 : decode cX6_readNumber 0 = .ok (.aload_n 0, 1) := by decide +kernel
theorem dX6_readNumber_1 : decode cX6_readNumber 1 = .ok (.invokevirtual 71, 3) := by decide +kernel
theorem dX6_readNumber_4 : decode cX6_readNumber 4 = .ok (.aload_n 0, 1) := by decide +kernel
theorem dX6_readNumber_5 : decode cX6_readNumber 5 = .ok (.getfield 57, 3) := by decide +kernel
theorem dX6_readNumber_8 : decode cX6_readNumber 8 = .ok (.istore_n 3, 1) := by decide +kernel
theorem dX6_readNumber_9 : decode cX6_readNumber 9 = .ok (.iload_n 1, 1) := by decide +kernel
theorem dX6_readNumber_10 : decode cX6_readNumber 10 = .ok (.ifCond .ge 23, 3) := by decide +kernel
theorem dX6_readNumber_13 : decode cX6_readNumber 13 = .ok (.aload_n 0, 1) := by decide +kernel
theorem dX6_readNumber_14 : decode cX6_readNumber 14 = .ok (.getfield 12, 3) := by decide +kernel
theorem dX6_readNumber_17 : decode cX6_readNumber 17 = .ok (.aload_n 0, 1) := by decide +kernel
theorem dX6_readNumber_18 : decode cX6_readNumber 18 = .ok (.getfield 57, 3) := by decide +kernel
theorem dX6_readNumber_21 : decode cX6_readNumber 21 = .ok (.invokevirtual 67, 3) := by decide +kernel
theorem dX6_readNumber_24 : decode cX6_readNumber 24 = .ok (.bipush 45, 2) := by decide +kernel
theorem dX6_readNumber_26 : decode cX6_readNumber 26 = .ok (.if_icmp .ne 7, 3) := by decide +kernel
theorem dX6_readNumber_29 : decode cX6_readNumber 29 = .ok (.iconst 1, 1) := by decide +kernel
theorem dX6_readNumber_30 : decode cX6_readNumber 30 = .ok (.goto 4, 3) := by decide +kernel
theorem dX6_readNumber_33 : decode cX6_readNumber 33 = .ok (.iconst 0, 1) := by decide +kernel
theorem dX6_readNumber_34 : decode cX6_readNumber 34 = .ok (.istore 4, 2) := by decide +kernel
theorem dX6_readNumber_36 : decode cX6_readNumber 36 = .ok (.iload 4, 2) := by decide +kernel
theorem dX6_readNumber_38 : decode cX6_readNumber 38 = .ok (.ifCond .eq 13, 3) := by decide +kernel
theorem dX6_readNumber_41 : decode cX6_readNumber 41 = .ok (.aload_n 0, 1) := by decide +kernel
theorem dX6_readNumber_42 : decode cX6_readNumber 42 = .ok (.dup, 1) := by decide +kernel
theorem dX6_readNumber_43 : decode cX6_readNumber 43 = .ok (.getfield 57, 3) := by decide +kernel
theorem dX6_readNumber_46 : decode cX6_readNumber 46 = .ok (.iconst 1, 1) := by decide +kernel
theorem dX6_readNumber_47 : decode cX6_readNumber 47 = .ok (.iadd, 1) := by decide +kernel
theorem dX6_readNumber_48 : decode cX6_readNumber 48 = .ok (.putfield 57, 3) := by decide +kernel
theorem dX6_readNumber_51 : decode cX6_readNumber 51 = .ok (.iconst 0, 1) := by decide +kernel
theorem dX6_readNumber_52 : decode cX6_readNumber 52 = .ok (.istore 5, 2) := by decide +kernel
theorem dX6_readNumber_54 : decode cX6_readNumber 54 = .ok (.aload_n 0, 1) := by decide +kernel
theorem dX6_readNumber_55 : decode cX6_readNumber 55 = .ok (.iconst 0, 1) := by decide +kernel
theorem dX6_readNumber_56 : decode cX6_readNumber 56 = .ok (.putfield 95, 3) := by decide +kernel
theorem dX6_readNumber_59 : decode cX6_readNumber 59 = .ok (.aload_n 0, 1) := by decide +kernel
theorem dX6_readNumber_60 : decode cX6_readNumber 60 = .ok (.getfield 57, 3) := by decide +kernel
theorem dX6_readNumber_63 : decode cX6_readNumber 63 = .ok (.aload_n 0, 1) := by decide +kernel
theorem dX6_readNumber_64 : decode cX6_readNumber 64 = .ok (.getfield 12, 3) := by decide +kernel
theorem dX6_readNumber_67 : decode cX6_readNumber 67 = .ok (.getfield 47, 3) := by decide +kernel
theorem dX6_readNumber_70 : decode cX6_readNumber 70 = .ok (.if_icmp .ge 65, 3) := by decide +kernel
theorem dX6_readNumber_73 : decode cX6_readNumber 73 = .ok (.aload_n 0, 1) := by decide +kernel
theorem dX6_readNumber_74 : decode cX6_readNumber 74 = .ok (.getfield 12, 3) := by decide +kernel
theorem dX6_readNumber_77 : decode cX6_readNumber 77 = .ok (.aload_n 0, 1) := by decide +kernel
theorem dX6_readNumber_78 : decode cX6_readNumber 78 = .ok (.getfield 57, 3) := by decide +kernel
theorem dX6_readNumber_81 : decode cX6_readNumber 81 = .ok (.invokevirtual 98, 3) := by decide +kernel
theorem dX6_readNumber_84 : decode cX6_readNumber 84 = .ok (.ifCond .eq 51, 3) := by decide +kernel
theorem dX6_readNumber_87 : decode cX6_readNumber 87 = .ok (.iinc 5 1, 3) := by decide +kernel
theorem dX6_readNumber_90 : decode cX6_readNumber 90 = .ok (.iload 5, 2) := by decide +kernel
theorem dX6_readNumber_92 : decode cX6_readNumber 92 = .ok (.iconst 3, 1) := by decide +kernel
theorem dX6_readNumber_93 : decode cX6_readNumber 93 = .ok (.if_icmp .gt 29, 3) := by decide +kernel
theorem dX6_readNumber_96 : decode cX6_readNumber 96 = .ok (.aload_n 0, 1) := by decide +kernel
theorem dX6_readNumber_97 : decode cX6_readNumber 97 = .ok (.aload_n 0, 1) := by decide +kernel
theorem dX6_readNumber_98 : decode cX6_readNumber 98 = .ok (.getfield 95, 3) := by decide +kernel
theorem dX6_readNumber_101 : decode cX6_readNumber 101 = .ok (.bipush 10, 2) := by decide +kernel
theorem dX6_readNumber_103 : decode cX6_readNumber 103 = .ok (.imul, 1) := by decide +kernel
theorem dX6_readNumber_104 : decode cX6_readNumber 104 = .ok (.aload_n 0, 1) := by decide +kernel
theorem dX6_readNumber_105 : decode cX6_readNumber 105 = .ok (.getfield 12, 3) := by decide +kernel
theorem dX6_readNumber_108 : decode cX6_readNumber 108 = .ok (.aload_n 0, 1) := by decide +kernel
theorem dX6_readNumber_109 : decode cX6_readNumber 109 = .ok (.getfield 57, 3) := by decide +kernel
theorem dX6_readNumber_112 : decode cX6_readNumber 112 = .ok (.invokevirtual 67, 3) := by decide +kernel
theorem dX6_readNumber_115 : decode cX6_readNumber 115 = .ok (.bipush 48, 2) := by decide +kernel
theorem dX6_readNumber_117 : decode cX6_readNumber 117 = .ok (.isub, 1) := by decide +kernel
theorem dX6_readNumber_118 : decode cX6_readNumber 118 = .ok (.iadd, 1) := by decide +kernel
theorem dX6_readNumber_119 : decode cX6_readNumber 119 = .ok (.putfield 95, 3) := by decide +kernel
theorem dX6_readNumber_122 : decode cX6_readNumber 122 = .ok (.aload_n 0, 1) := by decide +kernel
theorem dX6_readNumber_123 : decode cX6_readNumber 123 = .ok (.dup, 1) := by decide +kernel
theorem dX6_readNumber_124 : decode cX6_readNumber 124 = .ok (.getfield 57, 3) := by decide +kernel
theorem dX6_readNumber_127 : decode cX6_readNumber 127 = .ok (.iconst 1, 1) := by decide +kernel
theorem dX6_readNumber_128 : decode cX6_readNumber 128 = .ok (.iadd, 1) := by decide +kernel
theorem dX6_readNumber_129 : decode cX6_readNumber 129 = .ok (.putfield 57, 3) := by decide +kernel
theorem dX6_readNumber_132 : decode cX6_readNumber 132 = .ok (.goto (-73), 3) := by decide +kernel
theorem dX6_readNumber_135 : decode cX6_readNumber 135 = .ok (.iload 4, 2) := by decide +kernel
theorem dX6_readNumber_137 : decode cX6_readNumber 137 = .ok (.ifCond .eq 12, 3) := by decide +kernel
theorem dX6_readNumber_140 : decode cX6_readNumber 140 = .ok (.aload_n 0, 1) := by decide +kernel
theorem dX6_readNumber_141 : decode cX6_readNumber 141 = .ok (.aload_n 0, 1) := by decide +kernel
theorem dX6_readNumber_142 : decode cX6_readNumber 142 = .ok (.getfield 95, 3) := by decide +kernel
theorem dX6_readNumber_145 : decode cX6_readNumber 145 = .ok (.ineg, 1) := by decide +kernel
theorem dX6_readNumber_146 : decode cX6_readNumber 146 = .ok (.putfield 95, 3) := by decide +kernel
theorem dX6_readNumber_149 : decode cX6_readNumber 149 = .ok (.iload 5, 2) := by decide +kernel
theorem dX6_readNumber_151 : decode cX6_readNumber 151 = .ok (.iconst 1, 1) := by decide +kernel
theorem dX6_readNumber_152 : decode cX6_readNumber 152 = .ok (.if_icmp .lt 29, 3) := by decide +kernel
theorem dX6_readNumber_155 : decode cX6_readNumber 155 = .ok (.iload 5, 2) := by decide +kernel
theorem dX6_readNumber_157 : decode cX6_readNumber 157 = .ok (.iconst 3, 1) := by decide +kernel
theorem dX6_readNumber_158 : decode cX6_readNumber 158 = .ok (.if_icmp .gt 23, 3) := by decide +kernel
theorem dX6_readNumber_161 : decode cX6_readNumber 161 = .ok (.aload_n 0, 1) := by decide +kernel
theorem dX6_readNumber_162 : decode cX6_readNumber 162 = .ok (.getfield 95, 3) := by decide +kernel
theorem dX6_readNumber_165 : decode cX6_readNumber 165 = .ok (.iload_n 1, 1) := by decide +kernel
theorem dX6_readNumber_166 : decode cX6_readNumber 166 = .ok (.if_icmp .lt 15, 3) := by decide +kernel
theorem dX6_readNumber_169 : decode cX6_readNumber 169 = .ok (.aload_n 0, 1) := by decide +kernel
theorem dX6_readNumber_170 : decode cX6_readNumber 170 = .ok (.getfield 95, 3) := by decide +kernel
theorem dX6_readNumber_173 : decode cX6_readNumber 173 = .ok (.iload_n 2, 1) := by decide +kernel
theorem dX6_readNumber_174 : decode cX6_readNumber 174 = .ok (.if_icmp .gt 7, 3) := by decide +kernel
theorem dX6_readNumber_177 : decode cX6_readNumber 177 = .ok (.iconst 1, 1) := by decide +kernel
theorem dX6_readNumber_178 : decode cX6_readNumber 178 = .ok (.goto 4, 3) := by decide +kernel
theorem dX6_readNumber_181 : decode cX6_readNumber 181 = .ok (.iconst 0, 1) := by decide +kernel
theorem dX6_readNumber_182 : decode cX6_readNumber 182 = .ok (.istore 6, 2) := by decide +kernel
theorem dX6_readNumber_184 : decode cX6_readNumber 184 = .ok (.iload 6, 2) := by decide +kernel
theorem dX6_readNumber_186 : decode cX6_readNumber 186 = .ok (.ifCond .ne 11, 3) := by decide +kernel
theorem dX6_readNumber_189 : decode cX6_readNumber 189 = .ok (.aload_n 0, 1) := by decide +kernel
theorem dX6_readNumber_190 : decode cX6_readNumber 190 = .ok (.iload_n 3, 1) := by decide +kernel
theorem dX6_readNumber_191 : decode cX6_readNumber 191 = .ok (.invokevirtual 74, 3) := by decide +kernel
theorem dX6_readNumber_194 : decode cX6_readNumber 194 = .ok (.ifCond .eq 7, 3) := by decide +kernel
theorem dX6_readNumber_197 : decode cX6_readNumber 197 = .ok (.iconst 1, 1) := by decide +kernel
theorem dX6_readNumber_198 : decode cX6_readNumber 198 = .ok (.goto 4, 3) := by decide +kernel
theorem dX6_readNumber_201 : decode cX6_readNumber 201 = .ok (.iconst 0, 1) := by decide +kernel
theorem dX6_readNumber_202 : decode cX6_readNumber 202 = .ok (.ireturn, 1) := by decide +kernel
theorem dX6_readClause_0 : decode cX6_readClause 0 = .ok (.aload_n 0, 1) := by decide +kernel
theorem dX6_readClause_1 : decode cX6_readClause 1 = .ok (.invokevirtual 101, 3) := by decide +kernel
theorem dX6_readClause_4 : decode cX6_readClause 4 = .ok (.ifCond .ne 5, 3) := by decide +kernel
theorem dX6_readClause_7 : decode cX6_readClause 7 = .ok (.iconst 0, 1) := by decide +kernel
theorem dX6_readClause_8 : decode cX6_readClause 8 = .ok (.ireturn, 1) := by decide +kernel
theorem dX6_readClause_9 : decode cX6_readClause 9 = .ok (.aload_n 0, 1) := by decide +kernel
theorem dX6_readClause_10 : decode cX6_readClause 10 = .ok (.ldc 105, 2) := by decide +kernel
theorem dX6_readClause_12 : decode cX6_readClause 12 = .ok (.invokevirtual 107, 3) := by decide +kernel
theorem dX6_readClause_15 : decode cX6_readClause 15 = .ok (.ifCond .eq 16, 3) := by decide +kernel
theorem dX6_readClause_18 : decode cX6_readClause 18 = .ok (.aload_n 1, 1) := by decide +kernel
theorem dX6_readClause_19 : decode cX6_readClause 19 = .ok (.getfield 21, 3) := by decide +kernel
theorem dX6_readClause_22 : decode cX6_readClause 22 = .ok (.ifCond .ne 9, 3) := by decide +kernel
theorem dX6_readClause_25 : decode cX6_readClause 25 = .ok (.aload_n 0, 1) := by decide +kernel
theorem dX6_readClause_26 : decode cX6_readClause 26 = .ok (.aload_n 1, 1) := by decide +kernel
theorem dX6_readClause_27 : decode cX6_readClause 27 = .ok (.invokevirtual 111, 3) := by decide +kernel
theorem dX6_readClause_30 : decode cX6_readClause 30 = .ok (.ireturn, 1) := by decide +kernel
theorem dX6_readClause_31 : decode cX6_readClause 31 = .ok (.aload_n 0, 1) := by decide +kernel
theorem dX6_readClause_32 : decode cX6_readClause 32 = .ok (.ldc 115, 2) := by decide +kernel
theorem dX6_readClause_34 : decode cX6_readClause 34 = .ok (.invokevirtual 107, 3) := by decide +kernel
theorem dX6_readClause_37 : decode cX6_readClause 37 = .ok (.ifCond .eq 34, 3) := by decide +kernel
theorem dX6_readClause_40 : decode cX6_readClause 40 = .ok (.aload_n 0, 1) := by decide +kernel
theorem dX6_readClause_41 : decode cX6_readClause 41 = .ok (.getfield 60, 3) := by decide +kernel
theorem dX6_readClause_44 : decode cX6_readClause 44 = .ok (.ifCond .ne 27, 3) := by decide +kernel
theorem dX6_readClause_47 : decode cX6_readClause 47 = .ok (.aload_n 0, 1) := by decide +kernel
theorem dX6_readClause_48 : decode cX6_readClause 48 = .ok (.iconst 1, 1) := by decide +kernel
theorem dX6_readClause_49 : decode cX6_readClause 49 = .ok (.putfield 60, 3) := by decide +kernel
theorem dX6_readClause_52 : decode cX6_readClause 52 = .ok (.aload_n 0, 1) := by decide +kernel
theorem dX6_readClause_53 : decode cX6_readClause 53 = .ok (.iconst 0, 1) := by decide +kernel
theorem dX6_readClause_54 : decode cX6_readClause 54 = .ok (.sipush 999, 3) := by decide +kernel
theorem dX6_readClause_57 : decode cX6_readClause 57 = .ok (.invokevirtual 116, 3) := by decide +kernel
theorem dX6_readClause_60 : decode cX6_readClause 60 = .ok (.istore_n 3, 1) := by decide +kernel
theorem dX6_readClause_61 : decode cX6_readClause 61 = .ok (.aload_n 1, 1) := by decide +kernel
theorem dX6_readClause_62 : decode cX6_readClause 62 = .ok (.aload_n 0, 1) := by decide +kernel
theorem dX6_readClause_63 : decode cX6_readClause 63 = .ok (.getfield 95, 3) := by decide +kernel
theorem dX6_readClause_66 : decode cX6_readClause 66 = .ok (.putfield 27, 3) := by decide +kernel
theorem dX6_readClause_69 : decode cX6_readClause 69 = .ok (.iload_n 3, 1) := by decide +kernel
theorem dX6_readClause_70 : decode cX6_readClause 70 = .ok (.ireturn, 1) := by decide +kernel
theorem dX6_readClause_71 : decode cX6_readClause 71 = .ok (.aload_n 0, 1) := by decide +kernel
theorem dX6_readClause_72 : decode cX6_readClause 72 = .ok (.ldc 120, 2) := by decide +kernel
theorem dX6_readClause_74 : decode cX6_readClause 74 = .ok (.invokevirtual 107, 3) := by decide +kernel
theorem dX6_readClause_77 : decode cX6_readClause 77 = .ok (.ifCond .eq 33, 3) := by decide +kernel
theorem dX6_readClause_80 : decode cX6_readClause 80 = .ok (.aload_n 0, 1) := by decide +kernel
theorem dX6_readClause_81 : decode cX6_readClause 81 = .ok (.getfield 64, 3) := by decide +kernel
theorem dX6_readClause_84 : decode cX6_readClause 84 = .ok (.ifCond .ne 26, 3) := by decide +kernel
theorem dX6_readClause_87 : decode cX6_readClause 87 = .ok (.aload_n 0, 1) := by decide +kernel
theorem dX6_readClause_88 : decode cX6_readClause 88 = .ok (.iconst 1, 1) := by decide +kernel
theorem dX6_readClause_89 : decode cX6_readClause 89 = .ok (.putfield 64, 3) := by decide +kernel
theorem dX6_readClause_92 : decode cX6_readClause 92 = .ok (.aload_n 0, 1) := by decide +kernel
theorem dX6_readClause_93 : decode cX6_readClause 93 = .ok (.iconst 0, 1) := by decide +kernel
theorem dX6_readClause_94 : decode cX6_readClause 94 = .ok (.bipush 9, 2) := by decide +kernel
theorem dX6_readClause_96 : decode cX6_readClause 96 = .ok (.invokevirtual 116, 3) := by decide +kernel
theorem dX6_readClause_99 : decode cX6_readClause 99 = .ok (.istore_n 3, 1) := by decide +kernel
theorem dX6_readClause_100 : decode cX6_readClause 100 = .ok (.aload_n 2, 1) := by decide +kernel
theorem dX6_readClause_101 : decode cX6_readClause 101 = .ok (.aload_n 0, 1) := by decide +kernel
theorem dX6_readClause_102 : decode cX6_readClause 102 = .ok (.getfield 95, 3) := by decide +kernel
theorem dX6_readClause_105 : decode cX6_readClause 105 = .ok (.putfield 33, 3) := by decide +kernel
theorem dX6_readClause_108 : decode cX6_readClause 108 = .ok (.iload_n 3, 1) := by decide +kernel
theorem dX6_readClause_109 : decode cX6_readClause 109 = .ok (.ireturn, 1) := by decide +kernel
theorem dX6_readClause_110 : decode cX6_readClause 110 = .ok (.aload_n 0, 1) := by decide +kernel
theorem dX6_readClause_111 : decode cX6_readClause 111 = .ok (.ldc 121, 2) := by decide +kernel
theorem dX6_readClause_113 : decode cX6_readClause 113 = .ok (.invokevirtual 107, 3) := by decide +kernel
theorem dX6_readClause_116 : decode cX6_readClause 116 = .ok (.ifCond .eq 18, 3) := by decide +kernel
theorem dX6_readClause_119 : decode cX6_readClause 119 = .ok (.aload_n 2, 1) := by decide +kernel
theorem dX6_readClause_120 : decode cX6_readClause 120 = .ok (.getfield 30, 3) := by decide +kernel
theorem dX6_readClause_123 : decode cX6_readClause 123 = .ok (.bipush 8, 2) := by decide +kernel
theorem dX6_readClause_125 : decode cX6_readClause 125 = .ok (.if_icmp .ge 9, 3) := by decide +kernel
theorem dX6_readClause_128 : decode cX6_readClause 128 = .ok (.aload_n 0, 1) := by decide +kernel
theorem dX6_readClause_129 : decode cX6_readClause 129 = .ok (.aload_n 2, 1) := by decide +kernel
theorem dX6_readClause_130 : decode cX6_readClause 130 = .ok (.invokevirtual 123, 3) := by decide +kernel
theorem dX6_readClause_133 : decode cX6_readClause 133 = .ok (.ireturn, 1) := by decide +kernel
theorem dX6_readClause_134 : decode cX6_readClause 134 = .ok (.aload_n 0, 1) := by decide +kernel
theorem dX6_readClause_135 : decode cX6_readClause 135 = .ok (.aload_n 0, 1) := by decide +kernel
theorem dX6_readClause_136 : decode cX6_readClause 136 = .ok (.getfield 78, 3) := by decide +kernel
theorem dX6_readClause_139 : decode cX6_readClause 139 = .ok (.invokevirtual 74, 3) := by decide +kernel
theorem dX6_readClause_142 : decode cX6_readClause 142 = .ok (.ireturn, 1) := by decide +kernel
theorem dX6_readSamples_0 : decode cX6_readSamples 0 = .ok (.iconst 1, 1) := by decide +kernel
theorem dX6_readSamples_1 : decode cX6_readSamples 1 = .ok (.istore_n 2, 1) := by decide +kernel
theorem dX6_readSamples_2 : decode cX6_readSamples 2 = .ok (.iconst 0, 1) := by decide +kernel
theorem dX6_readSamples_3 : decode cX6_readSamples 3 = .ok (.istore_n 3, 1) := by decide +kernel
theorem dX6_readSamples_4 : decode cX6_readSamples 4 = .ok (.iload_n 2, 1) := by decide +kernel
theorem dX6_readSamples_5 : decode cX6_readSamples 5 = .ok (.ifCond .eq 61, 3) := by decide +kernel
theorem dX6_readSamples_8 : decode cX6_readSamples 8 = .ok (.iload_n 3, 1) := by decide +kernel
theorem dX6_readSamples_9 : decode cX6_readSamples 9 = .ok (.bipush 48, 2) := by decide +kernel
theorem dX6_readSamples_11 : decode cX6_readSamples 11 = .ok (.if_icmp .ge 55, 3) := by decide +kernel
theorem dX6_readSamples_14 : decode cX6_readSamples 14 = .ok (.aload_n 0, 1) := by decide +kernel
theorem dX6_readSamples_15 : decode cX6_readSamples 15 = .ok (.iconst 0, 1) := by decide +kernel
theorem dX6_readSamples_16 : decode cX6_readSamples 16 = .ok (.sipush 999, 3) := by decide +kernel
theorem dX6_readSamples_19 : decode cX6_readSamples 19 = .ok (.invokevirtual 116, 3) := by decide +kernel
theorem dX6_readSamples_22 : decode cX6_readSamples 22 = .ok (.ifCond .ne 5, 3) := by decide +kernel
theorem dX6_readSamples_25 : decode cX6_readSamples 25 = .ok (.iconst 0, 1) := by decide +kernel
theorem dX6_readSamples_26 : decode cX6_readSamples 26 = .ok (.ireturn, 1) := by decide +kernel
theorem dX6_readSamples_27 : decode cX6_readSamples 27 = .ok (.aload_n 1, 1) := by decide +kernel
theorem dX6_readSamples_28 : decode cX6_readSamples 28 = .ok (.getfield 127, 3) := by decide +kernel
theorem dX6_readSamples_31 : decode cX6_readSamples 31 = .ok (.iload_n 3, 1) := by decide +kernel
theorem dX6_readSamples_32 : decode cX6_readSamples 32 = .ok (.aload_n 0, 1) := by decide +kernel
theorem dX6_readSamples_33 : decode cX6_readSamples 33 = .ok (.getfield 95, 3) := by decide +kernel
theorem dX6_readSamples_36 : decode cX6_readSamples 36 = .ok (.iastore, 1) := by decide +kernel
theorem dX6_readSamples_37 : decode cX6_readSamples 37 = .ok (.aload_n 1, 1) := by decide +kernel
theorem dX6_readSamples_38 : decode cX6_readSamples 38 = .ok (.iload_n 3, 1) := by decide +kernel
theorem dX6_readSamples_39 : decode cX6_readSamples 39 = .ok (.iconst 1, 1) := by decide +kernel
theorem dX6_readSamples_40 : decode cX6_readSamples 40 = .ok (.iadd, 1) := by decide +kernel
theorem dX6_readSamples_41 : decode cX6_readSamples 41 = .ok (.putfield 21, 3) := by decide +kernel
theorem dX6_readSamples_44 : decode cX6_readSamples 44 = .ok (.aload_n 0, 1) := by decide +kernel
theorem dX6_readSamples_45 : decode cX6_readSamples 45 = .ok (.invokevirtual 71, 3) := by decide +kernel
theorem dX6_readSamples_48 : decode cX6_readSamples 48 = .ok (.aload_n 0, 1) := by decide +kernel
theorem dX6_readSamples_49 : decode cX6_readSamples 49 = .ok (.getfield 12, 3) := by decide +kernel
theorem dX6_readSamples_52 : decode cX6_readSamples 52 = .ok (.aload_n 0, 1) := by decide +kernel
theorem dX6_readSamples_53 : decode cX6_readSamples 53 = .ok (.getfield 57, 3) := by decide +kernel
theorem dX6_readSamples_56 : decode cX6_readSamples 56 = .ok (.invokevirtual 98, 3) := by decide +kernel
theorem dX6_readSamples_59 : decode cX6_readSamples 59 = .ok (.istore_n 2, 1) := by decide +kernel
theorem dX6_readSamples_60 : decode cX6_readSamples 60 = .ok (.iinc 3 1, 3) := by decide +kernel
theorem dX6_readSamples_63 : decode cX6_readSamples 63 = .ok (.goto (-59), 3) := by decide +kernel
theorem dX6_readSamples_66 : decode cX6_readSamples 66 = .ok (.iload_n 2, 1) := by decide +kernel
theorem dX6_readSamples_67 : decode cX6_readSamples 67 = .ok (.ifCond .eq 14, 3) := by decide +kernel
theorem dX6_readSamples_70 : decode cX6_readSamples 70 = .ok (.aload_n 0, 1) := by decide +kernel
theorem dX6_readSamples_71 : decode cX6_readSamples 71 = .ok (.aload_n 0, 1) := by decide +kernel
theorem dX6_readSamples_72 : decode cX6_readSamples 72 = .ok (.getfield 57, 3) := by decide +kernel
theorem dX6_readSamples_75 : decode cX6_readSamples 75 = .ok (.invokevirtual 74, 3) := by decide +kernel
theorem dX6_readSamples_78 : decode cX6_readSamples 78 = .ok (.ifCond .eq 7, 3) := by decide +kernel
theorem dX6_readSamples_81 : decode cX6_readSamples 81 = .ok (.iconst 1, 1) := by decide +kernel
theorem dX6_readSamples_82 : decode cX6_readSamples 82 = .ok (.goto 4, 3) := by decide +kernel
theorem dX6_readSamples_85 : decode cX6_readSamples 85 = .ok (.iconst 0, 1) := by decide +kernel
theorem dX6_readSamples_86 : decode cX6_readSamples 86 = .ok (.ireturn, 1) := by decide +kernel
theorem dX6_readLine_0 : decode cX6_readLine 0 = .ok (.aload_n 0, 1) := by decide +kernel
theorem dX6_readLine_1 : decode cX6_readLine 1 = .ok (.invokevirtual 101, 3) := by decide +kernel
theorem dX6_readLine_4 : decode cX6_readLine 4 = .ok (.ifCond .ne 5, 3) := by decide +kernel
theorem dX6_readLine_7 : decode cX6_readLine 7 = .ok (.iconst 0, 1) := by decide +kernel
theorem dX6_readLine_8 : decode cX6_readLine 8 = .ok (.ireturn, 1) := by decide +kernel
theorem dX6_readLine_9 : decode cX6_readLine 9 = .ok (.aload_n 0, 1) := by decide +kernel
theorem dX6_readLine_10 : decode cX6_readLine 10 = .ok (.getfield 84, 3) := by decide +kernel
theorem dX6_readLine_13 : decode cX6_readLine 13 = .ok (.bipush 6, 2) := by decide +kernel
theorem dX6_readLine_15 : decode cX6_readLine 15 = .ok (.if_icmp .gt 22, 3) := by decide +kernel
theorem dX6_readLine_18 : decode cX6_readLine 18 = .ok (.aload_n 1, 1) := by decide +kernel
theorem dX6_readLine_19 : decode cX6_readLine 19 = .ok (.aload_n 0, 1) := by decide +kernel
theorem dX6_readLine_20 : decode cX6_readLine 20 = .ok (.getfield 12, 3) := by decide +kernel
theorem dX6_readLine_23 : decode cX6_readLine 23 = .ok (.aload_n 0, 1) := by decide +kernel
theorem dX6_readLine_24 : decode cX6_readLine 24 = .ok (.getfield 78, 3) := by decide +kernel
theorem dX6_readLine_27 : decode cX6_readLine 27 = .ok (.aload_n 0, 1) := by decide +kernel
theorem dX6_readLine_28 : decode cX6_readLine 28 = .ok (.getfield 84, 3) := by decide +kernel
theorem dX6_readLine_31 : decode cX6_readLine 31 = .ok (.invokevirtual 131, 3) := by decide +kernel
theorem dX6_readLine_34 : decode cX6_readLine 34 = .ok (.ifCond .eq 12, 3) := by decide +kernel
theorem dX6_readLine_37 : decode cX6_readLine 37 = .ok (.aload_n 0, 1) := by decide +kernel
theorem dX6_readLine_38 : decode cX6_readLine 38 = .ok (.aload_n 0, 1) := by decide +kernel
theorem dX6_readLine_39 : decode cX6_readLine 39 = .ok (.getfield 78, 3) := by decide +kernel
theorem dX6_readLine_42 : decode cX6_readLine 42 = .ok (.invokevirtual 74, 3) := by decide +kernel
theorem dX6_readLine_45 : decode cX6_readLine 45 = .ok (.ireturn, 1) := by decide +kernel
theorem dX6_readLine_46 : decode cX6_readLine 46 = .ok (.aload_n 0, 1) := by decide +kernel
theorem dX6_readLine_47 : decode cX6_readLine 47 = .ok (.iconst 0, 1) := by decide +kernel
theorem dX6_readLine_48 : decode cX6_readLine 48 = .ok (.bipush 47, 2) := by decide +kernel
theorem dX6_readLine_50 : decode cX6_readLine 50 = .ok (.invokevirtual 116, 3) := by decide +kernel
theorem dX6_readLine_53 : decode cX6_readLine 53 = .ok (.ifCond .ne 5, 3) := by decide +kernel
theorem dX6_readLine_56 : decode cX6_readLine 56 = .ok (.iconst 0, 1) := by decide +kernel
theorem dX6_readLine_57 : decode cX6_readLine 57 = .ok (.ireturn, 1) := by decide +kernel
theorem dX6_readLine_58 : decode cX6_readLine 58 = .ok (.aload_n 1, 1) := by decide +kernel
theorem dX6_readLine_59 : decode cX6_readLine 59 = .ok (.aload_n 0, 1) := by decide +kernel
theorem dX6_readLine_60 : decode cX6_readLine 60 = .ok (.getfield 12, 3) := by decide +kernel
theorem dX6_readLine_63 : decode cX6_readLine 63 = .ok (.aload_n 0, 1) := by decide +kernel
theorem dX6_readLine_64 : decode cX6_readLine 64 = .ok (.getfield 78, 3) := by decide +kernel
theorem dX6_readLine_67 : decode cX6_readLine 67 = .ok (.aload_n 0, 1) := by decide +kernel
theorem dX6_readLine_68 : decode cX6_readLine 68 = .ok (.getfield 84, 3) := by decide +kernel
theorem dX6_readLine_71 : decode cX6_readLine 71 = .ok (.aload_n 0, 1) := by decide +kernel
theorem dX6_readLine_72 : decode cX6_readLine 72 = .ok (.getfield 95, 3) := by decide +kernel
theorem dX6_readLine_75 : decode cX6_readLine 75 = .ok (.invokevirtual 135, 3) := by decide +kernel
theorem dX6_readLine_78 : decode cX6_readLine 78 = .ok (.iconst 1, 1) := by decide +kernel
theorem dX6_readLine_79 : decode cX6_readLine 79 = .ok (.ireturn, 1) := by decide +kernel
theorem dX6_readStep_0 : decode cX6_readStep 0 = .ok (.aload_n 0, 1) := by decide +kernel
theorem dX6_readStep_1 : decode cX6_readStep 1 = .ok (.invokevirtual 101, 3) := by decide +kernel
theorem dX6_readStep_4 : decode cX6_readStep 4 = .ok (.ifCond .ne 5, 3) := by decide +kernel
theorem dX6_readStep_7 : decode cX6_readStep 7 = .ok (.iconst 0, 1) := by decide +kernel
theorem dX6_readStep_8 : decode cX6_readStep 8 = .ok (.ireturn, 1) := by decide +kernel
theorem dX6_readStep_9 : decode cX6_readStep 9 = .ok (.aload_n 0, 1) := by decide +kernel
theorem dX6_readStep_10 : decode cX6_readStep 10 = .ok (.invokevirtual 139, 3) := by decide +kernel
theorem dX6_readStep_13 : decode cX6_readStep 13 = .ok (.istore_n 2, 1) := by decide +kernel
theorem dX6_readStep_14 : decode cX6_readStep 14 = .ok (.iload_n 2, 1) := by decide +kernel
theorem dX6_readStep_15 : decode cX6_readStep 15 = .ok (.iconst (-1), 1) := by decide +kernel
theorem dX6_readStep_16 : decode cX6_readStep 16 = .ok (.if_icmp .ne 12, 3) := by decide +kernel
theorem dX6_readStep_19 : decode cX6_readStep 19 = .ok (.aload_n 0, 1) := by decide +kernel
theorem dX6_readStep_20 : decode cX6_readStep 20 = .ok (.aload_n 0, 1) := by decide +kernel
theorem dX6_readStep_21 : decode cX6_readStep 21 = .ok (.getfield 78, 3) := by decide +kernel
theorem dX6_readStep_24 : decode cX6_readStep 24 = .ok (.invokevirtual 74, 3) := by decide +kernel
theorem dX6_readStep_27 : decode cX6_readStep 27 = .ok (.ireturn, 1) := by decide +kernel
theorem dX6_readStep_28 : decode cX6_readStep 28 = .ok (.iload_n 2, 1) := by decide +kernel
theorem dX6_readStep_29 : decode cX6_readStep 29 = .ok (.invokestatic 142, 3) := by decide +kernel
theorem dX6_readStep_32 : decode cX6_readStep 32 = .ok (.istore_n 3, 1) := by decide +kernel
theorem dX6_readStep_33 : decode cX6_readStep 33 = .ok (.iconst 0, 1) := by decide +kernel
theorem dX6_readStep_34 : decode cX6_readStep 34 = .ok (.istore 4, 2) := by decide +kernel
theorem dX6_readStep_36 : decode cX6_readStep 36 = .ok (.iconst 0, 1) := by decide +kernel
theorem dX6_readStep_37 : decode cX6_readStep 37 = .ok (.istore 5, 2) := by decide +kernel
theorem dX6_readStep_39 : decode cX6_readStep 39 = .ok (.iload_n 3, 1) := by decide +kernel
theorem dX6_readStep_40 : decode cX6_readStep 40 = .ok (.ifCond .le 24, 3) := by decide +kernel
theorem dX6_readStep_43 : decode cX6_readStep 43 = .ok (.aload_n 0, 1) := by decide +kernel
theorem dX6_readStep_44 : decode cX6_readStep 44 = .ok (.sipush (-999), 3) := by decide +kernel
theorem dX6_readStep_47 : decode cX6_readStep 47 = .ok (.sipush 999, 3) := by decide +kernel
theorem dX6_readStep_50 : decode cX6_readStep 50 = .ok (.invokevirtual 116, 3) := by decide +kernel
theorem dX6_readStep_53 : decode cX6_readStep 53 = .ok (.ifCond .ne 5, 3) := by decide +kernel
theorem dX6_readStep_56 : decode cX6_readStep 56 = .ok (.iconst 0, 1) := by decide +kernel
theorem dX6_readStep_57 : decode cX6_readStep 57 = .ok (.ireturn, 1) := by decide +kernel
theorem dX6_readStep_58 : decode cX6_readStep 58 = .ok (.aload_n 0, 1) := by decide +kernel
theorem dX6_readStep_59 : decode cX6_readStep 59 = .ok (.getfield 95, 3) := by decide +kernel
theorem dX6_readStep_62 : decode cX6_readStep 62 = .ok (.istore 4, 2) := by decide +kernel
theorem dX6_readStep_64 : decode cX6_readStep 64 = .ok (.iload_n 3, 1) := by decide +kernel
theorem dX6_readStep_65 : decode cX6_readStep 65 = .ok (.iconst 1, 1) := by decide +kernel
theorem dX6_readStep_66 : decode cX6_readStep 66 = .ok (.if_icmp .le 24, 3) := by decide +kernel
theorem dX6_readStep_69 : decode cX6_readStep 69 = .ok (.aload_n 0, 1) := by decide +kernel
theorem dX6_readStep_70 : decode cX6_readStep 70 = .ok (.sipush (-999), 3) := by decide +kernel
theorem dX6_readStep_73 : decode cX6_readStep 73 = .ok (.sipush 999, 3) := by decide +kernel
theorem dX6_readStep_76 : decode cX6_readStep 76 = .ok (.invokevirtual 116, 3) := by decide +kernel
theorem dX6_readStep_79 : decode cX6_readStep 79 = .ok (.ifCond .ne 5, 3) := by decide +kernel
theorem dX6_readStep_82 : decode cX6_readStep 82 = .ok (.iconst 0, 1) := by decide +kernel
theorem dX6_readStep_83 : decode cX6_readStep 83 = .ok (.ireturn, 1) := by decide +kernel
theorem dX6_readStep_84 : decode cX6_readStep 84 = .ok (.aload_n 0, 1) := by decide +kernel
theorem dX6_readStep_85 : decode cX6_readStep 85 = .ok (.getfield 95, 3) := by decide +kernel
theorem dX6_readStep_88 : decode cX6_readStep 88 = .ok (.istore 5, 2) := by decide +kernel
theorem dX6_readStep_90 : decode cX6_readStep 90 = .ok (.aload_n 1, 1) := by decide +kernel
theorem dX6_readStep_91 : decode cX6_readStep 91 = .ok (.iload_n 2, 1) := by decide +kernel
theorem dX6_readStep_92 : decode cX6_readStep 92 = .ok (.iload 4, 2) := by decide +kernel
theorem dX6_readStep_94 : decode cX6_readStep 94 = .ok (.iload 5, 2) := by decide +kernel
theorem dX6_readStep_96 : decode cX6_readStep 96 = .ok (.invokevirtual 146, 3) := by decide +kernel
theorem dX6_readStep_99 : decode cX6_readStep 99 = .ok (.iconst 1, 1) := by decide +kernel
theorem dX6_readStep_100 : decode cX6_readStep 100 = .ok (.ireturn, 1) := by decide +kernel
theorem dX6_sortTold_0 : decode cX6_sortTold 0 = .ok (.iconst 0, 1) := by decide +kernel
theorem dX6_sortTold_1 : decode cX6_sortTold 1 = .ok (.istore_n 1, 1) := by decide +kernel
theorem dX6_sortTold_2 : decode cX6_sortTold 2 = .ok (.iload_n 1, 1) := by decide +kernel
theorem dX6_sortTold_3 : decode cX6_sortTold 3 = .ok (.bipush 10, 2) := by decide +kernel
theorem dX6_sortTold_5 : decode cX6_sortTold 5 = .ok (.if_icmp .ge 22, 3) := by decide +kernel
theorem dX6_sortTold_8 : decode cX6_sortTold 8 = .ok (.aload_n 0, 1) := by decide +kernel
theorem dX6_sortTold_9 : decode cX6_sortTold 9 = .ok (.iload_n 1, 1) := by decide +kernel
theorem dX6_sortTold_10 : decode cX6_sortTold 10 = .ok (.invokestatic 149, 3) := by decide +kernel
theorem dX6_sortTold_13 : decode cX6_sortTold 13 = .ok (.invokevirtual 107, 3) := by decide +kernel
theorem dX6_sortTold_16 : decode cX6_sortTold 16 = .ok (.ifCond .eq 5, 3) := by decide +kernel
theorem dX6_sortTold_19 : decode cX6_sortTold 19 = .ok (.iload_n 1, 1) := by decide +kernel
theorem dX6_sortTold_20 : decode cX6_sortTold 20 = .ok (.ireturn, 1) := by decide +kernel
theorem dX6_sortTold_21 : decode cX6_sortTold 21 = .ok (.iinc 1 1, 3) := by decide +kernel
theorem dX6_sortTold_24 : decode cX6_sortTold 24 = .ok (.goto (-22), 3) := by decide +kernel
theorem dX6_sortTold_27 : decode cX6_sortTold 27 = .ok (.iconst (-1), 1) := by decide +kernel
theorem dX6_sortTold_28 : decode cX6_sortTold 28 = .ok (.ireturn, 1) := by decide +kernel
theorem dX7_init_0 : decode cX7_init 0 = .ok (.aload_n 0, 1) := by decide +kernel
theorem dX7_init_1 : decode cX7_init 1 = .ok (.invokespecial 3, 3) := by decide +kernel
theorem dX7_init_4 : decode cX7_init 4 = .ok (.aload_n 0, 1) := by decide +kernel
theorem dX7_init_5 : decode cX7_init 5 = .ok (.bipush 12, 2) := by decide +kernel
theorem dX7_init_7 : decode cX7_init 7 = .ok (.newarray .int, 2) := by decide +kernel
theorem dX7_init_9 : decode cX7_init 9 = .ok (.putfield 9, 3) := by decide +kernel
theorem dX7_init_12 : decode cX7_init 12 = .ok (.aload_n 0, 1) := by decide +kernel
theorem dX7_init_13 : decode cX7_init 13 = .ok (.bipush 12, 2) := by decide +kernel
theorem dX7_init_15 : decode cX7_init 15 = .ok (.newarray .int, 2) := by decide +kernel
theorem dX7_init_17 : decode cX7_init 17 = .ok (.putfield 15, 3) := by decide +kernel
theorem dX7_init_20 : decode cX7_init 20 = .ok (.aload_n 0, 1) := by decide +kernel
theorem dX7_init_21 : decode cX7_init 21 = .ok (.bipush 12, 2) := by decide +kernel
theorem dX7_init_23 : decode cX7_init 23 = .ok (.newarray .int, 2) := by decide +kernel
theorem dX7_init_25 : decode cX7_init 25 = .ok (.putfield 18, 3) := by decide +kernel
theorem dX7_init_28 : decode cX7_init 28 = .ok (.return_, 1) := by decide +kernel
theorem dX7_numbersOf_0 : decode cX7_numbersOf 0 = .ok (.iload_n 0, 1) := by decide +kernel
theorem dX7_numbersOf_1 : decode cX7_numbersOf 1 = .ok (.tableswitch 43 4 9 #[39, 39, 41, 41, 39, 41], 39) := by decide +kernel
theorem dX7_numbersOf_40 : decode cX7_numbersOf 40 = .ok (.iconst 1, 1) := by decide +kernel
theorem dX7_numbersOf_41 : decode cX7_numbersOf 41 = .ok (.ireturn, 1) := by decide +kernel
theorem dX7_numbersOf_42 : decode cX7_numbersOf 42 = .ok (.iconst 2, 1) := by decide +kernel
theorem dX7_numbersOf_43 : decode cX7_numbersOf 43 = .ok (.ireturn, 1) := by decide +kernel
theorem dX7_numbersOf_44 : decode cX7_numbersOf 44 = .ok (.iconst 0, 1) := by decide +kernel
theorem dX7_numbersOf_45 : decode cX7_numbersOf 45 = .ok (.ireturn, 1) := by decide +kernel
theorem dX7_wordOf_0 : decode cX7_wordOf 0 = .ok (.iload_n 0, 1) := by decide +kernel
theorem dX7_wordOf_1 : decode cX7_wordOf 1 = .ok (.tableswitch 78 0 8 #[51, 54, 57, 60, 63, 66, 69, 72, 75], 51) := by decide +kernel
theorem dX7_wordOf_52 : decode cX7_wordOf 52 = .ok (.ldc 21, 2) := by decide +kernel
theorem dX7_wordOf_54 : decode cX7_wordOf 54 = .ok (.areturn, 1) := by decide +kernel
theorem dX7_wordOf_55 : decode cX7_wordOf 55 = .ok (.ldc 23, 2) := by decide +kernel
theorem dX7_wordOf_57 : decode cX7_wordOf 57 = .ok (.areturn, 1) := by decide +kernel
theorem dX7_wordOf_58 : decode cX7_wordOf 58 = .ok (.ldc 25, 2) := by decide +kernel
theorem dX7_wordOf_60 : decode cX7_wordOf 60 = .ok (.areturn, 1) := by decide +kernel
theorem dX7_wordOf_61 : decode cX7_wordOf 61 = .ok (.ldc 27, 2) := by decide +kernel
theorem dX7_wordOf_63 : decode cX7_wordOf 63 = .ok (.areturn, 1) := by decide +kernel
theorem dX7_wordOf_64 : decode cX7_wordOf 64 = .ok (.ldc 29, 2) := by decide +kernel
theorem dX7_wordOf_66 : decode cX7_wordOf 66 = .ok (.areturn, 1) := by decide +kernel
theorem dX7_wordOf_67 : decode cX7_wordOf 67 = .ok (.ldc 31, 2) := by decide +kernel
theorem dX7_wordOf_69 : decode cX7_wordOf 69 = .ok (.areturn, 1) := by decide +kernel
theorem dX7_wordOf_70 : decode cX7_wordOf 70 = .ok (.ldc 33, 2) := by decide +kernel
theorem dX7_wordOf_72 : decode cX7_wordOf 72 = .ok (.areturn, 1) := by decide +kernel
theorem dX7_wordOf_73 : decode cX7_wordOf 73 = .ok (.ldc 35, 2) := by decide +kernel
theorem dX7_wordOf_75 : decode cX7_wordOf 75 = .ok (.areturn, 1) := by decide +kernel
theorem dX7_wordOf_76 : decode cX7_wordOf 76 = .ok (.ldc 37, 2) := by decide +kernel
theorem dX7_wordOf_78 : decode cX7_wordOf 78 = .ok (.areturn, 1) := by decide +kernel
theorem dX7_wordOf_79 : decode cX7_wordOf 79 = .ok (.ldc 39, 2) := by decide +kernel
theorem dX7_wordOf_81 : decode cX7_wordOf 81 = .ok (.areturn, 1) := by decide +kernel
theorem dX7_copyFrom_0 : decode cX7_copyFrom 0 = .ok (.aload_n 0, 1) := by decide +kernel
theorem dX7_copyFrom_1 : decode cX7_copyFrom 1 = .ok (.aload_n 1, 1) := by decide +kernel
theorem dX7_copyFrom_2 : decode cX7_copyFrom 2 = .ok (.getfield 41, 3) := by decide +kernel
theorem dX7_copyFrom_5 : decode cX7_copyFrom 5 = .ok (.putfield 41, 3) := by decide +kernel
theorem dX7_copyFrom_8 : decode cX7_copyFrom 8 = .ok (.aload_n 1, 1) := by decide +kernel
theorem dX7_copyFrom_9 : decode cX7_copyFrom 9 = .ok (.getfield 9, 3) := by decide +kernel
theorem dX7_copyFrom_12 : decode cX7_copyFrom 12 = .ok (.iconst 0, 1) := by decide +kernel
theorem dX7_copyFrom_13 : decode cX7_copyFrom 13 = .ok (.aload_n 0, 1) := by decide +kernel
theorem dX7_copyFrom_14 : decode cX7_copyFrom 14 = .ok (.getfield 9, 3) := by decide +kernel
theorem dX7_copyFrom_17 : decode cX7_copyFrom 17 = .ok (.iconst 0, 1) := by decide +kernel
theorem dX7_copyFrom_18 : decode cX7_copyFrom 18 = .ok (.bipush 12, 2) := by decide +kernel
theorem dX7_copyFrom_20 : decode cX7_copyFrom 20 = .ok (.invokestatic 45, 3) := by decide +kernel
theorem dX7_copyFrom_23 : decode cX7_copyFrom 23 = .ok (.aload_n 1, 1) := by decide +kernel
theorem dX7_copyFrom_24 : decode cX7_copyFrom 24 = .ok (.getfield 15, 3) := by decide +kernel
theorem dX7_copyFrom_27 : decode cX7_copyFrom 27 = .ok (.iconst 0, 1) := by decide +kernel
theorem dX7_copyFrom_28 : decode cX7_copyFrom 28 = .ok (.aload_n 0, 1) := by decide +kernel
theorem dX7_copyFrom_29 : decode cX7_copyFrom 29 = .ok (.getfield 15, 3) := by decide +kernel
theorem dX7_copyFrom_32 : decode cX7_copyFrom 32 = .ok (.iconst 0, 1) := by decide +kernel
theorem dX7_copyFrom_33 : decode cX7_copyFrom 33 = .ok (.bipush 12, 2) := by decide +kernel
theorem dX7_copyFrom_35 : decode cX7_copyFrom 35 = .ok (.invokestatic 45, 3) := by decide +kernel
theorem dX7_copyFrom_38 : decode cX7_copyFrom 38 = .ok (.aload_n 1, 1) := by decide +kernel
theorem dX7_copyFrom_39 : decode cX7_copyFrom 39 = .ok (.getfield 18, 3) := by decide +kernel
theorem dX7_copyFrom_42 : decode cX7_copyFrom 42 = .ok (.iconst 0, 1) := by decide +kernel
theorem dX7_copyFrom_43 : decode cX7_copyFrom 43 = .ok (.aload_n 0, 1) := by decide +kernel
theorem dX7_copyFrom_44 : decode cX7_copyFrom 44 = .ok (.getfield 18, 3) := by decide +kernel
theorem dX7_copyFrom_47 : decode cX7_copyFrom 47 = .ok (.iconst 0, 1) := by decide +kernel
theorem dX7_copyFrom_48 : decode cX7_copyFrom 48 = .ok (.bipush 12, 2) := by decide +kernel
theorem dX7_copyFrom_50 : decode cX7_copyFrom 50 = .ok (.invokestatic 45, 3) := by decide +kernel
theorem dX7_copyFrom_53 : decode cX7_copyFrom 53 = .ok (.return_, 1) := by decide +kernel
theorem dX7_add_0 : decode cX7_add 0 = .ok (.aload_n 0, 1) := by decide +kernel
theorem dX7_add_1 : decode cX7_add 1 = .ok (.getfield 41, 3) := by decide +kernel
theorem dX7_add_4 : decode cX7_add 4 = .ok (.bipush 12, 2) := by decide +kernel
theorem dX7_add_6 : decode cX7_add 6 = .ok (.if_icmp .lt 4, 3) := by decide +kernel
theorem dX7_add_9 : decode cX7_add 9 = .ok (.return_, 1) := by decide +kernel
theorem dX7_add_10 : decode cX7_add 10 = .ok (.aload_n 0, 1) := by decide +kernel
theorem dX7_add_11 : decode cX7_add 11 = .ok (.getfield 9, 3) := by decide +kernel
theorem dX7_add_14 : decode cX7_add 14 = .ok (.aload_n 0, 1) := by decide +kernel
theorem dX7_add_15 : decode cX7_add 15 = .ok (.getfield 41, 3) := by decide +kernel
theorem dX7_add_18 : decode cX7_add 18 = .ok (.iload_n 1, 1) := by decide +kernel
theorem dX7_add_19 : decode cX7_add 19 = .ok (.iastore, 1) := by decide +kernel
theorem dX7_add_20 : decode cX7_add 20 = .ok (.aload_n 0, 1) := by decide +kernel
theorem dX7_add_21 : decode cX7_add 21 = .ok (.getfield 15, 3) := by decide +kernel
theorem dX7_add_24 : decode cX7_add 24 = .ok (.aload_n 0, 1) := by decide +kernel
theorem dX7_add_25 : decode cX7_add 25 = .ok (.getfield 41, 3) := by decide +kernel
theorem dX7_add_28 : decode cX7_add 28 = .ok (.iload_n 2, 1) := by decide +kernel
theorem dX7_add_29 : decode cX7_add 29 = .ok (.iastore, 1) := by decide +kernel
theorem dX7_add_30 : decode cX7_add 30 = .ok (.aload_n 0, 1) := by decide +kernel
theorem dX7_add_31 : decode cX7_add 31 = .ok (.getfield 18, 3) := by decide +kernel
theorem dX7_add_34 : decode cX7_add 34 = .ok (.aload_n 0, 1) := by decide +kernel
theorem dX7_add_35 : decode cX7_add 35 = .ok (.getfield 41, 3) := by decide +kernel
theorem dX7_add_38 : decode cX7_add 38 = .ok (.iload_n 3, 1) := by decide +kernel
theorem dX7_add_39 : decode cX7_add 39 = .ok (.iastore, 1) := by decide +kernel
theorem dX7_add_40 : decode cX7_add 40 = .ok (.aload_n 0, 1) := by decide +kernel
theorem dX7_add_41 : decode cX7_add 41 = .ok (.dup, 1) := by decide +kernel
theorem dX7_add_42 : decode cX7_add 42 = .ok (.getfield 41, 3) := by decide +kernel
theorem dX7_add_45 : decode cX7_add 45 = .ok (.iconst 1, 1) := by decide +kernel
theorem dX7_add_46 : decode cX7_add 46 = .ok (.iadd, 1) := by decide +kernel
theorem dX7_add_47 : decode cX7_add 47 = .ok (.putfield 41, 3) := by decide +kernel
theorem dX7_add_50 : decode cX7_add 50 = .ok (.return_, 1) := by decide +kernel
theorem dX7_tell_0 : decode cX7_tell 0 = .ok (.iload_n 1, 1) := by decide +kernel
theorem dX7_tell_1 : decode cX7_tell 1 = .ok (.ifCond .lt 28, 3) := by decide +kernel
theorem dX7_tell_4 : decode cX7_tell 4 = .ok (.iload_n 1, 1) := by decide +kernel
theorem dX7_tell_5 : decode cX7_tell 5 = .ok (.aload_n 0, 1) := by decide +kernel
theorem dX7_tell_6 : decode cX7_tell 6 = .ok (.getfield 41, 3) := by decide +kernel
theorem dX7_tell_9 : decode cX7_tell 9 = .ok (.if_icmp .ge 20, 3) := by decide +kernel
theorem dX7_tell_12 : decode cX7_tell 12 = .ok (.iload_n 2, 1) := by decide +kernel
theorem dX7_tell_13 : decode cX7_tell 13 = .ok (.ifCond .lt 16, 3) := by decide +kernel
theorem dX7_tell_16 : decode cX7_tell 16 = .ok (.iload_n 2, 1) := by decide +kernel
theorem dX7_tell_17 : decode cX7_tell 17 = .ok (.aload_n 0, 1) := by decide +kernel
theorem dX7_tell_18 : decode cX7_tell 18 = .ok (.getfield 9, 3) := by decide +kernel
theorem dX7_tell_21 : decode cX7_tell 21 = .ok (.iload_n 1, 1) := by decide +kernel
theorem dX7_tell_22 : decode cX7_tell 22 = .ok (.iaload, 1) := by decide +kernel
theorem dX7_tell_23 : decode cX7_tell 23 = .ok (.invokestatic 51, 3) := by decide +kernel
theorem dX7_tell_26 : decode cX7_tell 26 = .ok (.if_icmp .le 6, 3) := by decide +kernel
theorem dX7_tell_29 : decode cX7_tell 29 = .ok (.ldc 55, 2) := by decide +kernel
theorem dX7_tell_31 : decode cX7_tell 31 = .ok (.ireturn, 1) := by decide +kernel
theorem dX7_tell_32 : decode cX7_tell 32 = .ok (.iload_n 2, 1) := by decide +kernel
theorem dX7_tell_33 : decode cX7_tell 33 = .ok (.ifCond .ne 10, 3) := by decide +kernel
theorem dX7_tell_36 : decode cX7_tell 36 = .ok (.aload_n 0, 1) := by decide +kernel
theorem dX7_tell_37 : decode cX7_tell 37 = .ok (.getfield 9, 3) := by decide +kernel
theorem dX7_tell_40 : decode cX7_tell 40 = .ok (.iload_n 1, 1) := by decide +kernel
theorem dX7_tell_41 : decode cX7_tell 41 = .ok (.iaload, 1) := by decide +kernel
theorem dX7_tell_42 : decode cX7_tell 42 = .ok (.ireturn, 1) := by decide +kernel
theorem dX7_tell_43 : decode cX7_tell 43 = .ok (.iload_n 2, 1) := by decide +kernel
theorem dX7_tell_44 : decode cX7_tell 44 = .ok (.iconst 1, 1) := by decide +kernel
theorem dX7_tell_45 : decode cX7_tell 45 = .ok (.if_icmp .ne 12, 3) := by decide +kernel
theorem dX7_tell_48 : decode cX7_tell 48 = .ok (.aload_n 0, 1) := by decide +kernel
theorem dX7_tell_49 : decode cX7_tell 49 = .ok (.getfield 15, 3) := by decide +kernel
theorem dX7_tell_52 : decode cX7_tell 52 = .ok (.iload_n 1, 1) := by decide +kernel
theorem dX7_tell_53 : decode cX7_tell 53 = .ok (.iaload, 1) := by decide +kernel
theorem dX7_tell_54 : decode cX7_tell 54 = .ok (.goto 9, 3) := by decide +kernel
theorem dX7_tell_57 : decode cX7_tell 57 = .ok (.aload_n 0, 1) := by decide +kernel
theorem dX7_tell_58 : decode cX7_tell 58 = .ok (.getfield 18, 3) := by decide +kernel
theorem dX7_tell_61 : decode cX7_tell 61 = .ok (.iload_n 1, 1) := by decide +kernel
theorem dX7_tell_62 : decode cX7_tell 62 = .ok (.iaload, 1) := by decide +kernel
theorem dX7_tell_63 : decode cX7_tell 63 = .ok (.ireturn, 1) := by decide +kernel
theorem dX7_refusalOf_0 : decode cX7_refusalOf 0 = .ok (.aload_n 2, 1) := by decide +kernel
theorem dX7_refusalOf_1 : decode cX7_refusalOf 1 = .ok (.aload_n 0, 1) := by decide +kernel
theorem dX7_refusalOf_2 : decode cX7_refusalOf 2 = .ok (.getfield 9, 3) := by decide +kernel
theorem dX7_refusalOf_5 : decode cX7_refusalOf 5 = .ok (.iload_n 1, 1) := by decide +kernel
theorem dX7_refusalOf_6 : decode cX7_refusalOf 6 = .ok (.iaload, 1) := by decide +kernel
theorem dX7_refusalOf_7 : decode cX7_refusalOf 7 = .ok (.aload_n 0, 1) := by decide +kernel
theorem dX7_refusalOf_8 : decode cX7_refusalOf 8 = .ok (.getfield 15, 3) := by decide +kernel
theorem dX7_refusalOf_11 : decode cX7_refusalOf 11 = .ok (.iload_n 1, 1) := by decide +kernel
theorem dX7_refusalOf_12 : decode cX7_refusalOf 12 = .ok (.iaload, 1) := by decide +kernel
theorem dX7_refusalOf_13 : decode cX7_refusalOf 13 = .ok (.aload_n 0, 1) := by decide +kernel
theorem dX7_refusalOf_14 : decode cX7_refusalOf 14 = .ok (.getfield 18, 3) := by decide +kernel
theorem dX7_refusalOf_17 : decode cX7_refusalOf 17 = .ok (.iload_n 1, 1) := by decide +kernel
theorem dX7_refusalOf_18 : decode cX7_refusalOf 18 = .ok (.iaload, 1) := by decide +kernel
theorem dX7_refusalOf_19 : decode cX7_refusalOf 19 = .ok (.invokevirtual 56, 3) := by decide +kernel
theorem dX7_refusalOf_22 : decode cX7_refusalOf 22 = .ok (.ireturn, 1) := by decide +kernel
theorem dX8_init_0 : decode cX8_init 0 = .ok (.aload_n 0, 1) := by decide +kernel
theorem dX8_init_1 : decode cX8_init 1 = .ok (.invokespecial 3, 3) := by decide +kernel
theorem dX8_init_4 : decode cX8_init 4 = .ok (.aload_n 0, 1) := by decide +kernel
theorem dX8_init_5 : decode cX8_init 5 = .ok (.bipush 13, 2) := by decide +kernel
theorem dX8_init_7 : decode cX8_init 7 = .ok (.newarray .int, 2) := by decide +kernel
theorem dX8_init_9 : decode cX8_init 9 = .ok (.putfield 11, 3) := by decide +kernel
theorem dX8_init_12 : decode cX8_init 12 = .ok (.return_, 1) := by decide +kernel
theorem dX8_add_0 : decode cX8_add 0 = .ok (.aload_n 0, 1) := by decide +kernel
theorem dX8_add_1 : decode cX8_add 1 = .ok (.getfield 15, 3) := by decide +kernel
theorem dX8_add_4 : decode cX8_add 4 = .ok (.bipush 13, 2) := by decide +kernel
theorem dX8_add_6 : decode cX8_add 6 = .ok (.if_icmp .ge 23, 3) := by decide +kernel
theorem dX8_add_9 : decode cX8_add 9 = .ok (.aload_n 0, 1) := by decide +kernel
theorem dX8_add_10 : decode cX8_add 10 = .ok (.getfield 11, 3) := by decide +kernel
theorem dX8_add_13 : decode cX8_add 13 = .ok (.aload_n 0, 1) := by decide +kernel
theorem dX8_add_14 : decode cX8_add 14 = .ok (.getfield 15, 3) := by decide +kernel
theorem dX8_add_17 : decode cX8_add 17 = .ok (.iload_n 1, 1) := by decide +kernel
theorem dX8_add_18 : decode cX8_add 18 = .ok (.iastore, 1) := by decide +kernel
theorem dX8_add_19 : decode cX8_add 19 = .ok (.aload_n 0, 1) := by decide +kernel
theorem dX8_add_20 : decode cX8_add 20 = .ok (.dup, 1) := by decide +kernel
theorem dX8_add_21 : decode cX8_add 21 = .ok (.getfield 15, 3) := by decide +kernel
theorem dX8_add_24 : decode cX8_add 24 = .ok (.iconst 1, 1) := by decide +kernel
theorem dX8_add_25 : decode cX8_add 25 = .ok (.iadd, 1) := by decide +kernel
theorem dX8_add_26 : decode cX8_add 26 = .ok (.putfield 15, 3) := by decide +kernel
theorem dX8_add_29 : decode cX8_add 29 = .ok (.return_, 1) := by decide +kernel
theorem dX8_addName_0 : decode cX8_addName 0 = .ok (.iload_n 2, 1) := by decide +kernel
theorem dX8_addName_1 : decode cX8_addName 1 = .ok (.iconst (-1), 1) := by decide +kernel
theorem dX8_addName_2 : decode cX8_addName 2 = .ok (.if_icmp .ne 10, 3) := by decide +kernel
theorem dX8_addName_5 : decode cX8_addName 5 = .ok (.aload_n 0, 1) := by decide +kernel
theorem dX8_addName_6 : decode cX8_addName 6 = .ok (.bipush 63, 2) := by decide +kernel
theorem dX8_addName_8 : decode cX8_addName 8 = .ok (.invokevirtual 19, 3) := by decide +kernel
theorem dX8_addName_11 : decode cX8_addName 11 = .ok (.return_, 1) := by decide +kernel
theorem dX8_addName_12 : decode cX8_addName 12 = .ok (.iconst 0, 1) := by decide +kernel
theorem dX8_addName_13 : decode cX8_addName 13 = .ok (.istore_n 3, 1) := by decide +kernel
theorem dX8_addName_14 : decode cX8_addName 14 = .ok (.iload_n 3, 1) := by decide +kernel
theorem dX8_addName_15 : decode cX8_addName 15 = .ok (.aload_n 1, 1) := by decide +kernel
theorem dX8_addName_16 : decode cX8_addName 16 = .ok (.getfield 23, 3) := by decide +kernel
theorem dX8_addName_19 : decode cX8_addName 19 = .ok (.iload_n 2, 1) := by decide +kernel
theorem dX8_addName_20 : decode cX8_addName 20 = .ok (.iaload, 1) := by decide +kernel
theorem dX8_addName_21 : decode cX8_addName 21 = .ok (.if_icmp .ge 19, 3) := by decide +kernel
theorem dX8_addName_24 : decode cX8_addName 24 = .ok (.aload_n 0, 1) := by decide +kernel
theorem dX8_addName_25 : decode cX8_addName 25 = .ok (.aload_n 1, 1) := by decide +kernel
theorem dX8_addName_26 : decode cX8_addName 26 = .ok (.iload_n 2, 1) := by decide +kernel
theorem dX8_addName_27 : decode cX8_addName 27 = .ok (.iload_n 3, 1) := by decide +kernel
theorem dX8_addName_28 : decode cX8_addName 28 = .ok (.invokevirtual 28, 3) := by decide +kernel
theorem dX8_addName_31 : decode cX8_addName 31 = .ok (.invokevirtual 19, 3) := by decide +kernel
theorem dX8_addName_34 : decode cX8_addName 34 = .ok (.iinc 3 1, 3) := by decide +kernel
theorem dX8_addName_37 : decode cX8_addName 37 = .ok (.goto (-23), 3) := by decide +kernel
theorem dX8_addName_40 : decode cX8_addName 40 = .ok (.return_, 1) := by decide +kernel
theorem dX8_addNumber_0 : decode cX8_addNumber 0 = .ok (.iload_n 1, 1) := by decide +kernel
theorem dX8_addNumber_1 : decode cX8_addNumber 1 = .ok (.bipush 100, 2) := by decide +kernel
theorem dX8_addNumber_3 : decode cX8_addNumber 3 = .ok (.if_icmp .lt 17, 3) := by decide +kernel
theorem dX8_addNumber_6 : decode cX8_addNumber 6 = .ok (.aload_n 0, 1) := by decide +kernel
theorem dX8_addNumber_7 : decode cX8_addNumber 7 = .ok (.bipush 48, 2) := by decide +kernel
theorem dX8_addNumber_9 : decode cX8_addNumber 9 = .ok (.iload_n 1, 1) := by decide +kernel
theorem dX8_addNumber_10 : decode cX8_addNumber 10 = .ok (.bipush 100, 2) := by decide +kernel
theorem dX8_addNumber_12 : decode cX8_addNumber 12 = .ok (.idiv, 1) := by decide +kernel
theorem dX8_addNumber_13 : decode cX8_addNumber 13 = .ok (.bipush 10, 2) := by decide +kernel
theorem dX8_addNumber_15 : decode cX8_addNumber 15 = .ok (.irem, 1) := by decide +kernel
theorem dX8_addNumber_16 : decode cX8_addNumber 16 = .ok (.iadd, 1) := by decide +kernel
theorem dX8_addNumber_17 : decode cX8_addNumber 17 = .ok (.invokevirtual 19, 3) := by decide +kernel
theorem dX8_addNumber_20 : decode cX8_addNumber 20 = .ok (.iload_n 1, 1) := by decide +kernel
theorem dX8_addNumber_21 : decode cX8_addNumber 21 = .ok (.bipush 10, 2) := by decide +kernel
theorem dX8_addNumber_23 : decode cX8_addNumber 23 = .ok (.if_icmp .lt 17, 3) := by decide +kernel
theorem dX8_addNumber_26 : decode cX8_addNumber 26 = .ok (.aload_n 0, 1) := by decide +kernel
theorem dX8_addNumber_27 : decode cX8_addNumber 27 = .ok (.bipush 48, 2) := by decide +kernel
theorem dX8_addNumber_29 : decode cX8_addNumber 29 = .ok (.iload_n 1, 1) := by decide +kernel
theorem dX8_addNumber_30 : decode cX8_addNumber 30 = .ok (.bipush 10, 2) := by decide +kernel
theorem dX8_addNumber_32 : decode cX8_addNumber 32 = .ok (.idiv, 1) := by decide +kernel
theorem dX8_addNumber_33 : decode cX8_addNumber 33 = .ok (.bipush 10, 2) := by decide +kernel
theorem dX8_addNumber_35 : decode cX8_addNumber 35 = .ok (.irem, 1) := by decide +kernel
theorem dX8_addNumber_36 : decode cX8_addNumber 36 = .ok (.iadd, 1) := by decide +kernel
theorem dX8_addNumber_37 : decode cX8_addNumber 37 = .ok (.invokevirtual 19, 3) := by decide +kernel
theorem dX8_addNumber_40 : decode cX8_addNumber 40 = .ok (.aload_n 0, 1) := by decide +kernel
theorem dX8_addNumber_41 : decode cX8_addNumber 41 = .ok (.bipush 48, 2) := by decide +kernel
theorem dX8_addNumber_43 : decode cX8_addNumber 43 = .ok (.iload_n 1, 1) := by decide +kernel
theorem dX8_addNumber_44 : decode cX8_addNumber 44 = .ok (.bipush 10, 2) := by decide +kernel
theorem dX8_addNumber_46 : decode cX8_addNumber 46 = .ok (.irem, 1) := by decide +kernel
theorem dX8_addNumber_47 : decode cX8_addNumber 47 = .ok (.iadd, 1) := by decide +kernel
theorem dX8_addNumber_48 : decode cX8_addNumber 48 = .ok (.invokevirtual 19, 3) := by decide +kernel
theorem dX8_addNumber_51 : decode cX8_addNumber 51 = .ok (.return_, 1) := by decide +kernel
theorem dX9_init_0 : decode cX9_init 0 = .ok (.aload_n 0, 1) := by decide +kernel
theorem dX9_init_1 : decode cX9_init 1 = .ok (.invokespecial 3, 3) := by decide +kernel
theorem dX9_init_4 : decode cX9_init 4 = .ok (.aload_n 0, 1) := by decide +kernel
theorem dX9_init_5 : decode cX9_init 5 = .ok (.sipush 400, 3) := by decide +kernel
theorem dX9_init_8 : decode cX9_init 8 = .ok (.newarray .char, 2) := by decide +kernel
theorem dX9_init_10 : decode cX9_init 10 = .ok (.putfield 9, 3) := by decide +kernel
theorem dX9_init_13 : decode cX9_init 13 = .ok (.return_, 1) := by decide +kernel
theorem dX9_addWord_0 : decode cX9_addWord 0 = .ok (.bipush 24, 2) := by decide +kernel
theorem dX9_addWord_2 : decode cX9_addWord 2 = .ok (.istore_n 2, 1) := by decide +kernel
theorem dX9_addWord_3 : decode cX9_addWord 3 = .ok (.iload_n 2, 1) := by decide +kernel
theorem dX9_addWord_4 : decode cX9_addWord 4 = .ok (.ifCond .lt 52, 3) := by decide +kernel
theorem dX9_addWord_7 : decode cX9_addWord 7 = .ok (.iload_n 1, 1) := by decide +kernel
theorem dX9_addWord_8 : decode cX9_addWord 8 = .ok (.iload_n 2, 1) := by decide +kernel
theorem dX9_addWord_9 : decode cX9_addWord 9 = .ok (.iushr, 1) := by decide +kernel
theorem dX9_addWord_10 : decode cX9_addWord 10 = .ok (.sipush 255, 3) := by decide +kernel
theorem dX9_addWord_13 : decode cX9_addWord 13 = .ok (.iand, 1) := by decide +kernel
theorem dX9_addWord_14 : decode cX9_addWord 14 = .ok (.istore_n 3, 1) := by decide +kernel
theorem dX9_addWord_15 : decode cX9_addWord 15 = .ok (.iload_n 3, 1) := by decide +kernel
theorem dX9_addWord_16 : decode cX9_addWord 16 = .ok (.ifCond .eq 34, 3) := by decide +kernel
theorem dX9_addWord_19 : decode cX9_addWord 19 = .ok (.aload_n 0, 1) := by decide +kernel
theorem dX9_addWord_20 : decode cX9_addWord 20 = .ok (.getfield 15, 3) := by decide +kernel
theorem dX9_addWord_23 : decode cX9_addWord 23 = .ok (.sipush 400, 3) := by decide +kernel
theorem dX9_addWord_26 : decode cX9_addWord 26 = .ok (.if_icmp .ge 24, 3) := by decide +kernel
theorem dX9_addWord_29 : decode cX9_addWord 29 = .ok (.aload_n 0, 1) := by decide +kernel
theorem dX9_addWord_30 : decode cX9_addWord 30 = .ok (.getfield 9, 3) := by decide +kernel
theorem dX9_addWord_33 : decode cX9_addWord 33 = .ok (.aload_n 0, 1) := by decide +kernel
theorem dX9_addWord_34 : decode cX9_addWord 34 = .ok (.getfield 15, 3) := by decide +kernel
theorem dX9_addWord_37 : decode cX9_addWord 37 = .ok (.iload_n 3, 1) := by decide +kernel
theorem dX9_addWord_38 : decode cX9_addWord 38 = .ok (.i2c, 1) := by decide +kernel
theorem dX9_addWord_39 : decode cX9_addWord 39 = .ok (.castore, 1) := by decide +kernel
theorem dX9_addWord_40 : decode cX9_addWord 40 = .ok (.aload_n 0, 1) := by decide +kernel
theorem dX9_addWord_41 : decode cX9_addWord 41 = .ok (.dup, 1) := by decide +kernel
theorem dX9_addWord_42 : decode cX9_addWord 42 = .ok (.getfield 15, 3) := by decide +kernel
theorem dX9_addWord_45 : decode cX9_addWord 45 = .ok (.iconst 1, 1) := by decide +kernel
theorem dX9_addWord_46 : decode cX9_addWord 46 = .ok (.iadd, 1) := by decide +kernel
theorem dX9_addWord_47 : decode cX9_addWord 47 = .ok (.putfield 15, 3) := by decide +kernel
theorem dX9_addWord_50 : decode cX9_addWord 50 = .ok (.iinc 2 (-8), 3) := by decide +kernel
theorem dX9_addWord_53 : decode cX9_addWord 53 = .ok (.goto (-50), 3) := by decide +kernel
theorem dX9_addWord_56 : decode cX9_addWord 56 = .ok (.return_, 1) := by decide +kernel
theorem dX9_byteAt_0 : decode cX9_byteAt 0 = .ok (.iload_n 1, 1) := by decide +kernel
theorem dX9_byteAt_1 : decode cX9_byteAt 1 = .ok (.ifCond .lt 20, 3) := by decide +kernel
theorem dX9_byteAt_4 : decode cX9_byteAt 4 = .ok (.iload_n 1, 1) := by decide +kernel
theorem dX9_byteAt_5 : decode cX9_byteAt 5 = .ok (.aload_n 0, 1) := by decide +kernel
theorem dX9_byteAt_6 : decode cX9_byteAt 6 = .ok (.getfield 15, 3) := by decide +kernel
theorem dX9_byteAt_9 : decode cX9_byteAt 9 = .ok (.if_icmp .ge 12, 3) := by decide +kernel
theorem dX9_byteAt_12 : decode cX9_byteAt 12 = .ok (.aload_n 0, 1) := by decide +kernel
theorem dX9_byteAt_13 : decode cX9_byteAt 13 = .ok (.getfield 9, 3) := by decide +kernel
theorem dX9_byteAt_16 : decode cX9_byteAt 16 = .ok (.iload_n 1, 1) := by decide +kernel
theorem dX9_byteAt_17 : decode cX9_byteAt 17 = .ok (.caload, 1) := by decide +kernel
theorem dX9_byteAt_18 : decode cX9_byteAt 18 = .ok (.goto 4, 3) := by decide +kernel
theorem dX9_byteAt_21 : decode cX9_byteAt 21 = .ok (.iconst 0, 1) := by decide +kernel
theorem dX9_byteAt_22 : decode cX9_byteAt 22 = .ok (.ireturn, 1) := by decide +kernel
theorem dX9_isDigit_0 : decode cX9_isDigit 0 = .ok (.aload_n 0, 1) := by decide +kernel
theorem dX9_isDigit_1 : decode cX9_isDigit 1 = .ok (.iload_n 1, 1) := by decide +kernel
theorem dX9_isDigit_2 : decode cX9_isDigit 2 = .ok (.invokevirtual 19, 3) := by decide +kernel
theorem dX9_isDigit_5 : decode cX9_isDigit 5 = .ok (.istore_n 2, 1) := by decide +kernel
theorem dX9_isDigit_6 : decode cX9_isDigit 6 = .ok (.iload_n 2, 1) := by decide +kernel
theorem dX9_isDigit_7 : decode cX9_isDigit 7 = .ok (.bipush 48, 2) := by decide +kernel
theorem dX9_isDigit_9 : decode cX9_isDigit 9 = .ok (.if_icmp .lt 13, 3) := by decide +kernel
theorem dX9_isDigit_12 : decode cX9_isDigit 12 = .ok (.iload_n 2, 1) := by decide +kernel
theorem dX9_isDigit_13 : decode cX9_isDigit 13 = .ok (.bipush 57, 2) := by decide +kernel
theorem dX9_isDigit_15 : decode cX9_isDigit 15 = .ok (.if_icmp .gt 7, 3) := by decide +kernel
theorem dX9_isDigit_18 : decode cX9_isDigit 18 = .ok (.iconst 1, 1) := by decide +kernel
theorem dX9_isDigit_19 : decode cX9_isDigit 19 = .ok (.goto 4, 3) := by decide +kernel
theorem dX9_isDigit_22 : decode cX9_isDigit 22 = .ok (.iconst 0, 1) := by decide +kernel
theorem dX9_isDigit_23 : decode cX9_isDigit 23 = .ok (.ireturn, 1) := by decide +kernel
theorem dX9_isLetter_0 : decode cX9_isLetter 0 = .ok (.aload_n 0, 1) := by decide +kernel
theorem dX9_isLetter_1 : decode cX9_isLetter 1 = .ok (.iload_n 1, 1) := by decide +kernel
theorem dX9_isLetter_2 : decode cX9_isLetter 2 = .ok (.invokevirtual 19, 3) := by decide +kernel
theorem dX9_isLetter_5 : decode cX9_isLetter 5 = .ok (.istore_n 2, 1) := by decide +kernel
theorem dX9_isLetter_6 : decode cX9_isLetter 6 = .ok (.iload_n 2, 1) := by decide +kernel
theorem dX9_isLetter_7 : decode cX9_isLetter 7 = .ok (.bipush 97, 2) := by decide +kernel
theorem dX9_isLetter_9 : decode cX9_isLetter 9 = .ok (.if_icmp .lt 13, 3) := by decide +kernel
theorem dX9_isLetter_12 : decode cX9_isLetter 12 = .ok (.iload_n 2, 1) := by decide +kernel
theorem dX9_isLetter_13 : decode cX9_isLetter 13 = .ok (.bipush 122, 2) := by decide +kernel
theorem dX9_isLetter_15 : decode cX9_isLetter 15 = .ok (.if_icmp .gt 7, 3) := by decide +kernel
theorem dX9_isLetter_18 : decode cX9_isLetter 18 = .ok (.iconst 1, 1) := by decide +kernel
theorem dX9_isLetter_19 : decode cX9_isLetter 19 = .ok (.goto 4, 3) := by decide +kernel
theorem dX9_isLetter_22 : decode cX9_isLetter 22 = .ok (.iconst 0, 1) := by decide +kernel
theorem dX9_isLetter_23 : decode cX9_isLetter 23 = .ok (.ireturn, 1) := by decide +kernel
theorem dX10_init_0 : decode cX10_init 0 = .ok (.aload_n 0, 1) := by decide +kernel
theorem dX10_init_1 : decode cX10_init 1 = .ok (.invokespecial 1, 3) := by decide +kernel
theorem dX10_init_4 : decode cX10_init 4 = .ok (.aload_n 0, 1) := by decide +kernel
theorem dX10_init_5 : decode cX10_init 5 = .ok (.new 7, 3) := by decide +kernel
theorem dX10_init_8 : decode cX10_init 8 = .ok (.dup, 1) := by decide +kernel
theorem dX10_init_9 : decode cX10_init 9 = .ok (.invokespecial 9, 3) := by decide +kernel
theorem dX10_init_12 : decode cX10_init 12 = .ok (.putfield 10, 3) := by decide +kernel
theorem dX10_init_15 : decode cX10_init 15 = .ok (.aload_n 0, 1) := by decide +kernel
theorem dX10_init_16 : decode cX10_init 16 = .ok (.aload_n 0, 1) := by decide +kernel
theorem dX10_init_17 : decode cX10_init 17 = .ok (.getfield 10, 3) := by decide +kernel
theorem dX10_init_20 : decode cX10_init 20 = .ok (.getfield 16, 3) := by decide +kernel
theorem dX10_init_23 : decode cX10_init 23 = .ok (.putfield 20, 3) := by decide +kernel
theorem dX10_init_26 : decode cX10_init 26 = .ok (.aload_n 0, 1) := by decide +kernel
theorem dX10_init_27 : decode cX10_init 27 = .ok (.new 21, 3) := by decide +kernel
theorem dX10_init_30 : decode cX10_init 30 = .ok (.dup, 1) := by decide +kernel
theorem dX10_init_31 : decode cX10_init 31 = .ok (.invokespecial 23, 3) := by decide +kernel
theorem dX10_init_34 : decode cX10_init 34 = .ok (.putfield 24, 3) := by decide +kernel
theorem dX10_init_37 : decode cX10_init 37 = .ok (.aload_n 0, 1) := by decide +kernel
theorem dX10_init_38 : decode cX10_init 38 = .ok (.new 28, 3) := by decide +kernel
theorem dX10_init_41 : decode cX10_init 41 = .ok (.dup, 1) := by decide +kernel
theorem dX10_init_42 : decode cX10_init 42 = .ok (.invokespecial 30, 3) := by decide +kernel
theorem dX10_init_45 : decode cX10_init 45 = .ok (.putfield 31, 3) := by decide +kernel
theorem dX10_init_48 : decode cX10_init 48 = .ok (.aload_n 0, 1) := by decide +kernel
theorem dX10_init_49 : decode cX10_init 49 = .ok (.new 35, 3) := by decide +kernel
theorem dX10_init_52 : decode cX10_init 52 = .ok (.dup, 1) := by decide +kernel
theorem dX10_init_53 : decode cX10_init 53 = .ok (.invokespecial 37, 3) := by decide +kernel
theorem dX10_init_56 : decode cX10_init 56 = .ok (.putfield 38, 3) := by decide +kernel
theorem dX10_init_59 : decode cX10_init 59 = .ok (.aload_n 0, 1) := by decide +kernel
theorem dX10_init_60 : decode cX10_init 60 = .ok (.new 42, 3) := by decide +kernel
theorem dX10_init_63 : decode cX10_init 63 = .ok (.dup, 1) := by decide +kernel
theorem dX10_init_64 : decode cX10_init 64 = .ok (.invokespecial 44, 3) := by decide +kernel
theorem dX10_init_67 : decode cX10_init 67 = .ok (.putfield 45, 3) := by decide +kernel
theorem dX10_init_70 : decode cX10_init 70 = .ok (.aload_n 0, 1) := by decide +kernel
theorem dX10_init_71 : decode cX10_init 71 = .ok (.new 49, 3) := by decide +kernel
theorem dX10_init_74 : decode cX10_init 74 = .ok (.dup, 1) := by decide +kernel
theorem dX10_init_75 : decode cX10_init 75 = .ok (.invokespecial 51, 3) := by decide +kernel
theorem dX10_init_78 : decode cX10_init 78 = .ok (.putfield 52, 3) := by decide +kernel
theorem dX10_init_81 : decode cX10_init 81 = .ok (.aload_n 0, 1) := by decide +kernel
theorem dX10_init_82 : decode cX10_init 82 = .ok (.iconst 4, 1) := by decide +kernel
theorem dX10_init_83 : decode cX10_init 83 = .ok (.anewarray 56, 3) := by decide +kernel
theorem dX10_init_86 : decode cX10_init 86 = .ok (.putfield 58, 3) := by decide +kernel
theorem dX10_init_89 : decode cX10_init 89 = .ok (.aload_n 0, 1) := by decide +kernel
theorem dX10_init_90 : decode cX10_init 90 = .ok (.new 21, 3) := by decide +kernel
theorem dX10_init_93 : decode cX10_init 93 = .ok (.dup, 1) := by decide +kernel
theorem dX10_init_94 : decode cX10_init 94 = .ok (.invokespecial 23, 3) := by decide +kernel
theorem dX10_init_97 : decode cX10_init 97 = .ok (.putfield 62, 3) := by decide +kernel
theorem dX10_init_100 : decode cX10_init 100 = .ok (.aload_n 0, 1) := by decide +kernel
theorem dX10_init_101 : decode cX10_init 101 = .ok (.new 49, 3) := by decide +kernel
theorem dX10_init_104 : decode cX10_init 104 = .ok (.dup, 1) := by decide +kernel
theorem dX10_init_105 : decode cX10_init 105 = .ok (.invokespecial 51, 3) := by decide +kernel
theorem dX10_init_108 : decode cX10_init 108 = .ok (.putfield 65, 3) := by decide +kernel
theorem dX10_init_111 : decode cX10_init 111 = .ok (.aload_n 0, 1) := by decide +kernel
theorem dX10_init_112 : decode cX10_init 112 = .ok (.new 21, 3) := by decide +kernel
theorem dX10_init_115 : decode cX10_init 115 = .ok (.dup, 1) := by decide +kernel
theorem dX10_init_116 : decode cX10_init 116 = .ok (.invokespecial 23, 3) := by decide +kernel
theorem dX10_init_119 : decode cX10_init 119 = .ok (.putfield 68, 3) := by decide +kernel
theorem dX10_init_122 : decode cX10_init 122 = .ok (.aload_n 0, 1) := by decide +kernel
theorem dX10_init_123 : decode cX10_init 123 = .ok (.new 28, 3) := by decide +kernel
theorem dX10_init_126 : decode cX10_init 126 = .ok (.dup, 1) := by decide +kernel
theorem dX10_init_127 : decode cX10_init 127 = .ok (.invokespecial 30, 3) := by decide +kernel
theorem dX10_init_130 : decode cX10_init 130 = .ok (.putfield 71, 3) := by decide +kernel
theorem dX10_init_133 : decode cX10_init 133 = .ok (.aload_n 0, 1) := by decide +kernel
theorem dX10_init_134 : decode cX10_init 134 = .ok (.new 35, 3) := by decide +kernel
theorem dX10_init_137 : decode cX10_init 137 = .ok (.dup, 1) := by decide +kernel
theorem dX10_init_138 : decode cX10_init 138 = .ok (.invokespecial 37, 3) := by decide +kernel
theorem dX10_init_141 : decode cX10_init 141 = .ok (.putfield 74, 3) := by decide +kernel
theorem dX10_init_144 : decode cX10_init 144 = .ok (.aload_n 0, 1) := by decide +kernel
theorem dX10_init_145 : decode cX10_init 145 = .ok (.new 56, 3) := by decide +kernel
theorem dX10_init_148 : decode cX10_init 148 = .ok (.dup, 1) := by decide +kernel
theorem dX10_init_149 : decode cX10_init 149 = .ok (.invokespecial 77, 3) := by decide +kernel
theorem dX10_init_152 : decode cX10_init 152 = .ok (.putfield 78, 3) := by decide +kernel
theorem dX10_init_155 : decode cX10_init 155 = .ok (.aload_n 0, 1) := by decide +kernel
theorem dX10_init_156 : decode cX10_init 156 = .ok (.new 82, 3) := by decide +kernel
theorem dX10_init_159 : decode cX10_init 159 = .ok (.dup, 1) := by decide +kernel
theorem dX10_init_160 : decode cX10_init 160 = .ok (.invokespecial 84, 3) := by decide +kernel
theorem dX10_init_163 : decode cX10_init 163 = .ok (.putfield 85, 3) := by decide +kernel
theorem dX10_init_166 : decode cX10_init 166 = .ok (.aload_n 0, 1) := by decide +kernel
theorem dX10_init_167 : decode cX10_init 167 = .ok (.new 89, 3) := by decide +kernel
theorem dX10_init_170 : decode cX10_init 170 = .ok (.dup, 1) := by decide +kernel
theorem dX10_init_171 : decode cX10_init 171 = .ok (.invokespecial 91, 3) := by decide +kernel
theorem dX10_init_174 : decode cX10_init 174 = .ok (.putfield 92, 3) := by decide +kernel
theorem dX10_init_177 : decode cX10_init 177 = .ok (.iconst 0, 1) := by decide +kernel
theorem dX10_init_178 : decode cX10_init 178 = .ok (.istore_n 1, 1) := by decide +kernel
theorem dX10_init_179 : decode cX10_init 179 = .ok (.iload_n 1, 1) := by decide +kernel
theorem dX10_init_180 : decode cX10_init 180 = .ok (.iconst 4, 1) := by decide +kernel
theorem dX10_init_181 : decode cX10_init 181 = .ok (.if_icmp .ge 22, 3) := by decide +kernel
theorem dX10_init_184 : decode cX10_init 184 = .ok (.aload_n 0, 1) := by decide +kernel
theorem dX10_init_185 : decode cX10_init 185 = .ok (.getfield 58, 3) := by decide +kernel
theorem dX10_init_188 : decode cX10_init 188 = .ok (.iload_n 1, 1) := by decide +kernel
theorem dX10_init_189 : decode cX10_init 189 = .ok (.new 56, 3) := by decide +kernel
theorem dX10_init_192 : decode cX10_init 192 = .ok (.dup, 1) := by decide +kernel
theorem dX10_init_193 : decode cX10_init 193 = .ok (.invokespecial 77, 3) := by decide +kernel
theorem dX10_init_196 : decode cX10_init 196 = .ok (.aastore, 1) := by decide +kernel
theorem dX10_init_197 : decode cX10_init 197 = .ok (.iinc 1 1, 3) := by decide +kernel
theorem dX10_init_200 : decode cX10_init 200 = .ok (.goto (-21), 3) := by decide +kernel
theorem dX10_init_203 : decode cX10_init 203 = .ok (.return_, 1) := by decide +kernel
theorem dX10_feed_0 : decode cX10_feed 0 = .ok (.iload_n 1, 1) := by decide +kernel
theorem dX10_feed_1 : decode cX10_feed 1 = .ok (.invokestatic 96, 3) := by decide +kernel
theorem dX10_feed_4 : decode cX10_feed 4 = .ok (.iload_n 2, 1) := by decide +kernel
theorem dX10_feed_5 : decode cX10_feed 5 = .ok (.invokestatic 96, 3) := by decide +kernel
theorem dX10_feed_8 : decode cX10_feed 8 = .ok (.iadd, 1) := by decide +kernel
theorem dX10_feed_9 : decode cX10_feed 9 = .ok (.iload_n 3, 1) := by decide +kernel
theorem dX10_feed_10 : decode cX10_feed 10 = .ok (.invokestatic 96, 3) := by decide +kernel
theorem dX10_feed_13 : decode cX10_feed 13 = .ok (.iadd, 1) := by decide +kernel
theorem dX10_feed_14 : decode cX10_feed 14 = .ok (.iload 4, 2) := by decide +kernel
theorem dX10_feed_16 : decode cX10_feed 16 = .ok (.invokestatic 96, 3) := by decide +kernel
theorem dX10_feed_19 : decode cX10_feed 19 = .ok (.iadd, 1) := by decide +kernel
theorem dX10_feed_20 : decode cX10_feed 20 = .ok (.iload 5, 2) := by decide +kernel
theorem dX10_feed_22 : decode cX10_feed 22 = .ok (.invokestatic 96, 3) := by decide +kernel
theorem dX10_feed_25 : decode cX10_feed 25 = .ok (.iadd, 1) := by decide +kernel
theorem dX10_feed_26 : decode cX10_feed 26 = .ok (.istore 6, 2) := by decide +kernel
theorem dX10_feed_28 : decode cX10_feed 28 = .ok (.iload 6, 2) := by decide +kernel
theorem dX10_feed_30 : decode cX10_feed 30 = .ok (.sipush 400, 3) := by decide +kernel
theorem dX10_feed_33 : decode cX10_feed 33 = .ok (.aload_n 0, 1) := by decide +kernel
theorem dX10_feed_34 : decode cX10_feed 34 = .ok (.getfield 20, 3) := by decide +kernel
theorem dX10_feed_37 : decode cX10_feed 37 = .ok (.getfield 100, 3) := by decide +kernel
theorem dX10_feed_40 : decode cX10_feed 40 = .ok (.isub, 1) := by decide +kernel
theorem dX10_feed_41 : decode cX10_feed 41 = .ok (.if_icmp .le 5, 3) := by decide +kernel
theorem dX10_feed_44 : decode cX10_feed 44 = .ok (.iconst (-1), 1) := by decide +kernel
theorem dX10_feed_45 : decode cX10_feed 45 = .ok (.ireturn, 1) := by decide +kernel
theorem dX10_feed_46 : decode cX10_feed 46 = .ok (.aload_n 0, 1) := by decide +kernel
theorem dX10_feed_47 : decode cX10_feed 47 = .ok (.getfield 20, 3) := by decide +kernel
theorem dX10_feed_50 : decode cX10_feed 50 = .ok (.iload_n 1, 1) := by decide +kernel
theorem dX10_feed_51 : decode cX10_feed 51 = .ok (.invokevirtual 106, 3) := by decide +kernel
theorem dX10_feed_54 : decode cX10_feed 54 = .ok (.aload_n 0, 1) := by decide +kernel
theorem dX10_feed_55 : decode cX10_feed 55 = .ok (.getfield 20, 3) := by decide +kernel
theorem dX10_feed_58 : decode cX10_feed 58 = .ok (.iload_n 2, 1) := by decide +kernel
theorem dX10_feed_59 : decode cX10_feed 59 = .ok (.invokevirtual 106, 3) := by decide +kernel
theorem dX10_feed_62 : decode cX10_feed 62 = .ok (.aload_n 0, 1) := by decide +kernel
theorem dX10_feed_63 : decode cX10_feed 63 = .ok (.getfield 20, 3) := by decide +kernel
theorem dX10_feed_66 : decode cX10_feed 66 = .ok (.iload_n 3, 1) := by decide +kernel
theorem dX10_feed_67 : decode cX10_feed 67 = .ok (.invokevirtual 106, 3) := by decide +kernel
theorem dX10_feed_70 : decode cX10_feed 70 = .ok (.aload_n 0, 1) := by decide +kernel
theorem dX10_feed_71 : decode cX10_feed 71 = .ok (.getfield 20, 3) := by decide +kernel
theorem dX10_feed_74 : decode cX10_feed 74 = .ok (.iload 4, 2) := by decide +kernel
theorem dX10_feed_76 : decode cX10_feed 76 = .ok (.invokevirtual 106, 3) := by decide +kernel
theorem dX10_feed_79 : decode cX10_feed 79 = .ok (.aload_n 0, 1) := by decide +kernel
theorem dX10_feed_80 : decode cX10_feed 80 = .ok (.getfield 20, 3) := by decide +kernel
theorem dX10_feed_83 : decode cX10_feed 83 = .ok (.iload 5, 2) := by decide +kernel
theorem dX10_feed_85 : decode cX10_feed 85 = .ok (.invokevirtual 106, 3) := by decide +kernel
theorem dX10_feed_88 : decode cX10_feed 88 = .ok (.aload_n 0, 1) := by decide +kernel
theorem dX10_feed_89 : decode cX10_feed 89 = .ok (.getfield 20, 3) := by decide +kernel
theorem dX10_feed_92 : decode cX10_feed 92 = .ok (.getfield 100, 3) := by decide +kernel
theorem dX10_feed_95 : decode cX10_feed 95 = .ok (.ireturn, 1) := by decide +kernel
theorem dX10_end_0 : decode cX10_end 0 = .ok (.iload_n 1, 1) := by decide +kernel
theorem dX10_end_1 : decode cX10_end 1 = .ok (.ifCond .lt 14, 3) := by decide +kernel
theorem dX10_end_4 : decode cX10_end 4 = .ok (.iload_n 1, 1) := by decide +kernel
theorem dX10_end_5 : decode cX10_end 5 = .ok (.aload_n 0, 1) := by decide +kernel
theorem dX10_end_6 : decode cX10_end 6 = .ok (.getfield 20, 3) := by decide +kernel
theorem dX10_end_9 : decode cX10_end 9 = .ok (.getfield 100, 3) := by decide +kernel
theorem dX10_end_12 : decode cX10_end 12 = .ok (.if_icmp .le 5, 3) := by decide +kernel
theorem dX10_end_15 : decode cX10_end 15 = .ok (.iconst 0, 1) := by decide +kernel
theorem dX10_end_16 : decode cX10_end 16 = .ok (.ireturn, 1) := by decide +kernel
theorem dX10_end_17 : decode cX10_end 17 = .ok (.aload_n 0, 1) := by decide +kernel
theorem dX10_end_18 : decode cX10_end 18 = .ok (.getfield 20, 3) := by decide +kernel
theorem dX10_end_21 : decode cX10_end 21 = .ok (.iload_n 1, 1) := by decide +kernel
theorem dX10_end_22 : decode cX10_end 22 = .ok (.putfield 100, 3) := by decide +kernel
theorem dX10_end_25 : decode cX10_end 25 = .ok (.iconst 1, 1) := by decide +kernel
theorem dX10_end_26 : decode cX10_end 26 = .ok (.ireturn, 1) := by decide +kernel
theorem dX10_fault_0 : decode cX10_fault 0 = .ok (.iload_n 1, 1) := by decide +kernel
theorem dX10_fault_1 : decode cX10_fault 1 = .ok (.ifCond .ne 19, 3) := by decide +kernel
theorem dX10_fault_4 : decode cX10_fault 4 = .ok (.aload_n 0, 1) := by decide +kernel
theorem dX10_fault_5 : decode cX10_fault 5 = .ok (.getfield 10, 3) := by decide +kernel
theorem dX10_fault_8 : decode cX10_fault 8 = .ok (.aload_n 0, 1) := by decide +kernel
theorem dX10_fault_9 : decode cX10_fault 9 = .ok (.getfield 68, 3) := by decide +kernel
theorem dX10_fault_12 : decode cX10_fault 12 = .ok (.aload_n 0, 1) := by decide +kernel
theorem dX10_fault_13 : decode cX10_fault 13 = .ok (.getfield 74, 3) := by decide +kernel
theorem dX10_fault_16 : decode cX10_fault 16 = .ok (.invokevirtual 110, 3) := by decide +kernel
theorem dX10_fault_19 : decode cX10_fault 19 = .ok (.ireturn, 1) := by decide +kernel
theorem dX10_fault_20 : decode cX10_fault 20 = .ok (.iload_n 1, 1) := by decide +kernel
theorem dX10_fault_21 : decode cX10_fault 21 = .ok (.iconst 1, 1) := by decide +kernel
theorem dX10_fault_22 : decode cX10_fault 22 = .ok (.if_icmp .ne 17, 3) := by decide +kernel
theorem dX10_fault_25 : decode cX10_fault 25 = .ok (.aload_n 0, 1) := by decide +kernel
theorem dX10_fault_26 : decode cX10_fault 26 = .ok (.getfield 10, 3) := by decide +kernel
theorem dX10_fault_29 : decode cX10_fault 29 = .ok (.aload_n 0, 1) := by decide +kernel
theorem dX10_fault_30 : decode cX10_fault 30 = .ok (.getfield 78, 3) := by decide +kernel
theorem dX10_fault_33 : decode cX10_fault 33 = .ok (.invokevirtual 114, 3) := by decide +kernel
theorem dX10_fault_36 : decode cX10_fault 36 = .ok (.goto 5, 3) := by decide +kernel
theorem dX10_fault_39 : decode cX10_fault 39 = .ok (.bipush (-2), 2) := by decide +kernel
theorem dX10_fault_41 : decode cX10_fault 41 = .ok (.ireturn, 1) := by decide +kernel
theorem dX10_text_0 : decode cX10_text 0 = .ok (.iload_n 1, 1) := by decide +kernel
theorem dX10_text_1 : decode cX10_text 1 = .ok (.ifCond .ne 27, 3) := by decide +kernel
theorem dX10_text_4 : decode cX10_text 4 = .ok (.aload_n 0, 1) := by decide +kernel
theorem dX10_text_5 : decode cX10_text 5 = .ok (.getfield 10, 3) := by decide +kernel
theorem dX10_text_8 : decode cX10_text 8 = .ok (.aload_n 0, 1) := by decide +kernel
theorem dX10_text_9 : decode cX10_text 9 = .ok (.getfield 68, 3) := by decide +kernel
theorem dX10_text_12 : decode cX10_text 12 = .ok (.aload_n 0, 1) := by decide +kernel
theorem dX10_text_13 : decode cX10_text 13 = .ok (.getfield 74, 3) := by decide +kernel
theorem dX10_text_16 : decode cX10_text 16 = .ok (.invokevirtual 110, 3) := by decide +kernel
theorem dX10_text_19 : decode cX10_text 19 = .ok (.iconst (-1), 1) := by decide +kernel
theorem dX10_text_20 : decode cX10_text 20 = .ok (.if_icmp .ne 8, 3) := by decide +kernel
theorem dX10_text_23 : decode cX10_text 23 = .ok (.aload_n 0, 1) := by decide +kernel
theorem dX10_text_24 : decode cX10_text 24 = .ok (.invokevirtual 118, 3) := by decide +kernel
theorem dX10_text_27 : decode cX10_text 27 = .ok (.ireturn, 1) := by decide +kernel
theorem dX10_text_28 : decode cX10_text 28 = .ok (.aload_n 0, 1) := by decide +kernel
theorem dX10_text_29 : decode cX10_text 29 = .ok (.getfield 122, 3) := by decide +kernel
theorem dX10_text_32 : decode cX10_text 32 = .ok (.iconst 4, 1) := by decide +kernel
theorem dX10_text_33 : decode cX10_text 33 = .ok (.if_icmp .ge 7, 3) := by decide +kernel
theorem dX10_text_36 : decode cX10_text 36 = .ok (.iconst 1, 1) := by decide +kernel
theorem dX10_text_37 : decode cX10_text 37 = .ok (.goto 4, 3) := by decide +kernel
theorem dX10_text_40 : decode cX10_text 40 = .ok (.iconst 0, 1) := by decide +kernel
theorem dX10_text_41 : decode cX10_text 41 = .ok (.istore_n 2, 1) := by decide +kernel
theorem dX10_text_42 : decode cX10_text 42 = .ok (.iload_n 1, 1) := by decide +kernel
theorem dX10_text_43 : decode cX10_text 43 = .ok (.iconst 1, 1) := by decide +kernel
theorem dX10_text_44 : decode cX10_text 44 = .ok (.if_icmp .ne 27, 3) := by decide +kernel
theorem dX10_text_47 : decode cX10_text 47 = .ok (.iload_n 2, 1) := by decide +kernel
theorem dX10_text_48 : decode cX10_text 48 = .ok (.ifCond .eq 23, 3) := by decide +kernel
theorem dX10_text_51 : decode cX10_text 51 = .ok (.aload_n 0, 1) := by decide +kernel
theorem dX10_text_52 : decode cX10_text 52 = .ok (.getfield 10, 3) := by decide +kernel
theorem dX10_text_55 : decode cX10_text 55 = .ok (.aload_n 0, 1) := by decide +kernel
theorem dX10_text_56 : decode cX10_text 56 = .ok (.getfield 78, 3) := by decide +kernel
theorem dX10_text_59 : decode cX10_text 59 = .ok (.invokevirtual 114, 3) := by decide +kernel
theorem dX10_text_62 : decode cX10_text 62 = .ok (.iconst (-1), 1) := by decide +kernel
theorem dX10_text_63 : decode cX10_text 63 = .ok (.if_icmp .ne 8, 3) := by decide +kernel
theorem dX10_text_66 : decode cX10_text 66 = .ok (.aload_n 0, 1) := by decide +kernel
theorem dX10_text_67 : decode cX10_text 67 = .ok (.invokevirtual 125, 3) := by decide +kernel
theorem dX10_text_70 : decode cX10_text 70 = .ok (.ireturn, 1) := by decide +kernel
theorem dX10_text_71 : decode cX10_text 71 = .ok (.iconst (-1), 1) := by decide +kernel
theorem dX10_text_72 : decode cX10_text 72 = .ok (.ireturn, 1) := by decide +kernel
theorem dX10_takeTrace_0 : decode cX10_takeTrace 0 = .ok (.aload_n 0, 1) := by decide +kernel
theorem dX10_takeTrace_1 : decode cX10_takeTrace 1 = .ok (.getfield 24, 3) := by decide +kernel
theorem dX10_takeTrace_4 : decode cX10_takeTrace 4 = .ok (.aload_n 0, 1) := by decide +kernel
theorem dX10_takeTrace_5 : decode cX10_takeTrace 5 = .ok (.getfield 68, 3) := by decide +kernel
theorem dX10_takeTrace_8 : decode cX10_takeTrace 8 = .ok (.invokevirtual 128, 3) := by decide +kernel
theorem dX10_takeTrace_11 : decode cX10_takeTrace 11 = .ok (.aload_n 0, 1) := by decide +kernel
theorem dX10_takeTrace_12 : decode cX10_takeTrace 12 = .ok (.getfield 38, 3) := by decide +kernel
theorem dX10_takeTrace_15 : decode cX10_takeTrace 15 = .ok (.aload_n 0, 1) := by decide +kernel
theorem dX10_takeTrace_16 : decode cX10_takeTrace 16 = .ok (.getfield 74, 3) := by decide +kernel
theorem dX10_takeTrace_19 : decode cX10_takeTrace 19 = .ok (.invokevirtual 132, 3) := by decide +kernel
theorem dX10_takeTrace_22 : decode cX10_takeTrace 22 = .ok (.aload_n 0, 1) := by decide +kernel
theorem dX10_takeTrace_23 : decode cX10_takeTrace 23 = .ok (.getfield 31, 3) := by decide +kernel
theorem dX10_takeTrace_26 : decode cX10_takeTrace 26 = .ok (.aload_n 0, 1) := by decide +kernel
theorem dX10_takeTrace_27 : decode cX10_takeTrace 27 = .ok (.getfield 24, 3) := by decide +kernel
theorem dX10_takeTrace_30 : decode cX10_takeTrace 30 = .ok (.invokevirtual 135, 3) := by decide +kernel
theorem dX10_takeTrace_33 : decode cX10_takeTrace 33 = .ok (.aload_n 0, 1) := by decide +kernel
theorem dX10_takeTrace_34 : decode cX10_takeTrace 34 = .ok (.getfield 45, 3) := by decide +kernel
theorem dX10_takeTrace_37 : decode cX10_takeTrace 37 = .ok (.invokevirtual 138, 3) := by decide +kernel
theorem dX10_takeTrace_40 : decode cX10_takeTrace 40 = .ok (.aload_n 0, 1) := by decide +kernel
theorem dX10_takeTrace_41 : decode cX10_takeTrace 41 = .ok (.getfield 52, 3) := by decide +kernel
theorem dX10_takeTrace_44 : decode cX10_takeTrace 44 = .ok (.invokevirtual 141, 3) := by decide +kernel
theorem dX10_takeTrace_47 : decode cX10_takeTrace 47 = .ok (.aload_n 0, 1) := by decide +kernel
theorem dX10_takeTrace_48 : decode cX10_takeTrace 48 = .ok (.getfield 62, 3) := by decide +kernel
theorem dX10_takeTrace_51 : decode cX10_takeTrace 51 = .ok (.iconst 0, 1) := by decide +kernel
theorem dX10_takeTrace_52 : decode cX10_takeTrace 52 = .ok (.putfield 142, 3) := by decide +kernel
theorem dX10_takeTrace_55 : decode cX10_takeTrace 55 = .ok (.aload_n 0, 1) := by decide +kernel
theorem dX10_takeTrace_56 : decode cX10_takeTrace 56 = .ok (.getfield 65, 3) := by decide +kernel
theorem dX10_takeTrace_59 : decode cX10_takeTrace 59 = .ok (.invokevirtual 141, 3) := by decide +kernel
theorem dX10_takeTrace_62 : decode cX10_takeTrace 62 = .ok (.aload_n 0, 1) := by decide +kernel
theorem dX10_takeTrace_63 : decode cX10_takeTrace 63 = .ok (.getfield 20, 3) := by decide +kernel
theorem dX10_takeTrace_66 : decode cX10_takeTrace 66 = .ok (.iconst 0, 1) := by decide +kernel
theorem dX10_takeTrace_67 : decode cX10_takeTrace 67 = .ok (.putfield 100, 3) := by decide +kernel
theorem dX10_takeTrace_70 : decode cX10_takeTrace 70 = .ok (.aload_n 0, 1) := by decide +kernel
theorem dX10_takeTrace_71 : decode cX10_takeTrace 71 = .ok (.getfield 24, 3) := by decide +kernel
theorem dX10_takeTrace_74 : decode cX10_takeTrace 74 = .ok (.getfield 142, 3) := by decide +kernel
theorem dX10_takeTrace_77 : decode cX10_takeTrace 77 = .ok (.ireturn, 1) := by decide +kernel
theorem dX10_takeScript_0 : decode cX10_takeScript 0 = .ok (.aload_n 0, 1) := by decide +kernel
theorem dX10_takeScript_1 : decode cX10_takeScript 1 = .ok (.getfield 58, 3) := by decide +kernel
theorem dX10_takeScript_4 : decode cX10_takeScript 4 = .ok (.aload_n 0, 1) := by decide +kernel
theorem dX10_takeScript_5 : decode cX10_takeScript 5 = .ok (.getfield 122, 3) := by decide +kernel
theorem dX10_takeScript_8 : decode cX10_takeScript 8 = .ok (.aaload, 1) := by decide +kernel
theorem dX10_takeScript_9 : decode cX10_takeScript 9 = .ok (.aload_n 0, 1) := by decide +kernel
theorem dX10_takeScript_10 : decode cX10_takeScript 10 = .ok (.getfield 78, 3) := by decide +kernel
theorem dX10_takeScript_13 : decode cX10_takeScript 13 = .ok (.invokevirtual 145, 3) := by decide +kernel
theorem dX10_takeScript_16 : decode cX10_takeScript 16 = .ok (.aload_n 0, 1) := by decide +kernel
theorem dX10_takeScript_17 : decode cX10_takeScript 17 = .ok (.dup, 1) := by decide +kernel
theorem dX10_takeScript_18 : decode cX10_takeScript 18 = .ok (.getfield 122, 3) := by decide +kernel
theorem dX10_takeScript_21 : decode cX10_takeScript 21 = .ok (.iconst 1, 1) := by decide +kernel
theorem dX10_takeScript_22 : decode cX10_takeScript 22 = .ok (.iadd, 1) := by decide +kernel
theorem dX10_takeScript_23 : decode cX10_takeScript 23 = .ok (.putfield 122, 3) := by decide +kernel
theorem dX10_takeScript_26 : decode cX10_takeScript 26 = .ok (.aload_n 0, 1) := by decide +kernel
theorem dX10_takeScript_27 : decode cX10_takeScript 27 = .ok (.getfield 20, 3) := by decide +kernel
theorem dX10_takeScript_30 : decode cX10_takeScript 30 = .ok (.iconst 0, 1) := by decide +kernel
theorem dX10_takeScript_31 : decode cX10_takeScript 31 = .ok (.putfield 100, 3) := by decide +kernel
theorem dX10_takeScript_34 : decode cX10_takeScript 34 = .ok (.aload_n 0, 1) := by decide +kernel
theorem dX10_takeScript_35 : decode cX10_takeScript 35 = .ok (.getfield 122, 3) := by decide +kernel
theorem dX10_takeScript_38 : decode cX10_takeScript 38 = .ok (.iconst 1, 1) := by decide +kernel
theorem dX10_takeScript_39 : decode cX10_takeScript 39 = .ok (.isub, 1) := by decide +kernel
theorem dX10_takeScript_40 : decode cX10_takeScript 40 = .ok (.ireturn, 1) := by decide +kernel
theorem dX10_bytesIn_0 : decode cX10_bytesIn 0 = .ok (.iconst 0, 1) := by decide +kernel
theorem dX10_bytesIn_1 : decode cX10_bytesIn 1 = .ok (.istore_n 1, 1) := by decide +kernel
theorem dX10_bytesIn_2 : decode cX10_bytesIn 2 = .ok (.bipush 24, 2) := by decide +kernel
theorem dX10_bytesIn_4 : decode cX10_bytesIn 4 = .ok (.istore_n 2, 1) := by decide +kernel
theorem dX10_bytesIn_5 : decode cX10_bytesIn 5 = .ok (.iload_n 2, 1) := by decide +kernel
theorem dX10_bytesIn_6 : decode cX10_bytesIn 6 = .ok (.ifCond .lt 22, 3) := by decide +kernel
theorem dX10_bytesIn_9 : decode cX10_bytesIn 9 = .ok (.iload_n 0, 1) := by decide +kernel
theorem dX10_bytesIn_10 : decode cX10_bytesIn 10 = .ok (.iload_n 2, 1) := by decide +kernel
theorem dX10_bytesIn_11 : decode cX10_bytesIn 11 = .ok (.iushr, 1) := by decide +kernel
theorem dX10_bytesIn_12 : decode cX10_bytesIn 12 = .ok (.sipush 255, 3) := by decide +kernel
theorem dX10_bytesIn_15 : decode cX10_bytesIn 15 = .ok (.iand, 1) := by decide +kernel
theorem dX10_bytesIn_16 : decode cX10_bytesIn 16 = .ok (.ifCond .eq 6, 3) := by decide +kernel
theorem dX10_bytesIn_19 : decode cX10_bytesIn 19 = .ok (.iinc 1 1, 3) := by decide +kernel
theorem dX10_bytesIn_22 : decode cX10_bytesIn 22 = .ok (.iinc 2 (-8), 3) := by decide +kernel
theorem dX10_bytesIn_25 : decode cX10_bytesIn 25 = .ok (.goto (-20), 3) := by decide +kernel
theorem dX10_bytesIn_28 : decode cX10_bytesIn 28 = .ok (.iload_n 1, 1) := by decide +kernel
theorem dX10_bytesIn_29 : decode cX10_bytesIn 29 = .ok (.ireturn, 1) := by decide +kernel
theorem dX10_noTrace_0 : decode cX10_noTrace 0 = .ok (.aload_n 0, 1) := by decide +kernel
theorem dX10_noTrace_1 : decode cX10_noTrace 1 = .ok (.getfield 24, 3) := by decide +kernel
theorem dX10_noTrace_4 : decode cX10_noTrace 4 = .ok (.getfield 142, 3) := by decide +kernel
theorem dX10_noTrace_7 : decode cX10_noTrace 7 = .ok (.ifCond .ne 7, 3) := by decide +kernel
theorem dX10_noTrace_10 : decode cX10_noTrace 10 = .ok (.iconst 1, 1) := by decide +kernel
theorem dX10_noTrace_11 : decode cX10_noTrace 11 = .ok (.goto 4, 3) := by decide +kernel
theorem dX10_noTrace_14 : decode cX10_noTrace 14 = .ok (.iconst 0, 1) := by decide +kernel
theorem dX10_noTrace_15 : decode cX10_noTrace 15 = .ok (.ireturn, 1) := by decide +kernel
theorem dX10_isKept_0 : decode cX10_isKept 0 = .ok (.iload_n 1, 1) := by decide +kernel
theorem dX10_isKept_1 : decode cX10_isKept 1 = .ok (.ifCond .lt 18, 3) := by decide +kernel
theorem dX10_isKept_4 : decode cX10_isKept 4 = .ok (.iload_n 1, 1) := by decide +kernel
theorem dX10_isKept_5 : decode cX10_isKept 5 = .ok (.aload_n 0, 1) := by decide +kernel
theorem dX10_isKept_6 : decode cX10_isKept 6 = .ok (.getfield 31, 3) := by decide +kernel
theorem dX10_isKept_9 : decode cX10_isKept 9 = .ok (.getfield 148, 3) := by decide +kernel
theorem dX10_isKept_12 : decode cX10_isKept 12 = .ok (.if_icmp .ge 7, 3) := by decide +kernel
theorem dX10_isKept_15 : decode cX10_isKept 15 = .ok (.iconst 1, 1) := by decide +kernel
theorem dX10_isKept_16 : decode cX10_isKept 16 = .ok (.goto 4, 3) := by decide +kernel
theorem dX10_isKept_19 : decode cX10_isKept 19 = .ok (.iconst 0, 1) := by decide +kernel
theorem dX10_isKept_20 : decode cX10_isKept 20 = .ok (.ireturn, 1) := by decide +kernel
theorem dX10_rule_0 : decode cX10_rule 0 = .ok (.aload_n 0, 1) := by decide +kernel
theorem dX10_rule_1 : decode cX10_rule 1 = .ok (.invokevirtual 151, 3) := by decide +kernel
theorem dX10_rule_4 : decode cX10_rule 4 = .ok (.ifCond .eq 5, 3) := by decide +kernel
theorem dX10_rule_7 : decode cX10_rule 7 = .ok (.iconst (-1), 1) := by decide +kernel
theorem dX10_rule_8 : decode cX10_rule 8 = .ok (.ireturn, 1) := by decide +kernel
theorem dX10_rule_9 : decode cX10_rule 9 = .ok (.iload_n 1, 1) := by decide +kernel
theorem dX10_rule_10 : decode cX10_rule 10 = .ok (.tableswitch 110 0 7 #[46, 54, 62, 70, 78, 86, 94, 102], 46) := by decide +kernel
theorem dX10_rule_56 : decode cX10_rule 56 = .ok (.aload_n 0, 1) := by decide +kernel
theorem dX10_rule_57 : decode cX10_rule 57 = .ok (.getfield 24, 3) := by decide +kernel
theorem dX10_rule_60 : decode cX10_rule 60 = .ok (.getfield 142, 3) := by decide +kernel
theorem dX10_rule_63 : decode cX10_rule 63 = .ok (.ireturn, 1) := by decide +kernel
theorem dX10_rule_64 : decode cX10_rule 64 = .ok (.aload_n 0, 1) := by decide +kernel
theorem dX10_rule_65 : decode cX10_rule 65 = .ok (.getfield 24, 3) := by decide +kernel
theorem dX10_rule_68 : decode cX10_rule 68 = .ok (.getfield 155, 3) := by decide +kernel
theorem dX10_rule_71 : decode cX10_rule 71 = .ok (.ireturn, 1) := by decide +kernel
theorem dX10_rule_72 : decode cX10_rule 72 = .ok (.aload_n 0, 1) := by decide +kernel
theorem dX10_rule_73 : decode cX10_rule 73 = .ok (.getfield 38, 3) := by decide +kernel
theorem dX10_rule_76 : decode cX10_rule 76 = .ok (.getfield 158, 3) := by decide +kernel
theorem dX10_rule_79 : decode cX10_rule 79 = .ok (.ireturn, 1) := by decide +kernel
theorem dX10_rule_80 : decode cX10_rule 80 = .ok (.aload_n 0, 1) := by decide +kernel
theorem dX10_rule_81 : decode cX10_rule 81 = .ok (.getfield 38, 3) := by decide +kernel
theorem dX10_rule_84 : decode cX10_rule 84 = .ok (.getfield 161, 3) := by decide +kernel
theorem dX10_rule_87 : decode cX10_rule 87 = .ok (.ireturn, 1) := by decide +kernel
theorem dX10_rule_88 : decode cX10_rule 88 = .ok (.aload_n 0, 1) := by decide +kernel
theorem dX10_rule_89 : decode cX10_rule 89 = .ok (.getfield 31, 3) := by decide +kernel
theorem dX10_rule_92 : decode cX10_rule 92 = .ok (.getfield 162, 3) := by decide +kernel
theorem dX10_rule_95 : decode cX10_rule 95 = .ok (.ireturn, 1) := by decide +kernel
theorem dX10_rule_96 : decode cX10_rule 96 = .ok (.aload_n 0, 1) := by decide +kernel
theorem dX10_rule_97 : decode cX10_rule 97 = .ok (.getfield 31, 3) := by decide +kernel
theorem dX10_rule_100 : decode cX10_rule 100 = .ok (.getfield 148, 3) := by decide +kernel
theorem dX10_rule_103 : decode cX10_rule 103 = .ok (.ireturn, 1) := by decide +kernel
theorem dX10_rule_104 : decode cX10_rule 104 = .ok (.aload_n 0, 1) := by decide +kernel
theorem dX10_rule_105 : decode cX10_rule 105 = .ok (.getfield 24, 3) := by decide +kernel
theorem dX10_rule_108 : decode cX10_rule 108 = .ok (.invokevirtual 163, 3) := by decide +kernel
theorem dX10_rule_111 : decode cX10_rule 111 = .ok (.ireturn, 1) := by decide +kernel
theorem dX10_rule_112 : decode cX10_rule 112 = .ok (.aload_n 0, 1) := by decide +kernel
theorem dX10_rule_113 : decode cX10_rule 113 = .ok (.getfield 24, 3) := by decide +kernel
theorem dX10_rule_116 : decode cX10_rule 116 = .ok (.invokevirtual 166, 3) := by decide +kernel
theorem dX10_rule_119 : decode cX10_rule 119 = .ok (.ireturn, 1) := by decide +kernel
theorem dX10_rule_120 : decode cX10_rule 120 = .ok (.iconst (-1), 1) := by decide +kernel
theorem dX10_rule_121 : decode cX10_rule 121 = .ok (.ireturn, 1) := by decide +kernel
theorem dX10_sample_0 : decode cX10_sample 0 = .ok (.aload_n 0, 1) := by decide +kernel
theorem dX10_sample_1 : decode cX10_sample 1 = .ok (.getfield 24, 3) := by decide +kernel
theorem dX10_sample_4 : decode cX10_sample 4 = .ok (.iload_n 1, 1) := by decide +kernel
theorem dX10_sample_5 : decode cX10_sample 5 = .ok (.invokevirtual 169, 3) := by decide +kernel
theorem dX10_sample_8 : decode cX10_sample 8 = .ok (.ifCond .eq 15, 3) := by decide +kernel
theorem dX10_sample_11 : decode cX10_sample 11 = .ok (.aload_n 0, 1) := by decide +kernel
theorem dX10_sample_12 : decode cX10_sample 12 = .ok (.getfield 24, 3) := by decide +kernel
theorem dX10_sample_15 : decode cX10_sample 15 = .ok (.getfield 173, 3) := by decide +kernel
theorem dX10_sample_18 : decode cX10_sample 18 = .ok (.iload_n 1, 1) := by decide +kernel
theorem dX10_sample_19 : decode cX10_sample 19 = .ok (.iaload, 1) := by decide +kernel
theorem dX10_sample_20 : decode cX10_sample 20 = .ok (.goto 4, 3) := by decide +kernel
theorem dX10_sample_23 : decode cX10_sample 23 = .ok (.iconst (-1), 1) := by decide +kernel
theorem dX10_sample_24 : decode cX10_sample 24 = .ok (.ireturn, 1) := by decide +kernel
theorem dX10_peak_0 : decode cX10_peak 0 = .ok (.iload_n 1, 1) := by decide +kernel
theorem dX10_peak_1 : decode cX10_peak 1 = .ok (.ifCond .lt 24, 3) := by decide +kernel
theorem dX10_peak_4 : decode cX10_peak 4 = .ok (.iload_n 1, 1) := by decide +kernel
theorem dX10_peak_5 : decode cX10_peak 5 = .ok (.aload_n 0, 1) := by decide +kernel
theorem dX10_peak_6 : decode cX10_peak 6 = .ok (.getfield 31, 3) := by decide +kernel
theorem dX10_peak_9 : decode cX10_peak 9 = .ok (.getfield 162, 3) := by decide +kernel
theorem dX10_peak_12 : decode cX10_peak 12 = .ok (.if_icmp .ge 13, 3) := by decide +kernel
theorem dX10_peak_15 : decode cX10_peak 15 = .ok (.iload_n 2, 1) := by decide +kernel
theorem dX10_peak_16 : decode cX10_peak 16 = .ok (.ifCond .lt 9, 3) := by decide +kernel
theorem dX10_peak_19 : decode cX10_peak 19 = .ok (.iload_n 2, 1) := by decide +kernel
theorem dX10_peak_20 : decode cX10_peak 20 = .ok (.bipush 8, 2) := by decide +kernel
theorem dX10_peak_22 : decode cX10_peak 22 = .ok (.if_icmp .le 13, 3) := by decide +kernel
theorem dX10_peak_25 : decode cX10_peak 25 = .ok (.new 177, 3) := by decide +kernel
theorem dX10_peak_28 : decode cX10_peak 28 = .ok (.dup, 1) := by decide +kernel
theorem dX10_peak_29 : decode cX10_peak 29 = .ok (.ldc 179, 2) := by decide +kernel
theorem dX10_peak_31 : decode cX10_peak 31 = .ok (.invokespecial 181, 3) := by decide +kernel
theorem dX10_peak_34 : decode cX10_peak 34 = .ok (.athrow, 1) := by decide +kernel
theorem dX10_peak_35 : decode cX10_peak 35 = .ok (.iload_n 2, 1) := by decide +kernel
theorem dX10_peak_36 : decode cX10_peak 36 = .ok (.tableswitch 125 0 7 #[48, 57, 66, 75, 84, 93, 102, 116], 48) := by decide +kernel
theorem dX10_peak_84 : decode cX10_peak 84 = .ok (.aload_n 0, 1) := by decide +kernel
theorem dX10_peak_85 : decode cX10_peak 85 = .ok (.getfield 31, 3) := by decide +kernel
theorem dX10_peak_88 : decode cX10_peak 88 = .ok (.iload_n 1, 1) := by decide +kernel
theorem dX10_peak_89 : decode cX10_peak 89 = .ok (.invokevirtual 184, 3) := by decide +kernel
theorem dX10_peak_92 : decode cX10_peak 92 = .ok (.ireturn, 1) := by decide +kernel
theorem dX10_peak_93 : decode cX10_peak 93 = .ok (.aload_n 0, 1) := by decide +kernel
theorem dX10_peak_94 : decode cX10_peak 94 = .ok (.getfield 31, 3) := by decide +kernel
theorem dX10_peak_97 : decode cX10_peak 97 = .ok (.iload_n 1, 1) := by decide +kernel
theorem dX10_peak_98 : decode cX10_peak 98 = .ok (.invokevirtual 187, 3) := by decide +kernel
theorem dX10_peak_101 : decode cX10_peak 101 = .ok (.ireturn, 1) := by decide +kernel
theorem dX10_peak_102 : decode cX10_peak 102 = .ok (.aload_n 0, 1) := by decide +kernel
theorem dX10_peak_103 : decode cX10_peak 103 = .ok (.getfield 31, 3) := by decide +kernel
theorem dX10_peak_106 : decode cX10_peak 106 = .ok (.iload_n 1, 1) := by decide +kernel
theorem dX10_peak_107 : decode cX10_peak 107 = .ok (.invokevirtual 190, 3) := by decide +kernel
theorem dX10_peak_110 : decode cX10_peak 110 = .ok (.ireturn, 1) := by decide +kernel
theorem dX10_peak_111 : decode cX10_peak 111 = .ok (.aload_n 0, 1) := by decide +kernel
theorem dX10_peak_112 : decode cX10_peak 112 = .ok (.getfield 31, 3) := by decide +kernel
theorem dX10_peak_115 : decode cX10_peak 115 = .ok (.iload_n 1, 1) := by decide +kernel
theorem dX10_peak_116 : decode cX10_peak 116 = .ok (.invokevirtual 193, 3) := by decide +kernel
theorem dX10_peak_119 : decode cX10_peak 119 = .ok (.ireturn, 1) := by decide +kernel
theorem dX10_peak_120 : decode cX10_peak 120 = .ok (.aload_n 0, 1) := by decide +kernel
theorem dX10_peak_121 : decode cX10_peak 121 = .ok (.getfield 31, 3) := by decide +kernel
theorem dX10_peak_124 : decode cX10_peak 124 = .ok (.iload_n 1, 1) := by decide +kernel
theorem dX10_peak_125 : decode cX10_peak 125 = .ok (.invokevirtual 196, 3) := by decide +kernel
theorem dX10_peak_128 : decode cX10_peak 128 = .ok (.ireturn, 1) := by decide +kernel
theorem dX10_peak_129 : decode cX10_peak 129 = .ok (.aload_n 0, 1) := by decide +kernel
theorem dX10_peak_130 : decode cX10_peak 130 = .ok (.getfield 31, 3) := by decide +kernel
theorem dX10_peak_133 : decode cX10_peak 133 = .ok (.iload_n 1, 1) := by decide +kernel
theorem dX10_peak_134 : decode cX10_peak 134 = .ok (.invokevirtual 199, 3) := by decide +kernel
theorem dX10_peak_137 : decode cX10_peak 137 = .ok (.ireturn, 1) := by decide +kernel
theorem dX10_peak_138 : decode cX10_peak 138 = .ok (.aload_n 0, 1) := by decide +kernel
theorem dX10_peak_139 : decode cX10_peak 139 = .ok (.iload_n 1, 1) := by decide +kernel
theorem dX10_peak_140 : decode cX10_peak 140 = .ok (.invokevirtual 202, 3) := by decide +kernel
theorem dX10_peak_143 : decode cX10_peak 143 = .ok (.ifCond .eq 7, 3) := by decide +kernel
theorem dX10_peak_146 : decode cX10_peak 146 = .ok (.iconst 1, 1) := by decide +kernel
theorem dX10_peak_147 : decode cX10_peak 147 = .ok (.goto 4, 3) := by decide +kernel
theorem dX10_peak_150 : decode cX10_peak 150 = .ok (.iconst 0, 1) := by decide +kernel
theorem dX10_peak_151 : decode cX10_peak 151 = .ok (.ireturn, 1) := by decide +kernel
theorem dX10_peak_152 : decode cX10_peak 152 = .ok (.aload_n 0, 1) := by decide +kernel
theorem dX10_peak_153 : decode cX10_peak 153 = .ok (.getfield 31, 3) := by decide +kernel
theorem dX10_peak_156 : decode cX10_peak 156 = .ok (.iload_n 1, 1) := by decide +kernel
theorem dX10_peak_157 : decode cX10_peak 157 = .ok (.invokevirtual 205, 3) := by decide +kernel
theorem dX10_peak_160 : decode cX10_peak 160 = .ok (.ireturn, 1) := by decide +kernel
theorem dX10_peak_161 : decode cX10_peak 161 = .ok (.aload_n 0, 1) := by decide +kernel
theorem dX10_peak_162 : decode cX10_peak 162 = .ok (.getfield 38, 3) := by decide +kernel
theorem dX10_peak_165 : decode cX10_peak 165 = .ok (.aload_n 0, 1) := by decide +kernel
theorem dX10_peak_166 : decode cX10_peak 166 = .ok (.getfield 31, 3) := by decide +kernel
theorem dX10_peak_169 : decode cX10_peak 169 = .ok (.iconst 0, 1) := by decide +kernel
theorem dX10_peak_170 : decode cX10_peak 170 = .ok (.invokevirtual 208, 3) := by decide +kernel
theorem dX10_peak_173 : decode cX10_peak 173 = .ok (.pop, 1) := by decide +kernel
theorem dX10_peak_174 : decode cX10_peak 174 = .ok (.aload_n 0, 1) := by decide +kernel
theorem dX10_peak_175 : decode cX10_peak 175 = .ok (.getfield 38, 3) := by decide +kernel
theorem dX10_peak_178 : decode cX10_peak 178 = .ok (.iload_n 1, 1) := by decide +kernel
theorem dX10_peak_179 : decode cX10_peak 179 = .ok (.invokevirtual 212, 3) := by decide +kernel
theorem dX10_peak_182 : decode cX10_peak 182 = .ok (.ireturn, 1) := by decide +kernel
theorem dX10_basin_0 : decode cX10_basin 0 = .ok (.aload_n 0, 1) := by decide +kernel
theorem dX10_basin_1 : decode cX10_basin 1 = .ok (.iload_n 1, 1) := by decide +kernel
theorem dX10_basin_2 : decode cX10_basin 2 = .ok (.invokevirtual 202, 3) := by decide +kernel
theorem dX10_basin_5 : decode cX10_basin 5 = .ok (.ifCond .ne 5, 3) := by decide +kernel
theorem dX10_basin_8 : decode cX10_basin 8 = .ok (.iconst (-1), 1) := by decide +kernel
theorem dX10_basin_9 : decode cX10_basin 9 = .ok (.ireturn, 1) := by decide +kernel
theorem dX10_basin_10 : decode cX10_basin 10 = .ok (.iload_n 2, 1) := by decide +kernel
theorem dX10_basin_11 : decode cX10_basin 11 = .ok (.tableswitch 81 0 3 #[29, 42, 55, 68], 29) := by decide +kernel
theorem dX10_basin_40 : decode cX10_basin 40 = .ok (.aload_n 0, 1) := by decide +kernel
theorem dX10_basin_41 : decode cX10_basin 41 = .ok (.getfield 31, 3) := by decide +kernel
theorem dX10_basin_44 : decode cX10_basin 44 = .ok (.aload_n 0, 1) := by decide +kernel
theorem dX10_basin_45 : decode cX10_basin 45 = .ok (.getfield 24, 3) := by decide +kernel
theorem dX10_basin_48 : decode cX10_basin 48 = .ok (.iload_n 1, 1) := by decide +kernel
theorem dX10_basin_49 : decode cX10_basin 49 = .ok (.invokevirtual 215, 3) := by decide +kernel
theorem dX10_basin_52 : decode cX10_basin 52 = .ok (.ireturn, 1) := by decide +kernel
theorem dX10_basin_53 : decode cX10_basin 53 = .ok (.aload_n 0, 1) := by decide +kernel
theorem dX10_basin_54 : decode cX10_basin 54 = .ok (.getfield 31, 3) := by decide +kernel
theorem dX10_basin_57 : decode cX10_basin 57 = .ok (.aload_n 0, 1) := by decide +kernel
theorem dX10_basin_58 : decode cX10_basin 58 = .ok (.getfield 24, 3) := by decide +kernel
theorem dX10_basin_61 : decode cX10_basin 61 = .ok (.iload_n 1, 1) := by decide +kernel
theorem dX10_basin_62 : decode cX10_basin 62 = .ok (.invokevirtual 219, 3) := by decide +kernel
theorem dX10_basin_65 : decode cX10_basin 65 = .ok (.ireturn, 1) := by decide +kernel
theorem dX10_basin_66 : decode cX10_basin 66 = .ok (.aload_n 0, 1) := by decide +kernel
theorem dX10_basin_67 : decode cX10_basin 67 = .ok (.getfield 31, 3) := by decide +kernel
theorem dX10_basin_70 : decode cX10_basin 70 = .ok (.aload_n 0, 1) := by decide +kernel
theorem dX10_basin_71 : decode cX10_basin 71 = .ok (.getfield 24, 3) := by decide +kernel
theorem dX10_basin_74 : decode cX10_basin 74 = .ok (.iload_n 1, 1) := by decide +kernel
theorem dX10_basin_75 : decode cX10_basin 75 = .ok (.invokevirtual 222, 3) := by decide +kernel
theorem dX10_basin_78 : decode cX10_basin 78 = .ok (.ireturn, 1) := by decide +kernel
theorem dX10_basin_79 : decode cX10_basin 79 = .ok (.aload_n 0, 1) := by decide +kernel
theorem dX10_basin_80 : decode cX10_basin 80 = .ok (.getfield 31, 3) := by decide +kernel
theorem dX10_basin_83 : decode cX10_basin 83 = .ok (.aload_n 0, 1) := by decide +kernel
theorem dX10_basin_84 : decode cX10_basin 84 = .ok (.getfield 24, 3) := by decide +kernel
theorem dX10_basin_87 : decode cX10_basin 87 = .ok (.iload_n 1, 1) := by decide +kernel
theorem dX10_basin_88 : decode cX10_basin 88 = .ok (.invokevirtual 225, 3) := by decide +kernel
theorem dX10_basin_91 : decode cX10_basin 91 = .ok (.ireturn, 1) := by decide +kernel
theorem dX10_basin_92 : decode cX10_basin 92 = .ok (.iconst (-1), 1) := by decide +kernel
theorem dX10_basin_93 : decode cX10_basin 93 = .ok (.ireturn, 1) := by decide +kernel
theorem dX10_at_0 : decode cX10_at 0 = .ok (.aload_n 0, 1) := by decide +kernel
theorem dX10_at_1 : decode cX10_at 1 = .ok (.getfield 24, 3) := by decide +kernel
theorem dX10_at_4 : decode cX10_at 4 = .ok (.iload_n 1, 1) := by decide +kernel
theorem dX10_at_5 : decode cX10_at 5 = .ok (.invokevirtual 169, 3) := by decide +kernel
theorem dX10_at_8 : decode cX10_at 8 = .ok (.ifCond .ne 5, 3) := by decide +kernel
theorem dX10_at_11 : decode cX10_at 11 = .ok (.iconst (-1), 1) := by decide +kernel
theorem dX10_at_12 : decode cX10_at 12 = .ok (.ireturn, 1) := by decide +kernel
theorem dX10_at_13 : decode cX10_at 13 = .ok (.iload_n 2, 1) := by decide +kernel
theorem dX10_at_14 : decode cX10_at 14 = .ok (.ifCond .ne 12, 3) := by decide +kernel
theorem dX10_at_17 : decode cX10_at 17 = .ok (.aload_n 0, 1) := by decide +kernel
theorem dX10_at_18 : decode cX10_at 18 = .ok (.getfield 31, 3) := by decide +kernel
theorem dX10_at_21 : decode cX10_at 21 = .ok (.iload_n 1, 1) := by decide +kernel
theorem dX10_at_22 : decode cX10_at 22 = .ok (.invokevirtual 228, 3) := by decide +kernel
theorem dX10_at_25 : decode cX10_at 25 = .ok (.ireturn, 1) := by decide +kernel
theorem dX10_at_26 : decode cX10_at 26 = .ok (.iload_n 2, 1) := by decide +kernel
theorem dX10_at_27 : decode cX10_at 27 = .ok (.iconst 1, 1) := by decide +kernel
theorem dX10_at_28 : decode cX10_at 28 = .ok (.if_icmp .ne 18, 3) := by decide +kernel
theorem dX10_at_31 : decode cX10_at 31 = .ok (.aload_n 0, 1) := by decide +kernel
theorem dX10_at_32 : decode cX10_at 32 = .ok (.getfield 31, 3) := by decide +kernel
theorem dX10_at_35 : decode cX10_at 35 = .ok (.aload_n 0, 1) := by decide +kernel
theorem dX10_at_36 : decode cX10_at 36 = .ok (.getfield 24, 3) := by decide +kernel
theorem dX10_at_39 : decode cX10_at 39 = .ok (.iload_n 1, 1) := by decide +kernel
theorem dX10_at_40 : decode cX10_at 40 = .ok (.invokevirtual 231, 3) := by decide +kernel
theorem dX10_at_43 : decode cX10_at 43 = .ok (.goto 4, 3) := by decide +kernel
theorem dX10_at_46 : decode cX10_at 46 = .ok (.iconst (-1), 1) := by decide +kernel
theorem dX10_at_47 : decode cX10_at 47 = .ok (.ireturn, 1) := by decide +kernel
theorem dX10_line_0 : decode cX10_line 0 = .ok (.iload_n 1, 1) := by decide +kernel
theorem dX10_line_1 : decode cX10_line 1 = .ok (.ifCond .lt 14, 3) := by decide +kernel
theorem dX10_line_4 : decode cX10_line 4 = .ok (.iload_n 1, 1) := by decide +kernel
theorem dX10_line_5 : decode cX10_line 5 = .ok (.aload_n 0, 1) := by decide +kernel
theorem dX10_line_6 : decode cX10_line 6 = .ok (.getfield 38, 3) := by decide +kernel
theorem dX10_line_9 : decode cX10_line 9 = .ok (.getfield 161, 3) := by decide +kernel
theorem dX10_line_12 : decode cX10_line 12 = .ok (.if_icmp .lt 5, 3) := by decide +kernel
theorem dX10_line_15 : decode cX10_line 15 = .ok (.iconst (-1), 1) := by decide +kernel
theorem dX10_line_16 : decode cX10_line 16 = .ok (.ireturn, 1) := by decide +kernel
theorem dX10_line_17 : decode cX10_line 17 = .ok (.iload_n 2, 1) := by decide +kernel
theorem dX10_line_18 : decode cX10_line 18 = .ok (.tableswitch 69 0 2 #[26, 36, 59], 26) := by decide +kernel
theorem dX10_line_44 : decode cX10_line 44 = .ok (.aload_n 0, 1) := by decide +kernel
theorem dX10_line_45 : decode cX10_line 45 = .ok (.getfield 38, 3) := by decide +kernel
theorem dX10_line_48 : decode cX10_line 48 = .ok (.getfield 234, 3) := by decide +kernel
theorem dX10_line_51 : decode cX10_line 51 = .ok (.iload_n 1, 1) := by decide +kernel
theorem dX10_line_52 : decode cX10_line 52 = .ok (.iaload, 1) := by decide +kernel
theorem dX10_line_53 : decode cX10_line 53 = .ok (.ireturn, 1) := by decide +kernel
theorem dX10_line_54 : decode cX10_line 54 = .ok (.aload_n 0, 1) := by decide +kernel
theorem dX10_line_55 : decode cX10_line 55 = .ok (.getfield 38, 3) := by decide +kernel
theorem dX10_line_58 : decode cX10_line 58 = .ok (.aload_n 0, 1) := by decide +kernel
theorem dX10_line_59 : decode cX10_line 59 = .ok (.getfield 31, 3) := by decide +kernel
theorem dX10_line_62 : decode cX10_line 62 = .ok (.iconst 0, 1) := by decide +kernel
theorem dX10_line_63 : decode cX10_line 63 = .ok (.invokevirtual 208, 3) := by decide +kernel
theorem dX10_line_66 : decode cX10_line 66 = .ok (.pop, 1) := by decide +kernel
theorem dX10_line_67 : decode cX10_line 67 = .ok (.aload_n 0, 1) := by decide +kernel
theorem dX10_line_68 : decode cX10_line 68 = .ok (.getfield 38, 3) := by decide +kernel
theorem dX10_line_71 : decode cX10_line 71 = .ok (.getfield 237, 3) := by decide +kernel
theorem dX10_line_74 : decode cX10_line 74 = .ok (.iload_n 1, 1) := by decide +kernel
theorem dX10_line_75 : decode cX10_line 75 = .ok (.iaload, 1) := by decide +kernel
theorem dX10_line_76 : decode cX10_line 76 = .ok (.ireturn, 1) := by decide +kernel
theorem dX10_line_77 : decode cX10_line 77 = .ok (.aload_n 0, 1) := by decide +kernel
theorem dX10_line_78 : decode cX10_line 78 = .ok (.getfield 38, 3) := by decide +kernel
theorem dX10_line_81 : decode cX10_line 81 = .ok (.getfield 240, 3) := by decide +kernel
theorem dX10_line_84 : decode cX10_line 84 = .ok (.iload_n 1, 1) := by decide +kernel
theorem dX10_line_85 : decode cX10_line 85 = .ok (.iaload, 1) := by decide +kernel
theorem dX10_line_86 : decode cX10_line 86 = .ok (.ireturn, 1) := by decide +kernel
theorem dX10_line_87 : decode cX10_line 87 = .ok (.iconst (-1), 1) := by decide +kernel
theorem dX10_line_88 : decode cX10_line 88 = .ok (.ireturn, 1) := by decide +kernel
theorem dX10_smooth_0 : decode cX10_smooth 0 = .ok (.aload_n 0, 1) := by decide +kernel
theorem dX10_smooth_1 : decode cX10_smooth 1 = .ok (.iconst 0, 1) := by decide +kernel
theorem dX10_smooth_2 : decode cX10_smooth 2 = .ok (.iconst 0, 1) := by decide +kernel
theorem dX10_smooth_3 : decode cX10_smooth 3 = .ok (.iconst 0, 1) := by decide +kernel
theorem dX10_smooth_4 : decode cX10_smooth 4 = .ok (.invokevirtual 243, 3) := by decide +kernel
theorem dX10_smooth_7 : decode cX10_smooth 7 = .ok (.ireturn, 1) := by decide +kernel
theorem dX10_median_0 : decode cX10_median 0 = .ok (.aload_n 0, 1) := by decide +kernel
theorem dX10_median_1 : decode cX10_median 1 = .ok (.iconst 1, 1) := by decide +kernel
theorem dX10_median_2 : decode cX10_median 2 = .ok (.iconst 0, 1) := by decide +kernel
theorem dX10_median_3 : decode cX10_median 3 = .ok (.iconst 0, 1) := by decide +kernel
theorem dX10_median_4 : decode cX10_median 4 = .ok (.invokevirtual 243, 3) := by decide +kernel
theorem dX10_median_7 : decode cX10_median 7 = .ok (.ireturn, 1) := by decide +kernel
theorem dX10_flat_0 : decode cX10_flat 0 = .ok (.aload_n 0, 1) := by decide +kernel
theorem dX10_flat_1 : decode cX10_flat 1 = .ok (.iconst 2, 1) := by decide +kernel
theorem dX10_flat_2 : decode cX10_flat 2 = .ok (.iconst 0, 1) := by decide +kernel
theorem dX10_flat_3 : decode cX10_flat 3 = .ok (.iconst 0, 1) := by decide +kernel
theorem dX10_flat_4 : decode cX10_flat 4 = .ok (.invokevirtual 243, 3) := by decide +kernel
theorem dX10_flat_7 : decode cX10_flat 7 = .ok (.ireturn, 1) := by decide +kernel
theorem dX10_turn_0 : decode cX10_turn 0 = .ok (.aload_n 0, 1) := by decide +kernel
theorem dX10_turn_1 : decode cX10_turn 1 = .ok (.iconst 3, 1) := by decide +kernel
theorem dX10_turn_2 : decode cX10_turn 2 = .ok (.iconst 0, 1) := by decide +kernel
theorem dX10_turn_3 : decode cX10_turn 3 = .ok (.iconst 0, 1) := by decide +kernel
theorem dX10_turn_4 : decode cX10_turn 4 = .ok (.invokevirtual 243, 3) := by decide +kernel
theorem dX10_turn_7 : decode cX10_turn 7 = .ok (.ireturn, 1) := by decide +kernel
theorem dX10_clip_0 : decode cX10_clip 0 = .ok (.aload_n 0, 1) := by decide +kernel
theorem dX10_clip_1 : decode cX10_clip 1 = .ok (.iconst 4, 1) := by decide +kernel
theorem dX10_clip_2 : decode cX10_clip 2 = .ok (.iload_n 1, 1) := by decide +kernel
theorem dX10_clip_3 : decode cX10_clip 3 = .ok (.iconst 0, 1) := by decide +kernel
theorem dX10_clip_4 : decode cX10_clip 4 = .ok (.invokevirtual 243, 3) := by decide +kernel
theorem dX10_clip_7 : decode cX10_clip 7 = .ok (.ireturn, 1) := by decide +kernel
theorem dX10_lift_0 : decode cX10_lift 0 = .ok (.aload_n 0, 1) := by decide +kernel
theorem dX10_lift_1 : decode cX10_lift 1 = .ok (.iconst 5, 1) := by decide +kernel
theorem dX10_lift_2 : decode cX10_lift 2 = .ok (.iload_n 1, 1) := by decide +kernel
theorem dX10_lift_3 : decode cX10_lift 3 = .ok (.iconst 0, 1) := by decide +kernel
theorem dX10_lift_4 : decode cX10_lift 4 = .ok (.invokevirtual 243, 3) := by decide +kernel
theorem dX10_lift_7 : decode cX10_lift 7 = .ok (.ireturn, 1) := by decide +kernel
theorem dX10_scale_0 : decode cX10_scale 0 = .ok (.aload_n 0, 1) := by decide +kernel
theorem dX10_scale_1 : decode cX10_scale 1 = .ok (.bipush 6, 2) := by decide +kernel
theorem dX10_scale_3 : decode cX10_scale 3 = .ok (.iload_n 1, 1) := by decide +kernel
theorem dX10_scale_4 : decode cX10_scale 4 = .ok (.iload_n 2, 1) := by decide +kernel
theorem dX10_scale_5 : decode cX10_scale 5 = .ok (.invokevirtual 243, 3) := by decide +kernel
theorem dX10_scale_8 : decode cX10_scale 8 = .ok (.ireturn, 1) := by decide +kernel
theorem dX10_set_0 : decode cX10_set 0 = .ok (.aload_n 0, 1) := by decide +kernel
theorem dX10_set_1 : decode cX10_set 1 = .ok (.bipush 7, 2) := by decide +kernel
theorem dX10_set_3 : decode cX10_set 3 = .ok (.iload_n 1, 1) := by decide +kernel
theorem dX10_set_4 : decode cX10_set 4 = .ok (.iload_n 2, 1) := by decide +kernel
theorem dX10_set_5 : decode cX10_set 5 = .ok (.invokevirtual 243, 3) := by decide +kernel
theorem dX10_set_8 : decode cX10_set 8 = .ok (.ireturn, 1) := by decide +kernel
theorem dX10_noise_0 : decode cX10_noise 0 = .ok (.aload_n 0, 1) := by decide +kernel
theorem dX10_noise_1 : decode cX10_noise 1 = .ok (.bipush 8, 2) := by decide +kernel
theorem dX10_noise_3 : decode cX10_noise 3 = .ok (.iload_n 1, 1) := by decide +kernel
theorem dX10_noise_4 : decode cX10_noise 4 = .ok (.iconst 0, 1) := by decide +kernel
theorem dX10_noise_5 : decode cX10_noise 5 = .ok (.invokevirtual 243, 3) := by decide +kernel
theorem dX10_noise_8 : decode cX10_noise 8 = .ok (.ireturn, 1) := by decide +kernel
theorem dX10_cut_0 : decode cX10_cut 0 = .ok (.aload_n 0, 1) := by decide +kernel
theorem dX10_cut_1 : decode cX10_cut 1 = .ok (.bipush 9, 2) := by decide +kernel
theorem dX10_cut_3 : decode cX10_cut 3 = .ok (.iload_n 1, 1) := by decide +kernel
theorem dX10_cut_4 : decode cX10_cut 4 = .ok (.iload_n 2, 1) := by decide +kernel
theorem dX10_cut_5 : decode cX10_cut 5 = .ok (.invokevirtual 243, 3) := by decide +kernel
theorem dX10_cut_8 : decode cX10_cut 8 = .ok (.ireturn, 1) := by decide +kernel
theorem dX10_ask_0 : decode cX10_ask 0 = .ok (.aload_n 0, 1) := by decide +kernel
theorem dX10_ask_1 : decode cX10_ask 1 = .ok (.getfield 24, 3) := by decide +kernel
theorem dX10_ask_4 : decode cX10_ask 4 = .ok (.iload_n 1, 1) := by decide +kernel
theorem dX10_ask_5 : decode cX10_ask 5 = .ok (.iload_n 2, 1) := by decide +kernel
theorem dX10_ask_6 : decode cX10_ask 6 = .ok (.iload_n 3, 1) := by decide +kernel
theorem dX10_ask_7 : decode cX10_ask 7 = .ok (.invokevirtual 247, 3) := by decide +kernel
theorem dX10_ask_10 : decode cX10_ask 10 = .ok (.istore 4, 2) := by decide +kernel
theorem dX10_ask_12 : decode cX10_ask 12 = .ok (.iload 4, 2) := by decide +kernel
theorem dX10_ask_14 : decode cX10_ask 14 = .ok (.ifCond .ne 13, 3) := by decide +kernel
theorem dX10_ask_17 : decode cX10_ask 17 = .ok (.aload_n 0, 1) := by decide +kernel
theorem dX10_ask_18 : decode cX10_ask 18 = .ok (.dup, 1) := by decide +kernel
theorem dX10_ask_19 : decode cX10_ask 19 = .ok (.getfield 250, 3) := by decide +kernel
theorem dX10_ask_22 : decode cX10_ask 22 = .ok (.iconst 1, 1) := by decide +kernel
theorem dX10_ask_23 : decode cX10_ask 23 = .ok (.iadd, 1) := by decide +kernel
theorem dX10_ask_24 : decode cX10_ask 24 = .ok (.putfield 250, 3) := by decide +kernel
theorem dX10_ask_27 : decode cX10_ask 27 = .ok (.iload 4, 2) := by decide +kernel
theorem dX10_ask_29 : decode cX10_ask 29 = .ok (.iconst 1, 1) := by decide +kernel
theorem dX10_ask_30 : decode cX10_ask 30 = .ok (.if_icmp .ne 13, 3) := by decide +kernel
theorem dX10_ask_33 : decode cX10_ask 33 = .ok (.aload_n 0, 1) := by decide +kernel
theorem dX10_ask_34 : decode cX10_ask 34 = .ok (.dup, 1) := by decide +kernel
theorem dX10_ask_35 : decode cX10_ask 35 = .ok (.getfield 253, 3) := by decide +kernel
theorem dX10_ask_38 : decode cX10_ask 38 = .ok (.iconst 1, 1) := by decide +kernel
theorem dX10_ask_39 : decode cX10_ask 39 = .ok (.iadd, 1) := by decide +kernel
theorem dX10_ask_40 : decode cX10_ask 40 = .ok (.putfield 253, 3) := by decide +kernel
theorem dX10_ask_43 : decode cX10_ask 43 = .ok (.iload 4, 2) := by decide +kernel
theorem dX10_ask_45 : decode cX10_ask 45 = .ok (.iconst (-1), 1) := by decide +kernel
theorem dX10_ask_46 : decode cX10_ask 46 = .ok (.if_icmp .ne 13, 3) := by decide +kernel
theorem dX10_ask_49 : decode cX10_ask 49 = .ok (.aload_n 0, 1) := by decide +kernel
theorem dX10_ask_50 : decode cX10_ask 50 = .ok (.iload_n 1, 1) := by decide +kernel
theorem dX10_ask_51 : decode cX10_ask 51 = .ok (.iload_n 2, 1) := by decide +kernel
theorem dX10_ask_52 : decode cX10_ask 52 = .ok (.iload_n 3, 1) := by decide +kernel
theorem dX10_ask_53 : decode cX10_ask 53 = .ok (.invokevirtual 256, 3) := by decide +kernel
theorem dX10_ask_56 : decode cX10_ask 56 = .ok (.goto 4, 3) := by decide +kernel
theorem dX10_ask_59 : decode cX10_ask 59 = .ok (.iconst (-1), 1) := by decide +kernel
theorem dX10_ask_60 : decode cX10_ask 60 = .ok (.ireturn, 1) := by decide +kernel
theorem dX10_act_0 : decode cX10_act 0 = .ok (.aload_n 0, 1) := by decide +kernel
theorem dX10_act_1 : decode cX10_act 1 = .ok (.getfield 45, 3) := by decide +kernel
theorem dX10_act_4 : decode cX10_act 4 = .ok (.aload_n 0, 1) := by decide +kernel
theorem dX10_act_5 : decode cX10_act 5 = .ok (.getfield 24, 3) := by decide +kernel
theorem dX10_act_8 : decode cX10_act 8 = .ok (.invokevirtual 259, 3) := by decide +kernel
theorem dX10_act_11 : decode cX10_act 11 = .ok (.aload_n 0, 1) := by decide +kernel
theorem dX10_act_12 : decode cX10_act 12 = .ok (.getfield 24, 3) := by decide +kernel
theorem dX10_act_15 : decode cX10_act 15 = .ok (.iload_n 1, 1) := by decide +kernel
theorem dX10_act_16 : decode cX10_act 16 = .ok (.iload_n 2, 1) := by decide +kernel
theorem dX10_act_17 : decode cX10_act 17 = .ok (.iload_n 3, 1) := by decide +kernel
theorem dX10_act_18 : decode cX10_act 18 = .ok (.aload_n 0, 1) := by decide +kernel
theorem dX10_act_19 : decode cX10_act 19 = .ok (.getfield 31, 3) := by decide +kernel
theorem dX10_act_22 : decode cX10_act 22 = .ok (.invokevirtual 262, 3) := by decide +kernel
theorem dX10_act_25 : decode cX10_act 25 = .ok (.istore 4, 2) := by decide +kernel
theorem dX10_act_27 : decode cX10_act 27 = .ok (.aload_n 0, 1) := by decide +kernel
theorem dX10_act_28 : decode cX10_act 28 = .ok (.getfield 31, 3) := by decide +kernel
theorem dX10_act_31 : decode cX10_act 31 = .ok (.aload_n 0, 1) := by decide +kernel
theorem dX10_act_32 : decode cX10_act 32 = .ok (.getfield 24, 3) := by decide +kernel
theorem dX10_act_35 : decode cX10_act 35 = .ok (.invokevirtual 135, 3) := by decide +kernel
theorem dX10_act_38 : decode cX10_act 38 = .ok (.aload_n 0, 1) := by decide +kernel
theorem dX10_act_39 : decode cX10_act 39 = .ok (.getfield 52, 3) := by decide +kernel
theorem dX10_act_42 : decode cX10_act 42 = .ok (.iload_n 1, 1) := by decide +kernel
theorem dX10_act_43 : decode cX10_act 43 = .ok (.iload_n 2, 1) := by decide +kernel
theorem dX10_act_44 : decode cX10_act 44 = .ok (.aload_n 0, 1) := by decide +kernel
theorem dX10_act_45 : decode cX10_act 45 = .ok (.getfield 31, 3) := by decide +kernel
theorem dX10_act_48 : decode cX10_act 48 = .ok (.getfield 148, 3) := by decide +kernel
theorem dX10_act_51 : decode cX10_act 51 = .ok (.invokevirtual 266, 3) := by decide +kernel
theorem dX10_act_54 : decode cX10_act 54 = .ok (.iload_n 1, 1) := by decide +kernel
theorem dX10_act_55 : decode cX10_act 55 = .ok (.ifCond .eq 8, 3) := by decide +kernel
theorem dX10_act_58 : decode cX10_act 58 = .ok (.iload_n 1, 1) := by decide +kernel
theorem dX10_act_59 : decode cX10_act 59 = .ok (.iconst 1, 1) := by decide +kernel
theorem dX10_act_60 : decode cX10_act 60 = .ok (.if_icmp .ne 13, 3) := by decide +kernel
theorem dX10_act_63 : decode cX10_act 63 = .ok (.aload_n 0, 1) := by decide +kernel
theorem dX10_act_64 : decode cX10_act 64 = .ok (.getfield 31, 3) := by decide +kernel
theorem dX10_act_67 : decode cX10_act 67 = .ok (.getfield 148, 3) := by decide +kernel
theorem dX10_act_70 : decode cX10_act 70 = .ok (.goto 5, 3) := by decide +kernel
theorem dX10_act_73 : decode cX10_act 73 = .ok (.iload 4, 2) := by decide +kernel
theorem dX10_act_75 : decode cX10_act 75 = .ok (.ireturn, 1) := by decide +kernel
theorem dX10_ways_0 : decode cX10_ways 0 = .ok (.aload_n 0, 1) := by decide +kernel
theorem dX10_ways_1 : decode cX10_ways 1 = .ok (.invokevirtual 151, 3) := by decide +kernel
theorem dX10_ways_4 : decode cX10_ways 4 = .ok (.ifCond .ne 14, 3) := by decide +kernel
theorem dX10_ways_7 : decode cX10_ways 7 = .ok (.iload_n 1, 1) := by decide +kernel
theorem dX10_ways_8 : decode cX10_ways 8 = .ok (.iconst 1, 1) := by decide +kernel
theorem dX10_ways_9 : decode cX10_ways 9 = .ok (.if_icmp .lt 9, 3) := by decide +kernel
theorem dX10_ways_12 : decode cX10_ways 12 = .ok (.iload_n 1, 1) := by decide +kernel
theorem dX10_ways_13 : decode cX10_ways 13 = .ok (.bipush 40, 2) := by decide +kernel
theorem dX10_ways_15 : decode cX10_ways 15 = .ok (.if_icmp .le 5, 3) := by decide +kernel
theorem dX10_ways_18 : decode cX10_ways 18 = .ok (.iconst (-1), 1) := by decide +kernel
theorem dX10_ways_19 : decode cX10_ways 19 = .ok (.ireturn, 1) := by decide +kernel
theorem dX10_ways_20 : decode cX10_ways 20 = .ok (.aload_n 0, 1) := by decide +kernel
theorem dX10_ways_21 : decode cX10_ways 21 = .ok (.getfield 85, 3) := by decide +kernel
theorem dX10_ways_24 : decode cX10_ways 24 = .ok (.lload_n 2, 1) := by decide +kernel
theorem dX10_ways_25 : decode cX10_ways 25 = .ok (.putfield 270, 3) := by decide +kernel
theorem dX10_ways_28 : decode cX10_ways 28 = .ok (.iconst 0, 1) := by decide +kernel
theorem dX10_ways_29 : decode cX10_ways 29 = .ok (.istore 4, 2) := by decide +kernel
theorem dX10_ways_31 : decode cX10_ways 31 = .ok (.iload 4, 2) := by decide +kernel
theorem dX10_ways_33 : decode cX10_ways 33 = .ok (.iload_n 1, 1) := by decide +kernel
theorem dX10_ways_34 : decode cX10_ways 34 = .ok (.if_icmp .ge 13, 3) := by decide +kernel
theorem dX10_ways_37 : decode cX10_ways 37 = .ok (.aload_n 0, 1) := by decide +kernel
theorem dX10_ways_38 : decode cX10_ways 38 = .ok (.invokevirtual 274, 3) := by decide +kernel
theorem dX10_ways_41 : decode cX10_ways 41 = .ok (.iinc 4 1, 3) := by decide +kernel
theorem dX10_ways_44 : decode cX10_ways 44 = .ok (.goto (-13), 3) := by decide +kernel
theorem dX10_ways_47 : decode cX10_ways 47 = .ok (.aload_n 0, 1) := by decide +kernel
theorem dX10_ways_48 : decode cX10_ways 48 = .ok (.getfield 31, 3) := by decide +kernel
theorem dX10_ways_51 : decode cX10_ways 51 = .ok (.getfield 148, 3) := by decide +kernel
theorem dX10_ways_54 : decode cX10_ways 54 = .ok (.ireturn, 1) := by decide +kernel
theorem dX10_drawnAct_0 : decode cX10_drawnAct 0 = .ok (.aload_n 0, 1) := by decide +kernel
theorem dX10_drawnAct_1 : decode cX10_drawnAct 1 = .ok (.getfield 85, 3) := by decide +kernel
theorem dX10_drawnAct_4 : decode cX10_drawnAct 4 = .ok (.bipush 8, 2) := by decide +kernel
theorem dX10_drawnAct_6 : decode cX10_drawnAct 6 = .ok (.invokevirtual 277, 3) := by decide +kernel
theorem dX10_drawnAct_9 : decode cX10_drawnAct 9 = .ok (.istore_n 1, 1) := by decide +kernel
theorem dX10_drawnAct_10 : decode cX10_drawnAct 10 = .ok (.iload_n 1, 1) := by decide +kernel
theorem dX10_drawnAct_11 : decode cX10_drawnAct 11 = .ok (.iconst 2, 1) := by decide +kernel
theorem dX10_drawnAct_12 : decode cX10_drawnAct 12 = .ok (.if_icmp .gt 14, 3) := by decide +kernel
theorem dX10_drawnAct_15 : decode cX10_drawnAct 15 = .ok (.aload_n 0, 1) := by decide +kernel
theorem dX10_drawnAct_16 : decode cX10_drawnAct 16 = .ok (.iload_n 1, 1) := by decide +kernel
theorem dX10_drawnAct_17 : decode cX10_drawnAct 17 = .ok (.iconst 0, 1) := by decide +kernel
theorem dX10_drawnAct_18 : decode cX10_drawnAct 18 = .ok (.iconst 0, 1) := by decide +kernel
theorem dX10_drawnAct_19 : decode cX10_drawnAct 19 = .ok (.invokevirtual 256, 3) := by decide +kernel
theorem dX10_drawnAct_22 : decode cX10_drawnAct 22 = .ok (.pop, 1) := by decide +kernel
theorem dX10_drawnAct_23 : decode cX10_drawnAct 23 = .ok (.goto 100, 3) := by decide +kernel
theorem dX10_drawnAct_26 : decode cX10_drawnAct 26 = .ok (.iload_n 1, 1) := by decide +kernel
theorem dX10_drawnAct_27 : decode cX10_drawnAct 27 = .ok (.iconst 5, 1) := by decide +kernel
theorem dX10_drawnAct_28 : decode cX10_drawnAct 28 = .ok (.if_icmp .gt 39, 3) := by decide +kernel
theorem dX10_drawnAct_31 : decode cX10_drawnAct 31 = .ok (.aload_n 0, 1) := by decide +kernel
theorem dX10_drawnAct_32 : decode cX10_drawnAct 32 = .ok (.getfield 85, 3) := by decide +kernel
theorem dX10_drawnAct_35 : decode cX10_drawnAct 35 = .ok (.aload_n 0, 1) := by decide +kernel
theorem dX10_drawnAct_36 : decode cX10_drawnAct 36 = .ok (.getfield 24, 3) := by decide +kernel
theorem dX10_drawnAct_39 : decode cX10_drawnAct 39 = .ok (.getfield 142, 3) := by decide +kernel
theorem dX10_drawnAct_42 : decode cX10_drawnAct 42 = .ok (.invokevirtual 277, 3) := by decide +kernel
theorem dX10_drawnAct_45 : decode cX10_drawnAct 45 = .ok (.istore_n 2, 1) := by decide +kernel
theorem dX10_drawnAct_46 : decode cX10_drawnAct 46 = .ok (.aload_n 0, 1) := by decide +kernel
theorem dX10_drawnAct_47 : decode cX10_drawnAct 47 = .ok (.bipush 7, 2) := by decide +kernel
theorem dX10_drawnAct_49 : decode cX10_drawnAct 49 = .ok (.iload_n 2, 1) := by decide +kernel
theorem dX10_drawnAct_50 : decode cX10_drawnAct 50 = .ok (.aload_n 0, 1) := by decide +kernel
theorem dX10_drawnAct_51 : decode cX10_drawnAct 51 = .ok (.getfield 85, 3) := by decide +kernel
theorem dX10_drawnAct_54 : decode cX10_drawnAct 54 = .ok (.sipush 1000, 3) := by decide +kernel
theorem dX10_drawnAct_57 : decode cX10_drawnAct 57 = .ok (.invokevirtual 277, 3) := by decide +kernel
theorem dX10_drawnAct_60 : decode cX10_drawnAct 60 = .ok (.invokevirtual 256, 3) := by decide +kernel
theorem dX10_drawnAct_63 : decode cX10_drawnAct 63 = .ok (.pop, 1) := by decide +kernel
theorem dX10_drawnAct_64 : decode cX10_drawnAct 64 = .ok (.goto 59, 3) := by decide +kernel
theorem dX10_drawnAct_67 : decode cX10_drawnAct 67 = .ok (.iload_n 1, 1) := by decide +kernel
theorem dX10_drawnAct_68 : decode cX10_drawnAct 68 = .ok (.bipush 6, 2) := by decide +kernel
theorem dX10_drawnAct_70 : decode cX10_drawnAct 70 = .ok (.if_icmp .ne 24, 3) := by decide +kernel
theorem dX10_drawnAct_73 : decode cX10_drawnAct 73 = .ok (.aload_n 0, 1) := by decide +kernel
theorem dX10_drawnAct_74 : decode cX10_drawnAct 74 = .ok (.bipush 8, 2) := by decide +kernel
theorem dX10_drawnAct_76 : decode cX10_drawnAct 76 = .ok (.aload_n 0, 1) := by decide +kernel
theorem dX10_drawnAct_77 : decode cX10_drawnAct 77 = .ok (.getfield 85, 3) := by decide +kernel
theorem dX10_drawnAct_80 : decode cX10_drawnAct 80 = .ok (.sipush 200, 3) := by decide +kernel
theorem dX10_drawnAct_83 : decode cX10_drawnAct 83 = .ok (.invokevirtual 277, 3) := by decide +kernel
theorem dX10_drawnAct_86 : decode cX10_drawnAct 86 = .ok (.iconst 0, 1) := by decide +kernel
theorem dX10_drawnAct_87 : decode cX10_drawnAct 87 = .ok (.invokevirtual 256, 3) := by decide +kernel
theorem dX10_drawnAct_90 : decode cX10_drawnAct 90 = .ok (.pop, 1) := by decide +kernel
theorem dX10_drawnAct_91 : decode cX10_drawnAct 91 = .ok (.goto 32, 3) := by decide +kernel
theorem dX10_drawnAct_94 : decode cX10_drawnAct 94 = .ok (.aload_n 0, 1) := by decide +kernel
theorem dX10_drawnAct_95 : decode cX10_drawnAct 95 = .ok (.getfield 85, 3) := by decide +kernel
theorem dX10_drawnAct_98 : decode cX10_drawnAct 98 = .ok (.bipush 100, 2) := by decide +kernel
theorem dX10_drawnAct_100 : decode cX10_drawnAct 100 = .ok (.invokevirtual 277, 3) := by decide +kernel
theorem dX10_drawnAct_103 : decode cX10_drawnAct 103 = .ok (.istore_n 2, 1) := by decide +kernel
theorem dX10_drawnAct_104 : decode cX10_drawnAct 104 = .ok (.aload_n 0, 1) := by decide +kernel
theorem dX10_drawnAct_105 : decode cX10_drawnAct 105 = .ok (.bipush 6, 2) := by decide +kernel
theorem dX10_drawnAct_107 : decode cX10_drawnAct 107 = .ok (.iload_n 2, 1) := by decide +kernel
theorem dX10_drawnAct_108 : decode cX10_drawnAct 108 = .ok (.aload_n 0, 1) := by decide +kernel
theorem dX10_drawnAct_109 : decode cX10_drawnAct 109 = .ok (.getfield 85, 3) := by decide +kernel
theorem dX10_drawnAct_112 : decode cX10_drawnAct 112 = .ok (.bipush 9, 2) := by decide +kernel
theorem dX10_drawnAct_114 : decode cX10_drawnAct 114 = .ok (.invokevirtual 277, 3) := by decide +kernel
theorem dX10_drawnAct_117 : decode cX10_drawnAct 117 = .ok (.iconst 1, 1) := by decide +kernel
theorem dX10_drawnAct_118 : decode cX10_drawnAct 118 = .ok (.iadd, 1) := by decide +kernel
theorem dX10_drawnAct_119 : decode cX10_drawnAct 119 = .ok (.invokevirtual 256, 3) := by decide +kernel
theorem dX10_drawnAct_122 : decode cX10_drawnAct 122 = .ok (.pop, 1) := by decide +kernel
theorem dX10_drawnAct_123 : decode cX10_drawnAct 123 = .ok (.return_, 1) := by decide +kernel
theorem dX10_status_0 : decode cX10_status 0 = .ok (.iload_n 1, 1) := by decide +kernel
theorem dX10_status_1 : decode cX10_status 1 = .ok (.ifCond .ne 8, 3) := by decide +kernel
theorem dX10_status_4 : decode cX10_status 4 = .ok (.aload_n 0, 1) := by decide +kernel
theorem dX10_status_5 : decode cX10_status 5 = .ok (.getfield 250, 3) := by decide +kernel
theorem dX10_status_8 : decode cX10_status 8 = .ok (.ireturn, 1) := by decide +kernel
theorem dX10_status_9 : decode cX10_status 9 = .ok (.iload_n 1, 1) := by decide +kernel
theorem dX10_status_10 : decode cX10_status 10 = .ok (.iconst 1, 1) := by decide +kernel
theorem dX10_status_11 : decode cX10_status 11 = .ok (.if_icmp .ne 10, 3) := by decide +kernel
theorem dX10_status_14 : decode cX10_status 14 = .ok (.aload_n 0, 1) := by decide +kernel
theorem dX10_status_15 : decode cX10_status 15 = .ok (.getfield 253, 3) := by decide +kernel
theorem dX10_status_18 : decode cX10_status 18 = .ok (.goto 4, 3) := by decide +kernel
theorem dX10_status_21 : decode cX10_status 21 = .ok (.iconst (-1), 1) := by decide +kernel
theorem dX10_status_22 : decode cX10_status 22 = .ok (.ireturn, 1) := by decide +kernel
theorem dX10_undo_0 : decode cX10_undo 0 = .ok (.aload_n 0, 1) := by decide +kernel
theorem dX10_undo_1 : decode cX10_undo 1 = .ok (.getfield 45, 3) := by decide +kernel
theorem dX10_undo_4 : decode cX10_undo 4 = .ok (.getfield 280, 3) := by decide +kernel
theorem dX10_undo_7 : decode cX10_undo 7 = .ok (.ifCond .ne 5, 3) := by decide +kernel
theorem dX10_undo_10 : decode cX10_undo 10 = .ok (.iconst (-1), 1) := by decide +kernel
theorem dX10_undo_11 : decode cX10_undo 11 = .ok (.ireturn, 1) := by decide +kernel
theorem dX10_undo_12 : decode cX10_undo 12 = .ok (.aload_n 0, 1) := by decide +kernel
theorem dX10_undo_13 : decode cX10_undo 13 = .ok (.getfield 45, 3) := by decide +kernel
theorem dX10_undo_16 : decode cX10_undo 16 = .ok (.aload_n 0, 1) := by decide +kernel
theorem dX10_undo_17 : decode cX10_undo 17 = .ok (.getfield 24, 3) := by decide +kernel
theorem dX10_undo_20 : decode cX10_undo 20 = .ok (.invokevirtual 281, 3) := by decide +kernel
theorem dX10_undo_23 : decode cX10_undo 23 = .ok (.aload_n 0, 1) := by decide +kernel
theorem dX10_undo_24 : decode cX10_undo 24 = .ok (.getfield 52, 3) := by decide +kernel
theorem dX10_undo_27 : decode cX10_undo 27 = .ok (.invokevirtual 284, 3) := by decide +kernel
theorem dX10_undo_30 : decode cX10_undo 30 = .ok (.aload_n 0, 1) := by decide +kernel
theorem dX10_undo_31 : decode cX10_undo 31 = .ok (.getfield 31, 3) := by decide +kernel
theorem dX10_undo_34 : decode cX10_undo 34 = .ok (.aload_n 0, 1) := by decide +kernel
theorem dX10_undo_35 : decode cX10_undo 35 = .ok (.getfield 24, 3) := by decide +kernel
theorem dX10_undo_38 : decode cX10_undo 38 = .ok (.invokevirtual 135, 3) := by decide +kernel
theorem dX10_undo_41 : decode cX10_undo 41 = .ok (.aload_n 0, 1) := by decide +kernel
theorem dX10_undo_42 : decode cX10_undo 42 = .ok (.getfield 45, 3) := by decide +kernel
theorem dX10_undo_45 : decode cX10_undo 45 = .ok (.getfield 280, 3) := by decide +kernel
theorem dX10_undo_48 : decode cX10_undo 48 = .ok (.ireturn, 1) := by decide +kernel
theorem dX10_log_0 : decode cX10_log 0 = .ok (.aload_n 0, 1) := by decide +kernel
theorem dX10_log_1 : decode cX10_log 1 = .ok (.getfield 52, 3) := by decide +kernel
theorem dX10_log_4 : decode cX10_log 4 = .ok (.iload_n 1, 1) := by decide +kernel
theorem dX10_log_5 : decode cX10_log 5 = .ok (.iload_n 2, 1) := by decide +kernel
theorem dX10_log_6 : decode cX10_log 6 = .ok (.invokevirtual 287, 3) := by decide +kernel
theorem dX10_log_9 : decode cX10_log 9 = .ok (.ireturn, 1) := by decide +kernel
theorem dX10_noiseFor_0 : decode cX10_noiseFor 0 = .ok (.aload_n 0, 1) := by decide +kernel
theorem dX10_noiseFor_1 : decode cX10_noiseFor 1 = .ok (.invokevirtual 151, 3) := by decide +kernel
theorem dX10_noiseFor_4 : decode cX10_noiseFor 4 = .ok (.ifCond .ne 14, 3) := by decide +kernel
theorem dX10_noiseFor_7 : decode cX10_noiseFor 7 = .ok (.iload_n 1, 1) := by decide +kernel
theorem dX10_noiseFor_8 : decode cX10_noiseFor 8 = .ok (.iconst 1, 1) := by decide +kernel
theorem dX10_noiseFor_9 : decode cX10_noiseFor 9 = .ok (.if_icmp .lt 9, 3) := by decide +kernel
theorem dX10_noiseFor_12 : decode cX10_noiseFor 12 = .ok (.iload_n 1, 1) := by decide +kernel
theorem dX10_noiseFor_13 : decode cX10_noiseFor 13 = .ok (.bipush 48, 2) := by decide +kernel
theorem dX10_noiseFor_15 : decode cX10_noiseFor 15 = .ok (.if_icmp .le 5, 3) := by decide +kernel
theorem dX10_noiseFor_18 : decode cX10_noiseFor 18 = .ok (.iconst (-1), 1) := by decide +kernel
theorem dX10_noiseFor_19 : decode cX10_noiseFor 19 = .ok (.ireturn, 1) := by decide +kernel
theorem dX10_noiseFor_20 : decode cX10_noiseFor 20 = .ok (.iload_n 1, 1) := by decide +kernel
theorem dX10_noiseFor_21 : decode cX10_noiseFor 21 = .ok (.aload_n 0, 1) := by decide +kernel
theorem dX10_noiseFor_22 : decode cX10_noiseFor 22 = .ok (.getfield 31, 3) := by decide +kernel
theorem dX10_noiseFor_25 : decode cX10_noiseFor 25 = .ok (.getfield 162, 3) := by decide +kernel
theorem dX10_noiseFor_28 : decode cX10_noiseFor 28 = .ok (.if_icmp .ge 14, 3) := by decide +kernel
theorem dX10_noiseFor_31 : decode cX10_noiseFor 31 = .ok (.aload_n 0, 1) := by decide +kernel
theorem dX10_noiseFor_32 : decode cX10_noiseFor 32 = .ok (.getfield 31, 3) := by decide +kernel
theorem dX10_noiseFor_35 : decode cX10_noiseFor 35 = .ok (.iload_n 1, 1) := by decide +kernel
theorem dX10_noiseFor_36 : decode cX10_noiseFor 36 = .ok (.invokevirtual 196, 3) := by decide +kernel
theorem dX10_noiseFor_39 : decode cX10_noiseFor 39 = .ok (.goto 4, 3) := by decide +kernel
theorem dX10_noiseFor_42 : decode cX10_noiseFor 42 = .ok (.iconst 0, 1) := by decide +kernel
theorem dX10_noiseFor_43 : decode cX10_noiseFor 43 = .ok (.ireturn, 1) := by decide +kernel
theorem dX10_pieces_0 : decode cX10_pieces 0 = .ok (.aload_n 0, 1) := by decide +kernel
theorem dX10_pieces_1 : decode cX10_pieces 1 = .ok (.invokevirtual 151, 3) := by decide +kernel
theorem dX10_pieces_4 : decode cX10_pieces 4 = .ok (.ifCond .ne 14, 3) := by decide +kernel
theorem dX10_pieces_7 : decode cX10_pieces 7 = .ok (.iload_n 1, 1) := by decide +kernel
theorem dX10_pieces_8 : decode cX10_pieces 8 = .ok (.ifCond .lt 10, 3) := by decide +kernel
theorem dX10_pieces_11 : decode cX10_pieces 11 = .ok (.iload_n 1, 1) := by decide +kernel
theorem dX10_pieces_12 : decode cX10_pieces 12 = .ok (.sipush 999, 3) := by decide +kernel
theorem dX10_pieces_15 : decode cX10_pieces 15 = .ok (.if_icmp .le 5, 3) := by decide +kernel
theorem dX10_pieces_18 : decode cX10_pieces 18 = .ok (.iconst (-1), 1) := by decide +kernel
theorem dX10_pieces_19 : decode cX10_pieces 19 = .ok (.ireturn, 1) := by decide +kernel
theorem dX10_pieces_20 : decode cX10_pieces 20 = .ok (.iconst 0, 1) := by decide +kernel
theorem dX10_pieces_21 : decode cX10_pieces 21 = .ok (.istore_n 2, 1) := by decide +kernel
theorem dX10_pieces_22 : decode cX10_pieces 22 = .ok (.iconst 0, 1) := by decide +kernel
theorem dX10_pieces_23 : decode cX10_pieces 23 = .ok (.istore_n 3, 1) := by decide +kernel
theorem dX10_pieces_24 : decode cX10_pieces 24 = .ok (.iconst 0, 1) := by decide +kernel
theorem dX10_pieces_25 : decode cX10_pieces 25 = .ok (.istore 4, 2) := by decide +kernel
theorem dX10_pieces_27 : decode cX10_pieces 27 = .ok (.iload 4, 2) := by decide +kernel
theorem dX10_pieces_29 : decode cX10_pieces 29 = .ok (.aload_n 0, 1) := by decide +kernel
theorem dX10_pieces_30 : decode cX10_pieces 30 = .ok (.getfield 24, 3) := by decide +kernel
theorem dX10_pieces_33 : decode cX10_pieces 33 = .ok (.getfield 142, 3) := by decide +kernel
theorem dX10_pieces_36 : decode cX10_pieces 36 = .ok (.if_icmp .ge 45, 3) := by decide +kernel
theorem dX10_pieces_39 : decode cX10_pieces 39 = .ok (.aload_n 0, 1) := by decide +kernel
theorem dX10_pieces_40 : decode cX10_pieces 40 = .ok (.getfield 24, 3) := by decide +kernel
theorem dX10_pieces_43 : decode cX10_pieces 43 = .ok (.getfield 173, 3) := by decide +kernel
theorem dX10_pieces_46 : decode cX10_pieces 46 = .ok (.iload 4, 2) := by decide +kernel
theorem dX10_pieces_48 : decode cX10_pieces 48 = .ok (.iaload, 1) := by decide +kernel
theorem dX10_pieces_49 : decode cX10_pieces 49 = .ok (.iload_n 1, 1) := by decide +kernel
theorem dX10_pieces_50 : decode cX10_pieces 50 = .ok (.if_icmp .lt 7, 3) := by decide +kernel
theorem dX10_pieces_53 : decode cX10_pieces 53 = .ok (.iconst 1, 1) := by decide +kernel
theorem dX10_pieces_54 : decode cX10_pieces 54 = .ok (.goto 4, 3) := by decide +kernel
theorem dX10_pieces_57 : decode cX10_pieces 57 = .ok (.iconst 0, 1) := by decide +kernel
theorem dX10_pieces_58 : decode cX10_pieces 58 = .ok (.istore 5, 2) := by decide +kernel
theorem dX10_pieces_60 : decode cX10_pieces 60 = .ok (.iload 5, 2) := by decide +kernel
theorem dX10_pieces_62 : decode cX10_pieces 62 = .ok (.ifCond .eq 10, 3) := by decide +kernel
theorem dX10_pieces_65 : decode cX10_pieces 65 = .ok (.iload_n 3, 1) := by decide +kernel
theorem dX10_pieces_66 : decode cX10_pieces 66 = .ok (.ifCond .ne 6, 3) := by decide +kernel
theorem dX10_pieces_69 : decode cX10_pieces 69 = .ok (.iinc 2 1, 3) := by decide +kernel
theorem dX10_pieces_72 : decode cX10_pieces 72 = .ok (.iload 5, 2) := by decide +kernel
theorem dX10_pieces_74 : decode cX10_pieces 74 = .ok (.istore_n 3, 1) := by decide +kernel
theorem dX10_pieces_75 : decode cX10_pieces 75 = .ok (.iinc 4 1, 3) := by decide +kernel
theorem dX10_pieces_78 : decode cX10_pieces 78 = .ok (.goto (-51), 3) := by decide +kernel
theorem dX10_pieces_81 : decode cX10_pieces 81 = .ok (.iload_n 2, 1) := by decide +kernel
theorem dX10_pieces_82 : decode cX10_pieces 82 = .ok (.ireturn, 1) := by decide +kernel
theorem dX10_room_0 : decode cX10_room 0 = .ok (.aload_n 0, 1) := by decide +kernel
theorem dX10_room_1 : decode cX10_room 1 = .ok (.invokevirtual 151, 3) := by decide +kernel
theorem dX10_room_4 : decode cX10_room 4 = .ok (.ifCond .eq 5, 3) := by decide +kernel
theorem dX10_room_7 : decode cX10_room 7 = .ok (.iconst (-1), 1) := by decide +kernel
theorem dX10_room_8 : decode cX10_room 8 = .ok (.ireturn, 1) := by decide +kernel
theorem dX10_room_9 : decode cX10_room 9 = .ok (.iload_n 1, 1) := by decide +kernel
theorem dX10_room_10 : decode cX10_room 10 = .ok (.ifCond .ne 42, 3) := by decide +kernel
theorem dX10_room_13 : decode cX10_room 13 = .ok (.aload_n 0, 1) := by decide +kernel
theorem dX10_room_14 : decode cX10_room 14 = .ok (.getfield 31, 3) := by decide +kernel
theorem dX10_room_17 : decode cX10_room 17 = .ok (.getfield 148, 3) := by decide +kernel
theorem dX10_room_20 : decode cX10_room 20 = .ok (.iconst 1, 1) := by decide +kernel
theorem dX10_room_21 : decode cX10_room 21 = .ok (.isub, 1) := by decide +kernel
theorem dX10_room_22 : decode cX10_room 22 = .ok (.istore_n 2, 1) := by decide +kernel
theorem dX10_room_23 : decode cX10_room 23 = .ok (.iload_n 2, 1) := by decide +kernel
theorem dX10_room_24 : decode cX10_room 24 = .ok (.ifCond .le 16, 3) := by decide +kernel
theorem dX10_room_27 : decode cX10_room 27 = .ok (.aload_n 0, 1) := by decide +kernel
theorem dX10_room_28 : decode cX10_room 28 = .ok (.getfield 31, 3) := by decide +kernel
theorem dX10_room_31 : decode cX10_room 31 = .ok (.iload_n 2, 1) := by decide +kernel
theorem dX10_room_32 : decode cX10_room 32 = .ok (.invokevirtual 196, 3) := by decide +kernel
theorem dX10_room_35 : decode cX10_room 35 = .ok (.iconst 1, 1) := by decide +kernel
theorem dX10_room_36 : decode cX10_room 36 = .ok (.isub, 1) := by decide +kernel
theorem dX10_room_37 : decode cX10_room 37 = .ok (.goto 6, 3) := by decide +kernel
theorem dX10_room_40 : decode cX10_room 40 = .ok (.sipush 999, 3) := by decide +kernel
theorem dX10_room_43 : decode cX10_room 43 = .ok (.aload_n 0, 1) := by decide +kernel
theorem dX10_room_44 : decode cX10_room 44 = .ok (.getfield 24, 3) := by decide +kernel
theorem dX10_room_47 : decode cX10_room 47 = .ok (.getfield 155, 3) := by decide +kernel
theorem dX10_room_50 : decode cX10_room 50 = .ok (.isub, 1) := by decide +kernel
theorem dX10_room_51 : decode cX10_room 51 = .ok (.ireturn, 1) := by decide +kernel
theorem dX10_room_52 : decode cX10_room 52 = .ok (.iload_n 1, 1) := by decide +kernel
theorem dX10_room_53 : decode cX10_room 53 = .ok (.iconst 1, 1) := by decide +kernel
theorem dX10_room_54 : decode cX10_room 54 = .ok (.if_icmp .ne 43, 3) := by decide +kernel
theorem dX10_room_57 : decode cX10_room 57 = .ok (.aload_n 0, 1) := by decide +kernel
theorem dX10_room_58 : decode cX10_room 58 = .ok (.getfield 31, 3) := by decide +kernel
theorem dX10_room_61 : decode cX10_room 61 = .ok (.getfield 148, 3) := by decide +kernel
theorem dX10_room_64 : decode cX10_room 64 = .ok (.istore_n 2, 1) := by decide +kernel
theorem dX10_room_65 : decode cX10_room 65 = .ok (.aload_n 0, 1) := by decide +kernel
theorem dX10_room_66 : decode cX10_room 66 = .ok (.getfield 24, 3) := by decide +kernel
theorem dX10_room_69 : decode cX10_room 69 = .ok (.getfield 155, 3) := by decide +kernel
theorem dX10_room_72 : decode cX10_room 72 = .ok (.iload_n 2, 1) := by decide +kernel
theorem dX10_room_73 : decode cX10_room 73 = .ok (.aload_n 0, 1) := by decide +kernel
theorem dX10_room_74 : decode cX10_room 74 = .ok (.getfield 31, 3) := by decide +kernel
theorem dX10_room_77 : decode cX10_room 77 = .ok (.getfield 162, 3) := by decide +kernel
theorem dX10_room_80 : decode cX10_room 80 = .ok (.if_icmp .ge 14, 3) := by decide +kernel
theorem dX10_room_83 : decode cX10_room 83 = .ok (.aload_n 0, 1) := by decide +kernel
theorem dX10_room_84 : decode cX10_room 84 = .ok (.getfield 31, 3) := by decide +kernel
theorem dX10_room_87 : decode cX10_room 87 = .ok (.iload_n 2, 1) := by decide +kernel
theorem dX10_room_88 : decode cX10_room 88 = .ok (.invokevirtual 196, 3) := by decide +kernel
theorem dX10_room_91 : decode cX10_room 91 = .ok (.goto 4, 3) := by decide +kernel
theorem dX10_room_94 : decode cX10_room 94 = .ok (.iconst 0, 1) := by decide +kernel
theorem dX10_room_95 : decode cX10_room 95 = .ok (.isub, 1) := by decide +kernel
theorem dX10_room_96 : decode cX10_room 96 = .ok (.ireturn, 1) := by decide +kernel
theorem dX10_room_97 : decode cX10_room 97 = .ok (.iconst (-1), 1) := by decide +kernel
theorem dX10_room_98 : decode cX10_room 98 = .ok (.ireturn, 1) := by decide +kernel
theorem dX10_unlike_0 : decode cX10_unlike 0 = .ok (.aload_n 0, 1) := by decide +kernel
theorem dX10_unlike_1 : decode cX10_unlike 1 = .ok (.getfield 62, 3) := by decide +kernel
theorem dX10_unlike_4 : decode cX10_unlike 4 = .ok (.getfield 142, 3) := by decide +kernel
theorem dX10_unlike_7 : decode cX10_unlike 7 = .ok (.ifCond .ne 5, 3) := by decide +kernel
theorem dX10_unlike_10 : decode cX10_unlike 10 = .ok (.iconst (-1), 1) := by decide +kernel
theorem dX10_unlike_11 : decode cX10_unlike 11 = .ok (.ireturn, 1) := by decide +kernel
theorem dX10_unlike_12 : decode cX10_unlike 12 = .ok (.aload_n 0, 1) := by decide +kernel
theorem dX10_unlike_13 : decode cX10_unlike 13 = .ok (.getfield 71, 3) := by decide +kernel
theorem dX10_unlike_16 : decode cX10_unlike 16 = .ok (.aload_n 0, 1) := by decide +kernel
theorem dX10_unlike_17 : decode cX10_unlike 17 = .ok (.getfield 62, 3) := by decide +kernel
theorem dX10_unlike_20 : decode cX10_unlike 20 = .ok (.invokevirtual 135, 3) := by decide +kernel
theorem dX10_unlike_23 : decode cX10_unlike 23 = .ok (.aload_n 0, 1) := by decide +kernel
theorem dX10_unlike_24 : decode cX10_unlike 24 = .ok (.getfield 31, 3) := by decide +kernel
theorem dX10_unlike_27 : decode cX10_unlike 27 = .ok (.getfield 162, 3) := by decide +kernel
theorem dX10_unlike_30 : decode cX10_unlike 30 = .ok (.aload_n 0, 1) := by decide +kernel
theorem dX10_unlike_31 : decode cX10_unlike 31 = .ok (.getfield 71, 3) := by decide +kernel
theorem dX10_unlike_34 : decode cX10_unlike 34 = .ok (.getfield 162, 3) := by decide +kernel
theorem dX10_unlike_37 : decode cX10_unlike 37 = .ok (.invokestatic 291, 3) := by decide +kernel
theorem dX10_unlike_40 : decode cX10_unlike 40 = .ok (.istore_n 1, 1) := by decide +kernel
theorem dX10_unlike_41 : decode cX10_unlike 41 = .ok (.iconst 0, 1) := by decide +kernel
theorem dX10_unlike_42 : decode cX10_unlike 42 = .ok (.istore_n 2, 1) := by decide +kernel
theorem dX10_unlike_43 : decode cX10_unlike 43 = .ok (.iconst 0, 1) := by decide +kernel
theorem dX10_unlike_44 : decode cX10_unlike 44 = .ok (.istore_n 3, 1) := by decide +kernel
theorem dX10_unlike_45 : decode cX10_unlike 45 = .ok (.iload_n 3, 1) := by decide +kernel
theorem dX10_unlike_46 : decode cX10_unlike 46 = .ok (.iload_n 1, 1) := by decide +kernel
theorem dX10_unlike_47 : decode cX10_unlike 47 = .ok (.if_icmp .ge 70, 3) := by decide +kernel
theorem dX10_unlike_50 : decode cX10_unlike 50 = .ok (.iload_n 3, 1) := by decide +kernel
theorem dX10_unlike_51 : decode cX10_unlike 51 = .ok (.aload_n 0, 1) := by decide +kernel
theorem dX10_unlike_52 : decode cX10_unlike 52 = .ok (.getfield 31, 3) := by decide +kernel
theorem dX10_unlike_55 : decode cX10_unlike 55 = .ok (.getfield 162, 3) := by decide +kernel
theorem dX10_unlike_58 : decode cX10_unlike 58 = .ok (.if_icmp .ge 14, 3) := by decide +kernel
theorem dX10_unlike_61 : decode cX10_unlike 61 = .ok (.aload_n 0, 1) := by decide +kernel
theorem dX10_unlike_62 : decode cX10_unlike 62 = .ok (.getfield 31, 3) := by decide +kernel
theorem dX10_unlike_65 : decode cX10_unlike 65 = .ok (.iload_n 3, 1) := by decide +kernel
theorem dX10_unlike_66 : decode cX10_unlike 66 = .ok (.invokevirtual 196, 3) := by decide +kernel
theorem dX10_unlike_69 : decode cX10_unlike 69 = .ok (.goto 4, 3) := by decide +kernel
theorem dX10_unlike_72 : decode cX10_unlike 72 = .ok (.iconst 0, 1) := by decide +kernel
theorem dX10_unlike_73 : decode cX10_unlike 73 = .ok (.istore 4, 2) := by decide +kernel
theorem dX10_unlike_75 : decode cX10_unlike 75 = .ok (.iload_n 3, 1) := by decide +kernel
theorem dX10_unlike_76 : decode cX10_unlike 76 = .ok (.aload_n 0, 1) := by decide +kernel
theorem dX10_unlike_77 : decode cX10_unlike 77 = .ok (.getfield 71, 3) := by decide +kernel
theorem dX10_unlike_80 : decode cX10_unlike 80 = .ok (.getfield 162, 3) := by decide +kernel
theorem dX10_unlike_83 : decode cX10_unlike 83 = .ok (.if_icmp .ge 14, 3) := by decide +kernel
theorem dX10_unlike_86 : decode cX10_unlike 86 = .ok (.aload_n 0, 1) := by decide +kernel
theorem dX10_unlike_87 : decode cX10_unlike 87 = .ok (.getfield 71, 3) := by decide +kernel
theorem dX10_unlike_90 : decode cX10_unlike 90 = .ok (.iload_n 3, 1) := by decide +kernel
theorem dX10_unlike_91 : decode cX10_unlike 91 = .ok (.invokevirtual 196, 3) := by decide +kernel
theorem dX10_unlike_94 : decode cX10_unlike 94 = .ok (.goto 4, 3) := by decide +kernel
theorem dX10_unlike_97 : decode cX10_unlike 97 = .ok (.iconst 0, 1) := by decide +kernel
theorem dX10_unlike_98 : decode cX10_unlike 98 = .ok (.istore 5, 2) := by decide +kernel
theorem dX10_unlike_100 : decode cX10_unlike 100 = .ok (.iload_n 2, 1) := by decide +kernel
theorem dX10_unlike_101 : decode cX10_unlike 101 = .ok (.iload 4, 2) := by decide +kernel
theorem dX10_unlike_103 : decode cX10_unlike 103 = .ok (.iload 5, 2) := by decide +kernel
theorem dX10_unlike_105 : decode cX10_unlike 105 = .ok (.isub, 1) := by decide +kernel
theorem dX10_unlike_106 : decode cX10_unlike 106 = .ok (.invokestatic 296, 3) := by decide +kernel
theorem dX10_unlike_109 : decode cX10_unlike 109 = .ok (.iadd, 1) := by decide +kernel
theorem dX10_unlike_110 : decode cX10_unlike 110 = .ok (.istore_n 2, 1) := by decide +kernel
theorem dX10_unlike_111 : decode cX10_unlike 111 = .ok (.iinc 3 1, 3) := by decide +kernel
theorem dX10_unlike_114 : decode cX10_unlike 114 = .ok (.goto (-69), 3) := by decide +kernel
theorem dX10_unlike_117 : decode cX10_unlike 117 = .ok (.iload_n 2, 1) := by decide +kernel
theorem dX10_unlike_118 : decode cX10_unlike 118 = .ok (.ireturn, 1) := by decide +kernel
theorem dX10_shift_0 : decode cX10_shift 0 = .ok (.aload_n 0, 1) := by decide +kernel
theorem dX10_shift_1 : decode cX10_shift 1 = .ok (.invokevirtual 151, 3) := by decide +kernel
theorem dX10_shift_4 : decode cX10_shift 4 = .ok (.ifCond .ne 12, 3) := by decide +kernel
theorem dX10_shift_7 : decode cX10_shift 7 = .ok (.iload_n 1, 1) := by decide +kernel
theorem dX10_shift_8 : decode cX10_shift 8 = .ok (.ifCond .lt 8, 3) := by decide +kernel
theorem dX10_shift_11 : decode cX10_shift 11 = .ok (.iload_n 1, 1) := by decide +kernel
theorem dX10_shift_12 : decode cX10_shift 12 = .ok (.iconst 1, 1) := by decide +kernel
theorem dX10_shift_13 : decode cX10_shift 13 = .ok (.if_icmp .le 7, 3) := by decide +kernel
theorem dX10_shift_16 : decode cX10_shift 16 = .ok (.ldc_w 299, 3) := by decide +kernel
theorem dX10_shift_19 : decode cX10_shift 19 = .ok (.ireturn, 1) := by decide +kernel
theorem dX10_shift_20 : decode cX10_shift 20 = .ok (.iconst 0, 1) := by decide +kernel
theorem dX10_shift_21 : decode cX10_shift 21 = .ok (.istore_n 2, 1) := by decide +kernel
theorem dX10_shift_22 : decode cX10_shift 22 = .ok (.aload_n 0, 1) := by decide +kernel
theorem dX10_shift_23 : decode cX10_shift 23 = .ok (.getfield 38, 3) := by decide +kernel
theorem dX10_shift_26 : decode cX10_shift 26 = .ok (.aload_n 0, 1) := by decide +kernel
theorem dX10_shift_27 : decode cX10_shift 27 = .ok (.getfield 31, 3) := by decide +kernel
theorem dX10_shift_30 : decode cX10_shift 30 = .ok (.iconst 0, 1) := by decide +kernel
theorem dX10_shift_31 : decode cX10_shift 31 = .ok (.invokevirtual 208, 3) := by decide +kernel
theorem dX10_shift_34 : decode cX10_shift 34 = .ok (.istore_n 3, 1) := by decide +kernel
theorem dX10_shift_35 : decode cX10_shift 35 = .ok (.iconst 1, 1) := by decide +kernel
theorem dX10_shift_36 : decode cX10_shift 36 = .ok (.istore 4, 2) := by decide +kernel
theorem dX10_shift_38 : decode cX10_shift 38 = .ok (.iload 4, 2) := by decide +kernel
theorem dX10_shift_40 : decode cX10_shift 40 = .ok (.bipush 9, 2) := by decide +kernel
theorem dX10_shift_42 : decode cX10_shift 42 = .ok (.if_icmp .gt 65, 3) := by decide +kernel
theorem dX10_shift_45 : decode cX10_shift 45 = .ok (.aload_n 0, 1) := by decide +kernel
theorem dX10_shift_46 : decode cX10_shift 46 = .ok (.getfield 38, 3) := by decide +kernel
theorem dX10_shift_49 : decode cX10_shift 49 = .ok (.aload_n 0, 1) := by decide +kernel
theorem dX10_shift_50 : decode cX10_shift 50 = .ok (.getfield 31, 3) := by decide +kernel
theorem dX10_shift_53 : decode cX10_shift 53 = .ok (.iload 4, 2) := by decide +kernel
theorem dX10_shift_55 : decode cX10_shift 55 = .ok (.ineg, 1) := by decide +kernel
theorem dX10_shift_56 : decode cX10_shift 56 = .ok (.invokevirtual 208, 3) := by decide +kernel
theorem dX10_shift_59 : decode cX10_shift 59 = .ok (.istore 5, 2) := by decide +kernel
theorem dX10_shift_61 : decode cX10_shift 61 = .ok (.iload 5, 2) := by decide +kernel
theorem dX10_shift_63 : decode cX10_shift 63 = .ok (.iload_n 3, 1) := by decide +kernel
theorem dX10_shift_64 : decode cX10_shift 64 = .ok (.if_icmp .le 10, 3) := by decide +kernel
theorem dX10_shift_67 : decode cX10_shift 67 = .ok (.iload 5, 2) := by decide +kernel
theorem dX10_shift_69 : decode cX10_shift 69 = .ok (.istore_n 3, 1) := by decide +kernel
theorem dX10_shift_70 : decode cX10_shift 70 = .ok (.iload 4, 2) := by decide +kernel
theorem dX10_shift_72 : decode cX10_shift 72 = .ok (.ineg, 1) := by decide +kernel
theorem dX10_shift_73 : decode cX10_shift 73 = .ok (.istore_n 2, 1) := by decide +kernel
theorem dX10_shift_74 : decode cX10_shift 74 = .ok (.aload_n 0, 1) := by decide +kernel
theorem dX10_shift_75 : decode cX10_shift 75 = .ok (.getfield 38, 3) := by decide +kernel
theorem dX10_shift_78 : decode cX10_shift 78 = .ok (.aload_n 0, 1) := by decide +kernel
theorem dX10_shift_79 : decode cX10_shift 79 = .ok (.getfield 31, 3) := by decide +kernel
theorem dX10_shift_82 : decode cX10_shift 82 = .ok (.iload 4, 2) := by decide +kernel
theorem dX10_shift_84 : decode cX10_shift 84 = .ok (.invokevirtual 208, 3) := by decide +kernel
theorem dX10_shift_87 : decode cX10_shift 87 = .ok (.istore 6, 2) := by decide +kernel
theorem dX10_shift_89 : decode cX10_shift 89 = .ok (.iload 6, 2) := by decide +kernel
theorem dX10_shift_91 : decode cX10_shift 91 = .ok (.iload_n 3, 1) := by decide +kernel
theorem dX10_shift_92 : decode cX10_shift 92 = .ok (.if_icmp .le 9, 3) := by decide +kernel
theorem dX10_shift_95 : decode cX10_shift 95 = .ok (.iload 6, 2) := by decide +kernel
theorem dX10_shift_97 : decode cX10_shift 97 = .ok (.istore_n 3, 1) := by decide +kernel
theorem dX10_shift_98 : decode cX10_shift 98 = .ok (.iload 4, 2) := by decide +kernel
theorem dX10_shift_100 : decode cX10_shift 100 = .ok (.istore_n 2, 1) := by decide +kernel
theorem dX10_shift_101 : decode cX10_shift 101 = .ok (.iinc 4 1, 3) := by decide +kernel
theorem dX10_shift_104 : decode cX10_shift 104 = .ok (.goto (-66), 3) := by decide +kernel
theorem dX10_shift_107 : decode cX10_shift 107 = .ok (.iload_n 1, 1) := by decide +kernel
theorem dX10_shift_108 : decode cX10_shift 108 = .ok (.ifCond .ne 7, 3) := by decide +kernel
theorem dX10_shift_111 : decode cX10_shift 111 = .ok (.iload_n 2, 1) := by decide +kernel
theorem dX10_shift_112 : decode cX10_shift 112 = .ok (.goto 4, 3) := by decide +kernel
theorem dX10_shift_115 : decode cX10_shift 115 = .ok (.iload_n 3, 1) := by decide +kernel
theorem dX10_shift_116 : decode cX10_shift 116 = .ok (.ireturn, 1) := by decide +kernel
theorem dX10_missed_0 : decode cX10_missed 0 = .ok (.aload_n 0, 1) := by decide +kernel
theorem dX10_missed_1 : decode cX10_missed 1 = .ok (.invokevirtual 151, 3) := by decide +kernel
theorem dX10_missed_4 : decode cX10_missed 4 = .ok (.ifCond .eq 5, 3) := by decide +kernel
theorem dX10_missed_7 : decode cX10_missed 7 = .ok (.iconst (-1), 1) := by decide +kernel
theorem dX10_missed_8 : decode cX10_missed 8 = .ok (.ireturn, 1) := by decide +kernel
theorem dX10_missed_9 : decode cX10_missed 9 = .ok (.iconst 1, 1) := by decide +kernel
theorem dX10_missed_10 : decode cX10_missed 10 = .ok (.aload_n 0, 1) := by decide +kernel
theorem dX10_missed_11 : decode cX10_missed 11 = .ok (.getfield 38, 3) := by decide +kernel
theorem dX10_missed_14 : decode cX10_missed 14 = .ok (.getfield 161, 3) := by decide +kernel
theorem dX10_missed_17 : decode cX10_missed 17 = .ok (.ishl, 1) := by decide +kernel
theorem dX10_missed_18 : decode cX10_missed 18 = .ok (.iconst 1, 1) := by decide +kernel
theorem dX10_missed_19 : decode cX10_missed 19 = .ok (.isub, 1) := by decide +kernel
theorem dX10_missed_20 : decode cX10_missed 20 = .ok (.istore_n 1, 1) := by decide +kernel
theorem dX10_missed_21 : decode cX10_missed 21 = .ok (.iload_n 1, 1) := by decide +kernel
theorem dX10_missed_22 : decode cX10_missed 22 = .ok (.aload_n 0, 1) := by decide +kernel
theorem dX10_missed_23 : decode cX10_missed 23 = .ok (.invokevirtual 300, 3) := by decide +kernel
theorem dX10_missed_26 : decode cX10_missed 26 = .ok (.iconst (-1), 1) := by decide +kernel
theorem dX10_missed_27 : decode cX10_missed 27 = .ok (.ixor, 1) := by decide +kernel
theorem dX10_missed_28 : decode cX10_missed 28 = .ok (.iand, 1) := by decide +kernel
theorem dX10_missed_29 : decode cX10_missed 29 = .ok (.ireturn, 1) := by decide +kernel
theorem dX10_matchedBits_0 : decode cX10_matchedBits 0 = .ok (.aload_n 0, 1) := by decide +kernel
theorem dX10_matchedBits_1 : decode cX10_matchedBits 1 = .ok (.getfield 38, 3) := by decide +kernel
theorem dX10_matchedBits_4 : decode cX10_matchedBits 4 = .ok (.aload_n 0, 1) := by decide +kernel
theorem dX10_matchedBits_5 : decode cX10_matchedBits 5 = .ok (.getfield 31, 3) := by decide +kernel
theorem dX10_matchedBits_8 : decode cX10_matchedBits 8 = .ok (.iconst 0, 1) := by decide +kernel
theorem dX10_matchedBits_9 : decode cX10_matchedBits 9 = .ok (.invokevirtual 208, 3) := by decide +kernel
theorem dX10_matchedBits_12 : decode cX10_matchedBits 12 = .ok (.pop, 1) := by decide +kernel
theorem dX10_matchedBits_13 : decode cX10_matchedBits 13 = .ok (.iconst 0, 1) := by decide +kernel
theorem dX10_matchedBits_14 : decode cX10_matchedBits 14 = .ok (.istore_n 1, 1) := by decide +kernel
theorem dX10_matchedBits_15 : decode cX10_matchedBits 15 = .ok (.iconst 0, 1) := by decide +kernel
theorem dX10_matchedBits_16 : decode cX10_matchedBits 16 = .ok (.istore_n 2, 1) := by decide +kernel
theorem dX10_matchedBits_17 : decode cX10_matchedBits 17 = .ok (.iload_n 2, 1) := by decide +kernel
theorem dX10_matchedBits_18 : decode cX10_matchedBits 18 = .ok (.aload_n 0, 1) := by decide +kernel
theorem dX10_matchedBits_19 : decode cX10_matchedBits 19 = .ok (.getfield 38, 3) := by decide +kernel
theorem dX10_matchedBits_22 : decode cX10_matchedBits 22 = .ok (.getfield 161, 3) := by decide +kernel
theorem dX10_matchedBits_25 : decode cX10_matchedBits 25 = .ok (.if_icmp .ge 28, 3) := by decide +kernel
theorem dX10_matchedBits_28 : decode cX10_matchedBits 28 = .ok (.aload_n 0, 1) := by decide +kernel
theorem dX10_matchedBits_29 : decode cX10_matchedBits 29 = .ok (.getfield 38, 3) := by decide +kernel
theorem dX10_matchedBits_32 : decode cX10_matchedBits 32 = .ok (.getfield 237, 3) := by decide +kernel
theorem dX10_matchedBits_35 : decode cX10_matchedBits 35 = .ok (.iload_n 2, 1) := by decide +kernel
theorem dX10_matchedBits_36 : decode cX10_matchedBits 36 = .ok (.iaload, 1) := by decide +kernel
theorem dX10_matchedBits_37 : decode cX10_matchedBits 37 = .ok (.iconst (-1), 1) := by decide +kernel
theorem dX10_matchedBits_38 : decode cX10_matchedBits 38 = .ok (.if_icmp .eq 9, 3) := by decide +kernel
theorem dX10_matchedBits_41 : decode cX10_matchedBits 41 = .ok (.iload_n 1, 1) := by decide +kernel
theorem dX10_matchedBits_42 : decode cX10_matchedBits 42 = .ok (.iconst 1, 1) := by decide +kernel
theorem dX10_matchedBits_43 : decode cX10_matchedBits 43 = .ok (.iload_n 2, 1) := by decide +kernel
theorem dX10_matchedBits_44 : decode cX10_matchedBits 44 = .ok (.ishl, 1) := by decide +kernel
theorem dX10_matchedBits_45 : decode cX10_matchedBits 45 = .ok (.ior, 1) := by decide +kernel
theorem dX10_matchedBits_46 : decode cX10_matchedBits 46 = .ok (.istore_n 1, 1) := by decide +kernel
theorem dX10_matchedBits_47 : decode cX10_matchedBits 47 = .ok (.iinc 2 1, 3) := by decide +kernel
theorem dX10_matchedBits_50 : decode cX10_matchedBits 50 = .ok (.goto (-33), 3) := by decide +kernel
theorem dX10_matchedBits_53 : decode cX10_matchedBits 53 = .ok (.iload_n 1, 1) := by decide +kernel
theorem dX10_matchedBits_54 : decode cX10_matchedBits 54 = .ok (.ireturn, 1) := by decide +kernel
theorem dX10_would_0 : decode cX10_would 0 = .ok (.aload_n 0, 1) := by decide +kernel
theorem dX10_would_1 : decode cX10_would 1 = .ok (.getfield 24, 3) := by decide +kernel
theorem dX10_would_4 : decode cX10_would 4 = .ok (.bipush 7, 2) := by decide +kernel
theorem dX10_would_6 : decode cX10_would 6 = .ok (.iload_n 1, 1) := by decide +kernel
theorem dX10_would_7 : decode cX10_would 7 = .ok (.iload_n 2, 1) := by decide +kernel
theorem dX10_would_8 : decode cX10_would 8 = .ok (.invokevirtual 247, 3) := by decide +kernel
theorem dX10_would_11 : decode cX10_would 11 = .ok (.iconst (-1), 1) := by decide +kernel
theorem dX10_would_12 : decode cX10_would 12 = .ok (.if_icmp .ne 12, 3) := by decide +kernel
theorem dX10_would_15 : decode cX10_would 15 = .ok (.iload_n 3, 1) := by decide +kernel
theorem dX10_would_16 : decode cX10_would 16 = .ok (.ifCond .lt 8, 3) := by decide +kernel
theorem dX10_would_19 : decode cX10_would 19 = .ok (.iload_n 3, 1) := by decide +kernel
theorem dX10_would_20 : decode cX10_would 20 = .ok (.iconst 2, 1) := by decide +kernel
theorem dX10_would_21 : decode cX10_would 21 = .ok (.if_icmp .le 5, 3) := by decide +kernel
theorem dX10_would_24 : decode cX10_would 24 = .ok (.iconst (-1), 1) := by decide +kernel
theorem dX10_would_25 : decode cX10_would 25 = .ok (.ireturn, 1) := by decide +kernel
theorem dX10_would_26 : decode cX10_would 26 = .ok (.aload_n 0, 1) := by decide +kernel
theorem dX10_would_27 : decode cX10_would 27 = .ok (.getfield 68, 3) := by decide +kernel
theorem dX10_would_30 : decode cX10_would 30 = .ok (.aload_n 0, 1) := by decide +kernel
theorem dX10_would_31 : decode cX10_would 31 = .ok (.getfield 24, 3) := by decide +kernel
theorem dX10_would_34 : decode cX10_would 34 = .ok (.invokevirtual 128, 3) := by decide +kernel
theorem dX10_would_37 : decode cX10_would 37 = .ok (.aload_n 0, 1) := by decide +kernel
theorem dX10_would_38 : decode cX10_would 38 = .ok (.getfield 68, 3) := by decide +kernel
theorem dX10_would_41 : decode cX10_would 41 = .ok (.getfield 173, 3) := by decide +kernel
theorem dX10_would_44 : decode cX10_would 44 = .ok (.iload_n 1, 1) := by decide +kernel
theorem dX10_would_45 : decode cX10_would 45 = .ok (.iload_n 2, 1) := by decide +kernel
theorem dX10_would_46 : decode cX10_would 46 = .ok (.iastore, 1) := by decide +kernel
theorem dX10_would_47 : decode cX10_would 47 = .ok (.aload_n 0, 1) := by decide +kernel
theorem dX10_would_48 : decode cX10_would 48 = .ok (.getfield 71, 3) := by decide +kernel
theorem dX10_would_51 : decode cX10_would 51 = .ok (.aload_n 0, 1) := by decide +kernel
theorem dX10_would_52 : decode cX10_would 52 = .ok (.getfield 68, 3) := by decide +kernel
theorem dX10_would_55 : decode cX10_would 55 = .ok (.invokevirtual 135, 3) := by decide +kernel
theorem dX10_would_58 : decode cX10_would 58 = .ok (.iload_n 3, 1) := by decide +kernel
theorem dX10_would_59 : decode cX10_would 59 = .ok (.ifCond .ne 11, 3) := by decide +kernel
theorem dX10_would_62 : decode cX10_would 62 = .ok (.aload_n 0, 1) := by decide +kernel
theorem dX10_would_63 : decode cX10_would 63 = .ok (.getfield 71, 3) := by decide +kernel
theorem dX10_would_66 : decode cX10_would 66 = .ok (.getfield 148, 3) := by decide +kernel
theorem dX10_would_69 : decode cX10_would 69 = .ok (.ireturn, 1) := by decide +kernel
theorem dX10_would_70 : decode cX10_would 70 = .ok (.iload_n 3, 1) := by decide +kernel
theorem dX10_would_71 : decode cX10_would 71 = .ok (.iconst 1, 1) := by decide +kernel
theorem dX10_would_72 : decode cX10_would 72 = .ok (.if_icmp .ne 14, 3) := by decide +kernel
theorem dX10_would_75 : decode cX10_would 75 = .ok (.aload_n 0, 1) := by decide +kernel
theorem dX10_would_76 : decode cX10_would 76 = .ok (.getfield 71, 3) := by decide +kernel
theorem dX10_would_79 : decode cX10_would 79 = .ok (.iconst 0, 1) := by decide +kernel
theorem dX10_would_80 : decode cX10_would 80 = .ok (.invokevirtual 184, 3) := by decide +kernel
theorem dX10_would_83 : decode cX10_would 83 = .ok (.goto 10, 3) := by decide +kernel
theorem dX10_would_86 : decode cX10_would 86 = .ok (.aload_n 0, 1) := by decide +kernel
theorem dX10_would_87 : decode cX10_would 87 = .ok (.getfield 71, 3) := by decide +kernel
theorem dX10_would_90 : decode cX10_would 90 = .ok (.getfield 162, 3) := by decide +kernel
theorem dX10_would_93 : decode cX10_would 93 = .ok (.ireturn, 1) := by decide +kernel
theorem dX10_solo_0 : decode cX10_solo 0 = .ok (.iconst (-1), 1) := by decide +kernel
theorem dX10_solo_1 : decode cX10_solo 1 = .ok (.istore_n 1, 1) := by decide +kernel
theorem dX10_solo_2 : decode cX10_solo 2 = .ok (.iconst 1, 1) := by decide +kernel
theorem dX10_solo_3 : decode cX10_solo 3 = .ok (.istore_n 2, 1) := by decide +kernel
theorem dX10_solo_4 : decode cX10_solo 4 = .ok (.iload_n 2, 1) := by decide +kernel
theorem dX10_solo_5 : decode cX10_solo 5 = .ok (.aload_n 0, 1) := by decide +kernel
theorem dX10_solo_6 : decode cX10_solo 6 = .ok (.getfield 31, 3) := by decide +kernel
theorem dX10_solo_9 : decode cX10_solo 9 = .ok (.getfield 162, 3) := by decide +kernel
theorem dX10_solo_12 : decode cX10_solo 12 = .ok (.if_icmp .ge 35, 3) := by decide +kernel
theorem dX10_solo_15 : decode cX10_solo 15 = .ok (.iload_n 1, 1) := by decide +kernel
theorem dX10_solo_16 : decode cX10_solo 16 = .ok (.iconst (-1), 1) := by decide +kernel
theorem dX10_solo_17 : decode cX10_solo 17 = .ok (.if_icmp .eq 22, 3) := by decide +kernel
theorem dX10_solo_20 : decode cX10_solo 20 = .ok (.aload_n 0, 1) := by decide +kernel
theorem dX10_solo_21 : decode cX10_solo 21 = .ok (.getfield 31, 3) := by decide +kernel
theorem dX10_solo_24 : decode cX10_solo 24 = .ok (.iload_n 2, 1) := by decide +kernel
theorem dX10_solo_25 : decode cX10_solo 25 = .ok (.invokevirtual 187, 3) := by decide +kernel
theorem dX10_solo_28 : decode cX10_solo 28 = .ok (.aload_n 0, 1) := by decide +kernel
theorem dX10_solo_29 : decode cX10_solo 29 = .ok (.getfield 31, 3) := by decide +kernel
theorem dX10_solo_32 : decode cX10_solo 32 = .ok (.iload_n 1, 1) := by decide +kernel
theorem dX10_solo_33 : decode cX10_solo 33 = .ok (.invokevirtual 187, 3) := by decide +kernel
theorem dX10_solo_36 : decode cX10_solo 36 = .ok (.if_icmp .le 5, 3) := by decide +kernel
theorem dX10_solo_39 : decode cX10_solo 39 = .ok (.iload_n 2, 1) := by decide +kernel
theorem dX10_solo_40 : decode cX10_solo 40 = .ok (.istore_n 1, 1) := by decide +kernel
theorem dX10_solo_41 : decode cX10_solo 41 = .ok (.iinc 2 1, 3) := by decide +kernel
theorem dX10_solo_44 : decode cX10_solo 44 = .ok (.goto (-40), 3) := by decide +kernel
theorem dX10_solo_47 : decode cX10_solo 47 = .ok (.iload_n 1, 1) := by decide +kernel
theorem dX10_solo_48 : decode cX10_solo 48 = .ok (.ireturn, 1) := by decide +kernel
theorem dX10_tallest_0 : decode cX10_tallest 0 = .ok (.iconst (-1), 1) := by decide +kernel
theorem dX10_tallest_1 : decode cX10_tallest 1 = .ok (.istore_n 2, 1) := by decide +kernel
theorem dX10_tallest_2 : decode cX10_tallest 2 = .ok (.iconst 0, 1) := by decide +kernel
theorem dX10_tallest_3 : decode cX10_tallest 3 = .ok (.istore_n 3, 1) := by decide +kernel
theorem dX10_tallest_4 : decode cX10_tallest 4 = .ok (.iload_n 3, 1) := by decide +kernel
theorem dX10_tallest_5 : decode cX10_tallest 5 = .ok (.aload_n 0, 1) := by decide +kernel
theorem dX10_tallest_6 : decode cX10_tallest 6 = .ok (.getfield 31, 3) := by decide +kernel
theorem dX10_tallest_9 : decode cX10_tallest 9 = .ok (.getfield 162, 3) := by decide +kernel
theorem dX10_tallest_12 : decode cX10_tallest 12 = .ok (.if_icmp .ge 47, 3) := by decide +kernel
theorem dX10_tallest_15 : decode cX10_tallest 15 = .ok (.aload_n 0, 1) := by decide +kernel
theorem dX10_tallest_16 : decode cX10_tallest 16 = .ok (.getfield 31, 3) := by decide +kernel
theorem dX10_tallest_19 : decode cX10_tallest 19 = .ok (.iload_n 3, 1) := by decide +kernel
theorem dX10_tallest_20 : decode cX10_tallest 20 = .ok (.invokevirtual 205, 3) := by decide +kernel
theorem dX10_tallest_23 : decode cX10_tallest 23 = .ok (.iload_n 1, 1) := by decide +kernel
theorem dX10_tallest_24 : decode cX10_tallest 24 = .ok (.if_icmp .ne 29, 3) := by decide +kernel
theorem dX10_tallest_27 : decode cX10_tallest 27 = .ok (.iload_n 2, 1) := by decide +kernel
theorem dX10_tallest_28 : decode cX10_tallest 28 = .ok (.iconst (-1), 1) := by decide +kernel
theorem dX10_tallest_29 : decode cX10_tallest 29 = .ok (.if_icmp .eq 22, 3) := by decide +kernel
theorem dX10_tallest_32 : decode cX10_tallest 32 = .ok (.aload_n 0, 1) := by decide +kernel
theorem dX10_tallest_33 : decode cX10_tallest 33 = .ok (.getfield 31, 3) := by decide +kernel
theorem dX10_tallest_36 : decode cX10_tallest 36 = .ok (.iload_n 3, 1) := by decide +kernel
theorem dX10_tallest_37 : decode cX10_tallest 37 = .ok (.invokevirtual 187, 3) := by decide +kernel
theorem dX10_tallest_40 : decode cX10_tallest 40 = .ok (.aload_n 0, 1) := by decide +kernel
theorem dX10_tallest_41 : decode cX10_tallest 41 = .ok (.getfield 31, 3) := by decide +kernel
theorem dX10_tallest_44 : decode cX10_tallest 44 = .ok (.iload_n 2, 1) := by decide +kernel
theorem dX10_tallest_45 : decode cX10_tallest 45 = .ok (.invokevirtual 187, 3) := by decide +kernel
theorem dX10_tallest_48 : decode cX10_tallest 48 = .ok (.if_icmp .le 5, 3) := by decide +kernel
theorem dX10_tallest_51 : decode cX10_tallest 51 = .ok (.iload_n 3, 1) := by decide +kernel
theorem dX10_tallest_52 : decode cX10_tallest 52 = .ok (.istore_n 2, 1) := by decide +kernel
theorem dX10_tallest_53 : decode cX10_tallest 53 = .ok (.iinc 3 1, 3) := by decide +kernel
theorem dX10_tallest_56 : decode cX10_tallest 56 = .ok (.goto (-52), 3) := by decide +kernel
theorem dX10_tallest_59 : decode cX10_tallest 59 = .ok (.iload_n 2, 1) := by decide +kernel
theorem dX10_tallest_60 : decode cX10_tallest 60 = .ok (.ireturn, 1) := by decide +kernel
theorem dX10_change_0 : decode cX10_change 0 = .ok (.aload_n 0, 1) := by decide +kernel
theorem dX10_change_1 : decode cX10_change 1 = .ok (.invokevirtual 151, 3) := by decide +kernel
theorem dX10_change_4 : decode cX10_change 4 = .ok (.ifCond .ne 12, 3) := by decide +kernel
theorem dX10_change_7 : decode cX10_change 7 = .ok (.iload_n 1, 1) := by decide +kernel
theorem dX10_change_8 : decode cX10_change 8 = .ok (.ifCond .lt 8, 3) := by decide +kernel
theorem dX10_change_11 : decode cX10_change 11 = .ok (.iload_n 1, 1) := by decide +kernel
theorem dX10_change_12 : decode cX10_change 12 = .ok (.iconst 1, 1) := by decide +kernel
theorem dX10_change_13 : decode cX10_change 13 = .ok (.if_icmp .le 5, 3) := by decide +kernel
theorem dX10_change_16 : decode cX10_change 16 = .ok (.iconst (-1), 1) := by decide +kernel
theorem dX10_change_17 : decode cX10_change 17 = .ok (.ireturn, 1) := by decide +kernel
theorem dX10_change_18 : decode cX10_change 18 = .ok (.aload_n 0, 1) := by decide +kernel
theorem dX10_change_19 : decode cX10_change 19 = .ok (.getfield 68, 3) := by decide +kernel
theorem dX10_change_22 : decode cX10_change 22 = .ok (.aload_n 0, 1) := by decide +kernel
theorem dX10_change_23 : decode cX10_change 23 = .ok (.getfield 24, 3) := by decide +kernel
theorem dX10_change_26 : decode cX10_change 26 = .ok (.invokevirtual 128, 3) := by decide +kernel
theorem dX10_change_29 : decode cX10_change 29 = .ok (.iconst (-1), 1) := by decide +kernel
theorem dX10_change_30 : decode cX10_change 30 = .ok (.istore_n 2, 1) := by decide +kernel
theorem dX10_change_31 : decode cX10_change 31 = .ok (.iconst (-1), 1) := by decide +kernel
theorem dX10_change_32 : decode cX10_change 32 = .ok (.istore_n 3, 1) := by decide +kernel
theorem dX10_change_33 : decode cX10_change 33 = .ok (.iconst 0, 1) := by decide +kernel
theorem dX10_change_34 : decode cX10_change 34 = .ok (.istore 4, 2) := by decide +kernel
theorem dX10_change_36 : decode cX10_change 36 = .ok (.iload 4, 2) := by decide +kernel
theorem dX10_change_38 : decode cX10_change 38 = .ok (.aload_n 0, 1) := by decide +kernel
theorem dX10_change_39 : decode cX10_change 39 = .ok (.getfield 24, 3) := by decide +kernel
theorem dX10_change_42 : decode cX10_change 42 = .ok (.getfield 142, 3) := by decide +kernel
theorem dX10_change_45 : decode cX10_change 45 = .ok (.if_icmp .ge 78, 3) := by decide +kernel
theorem dX10_change_48 : decode cX10_change 48 = .ok (.aload_n 0, 1) := by decide +kernel
theorem dX10_change_49 : decode cX10_change 49 = .ok (.getfield 68, 3) := by decide +kernel
theorem dX10_change_52 : decode cX10_change 52 = .ok (.getfield 173, 3) := by decide +kernel
theorem dX10_change_55 : decode cX10_change 55 = .ok (.iload 4, 2) := by decide +kernel
theorem dX10_change_57 : decode cX10_change 57 = .ok (.iconst 0, 1) := by decide +kernel
theorem dX10_change_58 : decode cX10_change 58 = .ok (.iastore, 1) := by decide +kernel
theorem dX10_change_59 : decode cX10_change 59 = .ok (.aload_n 0, 1) := by decide +kernel
theorem dX10_change_60 : decode cX10_change 60 = .ok (.getfield 71, 3) := by decide +kernel
theorem dX10_change_63 : decode cX10_change 63 = .ok (.aload_n 0, 1) := by decide +kernel
theorem dX10_change_64 : decode cX10_change 64 = .ok (.getfield 68, 3) := by decide +kernel
theorem dX10_change_67 : decode cX10_change 67 = .ok (.invokevirtual 135, 3) := by decide +kernel
theorem dX10_change_70 : decode cX10_change 70 = .ok (.iload_n 2, 1) := by decide +kernel
theorem dX10_change_71 : decode cX10_change 71 = .ok (.iconst (-1), 1) := by decide +kernel
theorem dX10_change_72 : decode cX10_change 72 = .ok (.if_icmp .eq 14, 3) := by decide +kernel
theorem dX10_change_75 : decode cX10_change 75 = .ok (.aload_n 0, 1) := by decide +kernel
theorem dX10_change_76 : decode cX10_change 76 = .ok (.getfield 71, 3) := by decide +kernel
theorem dX10_change_79 : decode cX10_change 79 = .ok (.getfield 148, 3) := by decide +kernel
theorem dX10_change_82 : decode cX10_change 82 = .ok (.iload_n 3, 1) := by decide +kernel
theorem dX10_change_83 : decode cX10_change 83 = .ok (.if_icmp .ge 14, 3) := by decide +kernel
theorem dX10_change_86 : decode cX10_change 86 = .ok (.iload 4, 2) := by decide +kernel
theorem dX10_change_88 : decode cX10_change 88 = .ok (.istore_n 2, 1) := by decide +kernel
theorem dX10_change_89 : decode cX10_change 89 = .ok (.aload_n 0, 1) := by decide +kernel
theorem dX10_change_90 : decode cX10_change 90 = .ok (.getfield 71, 3) := by decide +kernel
theorem dX10_change_93 : decode cX10_change 93 = .ok (.getfield 148, 3) := by decide +kernel
theorem dX10_change_96 : decode cX10_change 96 = .ok (.istore_n 3, 1) := by decide +kernel
theorem dX10_change_97 : decode cX10_change 97 = .ok (.aload_n 0, 1) := by decide +kernel
theorem dX10_change_98 : decode cX10_change 98 = .ok (.getfield 68, 3) := by decide +kernel
theorem dX10_change_101 : decode cX10_change 101 = .ok (.getfield 173, 3) := by decide +kernel
theorem dX10_change_104 : decode cX10_change 104 = .ok (.iload 4, 2) := by decide +kernel
theorem dX10_change_106 : decode cX10_change 106 = .ok (.aload_n 0, 1) := by decide +kernel
theorem dX10_change_107 : decode cX10_change 107 = .ok (.getfield 24, 3) := by decide +kernel
theorem dX10_change_110 : decode cX10_change 110 = .ok (.getfield 173, 3) := by decide +kernel
theorem dX10_change_113 : decode cX10_change 113 = .ok (.iload 4, 2) := by decide +kernel
theorem dX10_change_115 : decode cX10_change 115 = .ok (.iaload, 1) := by decide +kernel
theorem dX10_change_116 : decode cX10_change 116 = .ok (.iastore, 1) := by decide +kernel
theorem dX10_change_117 : decode cX10_change 117 = .ok (.iinc 4 1, 3) := by decide +kernel
theorem dX10_change_120 : decode cX10_change 120 = .ok (.goto (-84), 3) := by decide +kernel
theorem dX10_change_123 : decode cX10_change 123 = .ok (.iload_n 1, 1) := by decide +kernel
theorem dX10_change_124 : decode cX10_change 124 = .ok (.ifCond .ne 7, 3) := by decide +kernel
theorem dX10_change_127 : decode cX10_change 127 = .ok (.iload_n 2, 1) := by decide +kernel
theorem dX10_change_128 : decode cX10_change 128 = .ok (.goto 4, 3) := by decide +kernel
theorem dX10_change_131 : decode cX10_change 131 = .ok (.iload_n 3, 1) := by decide +kernel
theorem dX10_change_132 : decode cX10_change 132 = .ok (.ireturn, 1) := by decide +kernel
theorem dX10_spell_0 : decode cX10_spell 0 = .ok (.aload_n 0, 1) := by decide +kernel
theorem dX10_spell_1 : decode cX10_spell 1 = .ok (.iload_n 1, 1) := by decide +kernel
theorem dX10_spell_2 : decode cX10_spell 2 = .ok (.invokevirtual 202, 3) := by decide +kernel
theorem dX10_spell_5 : decode cX10_spell 5 = .ok (.ifCond .eq 8, 3) := by decide +kernel
theorem dX10_spell_8 : decode cX10_spell 8 = .ok (.iload_n 2, 1) := by decide +kernel
theorem dX10_spell_9 : decode cX10_spell 9 = .ok (.iconst (-1), 1) := by decide +kernel
theorem dX10_spell_10 : decode cX10_spell 10 = .ok (.if_icmp .ge 5, 3) := by decide +kernel
theorem dX10_spell_13 : decode cX10_spell 13 = .ok (.iconst (-1), 1) := by decide +kernel
theorem dX10_spell_14 : decode cX10_spell 14 = .ok (.ireturn, 1) := by decide +kernel
theorem dX10_spell_15 : decode cX10_spell 15 = .ok (.aload_n 0, 1) := by decide +kernel
theorem dX10_spell_16 : decode cX10_spell 16 = .ok (.getfield 38, 3) := by decide +kernel
theorem dX10_spell_19 : decode cX10_spell 19 = .ok (.aload_n 0, 1) := by decide +kernel
theorem dX10_spell_20 : decode cX10_spell 20 = .ok (.getfield 31, 3) := by decide +kernel
theorem dX10_spell_23 : decode cX10_spell 23 = .ok (.iconst 0, 1) := by decide +kernel
theorem dX10_spell_24 : decode cX10_spell 24 = .ok (.invokevirtual 208, 3) := by decide +kernel
theorem dX10_spell_27 : decode cX10_spell 27 = .ok (.pop, 1) := by decide +kernel
theorem dX10_spell_28 : decode cX10_spell 28 = .ok (.aload_n 0, 1) := by decide +kernel
theorem dX10_spell_29 : decode cX10_spell 29 = .ok (.getfield 92, 3) := by decide +kernel
theorem dX10_spell_32 : decode cX10_spell 32 = .ok (.iconst 0, 1) := by decide +kernel
theorem dX10_spell_33 : decode cX10_spell 33 = .ok (.putfield 303, 3) := by decide +kernel
theorem dX10_spell_36 : decode cX10_spell 36 = .ok (.aload_n 0, 1) := by decide +kernel
theorem dX10_spell_37 : decode cX10_spell 37 = .ok (.getfield 92, 3) := by decide +kernel
theorem dX10_spell_40 : decode cX10_spell 40 = .ok (.aload_n 0, 1) := by decide +kernel
theorem dX10_spell_41 : decode cX10_spell 41 = .ok (.getfield 38, 3) := by decide +kernel
theorem dX10_spell_44 : decode cX10_spell 44 = .ok (.aload_n 0, 1) := by decide +kernel
theorem dX10_spell_45 : decode cX10_spell 45 = .ok (.getfield 38, 3) := by decide +kernel
theorem dX10_spell_48 : decode cX10_spell 48 = .ok (.iload_n 1, 1) := by decide +kernel
theorem dX10_spell_49 : decode cX10_spell 49 = .ok (.invokevirtual 212, 3) := by decide +kernel
theorem dX10_spell_52 : decode cX10_spell 52 = .ok (.invokevirtual 304, 3) := by decide +kernel
theorem dX10_spell_55 : decode cX10_spell 55 = .ok (.aload_n 0, 1) := by decide +kernel
theorem dX10_spell_56 : decode cX10_spell 56 = .ok (.getfield 92, 3) := by decide +kernel
theorem dX10_spell_59 : decode cX10_spell 59 = .ok (.bipush 64, 2) := by decide +kernel
theorem dX10_spell_61 : decode cX10_spell 61 = .ok (.invokevirtual 308, 3) := by decide +kernel
theorem dX10_spell_64 : decode cX10_spell 64 = .ok (.aload_n 0, 1) := by decide +kernel
theorem dX10_spell_65 : decode cX10_spell 65 = .ok (.getfield 92, 3) := by decide +kernel
theorem dX10_spell_68 : decode cX10_spell 68 = .ok (.aload_n 0, 1) := by decide +kernel
theorem dX10_spell_69 : decode cX10_spell 69 = .ok (.getfield 31, 3) := by decide +kernel
theorem dX10_spell_72 : decode cX10_spell 72 = .ok (.iload_n 1, 1) := by decide +kernel
theorem dX10_spell_73 : decode cX10_spell 73 = .ok (.invokevirtual 184, 3) := by decide +kernel
theorem dX10_spell_76 : decode cX10_spell 76 = .ok (.invokevirtual 310, 3) := by decide +kernel
theorem dX10_spell_79 : decode cX10_spell 79 = .ok (.aload_n 0, 1) := by decide +kernel
theorem dX10_spell_80 : decode cX10_spell 80 = .ok (.getfield 92, 3) := by decide +kernel
theorem dX10_spell_83 : decode cX10_spell 83 = .ok (.bipush 58, 2) := by decide +kernel
theorem dX10_spell_85 : decode cX10_spell 85 = .ok (.invokevirtual 308, 3) := by decide +kernel
theorem dX10_spell_88 : decode cX10_spell 88 = .ok (.aload_n 0, 1) := by decide +kernel
theorem dX10_spell_89 : decode cX10_spell 89 = .ok (.getfield 92, 3) := by decide +kernel
theorem dX10_spell_92 : decode cX10_spell 92 = .ok (.aload_n 0, 1) := by decide +kernel
theorem dX10_spell_93 : decode cX10_spell 93 = .ok (.getfield 31, 3) := by decide +kernel
theorem dX10_spell_96 : decode cX10_spell 96 = .ok (.iload_n 1, 1) := by decide +kernel
theorem dX10_spell_97 : decode cX10_spell 97 = .ok (.invokevirtual 187, 3) := by decide +kernel
theorem dX10_spell_100 : decode cX10_spell 100 = .ok (.invokevirtual 310, 3) := by decide +kernel
theorem dX10_spell_103 : decode cX10_spell 103 = .ok (.iload_n 2, 1) := by decide +kernel
theorem dX10_spell_104 : decode cX10_spell 104 = .ok (.iconst (-1), 1) := by decide +kernel
theorem dX10_spell_105 : decode cX10_spell 105 = .ok (.if_icmp .ne 11, 3) := by decide +kernel
theorem dX10_spell_108 : decode cX10_spell 108 = .ok (.aload_n 0, 1) := by decide +kernel
theorem dX10_spell_109 : decode cX10_spell 109 = .ok (.getfield 92, 3) := by decide +kernel
theorem dX10_spell_112 : decode cX10_spell 112 = .ok (.getfield 303, 3) := by decide +kernel
theorem dX10_spell_115 : decode cX10_spell 115 = .ok (.ireturn, 1) := by decide +kernel
theorem dX10_spell_116 : decode cX10_spell 116 = .ok (.iload_n 2, 1) := by decide +kernel
theorem dX10_spell_117 : decode cX10_spell 117 = .ok (.aload_n 0, 1) := by decide +kernel
theorem dX10_spell_118 : decode cX10_spell 118 = .ok (.getfield 92, 3) := by decide +kernel
theorem dX10_spell_121 : decode cX10_spell 121 = .ok (.getfield 303, 3) := by decide +kernel
theorem dX10_spell_124 : decode cX10_spell 124 = .ok (.if_icmp .ge 15, 3) := by decide +kernel
theorem dX10_spell_127 : decode cX10_spell 127 = .ok (.aload_n 0, 1) := by decide +kernel
theorem dX10_spell_128 : decode cX10_spell 128 = .ok (.getfield 92, 3) := by decide +kernel
theorem dX10_spell_131 : decode cX10_spell 131 = .ok (.getfield 313, 3) := by decide +kernel
theorem dX10_spell_134 : decode cX10_spell 134 = .ok (.iload_n 2, 1) := by decide +kernel
theorem dX10_spell_135 : decode cX10_spell 135 = .ok (.iaload, 1) := by decide +kernel
theorem dX10_spell_136 : decode cX10_spell 136 = .ok (.goto 4, 3) := by decide +kernel
theorem dX10_spell_139 : decode cX10_spell 139 = .ok (.iconst (-1), 1) := by decide +kernel
theorem dX10_spell_140 : decode cX10_spell 140 = .ok (.ireturn, 1) := by decide +kernel
theorem dX10_hasScript_0 : decode cX10_hasScript 0 = .ok (.iload_n 1, 1) := by decide +kernel
theorem dX10_hasScript_1 : decode cX10_hasScript 1 = .ok (.ifCond .lt 15, 3) := by decide +kernel
theorem dX10_hasScript_4 : decode cX10_hasScript 4 = .ok (.iload_n 1, 1) := by decide +kernel
theorem dX10_hasScript_5 : decode cX10_hasScript 5 = .ok (.aload_n 0, 1) := by decide +kernel
theorem dX10_hasScript_6 : decode cX10_hasScript 6 = .ok (.getfield 122, 3) := by decide +kernel
theorem dX10_hasScript_9 : decode cX10_hasScript 9 = .ok (.if_icmp .ge 7, 3) := by decide +kernel
theorem dX10_hasScript_12 : decode cX10_hasScript 12 = .ok (.iconst 1, 1) := by decide +kernel
theorem dX10_hasScript_13 : decode cX10_hasScript 13 = .ok (.goto 4, 3) := by decide +kernel
theorem dX10_hasScript_16 : decode cX10_hasScript 16 = .ok (.iconst 0, 1) := by decide +kernel
theorem dX10_hasScript_17 : decode cX10_hasScript 17 = .ok (.ireturn, 1) := by decide +kernel
theorem dX10_step_0 : decode cX10_step 0 = .ok (.aload_n 0, 1) := by decide +kernel
theorem dX10_step_1 : decode cX10_step 1 = .ok (.iload_n 1, 1) := by decide +kernel
theorem dX10_step_2 : decode cX10_step 2 = .ok (.invokevirtual 316, 3) := by decide +kernel
theorem dX10_step_5 : decode cX10_step 5 = .ok (.ifCond .ne 7, 3) := by decide +kernel
theorem dX10_step_8 : decode cX10_step 8 = .ok (.ldc_w 299, 3) := by decide +kernel
theorem dX10_step_11 : decode cX10_step 11 = .ok (.ireturn, 1) := by decide +kernel
theorem dX10_step_12 : decode cX10_step 12 = .ok (.aload_n 0, 1) := by decide +kernel
theorem dX10_step_13 : decode cX10_step 13 = .ok (.getfield 58, 3) := by decide +kernel
theorem dX10_step_16 : decode cX10_step 16 = .ok (.iload_n 1, 1) := by decide +kernel
theorem dX10_step_17 : decode cX10_step 17 = .ok (.aaload, 1) := by decide +kernel
theorem dX10_step_18 : decode cX10_step 18 = .ok (.iload_n 2, 1) := by decide +kernel
theorem dX10_step_19 : decode cX10_step 19 = .ok (.iload_n 3, 1) := by decide +kernel
theorem dX10_step_20 : decode cX10_step 20 = .ok (.invokevirtual 319, 3) := by decide +kernel
theorem dX10_step_23 : decode cX10_step 23 = .ok (.ireturn, 1) := by decide +kernel
theorem dX10_run_0 : decode cX10_run 0 = .ok (.aload_n 0, 1) := by decide +kernel
theorem dX10_run_1 : decode cX10_run 1 = .ok (.iload_n 1, 1) := by decide +kernel
theorem dX10_run_2 : decode cX10_run 2 = .ok (.invokevirtual 316, 3) := by decide +kernel
theorem dX10_run_5 : decode cX10_run 5 = .ok (.ifCond .eq 19, 3) := by decide +kernel
theorem dX10_run_8 : decode cX10_run 8 = .ok (.aload_n 0, 1) := by decide +kernel
theorem dX10_run_9 : decode cX10_run 9 = .ok (.invokevirtual 151, 3) := by decide +kernel
theorem dX10_run_12 : decode cX10_run 12 = .ok (.ifCond .ne 12, 3) := by decide +kernel
theorem dX10_run_15 : decode cX10_run 15 = .ok (.iload_n 2, 1) := by decide +kernel
theorem dX10_run_16 : decode cX10_run 16 = .ok (.ifCond .lt 8, 3) := by decide +kernel
theorem dX10_run_19 : decode cX10_run 19 = .ok (.iload_n 2, 1) := by decide +kernel
theorem dX10_run_20 : decode cX10_run 20 = .ok (.iconst 1, 1) := by decide +kernel
theorem dX10_run_21 : decode cX10_run 21 = .ok (.if_icmp .le 7, 3) := by decide +kernel
theorem dX10_run_24 : decode cX10_run 24 = .ok (.ldc_w 299, 3) := by decide +kernel
theorem dX10_run_27 : decode cX10_run 27 = .ok (.ireturn, 1) := by decide +kernel
theorem dX10_run_28 : decode cX10_run 28 = .ok (.aload_n 0, 1) := by decide +kernel
theorem dX10_run_29 : decode cX10_run 29 = .ok (.getfield 58, 3) := by decide +kernel
theorem dX10_run_32 : decode cX10_run 32 = .ok (.iload_n 1, 1) := by decide +kernel
theorem dX10_run_33 : decode cX10_run 33 = .ok (.aaload, 1) := by decide +kernel
theorem dX10_run_34 : decode cX10_run 34 = .ok (.astore_n 3, 1) := by decide +kernel
theorem dX10_run_35 : decode cX10_run 35 = .ok (.aload_n 0, 1) := by decide +kernel
theorem dX10_run_36 : decode cX10_run 36 = .ok (.getfield 68, 3) := by decide +kernel
theorem dX10_run_39 : decode cX10_run 39 = .ok (.aload_n 0, 1) := by decide +kernel
theorem dX10_run_40 : decode cX10_run 40 = .ok (.getfield 24, 3) := by decide +kernel
theorem dX10_run_43 : decode cX10_run 43 = .ok (.invokevirtual 128, 3) := by decide +kernel
theorem dX10_run_46 : decode cX10_run 46 = .ok (.aload_n 0, 1) := by decide +kernel
theorem dX10_run_47 : decode cX10_run 47 = .ok (.getfield 71, 3) := by decide +kernel
theorem dX10_run_50 : decode cX10_run 50 = .ok (.aload_n 0, 1) := by decide +kernel
theorem dX10_run_51 : decode cX10_run 51 = .ok (.getfield 68, 3) := by decide +kernel
theorem dX10_run_54 : decode cX10_run 54 = .ok (.invokevirtual 135, 3) := by decide +kernel
theorem dX10_run_57 : decode cX10_run 57 = .ok (.iconst 0, 1) := by decide +kernel
theorem dX10_run_58 : decode cX10_run 58 = .ok (.istore 4, 2) := by decide +kernel
theorem dX10_run_60 : decode cX10_run 60 = .ok (.iload 4, 2) := by decide +kernel
theorem dX10_run_62 : decode cX10_run 62 = .ok (.aload_n 3, 1) := by decide +kernel
theorem dX10_run_63 : decode cX10_run 63 = .ok (.getfield 320, 3) := by decide +kernel
theorem dX10_run_66 : decode cX10_run 66 = .ok (.if_icmp .ge 67, 3) := by decide +kernel
theorem dX10_run_69 : decode cX10_run 69 = .ok (.aload_n 3, 1) := by decide +kernel
theorem dX10_run_70 : decode cX10_run 70 = .ok (.iload 4, 2) := by decide +kernel
theorem dX10_run_72 : decode cX10_run 72 = .ok (.aload_n 0, 1) := by decide +kernel
theorem dX10_run_73 : decode cX10_run 73 = .ok (.getfield 68, 3) := by decide +kernel
theorem dX10_run_76 : decode cX10_run 76 = .ok (.invokevirtual 321, 3) := by decide +kernel
theorem dX10_run_79 : decode cX10_run 79 = .ok (.iconst (-1), 1) := by decide +kernel
theorem dX10_run_80 : decode cX10_run 80 = .ok (.if_icmp .ne 53, 3) := by decide +kernel
theorem dX10_run_83 : decode cX10_run 83 = .ok (.aload_n 0, 1) := by decide +kernel
theorem dX10_run_84 : decode cX10_run 84 = .ok (.getfield 68, 3) := by decide +kernel
theorem dX10_run_87 : decode cX10_run 87 = .ok (.aload_n 3, 1) := by decide +kernel
theorem dX10_run_88 : decode cX10_run 88 = .ok (.getfield 325, 3) := by decide +kernel
theorem dX10_run_91 : decode cX10_run 91 = .ok (.iload 4, 2) := by decide +kernel
theorem dX10_run_93 : decode cX10_run 93 = .ok (.iaload, 1) := by decide +kernel
theorem dX10_run_94 : decode cX10_run 94 = .ok (.aload_n 3, 1) := by decide +kernel
theorem dX10_run_95 : decode cX10_run 95 = .ok (.getfield 328, 3) := by decide +kernel
theorem dX10_run_98 : decode cX10_run 98 = .ok (.iload 4, 2) := by decide +kernel
theorem dX10_run_100 : decode cX10_run 100 = .ok (.iaload, 1) := by decide +kernel
theorem dX10_run_101 : decode cX10_run 101 = .ok (.aload_n 3, 1) := by decide +kernel
theorem dX10_run_102 : decode cX10_run 102 = .ok (.getfield 331, 3) := by decide +kernel
theorem dX10_run_105 : decode cX10_run 105 = .ok (.iload 4, 2) := by decide +kernel
theorem dX10_run_107 : decode cX10_run 107 = .ok (.iaload, 1) := by decide +kernel
theorem dX10_run_108 : decode cX10_run 108 = .ok (.aload_n 0, 1) := by decide +kernel
theorem dX10_run_109 : decode cX10_run 109 = .ok (.getfield 71, 3) := by decide +kernel
theorem dX10_run_112 : decode cX10_run 112 = .ok (.invokevirtual 262, 3) := by decide +kernel
theorem dX10_run_115 : decode cX10_run 115 = .ok (.pop, 1) := by decide +kernel
theorem dX10_run_116 : decode cX10_run 116 = .ok (.aload_n 0, 1) := by decide +kernel
theorem dX10_run_117 : decode cX10_run 117 = .ok (.getfield 71, 3) := by decide +kernel
theorem dX10_run_120 : decode cX10_run 120 = .ok (.aload_n 0, 1) := by decide +kernel
theorem dX10_run_121 : decode cX10_run 121 = .ok (.getfield 68, 3) := by decide +kernel
theorem dX10_run_124 : decode cX10_run 124 = .ok (.invokevirtual 135, 3) := by decide +kernel
theorem dX10_run_127 : decode cX10_run 127 = .ok (.iinc 4 1, 3) := by decide +kernel
theorem dX10_run_130 : decode cX10_run 130 = .ok (.goto (-70), 3) := by decide +kernel
theorem dX10_run_133 : decode cX10_run 133 = .ok (.iload_n 2, 1) := by decide +kernel
theorem dX10_run_134 : decode cX10_run 134 = .ok (.iconst 1, 1) := by decide +kernel
theorem dX10_run_135 : decode cX10_run 135 = .ok (.if_icmp .ne 11, 3) := by decide +kernel
theorem dX10_run_138 : decode cX10_run 138 = .ok (.aload_n 0, 1) := by decide +kernel
theorem dX10_run_139 : decode cX10_run 139 = .ok (.getfield 71, 3) := by decide +kernel
theorem dX10_run_142 : decode cX10_run 142 = .ok (.getfield 148, 3) := by decide +kernel
theorem dX10_run_145 : decode cX10_run 145 = .ok (.ireturn, 1) := by decide +kernel
theorem dX10_run_146 : decode cX10_run 146 = .ok (.iload 4, 2) := by decide +kernel
theorem dX10_run_148 : decode cX10_run 148 = .ok (.aload_n 3, 1) := by decide +kernel
theorem dX10_run_149 : decode cX10_run 149 = .ok (.getfield 320, 3) := by decide +kernel
theorem dX10_run_152 : decode cX10_run 152 = .ok (.if_icmp .ge 8, 3) := by decide +kernel
theorem dX10_run_155 : decode cX10_run 155 = .ok (.iload 4, 2) := by decide +kernel
theorem dX10_run_157 : decode cX10_run 157 = .ok (.goto 4, 3) := by decide +kernel
theorem dX10_run_160 : decode cX10_run 160 = .ok (.iconst (-1), 1) := by decide +kernel
theorem dX10_run_161 : decode cX10_run 161 = .ok (.ireturn, 1) := by decide +kernel
theorem dX10_perform_0 : decode cX10_perform 0 = .ok (.aload_n 0, 1) := by decide +kernel
theorem dX10_perform_1 : decode cX10_perform 1 = .ok (.iload_n 1, 1) := by decide +kernel
theorem dX10_perform_2 : decode cX10_perform 2 = .ok (.invokevirtual 316, 3) := by decide +kernel
theorem dX10_perform_5 : decode cX10_perform 5 = .ok (.ifCond .eq 10, 3) := by decide +kernel
theorem dX10_perform_8 : decode cX10_perform 8 = .ok (.aload_n 0, 1) := by decide +kernel
theorem dX10_perform_9 : decode cX10_perform 9 = .ok (.invokevirtual 151, 3) := by decide +kernel
theorem dX10_perform_12 : decode cX10_perform 12 = .ok (.ifCond .eq 5, 3) := by decide +kernel
theorem dX10_perform_15 : decode cX10_perform 15 = .ok (.iconst (-1), 1) := by decide +kernel
theorem dX10_perform_16 : decode cX10_perform 16 = .ok (.ireturn, 1) := by decide +kernel
theorem dX10_perform_17 : decode cX10_perform 17 = .ok (.aload_n 0, 1) := by decide +kernel
theorem dX10_perform_18 : decode cX10_perform 18 = .ok (.getfield 58, 3) := by decide +kernel
theorem dX10_perform_21 : decode cX10_perform 21 = .ok (.iload_n 1, 1) := by decide +kernel
theorem dX10_perform_22 : decode cX10_perform 22 = .ok (.aaload, 1) := by decide +kernel
theorem dX10_perform_23 : decode cX10_perform 23 = .ok (.astore_n 2, 1) := by decide +kernel
theorem dX10_perform_24 : decode cX10_perform 24 = .ok (.iconst 0, 1) := by decide +kernel
theorem dX10_perform_25 : decode cX10_perform 25 = .ok (.istore_n 3, 1) := by decide +kernel
theorem dX10_perform_26 : decode cX10_perform 26 = .ok (.iload_n 3, 1) := by decide +kernel
theorem dX10_perform_27 : decode cX10_perform 27 = .ok (.aload_n 2, 1) := by decide +kernel
theorem dX10_perform_28 : decode cX10_perform 28 = .ok (.getfield 320, 3) := by decide +kernel
theorem dX10_perform_31 : decode cX10_perform 31 = .ok (.if_icmp .ge 45, 3) := by decide +kernel
theorem dX10_perform_34 : decode cX10_perform 34 = .ok (.aload_n 2, 1) := by decide +kernel
theorem dX10_perform_35 : decode cX10_perform 35 = .ok (.iload_n 3, 1) := by decide +kernel
theorem dX10_perform_36 : decode cX10_perform 36 = .ok (.aload_n 0, 1) := by decide +kernel
theorem dX10_perform_37 : decode cX10_perform 37 = .ok (.getfield 24, 3) := by decide +kernel
theorem dX10_perform_40 : decode cX10_perform 40 = .ok (.invokevirtual 321, 3) := by decide +kernel
theorem dX10_perform_43 : decode cX10_perform 43 = .ok (.iconst (-1), 1) := by decide +kernel
theorem dX10_perform_44 : decode cX10_perform 44 = .ok (.if_icmp .ne 32, 3) := by decide +kernel
theorem dX10_perform_47 : decode cX10_perform 47 = .ok (.aload_n 0, 1) := by decide +kernel
theorem dX10_perform_48 : decode cX10_perform 48 = .ok (.aload_n 2, 1) := by decide +kernel
theorem dX10_perform_49 : decode cX10_perform 49 = .ok (.getfield 325, 3) := by decide +kernel
theorem dX10_perform_52 : decode cX10_perform 52 = .ok (.iload_n 3, 1) := by decide +kernel
theorem dX10_perform_53 : decode cX10_perform 53 = .ok (.iaload, 1) := by decide +kernel
theorem dX10_perform_54 : decode cX10_perform 54 = .ok (.aload_n 2, 1) := by decide +kernel
theorem dX10_perform_55 : decode cX10_perform 55 = .ok (.getfield 328, 3) := by decide +kernel
theorem dX10_perform_58 : decode cX10_perform 58 = .ok (.iload_n 3, 1) := by decide +kernel
theorem dX10_perform_59 : decode cX10_perform 59 = .ok (.iaload, 1) := by decide +kernel
theorem dX10_perform_60 : decode cX10_perform 60 = .ok (.aload_n 2, 1) := by decide +kernel
theorem dX10_perform_61 : decode cX10_perform 61 = .ok (.getfield 331, 3) := by decide +kernel
theorem dX10_perform_64 : decode cX10_perform 64 = .ok (.iload_n 3, 1) := by decide +kernel
theorem dX10_perform_65 : decode cX10_perform 65 = .ok (.iaload, 1) := by decide +kernel
theorem dX10_perform_66 : decode cX10_perform 66 = .ok (.invokevirtual 256, 3) := by decide +kernel
theorem dX10_perform_69 : decode cX10_perform 69 = .ok (.pop, 1) := by decide +kernel
theorem dX10_perform_70 : decode cX10_perform 70 = .ok (.iinc 3 1, 3) := by decide +kernel
theorem dX10_perform_73 : decode cX10_perform 73 = .ok (.goto (-47), 3) := by decide +kernel
theorem dX10_perform_76 : decode cX10_perform 76 = .ok (.iload_n 3, 1) := by decide +kernel
theorem dX10_perform_77 : decode cX10_perform 77 = .ok (.ireturn, 1) := by decide +kernel
theorem dX10_most_0 : decode cX10_most 0 = .ok (.aload_n 0, 1) := by decide +kernel
theorem dX10_most_1 : decode cX10_most 1 = .ok (.invokevirtual 151, 3) := by decide +kernel
theorem dX10_most_4 : decode cX10_most 4 = .ok (.ifCond .eq 7, 3) := by decide +kernel
theorem dX10_most_7 : decode cX10_most 7 = .ok (.ldc_w 299, 3) := by decide +kernel
theorem dX10_most_10 : decode cX10_most 10 = .ok (.ireturn, 1) := by decide +kernel
theorem dX10_most_11 : decode cX10_most 11 = .ok (.iload_n 1, 1) := by decide +kernel
theorem dX10_most_12 : decode cX10_most 12 = .ok (.tableswitch 111 0 7 #[48, 53, 68, 83, 88, 93, 98, 103], 48) := by decide +kernel
theorem dX10_most_60 : decode cX10_most 60 = .ok (.aload_n 0, 1) := by decide +kernel
theorem dX10_most_61 : decode cX10_most 61 = .ok (.invokevirtual 334, 3) := by decide +kernel
theorem dX10_most_64 : decode cX10_most 64 = .ok (.ireturn, 1) := by decide +kernel
theorem dX10_most_65 : decode cX10_most 65 = .ok (.aload_n 0, 1) := by decide +kernel
theorem dX10_most_66 : decode cX10_most 66 = .ok (.getfield 31, 3) := by decide +kernel
theorem dX10_most_69 : decode cX10_most 69 = .ok (.aload_n 0, 1) := by decide +kernel
theorem dX10_most_70 : decode cX10_most 70 = .ok (.getfield 31, 3) := by decide +kernel
theorem dX10_most_73 : decode cX10_most 73 = .ok (.getfield 162, 3) := by decide +kernel
theorem dX10_most_76 : decode cX10_most 76 = .ok (.invokevirtual 337, 3) := by decide +kernel
theorem dX10_most_79 : decode cX10_most 79 = .ok (.ireturn, 1) := by decide +kernel
theorem dX10_most_80 : decode cX10_most 80 = .ok (.aload_n 0, 1) := by decide +kernel
theorem dX10_most_81 : decode cX10_most 81 = .ok (.getfield 31, 3) := by decide +kernel
theorem dX10_most_84 : decode cX10_most 84 = .ok (.aload_n 0, 1) := by decide +kernel
theorem dX10_most_85 : decode cX10_most 85 = .ok (.getfield 31, 3) := by decide +kernel
theorem dX10_most_88 : decode cX10_most 88 = .ok (.getfield 148, 3) := by decide +kernel
theorem dX10_most_91 : decode cX10_most 91 = .ok (.invokevirtual 337, 3) := by decide +kernel
theorem dX10_most_94 : decode cX10_most 94 = .ok (.ireturn, 1) := by decide +kernel
theorem dX10_most_95 : decode cX10_most 95 = .ok (.aload_n 0, 1) := by decide +kernel
theorem dX10_most_96 : decode cX10_most 96 = .ok (.invokevirtual 340, 3) := by decide +kernel
theorem dX10_most_99 : decode cX10_most 99 = .ok (.ireturn, 1) := by decide +kernel
theorem dX10_most_100 : decode cX10_most 100 = .ok (.aload_n 0, 1) := by decide +kernel
theorem dX10_most_101 : decode cX10_most 101 = .ok (.invokevirtual 343, 3) := by decide +kernel
theorem dX10_most_104 : decode cX10_most 104 = .ok (.ireturn, 1) := by decide +kernel
theorem dX10_most_105 : decode cX10_most 105 = .ok (.aload_n 0, 1) := by decide +kernel
theorem dX10_most_106 : decode cX10_most 106 = .ok (.invokevirtual 300, 3) := by decide +kernel
theorem dX10_most_109 : decode cX10_most 109 = .ok (.ireturn, 1) := by decide +kernel
theorem dX10_most_110 : decode cX10_most 110 = .ok (.aload_n 0, 1) := by decide +kernel
theorem dX10_most_111 : decode cX10_most 111 = .ok (.invokevirtual 346, 3) := by decide +kernel
theorem dX10_most_114 : decode cX10_most 114 = .ok (.ireturn, 1) := by decide +kernel
theorem dX10_most_115 : decode cX10_most 115 = .ok (.aload_n 0, 1) := by decide +kernel
theorem dX10_most_116 : decode cX10_most 116 = .ok (.getfield 24, 3) := by decide +kernel
theorem dX10_most_119 : decode cX10_most 119 = .ok (.invokevirtual 349, 3) := by decide +kernel
theorem dX10_most_122 : decode cX10_most 122 = .ok (.ireturn, 1) := by decide +kernel
theorem dX10_most_123 : decode cX10_most 123 = .ok (.ldc_w 299, 3) := by decide +kernel
theorem dX10_most_126 : decode cX10_most 126 = .ok (.ireturn, 1) := by decide +kernel
theorem dX10_sumOfPlaces_0 : decode cX10_sumOfPlaces 0 = .ok (.iconst 0, 1) := by decide +kernel
theorem dX10_sumOfPlaces_1 : decode cX10_sumOfPlaces 1 = .ok (.istore_n 1, 1) := by decide +kernel
theorem dX10_sumOfPlaces_2 : decode cX10_sumOfPlaces 2 = .ok (.iconst 0, 1) := by decide +kernel
theorem dX10_sumOfPlaces_3 : decode cX10_sumOfPlaces 3 = .ok (.istore_n 2, 1) := by decide +kernel
theorem dX10_sumOfPlaces_4 : decode cX10_sumOfPlaces 4 = .ok (.iload_n 2, 1) := by decide +kernel
theorem dX10_sumOfPlaces_5 : decode cX10_sumOfPlaces 5 = .ok (.aload_n 0, 1) := by decide +kernel
theorem dX10_sumOfPlaces_6 : decode cX10_sumOfPlaces 6 = .ok (.getfield 31, 3) := by decide +kernel
theorem dX10_sumOfPlaces_9 : decode cX10_sumOfPlaces 9 = .ok (.getfield 148, 3) := by decide +kernel
theorem dX10_sumOfPlaces_12 : decode cX10_sumOfPlaces 12 = .ok (.if_icmp .ge 20, 3) := by decide +kernel
theorem dX10_sumOfPlaces_15 : decode cX10_sumOfPlaces 15 = .ok (.iload_n 1, 1) := by decide +kernel
theorem dX10_sumOfPlaces_16 : decode cX10_sumOfPlaces 16 = .ok (.aload_n 0, 1) := by decide +kernel
theorem dX10_sumOfPlaces_17 : decode cX10_sumOfPlaces 17 = .ok (.getfield 31, 3) := by decide +kernel
theorem dX10_sumOfPlaces_20 : decode cX10_sumOfPlaces 20 = .ok (.iload_n 2, 1) := by decide +kernel
theorem dX10_sumOfPlaces_21 : decode cX10_sumOfPlaces 21 = .ok (.invokevirtual 184, 3) := by decide +kernel
theorem dX10_sumOfPlaces_24 : decode cX10_sumOfPlaces 24 = .ok (.iadd, 1) := by decide +kernel
theorem dX10_sumOfPlaces_25 : decode cX10_sumOfPlaces 25 = .ok (.istore_n 1, 1) := by decide +kernel
theorem dX10_sumOfPlaces_26 : decode cX10_sumOfPlaces 26 = .ok (.iinc 2 1, 3) := by decide +kernel
theorem dX10_sumOfPlaces_29 : decode cX10_sumOfPlaces 29 = .ok (.goto (-25), 3) := by decide +kernel
theorem dX10_sumOfPlaces_32 : decode cX10_sumOfPlaces 32 = .ok (.iload_n 1, 1) := by decide +kernel
theorem dX10_sumOfPlaces_33 : decode cX10_sumOfPlaces 33 = .ok (.ireturn, 1) := by decide +kernel
theorem dX10_sumOfAreas_0 : decode cX10_sumOfAreas 0 = .ok (.iconst 0, 1) := by decide +kernel
theorem dX10_sumOfAreas_1 : decode cX10_sumOfAreas 1 = .ok (.istore_n 1, 1) := by decide +kernel
theorem dX10_sumOfAreas_2 : decode cX10_sumOfAreas 2 = .ok (.iconst 0, 1) := by decide +kernel
theorem dX10_sumOfAreas_3 : decode cX10_sumOfAreas 3 = .ok (.istore_n 2, 1) := by decide +kernel
theorem dX10_sumOfAreas_4 : decode cX10_sumOfAreas 4 = .ok (.iload_n 2, 1) := by decide +kernel
theorem dX10_sumOfAreas_5 : decode cX10_sumOfAreas 5 = .ok (.aload_n 0, 1) := by decide +kernel
theorem dX10_sumOfAreas_6 : decode cX10_sumOfAreas 6 = .ok (.getfield 31, 3) := by decide +kernel
theorem dX10_sumOfAreas_9 : decode cX10_sumOfAreas 9 = .ok (.getfield 148, 3) := by decide +kernel
theorem dX10_sumOfAreas_12 : decode cX10_sumOfAreas 12 = .ok (.if_icmp .ge 24, 3) := by decide +kernel
theorem dX10_sumOfAreas_15 : decode cX10_sumOfAreas 15 = .ok (.iload_n 1, 1) := by decide +kernel
theorem dX10_sumOfAreas_16 : decode cX10_sumOfAreas 16 = .ok (.aload_n 0, 1) := by decide +kernel
theorem dX10_sumOfAreas_17 : decode cX10_sumOfAreas 17 = .ok (.getfield 31, 3) := by decide +kernel
theorem dX10_sumOfAreas_20 : decode cX10_sumOfAreas 20 = .ok (.aload_n 0, 1) := by decide +kernel
theorem dX10_sumOfAreas_21 : decode cX10_sumOfAreas 21 = .ok (.getfield 24, 3) := by decide +kernel
theorem dX10_sumOfAreas_24 : decode cX10_sumOfAreas 24 = .ok (.iload_n 2, 1) := by decide +kernel
theorem dX10_sumOfAreas_25 : decode cX10_sumOfAreas 25 = .ok (.invokevirtual 222, 3) := by decide +kernel
theorem dX10_sumOfAreas_28 : decode cX10_sumOfAreas 28 = .ok (.iadd, 1) := by decide +kernel
theorem dX10_sumOfAreas_29 : decode cX10_sumOfAreas 29 = .ok (.istore_n 1, 1) := by decide +kernel
theorem dX10_sumOfAreas_30 : decode cX10_sumOfAreas 30 = .ok (.iinc 2 1, 3) := by decide +kernel
theorem dX10_sumOfAreas_33 : decode cX10_sumOfAreas 33 = .ok (.goto (-29), 3) := by decide +kernel
theorem dX10_sumOfAreas_36 : decode cX10_sumOfAreas 36 = .ok (.iload_n 1, 1) := by decide +kernel
theorem dX10_sumOfAreas_37 : decode cX10_sumOfAreas 37 = .ok (.ireturn, 1) := by decide +kernel
theorem dX10_greatestGeneration_0 : decode cX10_greatestGeneration 0 = .ok (.iconst 0, 1) := by decide +kernel
theorem dX10_greatestGeneration_1 : decode cX10_greatestGeneration 1 = .ok (.istore_n 1, 1) := by decide +kernel
theorem dX10_greatestGeneration_2 : decode cX10_greatestGeneration 2 = .ok (.iconst 0, 1) := by decide +kernel
theorem dX10_greatestGeneration_3 : decode cX10_greatestGeneration 3 = .ok (.istore_n 2, 1) := by decide +kernel
theorem dX10_greatestGeneration_4 : decode cX10_greatestGeneration 4 = .ok (.iload_n 2, 1) := by decide +kernel
theorem dX10_greatestGeneration_5 : decode cX10_greatestGeneration 5 = .ok (.aload_n 0, 1) := by decide +kernel
theorem dX10_greatestGeneration_6 : decode cX10_greatestGeneration 6 = .ok (.getfield 31, 3) := by decide +kernel
theorem dX10_greatestGeneration_9 : decode cX10_greatestGeneration 9 = .ok (.getfield 162, 3) := by decide +kernel
theorem dX10_greatestGeneration_12 : decode cX10_greatestGeneration 12 = .ok (.if_icmp .ge 22, 3) := by decide +kernel
theorem dX10_greatestGeneration_15 : decode cX10_greatestGeneration 15 = .ok (.iload_n 1, 1) := by decide +kernel
theorem dX10_greatestGeneration_16 : decode cX10_greatestGeneration 16 = .ok (.aload_n 0, 1) := by decide +kernel
theorem dX10_greatestGeneration_17 : decode cX10_greatestGeneration 17 = .ok (.getfield 31, 3) := by decide +kernel
theorem dX10_greatestGeneration_20 : decode cX10_greatestGeneration 20 = .ok (.iload_n 2, 1) := by decide +kernel
theorem dX10_greatestGeneration_21 : decode cX10_greatestGeneration 21 = .ok (.invokevirtual 205, 3) := by decide +kernel
theorem dX10_greatestGeneration_24 : decode cX10_greatestGeneration 24 = .ok (.invokestatic 291, 3) := by decide +kernel
theorem dX10_greatestGeneration_27 : decode cX10_greatestGeneration 27 = .ok (.istore_n 1, 1) := by decide +kernel
theorem dX10_greatestGeneration_28 : decode cX10_greatestGeneration 28 = .ok (.iinc 2 1, 3) := by decide +kernel
theorem dX10_greatestGeneration_31 : decode cX10_greatestGeneration 31 = .ok (.goto (-27), 3) := by decide +kernel
theorem dX10_greatestGeneration_34 : decode cX10_greatestGeneration 34 = .ok (.iload_n 1, 1) := by decide +kernel
theorem dX10_greatestGeneration_35 : decode cX10_greatestGeneration 35 = .ok (.ireturn, 1) := by decide +kernel
theorem dX10_widestKept_0 : decode cX10_widestKept 0 = .ok (.iconst 0, 1) := by decide +kernel
theorem dX10_widestKept_1 : decode cX10_widestKept 1 = .ok (.istore_n 1, 1) := by decide +kernel
theorem dX10_widestKept_2 : decode cX10_widestKept 2 = .ok (.iconst 1, 1) := by decide +kernel
theorem dX10_widestKept_3 : decode cX10_widestKept 3 = .ok (.istore_n 2, 1) := by decide +kernel
theorem dX10_widestKept_4 : decode cX10_widestKept 4 = .ok (.iload_n 2, 1) := by decide +kernel
theorem dX10_widestKept_5 : decode cX10_widestKept 5 = .ok (.aload_n 0, 1) := by decide +kernel
theorem dX10_widestKept_6 : decode cX10_widestKept 6 = .ok (.getfield 31, 3) := by decide +kernel
theorem dX10_widestKept_9 : decode cX10_widestKept 9 = .ok (.getfield 148, 3) := by decide +kernel
theorem dX10_widestKept_12 : decode cX10_widestKept 12 = .ok (.if_icmp .ge 38, 3) := by decide +kernel
theorem dX10_widestKept_15 : decode cX10_widestKept 15 = .ok (.aload_n 0, 1) := by decide +kernel
theorem dX10_widestKept_16 : decode cX10_widestKept 16 = .ok (.getfield 31, 3) := by decide +kernel
theorem dX10_widestKept_19 : decode cX10_widestKept 19 = .ok (.aload_n 0, 1) := by decide +kernel
theorem dX10_widestKept_20 : decode cX10_widestKept 20 = .ok (.getfield 24, 3) := by decide +kernel
theorem dX10_widestKept_23 : decode cX10_widestKept 23 = .ok (.iload_n 2, 1) := by decide +kernel
theorem dX10_widestKept_24 : decode cX10_widestKept 24 = .ok (.invokevirtual 225, 3) := by decide +kernel
theorem dX10_widestKept_27 : decode cX10_widestKept 27 = .ok (.aload_n 0, 1) := by decide +kernel
theorem dX10_widestKept_28 : decode cX10_widestKept 28 = .ok (.getfield 31, 3) := by decide +kernel
theorem dX10_widestKept_31 : decode cX10_widestKept 31 = .ok (.aload_n 0, 1) := by decide +kernel
theorem dX10_widestKept_32 : decode cX10_widestKept 32 = .ok (.getfield 24, 3) := by decide +kernel
theorem dX10_widestKept_35 : decode cX10_widestKept 35 = .ok (.iload_n 1, 1) := by decide +kernel
theorem dX10_widestKept_36 : decode cX10_widestKept 36 = .ok (.invokevirtual 225, 3) := by decide +kernel
theorem dX10_widestKept_39 : decode cX10_widestKept 39 = .ok (.if_icmp .le 5, 3) := by decide +kernel
theorem dX10_widestKept_42 : decode cX10_widestKept 42 = .ok (.iload_n 2, 1) := by decide +kernel
theorem dX10_widestKept_43 : decode cX10_widestKept 43 = .ok (.istore_n 1, 1) := by decide +kernel
theorem dX10_widestKept_44 : decode cX10_widestKept 44 = .ok (.iinc 2 1, 3) := by decide +kernel
theorem dX10_widestKept_47 : decode cX10_widestKept 47 = .ok (.goto (-43), 3) := by decide +kernel
theorem dX10_widestKept_50 : decode cX10_widestKept 50 = .ok (.iload_n 1, 1) := by decide +kernel
theorem dX10_widestKept_51 : decode cX10_widestKept 51 = .ok (.ireturn, 1) := by decide +kernel
theorem dX10_image_0 : decode cX10_image 0 = .ok (.aload_n 0, 1) := by decide +kernel
theorem dX10_image_1 : decode cX10_image 1 = .ok (.invokevirtual 151, 3) := by decide +kernel
theorem dX10_image_4 : decode cX10_image 4 = .ok (.ifCond .eq 5, 3) := by decide +kernel
theorem dX10_image_7 : decode cX10_image 7 = .ok (.iconst (-1), 1) := by decide +kernel
theorem dX10_image_8 : decode cX10_image 8 = .ok (.ireturn, 1) := by decide +kernel
theorem dX10_image_9 : decode cX10_image 9 = .ok (.aload_n 0, 1) := by decide +kernel
theorem dX10_image_10 : decode cX10_image 10 = .ok (.getfield 62, 3) := by decide +kernel
theorem dX10_image_13 : decode cX10_image 13 = .ok (.aload_n 0, 1) := by decide +kernel
theorem dX10_image_14 : decode cX10_image 14 = .ok (.getfield 24, 3) := by decide +kernel
theorem dX10_image_17 : decode cX10_image 17 = .ok (.invokevirtual 128, 3) := by decide +kernel
theorem dX10_image_20 : decode cX10_image 20 = .ok (.aload_n 0, 1) := by decide +kernel
theorem dX10_image_21 : decode cX10_image 21 = .ok (.getfield 65, 3) := by decide +kernel
theorem dX10_image_24 : decode cX10_image 24 = .ok (.aload_n 0, 1) := by decide +kernel
theorem dX10_image_25 : decode cX10_image 25 = .ok (.getfield 52, 3) := by decide +kernel
theorem dX10_image_28 : decode cX10_image 28 = .ok (.invokevirtual 352, 3) := by decide +kernel
theorem dX10_image_31 : decode cX10_image 31 = .ok (.aload_n 0, 1) := by decide +kernel
theorem dX10_image_32 : decode cX10_image 32 = .ok (.getfield 31, 3) := by decide +kernel
theorem dX10_image_35 : decode cX10_image 35 = .ok (.getfield 148, 3) := by decide +kernel
theorem dX10_image_38 : decode cX10_image 38 = .ok (.ireturn, 1) := by decide +kernel
theorem dX10_back_0 : decode cX10_back 0 = .ok (.aload_n 0, 1) := by decide +kernel
theorem dX10_back_1 : decode cX10_back 1 = .ok (.getfield 62, 3) := by decide +kernel
theorem dX10_back_4 : decode cX10_back 4 = .ok (.getfield 142, 3) := by decide +kernel
theorem dX10_back_7 : decode cX10_back 7 = .ok (.ifCond .ne 5, 3) := by decide +kernel
theorem dX10_back_10 : decode cX10_back 10 = .ok (.iconst (-1), 1) := by decide +kernel
theorem dX10_back_11 : decode cX10_back 11 = .ok (.ireturn, 1) := by decide +kernel
theorem dX10_back_12 : decode cX10_back 12 = .ok (.aload_n 0, 1) := by decide +kernel
theorem dX10_back_13 : decode cX10_back 13 = .ok (.getfield 24, 3) := by decide +kernel
theorem dX10_back_16 : decode cX10_back 16 = .ok (.aload_n 0, 1) := by decide +kernel
theorem dX10_back_17 : decode cX10_back 17 = .ok (.getfield 62, 3) := by decide +kernel
theorem dX10_back_20 : decode cX10_back 20 = .ok (.invokevirtual 128, 3) := by decide +kernel
theorem dX10_back_23 : decode cX10_back 23 = .ok (.aload_n 0, 1) := by decide +kernel
theorem dX10_back_24 : decode cX10_back 24 = .ok (.getfield 52, 3) := by decide +kernel
theorem dX10_back_27 : decode cX10_back 27 = .ok (.aload_n 0, 1) := by decide +kernel
theorem dX10_back_28 : decode cX10_back 28 = .ok (.getfield 65, 3) := by decide +kernel
theorem dX10_back_31 : decode cX10_back 31 = .ok (.invokevirtual 352, 3) := by decide +kernel
theorem dX10_back_34 : decode cX10_back 34 = .ok (.aload_n 0, 1) := by decide +kernel
theorem dX10_back_35 : decode cX10_back 35 = .ok (.getfield 45, 3) := by decide +kernel
theorem dX10_back_38 : decode cX10_back 38 = .ok (.invokevirtual 138, 3) := by decide +kernel
theorem dX10_back_41 : decode cX10_back 41 = .ok (.aload_n 0, 1) := by decide +kernel
theorem dX10_back_42 : decode cX10_back 42 = .ok (.getfield 31, 3) := by decide +kernel
theorem dX10_back_45 : decode cX10_back 45 = .ok (.aload_n 0, 1) := by decide +kernel
theorem dX10_back_46 : decode cX10_back 46 = .ok (.getfield 24, 3) := by decide +kernel
theorem dX10_back_49 : decode cX10_back 49 = .ok (.invokevirtual 135, 3) := by decide +kernel
theorem dX10_back_52 : decode cX10_back 52 = .ok (.aload_n 0, 1) := by decide +kernel
theorem dX10_back_53 : decode cX10_back 53 = .ok (.getfield 31, 3) := by decide +kernel
theorem dX10_back_56 : decode cX10_back 56 = .ok (.getfield 148, 3) := by decide +kernel
theorem dX10_back_59 : decode cX10_back 59 = .ok (.ireturn, 1) := by decide +kernel
theorem dX10_held_0 : decode cX10_held 0 = .ok (.iload_n 1, 1) := by decide +kernel
theorem dX10_held_1 : decode cX10_held 1 = .ok (.tableswitch 72 0 4 #[35, 43, 48, 56, 64], 35) := by decide +kernel
theorem dX10_held_36 : decode cX10_held 36 = .ok (.aload_n 0, 1) := by decide +kernel
theorem dX10_held_37 : decode cX10_held 37 = .ok (.getfield 24, 3) := by decide +kernel
theorem dX10_held_40 : decode cX10_held 40 = .ok (.getfield 142, 3) := by decide +kernel
theorem dX10_held_43 : decode cX10_held 43 = .ok (.ireturn, 1) := by decide +kernel
theorem dX10_held_44 : decode cX10_held 44 = .ok (.aload_n 0, 1) := by decide +kernel
theorem dX10_held_45 : decode cX10_held 45 = .ok (.getfield 122, 3) := by decide +kernel
theorem dX10_held_48 : decode cX10_held 48 = .ok (.ireturn, 1) := by decide +kernel
theorem dX10_held_49 : decode cX10_held 49 = .ok (.aload_n 0, 1) := by decide +kernel
theorem dX10_held_50 : decode cX10_held 50 = .ok (.getfield 20, 3) := by decide +kernel
theorem dX10_held_53 : decode cX10_held 53 = .ok (.getfield 100, 3) := by decide +kernel
theorem dX10_held_56 : decode cX10_held 56 = .ok (.ireturn, 1) := by decide +kernel
theorem dX10_held_57 : decode cX10_held 57 = .ok (.aload_n 0, 1) := by decide +kernel
theorem dX10_held_58 : decode cX10_held 58 = .ok (.getfield 52, 3) := by decide +kernel
theorem dX10_held_61 : decode cX10_held 61 = .ok (.invokevirtual 355, 3) := by decide +kernel
theorem dX10_held_64 : decode cX10_held 64 = .ok (.ireturn, 1) := by decide +kernel
theorem dX10_held_65 : decode cX10_held 65 = .ok (.aload_n 0, 1) := by decide +kernel
theorem dX10_held_66 : decode cX10_held 66 = .ok (.getfield 45, 3) := by decide +kernel
theorem dX10_held_69 : decode cX10_held 69 = .ok (.getfield 280, 3) := by decide +kernel
theorem dX10_held_72 : decode cX10_held 72 = .ok (.ireturn, 1) := by decide +kernel
theorem dX10_held_73 : decode cX10_held 73 = .ok (.ldc_w 299, 3) := by decide +kernel
theorem dX10_held_76 : decode cX10_held 76 = .ok (.ireturn, 1) := by decide +kernel
theorem dJ9_abs_0f7a4_0 : decode cJ9_abs_0f7a4 0 = .ok (.iload_n 0, 1) := by decide +kernel
theorem dJ9_abs_0f7a4_1 : decode cJ9_abs_0f7a4 1 = .ok (.ifCond .ge 8, 3) := by decide +kernel
theorem dJ9_abs_0f7a4_4 : decode cJ9_abs_0f7a4 4 = .ok (.iload_n 0, 1) := by decide +kernel
theorem dJ9_abs_0f7a4_5 : decode cJ9_abs_0f7a4 5 = .ok (.ineg, 1) := by decide +kernel
theorem dJ9_abs_0f7a4_6 : decode cJ9_abs_0f7a4 6 = .ok (.goto 4, 3) := by decide +kernel
theorem dJ9_abs_0f7a4_9 : decode cJ9_abs_0f7a4 9 = .ok (.iload_n 0, 1) := by decide +kernel
theorem dJ9_abs_0f7a4_10 : decode cJ9_abs_0f7a4 10 = .ok (.ireturn, 1) := by decide +kernel
theorem dJ9_max_7cf53_0 : decode cJ9_max_7cf53 0 = .ok (.iload_n 0, 1) := by decide +kernel
theorem dJ9_max_7cf53_1 : decode cJ9_max_7cf53 1 = .ok (.iload_n 1, 1) := by decide +kernel
theorem dJ9_max_7cf53_2 : decode cJ9_max_7cf53 2 = .ok (.if_icmp .lt 7, 3) := by decide +kernel
theorem dJ9_max_7cf53_5 : decode cJ9_max_7cf53 5 = .ok (.iload_n 0, 1) := by decide +kernel
theorem dJ9_max_7cf53_6 : decode cJ9_max_7cf53 6 = .ok (.goto 4, 3) := by decide +kernel
theorem dJ9_max_7cf53_9 : decode cJ9_max_7cf53 9 = .ok (.iload_n 1, 1) := by decide +kernel
theorem dJ9_max_7cf53_10 : decode cJ9_max_7cf53 10 = .ok (.ireturn, 1) := by decide +kernel
theorem dJ9_min_7cf53_0 : decode cJ9_min_7cf53 0 = .ok (.iload_n 0, 1) := by decide +kernel
theorem dJ9_min_7cf53_1 : decode cJ9_min_7cf53 1 = .ok (.iload_n 1, 1) := by decide +kernel
theorem dJ9_min_7cf53_2 : decode cJ9_min_7cf53 2 = .ok (.if_icmp .gt 7, 3) := by decide +kernel
theorem dJ9_min_7cf53_5 : decode cJ9_min_7cf53 5 = .ok (.iload_n 0, 1) := by decide +kernel
theorem dJ9_min_7cf53_6 : decode cJ9_min_7cf53 6 = .ok (.goto 4, 3) := by decide +kernel
theorem dJ9_min_7cf53_9 : decode cJ9_min_7cf53 9 = .ok (.iload_n 1, 1) := by decide +kernel
theorem dJ9_min_7cf53_10 : decode cJ9_min_7cf53 10 = .ok (.ireturn, 1) := by decide +kernel
theorem dJ0_length_8abf5_0 : decode cJ0_length_8abf5 0 = .ok (.aload_n 0, 1) := by decide +kernel
theorem dJ0_length_8abf5_1 : decode cJ0_length_8abf5 1 = .ok (.getfield 9, 3) := by decide +kernel
theorem dJ0_length_8abf5_4 : decode cJ0_length_8abf5 4 = .ok (.arraylength, 1) := by decide +kernel
theorem dJ0_length_8abf5_5 : decode cJ0_length_8abf5 5 = .ok (.aload_n 0, 1) := by decide +kernel
theorem dJ0_length_8abf5_6 : decode cJ0_length_8abf5 6 = .ok (.invokevirtual 335, 3) := by decide +kernel
theorem dJ0_length_8abf5_9 : decode cJ0_length_8abf5 9 = .ok (.ishr, 1) := by decide +kernel
theorem dJ0_length_8abf5_10 : decode cJ0_length_8abf5 10 = .ok (.ireturn, 1) := by decide +kernel
theorem dJ0_charAt_5068e_0 : decode cJ0_charAt_5068e 0 = .ok (.aload_n 0, 1) := by decide +kernel
theorem dJ0_charAt_5068e_1 : decode cJ0_charAt_5068e 1 = .ok (.invokevirtual 492, 3) := by decide +kernel
theorem dJ0_charAt_5068e_4 : decode cJ0_charAt_5068e 4 = .ok (.ifCond .eq 12, 3) := by decide +kernel
theorem dJ0_charAt_5068e_7 : decode cJ0_charAt_5068e 7 = .ok (.aload_n 0, 1) := by decide +kernel
theorem dJ0_charAt_5068e_8 : decode cJ0_charAt_5068e 8 = .ok (.getfield 9, 3) := by decide +kernel
theorem dJ0_charAt_5068e_11 : decode cJ0_charAt_5068e 11 = .ok (.iload_n 1, 1) := by decide +kernel
theorem dJ0_charAt_5068e_12 : decode cJ0_charAt_5068e 12 = .ok (.invokestatic 495, 3) := by decide +kernel
theorem dJ0_charAt_5068e_15 : decode cJ0_charAt_5068e 15 = .ok (.ireturn, 1) := by decide +kernel
theorem dJ0_charAt_5068e_16 : decode cJ0_charAt_5068e 16 = .ok (.aload_n 0, 1) := by decide +kernel
theorem dJ0_charAt_5068e_17 : decode cJ0_charAt_5068e 17 = .ok (.getfield 9, 3) := by decide +kernel
theorem dJ0_charAt_5068e_20 : decode cJ0_charAt_5068e 20 = .ok (.iload_n 1, 1) := by decide +kernel
theorem dJ0_charAt_5068e_21 : decode cJ0_charAt_5068e 21 = .ok (.invokestatic 498, 3) := by decide +kernel
theorem dJ0_charAt_5068e_24 : decode cJ0_charAt_5068e 24 = .ok (.ireturn, 1) := by decide +kernel
theorem dJ0_coder_7d493_0 : decode cJ0_coder_7d493 0 = .ok (.getstatic 38, 3) := by decide +kernel
theorem dJ0_coder_7d493_3 : decode cJ0_coder_7d493 3 = .ok (.ifCond .eq 10, 3) := by decide +kernel
theorem dJ0_coder_7d493_6 : decode cJ0_coder_7d493 6 = .ok (.aload_n 0, 1) := by decide +kernel
theorem dJ0_coder_7d493_7 : decode cJ0_coder_7d493 7 = .ok (.getfield 15, 3) := by decide +kernel
theorem dJ0_coder_7d493_10 : decode cJ0_coder_7d493 10 = .ok (.goto 4, 3) := by decide +kernel
theorem dJ0_coder_7d493_13 : decode cJ0_coder_7d493 13 = .ok (.iconst 1, 1) := by decide +kernel
theorem dJ0_coder_7d493_14 : decode cJ0_coder_7d493 14 = .ok (.ireturn, 1) := by decide +kernel
theorem dJ0_isLatin1_aae02_0 : decode cJ0_isLatin1_aae02 0 = .ok (.getstatic 38, 3) := by decide +kernel
theorem dJ0_isLatin1_aae02_3 : decode cJ0_isLatin1_aae02 3 = .ok (.ifCond .eq 14, 3) := by decide +kernel
theorem dJ0_isLatin1_aae02_6 : decode cJ0_isLatin1_aae02 6 = .ok (.aload_n 0, 1) := by decide +kernel
theorem dJ0_isLatin1_aae02_7 : decode cJ0_isLatin1_aae02 7 = .ok (.getfield 15, 3) := by decide +kernel
theorem dJ0_isLatin1_aae02_10 : decode cJ0_isLatin1_aae02 10 = .ok (.ifCond .ne 7, 3) := by decide +kernel
theorem dJ0_isLatin1_aae02_13 : decode cJ0_isLatin1_aae02 13 = .ok (.iconst 1, 1) := by decide +kernel
theorem dJ0_isLatin1_aae02_14 : decode cJ0_isLatin1_aae02 14 = .ok (.goto 4, 3) := by decide +kernel
theorem dJ0_isLatin1_aae02_17 : decode cJ0_isLatin1_aae02 17 = .ok (.iconst 0, 1) := by decide +kernel
theorem dJ0_isLatin1_aae02_18 : decode cJ0_isLatin1_aae02 18 = .ok (.ireturn, 1) := by decide +kernel
theorem dJ0_checkIndex_df160_0 : decode cJ0_checkIndex_df160 0 = .ok (.iload_n 0, 1) := by decide +kernel
theorem dJ0_checkIndex_df160_1 : decode cJ0_checkIndex_df160 1 = .ok (.iload_n 1, 1) := by decide +kernel
theorem dJ0_checkIndex_df160_2 : decode cJ0_checkIndex_df160 2 = .ok (.getstatic 1053, 3) := by decide +kernel
theorem dJ0_checkIndex_df160_5 : decode cJ0_checkIndex_df160 5 = .ok (.invokestatic 1059, 3) := by decide +kernel
theorem dJ0_checkIndex_df160_8 : decode cJ0_checkIndex_df160 8 = .ok (.pop, 1) := by decide +kernel
theorem dJ0_checkIndex_df160_9 : decode cJ0_checkIndex_df160 9 = .ok (.return_, 1) := by decide +kernel
theorem dJ1_charAt_3b067_0 : decode cJ1_charAt_3b067 0 = .ok (.iload_n 1, 1) := by decide +kernel
theorem dJ1_charAt_3b067_1 : decode cJ1_charAt_3b067 1 = .ok (.aload_n 0, 1) := by decide +kernel
theorem dJ1_charAt_3b067_2 : decode cJ1_charAt_3b067 2 = .ok (.arraylength, 1) := by decide +kernel
theorem dJ1_charAt_3b067_3 : decode cJ1_charAt_3b067 3 = .ok (.invokestatic 9, 3) := by decide +kernel
theorem dJ1_charAt_3b067_6 : decode cJ1_charAt_3b067 6 = .ok (.aload_n 0, 1) := by decide +kernel
theorem dJ1_charAt_3b067_7 : decode cJ1_charAt_3b067 7 = .ok (.iload_n 1, 1) := by decide +kernel
theorem dJ1_charAt_3b067_8 : decode cJ1_charAt_3b067 8 = .ok (.baload, 1) := by decide +kernel
theorem dJ1_charAt_3b067_9 : decode cJ1_charAt_3b067 9 = .ok (.sipush 255, 3) := by decide +kernel
theorem dJ1_charAt_3b067_12 : decode cJ1_charAt_3b067 12 = .ok (.iand, 1) := by decide +kernel
theorem dJ1_charAt_3b067_13 : decode cJ1_charAt_3b067 13 = .ok (.i2c, 1) := by decide +kernel
theorem dJ1_charAt_3b067_14 : decode cJ1_charAt_3b067 14 = .ok (.ireturn, 1) := by decide +kernel
theorem dJ2_getChar_3b067_0 : decode cJ2_getChar_3b067 0 = .ok (.getstatic 44, 3) := by decide +kernel
theorem dJ2_getChar_3b067_3 : decode cJ2_getChar_3b067 3 = .ok (.ifCond .ne 25, 3) := by decide +kernel
theorem dJ2_getChar_3b067_6 : decode cJ2_getChar_3b067 6 = .ok (.iload_n 1, 1) := by decide +kernel
theorem dJ2_getChar_3b067_7 : decode cJ2_getChar_3b067 7 = .ok (.ifCond .lt 11, 3) := by decide +kernel
theorem dJ2_getChar_3b067_10 : decode cJ2_getChar_3b067 10 = .ok (.iload_n 1, 1) := by decide +kernel
theorem dJ2_getChar_3b067_11 : decode cJ2_getChar_3b067 11 = .ok (.aload_n 0, 1) := by decide +kernel
theorem dJ2_getChar_3b067_12 : decode cJ2_getChar_3b067 12 = .ok (.invokestatic 48, 3) := by decide +kernel
theorem dJ2_getChar_3b067_15 : decode cJ2_getChar_3b067 15 = .ok (.if_icmp .lt 13, 3) := by decide +kernel
theorem dJ2_getChar_3b067_18 : decode cJ2_getChar_3b067 18 = .ok (.new 52, 3) := by decide +kernel
theorem dJ2_getChar_3b067_21 : decode cJ2_getChar_3b067 21 = .ok (.dup, 1) := by decide +kernel
theorem dJ2_getChar_3b067_22 : decode cJ2_getChar_3b067 22 = .ok (.ldc 54, 2) := by decide +kernel
theorem dJ2_getChar_3b067_24 : decode cJ2_getChar_3b067 24 = .ok (.invokespecial 56, 3) := by decide +kernel
theorem dJ2_getChar_3b067_27 : decode cJ2_getChar_3b067 27 = .ok (.athrow, 1) := by decide +kernel
theorem dJ2_getChar_3b067_28 : decode cJ2_getChar_3b067 28 = .ok (.iload_n 1, 1) := by decide +kernel
theorem dJ2_getChar_3b067_29 : decode cJ2_getChar_3b067 29 = .ok (.iconst 1, 1) := by decide +kernel
theorem dJ2_getChar_3b067_30 : decode cJ2_getChar_3b067 30 = .ok (.ishl, 1) := by decide +kernel
theorem dJ2_getChar_3b067_31 : decode cJ2_getChar_3b067 31 = .ok (.istore_n 1, 1) := by decide +kernel
theorem dJ2_getChar_3b067_32 : decode cJ2_getChar_3b067 32 = .ok (.aload_n 0, 1) := by decide +kernel
theorem dJ2_getChar_3b067_33 : decode cJ2_getChar_3b067 33 = .ok (.iload_n 1, 1) := by decide +kernel
theorem dJ2_getChar_3b067_34 : decode cJ2_getChar_3b067 34 = .ok (.iinc 1 1, 3) := by decide +kernel
theorem dJ2_getChar_3b067_37 : decode cJ2_getChar_3b067 37 = .ok (.baload, 1) := by decide +kernel
theorem dJ2_getChar_3b067_38 : decode cJ2_getChar_3b067 38 = .ok (.sipush 255, 3) := by decide +kernel
theorem dJ2_getChar_3b067_41 : decode cJ2_getChar_3b067 41 = .ok (.iand, 1) := by decide +kernel
theorem dJ2_getChar_3b067_42 : decode cJ2_getChar_3b067 42 = .ok (.getstatic 59, 3) := by decide +kernel
theorem dJ2_getChar_3b067_45 : decode cJ2_getChar_3b067 45 = .ok (.ishl, 1) := by decide +kernel
theorem dJ2_getChar_3b067_46 : decode cJ2_getChar_3b067 46 = .ok (.aload_n 0, 1) := by decide +kernel
theorem dJ2_getChar_3b067_47 : decode cJ2_getChar_3b067 47 = .ok (.iload_n 1, 1) := by decide +kernel
theorem dJ2_getChar_3b067_48 : decode cJ2_getChar_3b067 48 = .ok (.baload, 1) := by decide +kernel
theorem dJ2_getChar_3b067_49 : decode cJ2_getChar_3b067 49 = .ok (.sipush 255, 3) := by decide +kernel
theorem dJ2_getChar_3b067_52 : decode cJ2_getChar_3b067 52 = .ok (.iand, 1) := by decide +kernel
theorem dJ2_getChar_3b067_53 : decode cJ2_getChar_3b067 53 = .ok (.getstatic 63, 3) := by decide +kernel
theorem dJ2_getChar_3b067_56 : decode cJ2_getChar_3b067 56 = .ok (.ishl, 1) := by decide +kernel
theorem dJ2_getChar_3b067_57 : decode cJ2_getChar_3b067 57 = .ok (.ior, 1) := by decide +kernel
theorem dJ2_getChar_3b067_58 : decode cJ2_getChar_3b067 58 = .ok (.i2c, 1) := by decide +kernel
theorem dJ2_getChar_3b067_59 : decode cJ2_getChar_3b067 59 = .ok (.ireturn, 1) := by decide +kernel
theorem dJ2_length_9d52b_0 : decode cJ2_length_9d52b 0 = .ok (.aload_n 0, 1) := by decide +kernel
theorem dJ2_length_9d52b_1 : decode cJ2_length_9d52b 1 = .ok (.arraylength, 1) := by decide +kernel
theorem dJ2_length_9d52b_2 : decode cJ2_length_9d52b 2 = .ok (.iconst 1, 1) := by decide +kernel
theorem dJ2_length_9d52b_3 : decode cJ2_length_9d52b 3 = .ok (.ishr, 1) := by decide +kernel
theorem dJ2_length_9d52b_4 : decode cJ2_length_9d52b 4 = .ok (.ireturn, 1) := by decide +kernel
theorem dJ2_charAt_3b067_0 : decode cJ2_charAt_3b067 0 = .ok (.iload_n 1, 1) := by decide +kernel
theorem dJ2_charAt_3b067_1 : decode cJ2_charAt_3b067 1 = .ok (.aload_n 0, 1) := by decide +kernel
theorem dJ2_charAt_3b067_2 : decode cJ2_charAt_3b067 2 = .ok (.invokestatic 67, 3) := by decide +kernel
theorem dJ2_charAt_3b067_5 : decode cJ2_charAt_3b067 5 = .ok (.aload_n 0, 1) := by decide +kernel
theorem dJ2_charAt_3b067_6 : decode cJ2_charAt_3b067 6 = .ok (.iload_n 1, 1) := by decide +kernel
theorem dJ2_charAt_3b067_7 : decode cJ2_charAt_3b067 7 = .ok (.invokestatic 71, 3) := by decide +kernel
theorem dJ2_charAt_3b067_10 : decode cJ2_charAt_3b067 10 = .ok (.ireturn, 1) := by decide +kernel
theorem dJ2_checkIndex_2214a_0 : decode cJ2_checkIndex_2214a 0 = .ok (.iload_n 0, 1) := by decide +kernel
theorem dJ2_checkIndex_2214a_1 : decode cJ2_checkIndex_2214a 1 = .ok (.aload_n 1, 1) := by decide +kernel
theorem dJ2_checkIndex_2214a_2 : decode cJ2_checkIndex_2214a 2 = .ok (.invokestatic 48, 3) := by decide +kernel
theorem dJ2_checkIndex_2214a_5 : decode cJ2_checkIndex_2214a 5 = .ok (.invokestatic 414, 3) := by decide +kernel
theorem dJ2_checkIndex_2214a_8 : decode cJ2_checkIndex_2214a 8 = .ok (.return_, 1) := by decide +kernel
theorem dJ3_checkIndex_8e157_0 : decode cJ3_checkIndex_8e157 0 = .ok (.iload_n 0, 1) := by decide +kernel
theorem dJ3_checkIndex_8e157_1 : decode cJ3_checkIndex_8e157 1 = .ok (.ifCond .lt 8, 3) := by decide +kernel
theorem dJ3_checkIndex_8e157_4 : decode cJ3_checkIndex_8e157 4 = .ok (.iload_n 0, 1) := by decide +kernel
theorem dJ3_checkIndex_8e157_5 : decode cJ3_checkIndex_8e157 5 = .ok (.iload_n 1, 1) := by decide +kernel
theorem dJ3_checkIndex_8e157_6 : decode cJ3_checkIndex_8e157 6 = .ok (.if_icmp .lt 10, 3) := by decide +kernel
theorem dJ3_checkIndex_8e157_9 : decode cJ3_checkIndex_8e157 9 = .ok (.aload_n 2, 1) := by decide +kernel
theorem dJ3_checkIndex_8e157_10 : decode cJ3_checkIndex_8e157 10 = .ok (.iload_n 0, 1) := by decide +kernel
theorem dJ3_checkIndex_8e157_11 : decode cJ3_checkIndex_8e157 11 = .ok (.iload_n 1, 1) := by decide +kernel
theorem dJ3_checkIndex_8e157_12 : decode cJ3_checkIndex_8e157 12 = .ok (.invokestatic 95, 3) := by decide +kernel
theorem dJ3_checkIndex_8e157_15 : decode cJ3_checkIndex_8e157 15 = .ok (.athrow, 1) := by decide +kernel
theorem dJ3_checkIndex_8e157_16 : decode cJ3_checkIndex_8e157 16 = .ok (.iload_n 0, 1) := by decide +kernel
theorem dJ3_checkIndex_8e157_17 : decode cJ3_checkIndex_8e157 17 = .ok (.ireturn, 1) := by decide +kernel
