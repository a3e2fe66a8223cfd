theorem dX0_init_0 : decode cX0_init 0 = .ok (.aload_n 0, 1) := by decide +kernel
theorem dX0_init_1 : decode cX0_init 1 = .ok (.invokespecial 3, 3) := by decide +kernel
theorem dX0_init_4 : decode cX0_init 4 = .ok (.aload_n 0, 1) := by decide +kernel
theorem dX0_init_5 : decode cX0_init 5 = .ok (.iconst (-1), 1) := by decide +kernel
theorem dX0_init_6 : decode cX0_init 6 = .ok (.putfield 9, 3) := by decide +kernel
theorem dX0_init_9 : decode cX0_init 9 = .ok (.aload_n 0, 1) := by decide +kernel
theorem dX0_init_10 : decode cX0_init 10 = .ok (.iconst (-1), 1) := by decide +kernel
theorem dX0_init_11 : decode cX0_init 11 = .ok (.putfield 15, 3) := by decide +kernel
theorem dX0_init_14 : decode cX0_init 14 = .ok (.return_, 1) := by decide +kernel
theorem dX0_forget_0 : decode cX0_forget 0 = .ok (.aload_n 0, 1) := by decide +kernel
theorem dX0_forget_1 : decode cX0_forget 1 = .ok (.iconst (-1), 1) := by decide +kernel
theorem dX0_forget_2 : decode cX0_forget 2 = .ok (.putfield 9, 3) := by decide +kernel
theorem dX0_forget_5 : decode cX0_forget 5 = .ok (.return_, 1) := by decide +kernel
theorem dX0_isMissing_0 : decode cX0_isMissing 0 = .ok (.aload_n 0, 1) := by decide +kernel
theorem dX0_isMissing_1 : decode cX0_isMissing 1 = .ok (.getfield 9, 3) := by decide +kernel
theorem dX0_isMissing_4 : decode cX0_isMissing 4 = .ok (.iconst (-1), 1) := by decide +kernel
theorem dX0_isMissing_5 : decode cX0_isMissing 5 = .ok (.if_icmp .ne 7, 3) := by decide +kernel
theorem dX0_isMissing_8 : decode cX0_isMissing 8 = .ok (.iconst 1, 1) := by decide +kernel
theorem dX0_isMissing_9 : decode cX0_isMissing 9 = .ok (.goto 4, 3) := by decide +kernel
theorem dX0_isMissing_12 : decode cX0_isMissing 12 = .ok (.iconst 0, 1) := by decide +kernel
theorem dX0_isMissing_13 : decode cX0_isMissing 13 = .ok (.ireturn, 1) := by decide +kernel
theorem dX0_consider_0 : decode cX0_consider 0 = .ok (.aload_n 0, 1) := by decide +kernel
theorem dX0_consider_1 : decode cX0_consider 1 = .ok (.invokevirtual 18, 3) := by decide +kernel
theorem dX0_consider_4 : decode cX0_consider 4 = .ok (.ifCond .ne 11, 3) := by decide +kernel
theorem dX0_consider_7 : decode cX0_consider 7 = .ok (.iload_n 1, 1) := by decide +kernel
theorem dX0_consider_8 : decode cX0_consider 8 = .ok (.aload_n 0, 1) := by decide +kernel
theorem dX0_consider_9 : decode cX0_consider 9 = .ok (.getfield 22, 3) := by decide +kernel
theorem dX0_consider_12 : decode cX0_consider 12 = .ok (.if_icmp .le 18, 3) := by decide +kernel
theorem dX0_consider_15 : decode cX0_consider 15 = .ok (.aload_n 0, 1) := by decide +kernel
theorem dX0_consider_16 : decode cX0_consider 16 = .ok (.iload_n 1, 1) := by decide +kernel
theorem dX0_consider_17 : decode cX0_consider 17 = .ok (.putfield 22, 3) := by decide +kernel
theorem dX0_consider_20 : decode cX0_consider 20 = .ok (.aload_n 0, 1) := by decide +kernel
theorem dX0_consider_21 : decode cX0_consider 21 = .ok (.iload_n 2, 1) := by decide +kernel
theorem dX0_consider_22 : decode cX0_consider 22 = .ok (.putfield 9, 3) := by decide +kernel
theorem dX0_consider_25 : decode cX0_consider 25 = .ok (.aload_n 0, 1) := by decide +kernel
theorem dX0_consider_26 : decode cX0_consider 26 = .ok (.iload_n 3, 1) := by decide +kernel
theorem dX0_consider_27 : decode cX0_consider 27 = .ok (.putfield 15, 3) := by decide +kernel
theorem dX0_consider_30 : decode cX0_consider 30 = .ok (.return_, 1) := by decide +kernel
theorem dX1_init_0 : decode cX1_init 0 = .ok (.aload_n 0, 1) := by decide +kernel
theorem dX1_init_1 : decode cX1_init 1 = .ok (.invokespecial 3, 3) := by decide +kernel
theorem dX1_init_4 : decode cX1_init 4 = .ok (.aload_n 0, 1) := by decide +kernel
theorem dX1_init_5 : decode cX1_init 5 = .ok (.bipush 16, 2) := by decide +kernel
theorem dX1_init_7 : decode cX1_init 7 = .ok (.newarray .int, 2) := by decide +kernel
theorem dX1_init_9 : decode cX1_init 9 = .ok (.putfield 9, 3) := by decide +kernel
theorem dX1_init_12 : decode cX1_init 12 = .ok (.aload_n 0, 1) := by decide +kernel
theorem dX1_init_13 : decode cX1_init 13 = .ok (.bipush 16, 2) := by decide +kernel
theorem dX1_init_15 : decode cX1_init 15 = .ok (.newarray .int, 2) := by decide +kernel
theorem dX1_init_17 : decode cX1_init 17 = .ok (.putfield 15, 3) := by decide +kernel
theorem dX1_init_20 : decode cX1_init 20 = .ok (.return_, 1) := by decide +kernel
theorem dX1_empty_0 : decode cX1_empty 0 = .ok (.aload_n 0, 1) := by decide +kernel
theorem dX1_empty_1 : decode cX1_empty 1 = .ok (.iconst 0, 1) := by decide +kernel
theorem dX1_empty_2 : decode cX1_empty 2 = .ok (.putfield 18, 3) := by decide +kernel
theorem dX1_empty_5 : decode cX1_empty 5 = .ok (.return_, 1) := by decide +kernel
theorem dX1_put_0 : decode cX1_put 0 = .ok (.aload_n 0, 1) := by decide +kernel
theorem dX1_put_1 : decode cX1_put 1 = .ok (.iload_n 1, 1) := by decide +kernel
theorem dX1_put_2 : decode cX1_put 2 = .ok (.invokevirtual 22, 3) := by decide +kernel
theorem dX1_put_5 : decode cX1_put 5 = .ok (.istore_n 3, 1) := by decide +kernel
theorem dX1_put_6 : decode cX1_put 6 = .ok (.iload_n 3, 1) := by decide +kernel
theorem dX1_put_7 : decode cX1_put 7 = .ok (.aload_n 0, 1) := by decide +kernel
theorem dX1_put_8 : decode cX1_put 8 = .ok (.getfield 18, 3) := by decide +kernel
theorem dX1_put_11 : decode cX1_put 11 = .ok (.if_icmp .ne 40, 3) := by decide +kernel
theorem dX1_put_14 : decode cX1_put 14 = .ok (.iload_n 1, 1) := by decide +kernel
theorem dX1_put_15 : decode cX1_put 15 = .ok (.ifCond .lt 36, 3) := by decide +kernel
theorem dX1_put_18 : decode cX1_put 18 = .ok (.aload_n 0, 1) := by decide +kernel
theorem dX1_put_19 : decode cX1_put 19 = .ok (.getfield 18, 3) := by decide +kernel
theorem dX1_put_22 : decode cX1_put 22 = .ok (.bipush 16, 2) := by decide +kernel
theorem dX1_put_24 : decode cX1_put 24 = .ok (.if_icmp .ge 27, 3) := by decide +kernel
theorem dX1_put_27 : decode cX1_put 27 = .ok (.aload_n 0, 1) := by decide +kernel
theorem dX1_put_28 : decode cX1_put 28 = .ok (.getfield 9, 3) := by decide +kernel
theorem dX1_put_31 : decode cX1_put 31 = .ok (.iload_n 3, 1) := by decide +kernel
theorem dX1_put_32 : decode cX1_put 32 = .ok (.iload_n 1, 1) := by decide +kernel
theorem dX1_put_33 : decode cX1_put 33 = .ok (.iastore, 1) := by decide +kernel
theorem dX1_put_34 : decode cX1_put 34 = .ok (.aload_n 0, 1) := by decide +kernel
theorem dX1_put_35 : decode cX1_put 35 = .ok (.getfield 15, 3) := by decide +kernel
theorem dX1_put_38 : decode cX1_put 38 = .ok (.iload_n 3, 1) := by decide +kernel
theorem dX1_put_39 : decode cX1_put 39 = .ok (.iconst 0, 1) := by decide +kernel
theorem dX1_put_40 : decode cX1_put 40 = .ok (.iastore, 1) := by decide +kernel
theorem dX1_put_41 : decode cX1_put 41 = .ok (.aload_n 0, 1) := by decide +kernel
theorem dX1_put_42 : decode cX1_put 42 = .ok (.dup, 1) := by decide +kernel
theorem dX1_put_43 : decode cX1_put 43 = .ok (.getfield 18, 3) := by decide +kernel
theorem dX1_put_46 : decode cX1_put 46 = .ok (.iconst 1, 1) := by decide +kernel
theorem dX1_put_47 : decode cX1_put 47 = .ok (.iadd, 1) := by decide +kernel
theorem dX1_put_48 : decode cX1_put 48 = .ok (.putfield 18, 3) := by decide +kernel
theorem dX1_put_51 : decode cX1_put 51 = .ok (.iload_n 3, 1) := by decide +kernel
theorem dX1_put_52 : decode cX1_put 52 = .ok (.aload_n 0, 1) := by decide +kernel
theorem dX1_put_53 : decode cX1_put 53 = .ok (.getfield 18, 3) := by decide +kernel
theorem dX1_put_56 : decode cX1_put 56 = .ok (.if_icmp .ge 15, 3) := by decide +kernel
theorem dX1_put_59 : decode cX1_put 59 = .ok (.aload_n 0, 1) := by decide +kernel
theorem dX1_put_60 : decode cX1_put 60 = .ok (.getfield 15, 3) := by decide +kernel
theorem dX1_put_63 : decode cX1_put 63 = .ok (.iload_n 3, 1) := by decide +kernel
theorem dX1_put_64 : decode cX1_put 64 = .ok (.dup2, 1) := by decide +kernel
theorem dX1_put_65 : decode cX1_put 65 = .ok (.iaload, 1) := by decide +kernel
theorem dX1_put_66 : decode cX1_put 66 = .ok (.iconst 1, 1) := by decide +kernel
theorem dX1_put_67 : decode cX1_put 67 = .ok (.iload_n 2, 1) := by decide +kernel
theorem dX1_put_68 : decode cX1_put 68 = .ok (.ishl, 1) := by decide +kernel
theorem dX1_put_69 : decode cX1_put 69 = .ok (.ior, 1) := by decide +kernel
theorem dX1_put_70 : decode cX1_put 70 = .ok (.iastore, 1) := by decide +kernel
theorem dX1_put_71 : decode cX1_put 71 = .ok (.return_, 1) := by decide +kernel
theorem dX1_holdersOf_0 : decode cX1_holdersOf 0 = .ok (.aload_n 0, 1) := by decide +kernel
theorem dX1_holdersOf_1 : decode cX1_holdersOf 1 = .ok (.iload_n 1, 1) := by decide +kernel
theorem dX1_holdersOf_2 : decode cX1_holdersOf 2 = .ok (.invokevirtual 22, 3) := by decide +kernel
theorem dX1_holdersOf_5 : decode cX1_holdersOf 5 = .ok (.istore_n 2, 1) := by decide +kernel
theorem dX1_holdersOf_6 : decode cX1_holdersOf 6 = .ok (.iload_n 2, 1) := by decide +kernel
theorem dX1_holdersOf_7 : decode cX1_holdersOf 7 = .ok (.aload_n 0, 1) := by decide +kernel
theorem dX1_holdersOf_8 : decode cX1_holdersOf 8 = .ok (.getfield 18, 3) := by decide +kernel
theorem dX1_holdersOf_11 : decode cX1_holdersOf 11 = .ok (.if_icmp .ge 12, 3) := by decide +kernel
theorem dX1_holdersOf_14 : decode cX1_holdersOf 14 = .ok (.aload_n 0, 1) := by decide +kernel
theorem dX1_holdersOf_15 : decode cX1_holdersOf 15 = .ok (.getfield 15, 3) := by decide +kernel
theorem dX1_holdersOf_18 : decode cX1_holdersOf 18 = .ok (.iload_n 2, 1) := by decide +kernel
theorem dX1_holdersOf_19 : decode cX1_holdersOf 19 = .ok (.iaload, 1) := by decide +kernel
theorem dX1_holdersOf_20 : decode cX1_holdersOf 20 = .ok (.goto 4, 3) := by decide +kernel
theorem dX1_holdersOf_23 : decode cX1_holdersOf 23 = .ok (.iconst 0, 1) := by decide +kernel
theorem dX1_holdersOf_24 : decode cX1_holdersOf 24 = .ok (.ireturn, 1) := by decide +kernel
theorem dX1_placeOf_0 : decode cX1_placeOf 0 = .ok (.iconst 0, 1) := by decide +kernel
theorem dX1_placeOf_1 : decode cX1_placeOf 1 = .ok (.istore_n 2, 1) := by decide +kernel
theorem dX1_placeOf_2 : decode cX1_placeOf 2 = .ok (.iload_n 2, 1) := by decide +kernel
theorem dX1_placeOf_3 : decode cX1_placeOf 3 = .ok (.aload_n 0, 1) := by decide +kernel
theorem dX1_placeOf_4 : decode cX1_placeOf 4 = .ok (.getfield 18, 3) := by decide +kernel
theorem dX1_placeOf_7 : decode cX1_placeOf 7 = .ok (.if_icmp .ge 21, 3) := by decide +kernel
theorem dX1_placeOf_10 : decode cX1_placeOf 10 = .ok (.aload_n 0, 1) := by decide +kernel
theorem dX1_placeOf_11 : decode cX1_placeOf 11 = .ok (.getfield 9, 3) := by decide +kernel
theorem dX1_placeOf_14 : decode cX1_placeOf 14 = .ok (.iload_n 2, 1) := by decide +kernel
theorem dX1_placeOf_15 : decode cX1_placeOf 15 = .ok (.iaload, 1) := by decide +kernel
theorem dX1_placeOf_16 : decode cX1_placeOf 16 = .ok (.iload_n 1, 1) := by decide +kernel
theorem dX1_placeOf_17 : decode cX1_placeOf 17 = .ok (.if_icmp .ne 5, 3) := by decide +kernel
theorem dX1_placeOf_20 : decode cX1_placeOf 20 = .ok (.iload_n 2, 1) := by decide +kernel
theorem dX1_placeOf_21 : decode cX1_placeOf 21 = .ok (.ireturn, 1) := by decide +kernel
theorem dX1_placeOf_22 : decode cX1_placeOf 22 = .ok (.iinc 2 1, 3) := by decide +kernel
theorem dX1_placeOf_25 : decode cX1_placeOf 25 = .ok (.goto (-23), 3) := by decide +kernel
theorem dX1_placeOf_28 : decode cX1_placeOf 28 = .ok (.aload_n 0, 1) := by decide +kernel
theorem dX1_placeOf_29 : decode cX1_placeOf 29 = .ok (.getfield 18, 3) := by decide +kernel
theorem dX1_placeOf_32 : decode cX1_placeOf 32 = .ok (.ireturn, 1) := by decide +kernel
theorem dX2_init_0 : decode cX2_init 0 = .ok (.aload_n 0, 1) := by decide +kernel
theorem dX2_init_1 : decode cX2_init 1 = .ok (.invokespecial 3, 3) := by decide +kernel
theorem dX2_init_4 : decode cX2_init 4 = .ok (.aload_n 0, 1) := by decide +kernel
theorem dX2_init_5 : decode cX2_init 5 = .ok (.new 9, 3) := by decide +kernel
theorem dX2_init_8 : decode cX2_init 8 = .ok (.dup, 1) := by decide +kernel
theorem dX2_init_9 : decode cX2_init 9 = .ok (.invokespecial 11, 3) := by decide +kernel
theorem dX2_init_12 : decode cX2_init 12 = .ok (.putfield 12, 3) := by decide +kernel
theorem dX2_init_15 : decode cX2_init 15 = .ok (.aload_n 0, 1) := by decide +kernel
theorem dX2_init_16 : decode cX2_init 16 = .ok (.iconst 4, 1) := by decide +kernel
theorem dX2_init_17 : decode cX2_init 17 = .ok (.newarray .int, 2) := by decide +kernel
theorem dX2_init_19 : decode cX2_init 19 = .ok (.dup, 1) := by decide +kernel
theorem dX2_init_20 : decode cX2_init 20 = .ok (.iconst 0, 1) := by decide +kernel
theorem dX2_init_21 : decode cX2_init 21 = .ok (.iconst (-1), 1) := by decide +kernel
theorem dX2_init_22 : decode cX2_init 22 = .ok (.iastore, 1) := by decide +kernel
theorem dX2_init_23 : decode cX2_init 23 = .ok (.dup, 1) := by decide +kernel
theorem dX2_init_24 : decode cX2_init 24 = .ok (.iconst 1, 1) := by decide +kernel
theorem dX2_init_25 : decode cX2_init 25 = .ok (.iconst (-1), 1) := by decide +kernel
theorem dX2_init_26 : decode cX2_init 26 = .ok (.iastore, 1) := by decide +kernel
theorem dX2_init_27 : decode cX2_init 27 = .ok (.dup, 1) := by decide +kernel
theorem dX2_init_28 : decode cX2_init 28 = .ok (.iconst 2, 1) := by decide +kernel
theorem dX2_init_29 : decode cX2_init 29 = .ok (.iconst (-1), 1) := by decide +kernel
theorem dX2_init_30 : decode cX2_init 30 = .ok (.iastore, 1) := by decide +kernel
theorem dX2_init_31 : decode cX2_init 31 = .ok (.dup, 1) := by decide +kernel
theorem dX2_init_32 : decode cX2_init 32 = .ok (.iconst 3, 1) := by decide +kernel
theorem dX2_init_33 : decode cX2_init 33 = .ok (.iconst (-1), 1) := by decide +kernel
theorem dX2_init_34 : decode cX2_init 34 = .ok (.iastore, 1) := by decide +kernel
theorem dX2_init_35 : decode cX2_init 35 = .ok (.putfield 18, 3) := by decide +kernel
theorem dX2_init_38 : decode cX2_init 38 = .ok (.return_, 1) := by decide +kernel
theorem dX2_has_0 : decode cX2_has 0 = .ok (.iload_n 1, 1) := by decide +kernel
theorem dX2_has_1 : decode cX2_has 1 = .ok (.ifCond .ne 21, 3) := by decide +kernel
theorem dX2_has_4 : decode cX2_has 4 = .ok (.aload_n 0, 1) := by decide +kernel
theorem dX2_has_5 : decode cX2_has 5 = .ok (.getfield 12, 3) := by decide +kernel
theorem dX2_has_8 : decode cX2_has 8 = .ok (.getfield 22, 3) := by decide +kernel
theorem dX2_has_11 : decode cX2_has 11 = .ok (.ifCond .le 7, 3) := by decide +kernel
theorem dX2_has_14 : decode cX2_has 14 = .ok (.iconst 1, 1) := by decide +kernel
theorem dX2_has_15 : decode cX2_has 15 = .ok (.goto 22, 3) := by decide +kernel
theorem dX2_has_18 : decode cX2_has 18 = .ok (.iconst 0, 1) := by decide +kernel
theorem dX2_has_19 : decode cX2_has 19 = .ok (.goto 18, 3) := by decide +kernel
theorem dX2_has_22 : decode cX2_has 22 = .ok (.aload_n 0, 1) := by decide +kernel
theorem dX2_has_23 : decode cX2_has 23 = .ok (.getfield 18, 3) := by decide +kernel
theorem dX2_has_26 : decode cX2_has 26 = .ok (.iload_n 1, 1) := by decide +kernel
theorem dX2_has_27 : decode cX2_has 27 = .ok (.iaload, 1) := by decide +kernel
theorem dX2_has_28 : decode cX2_has 28 = .ok (.iconst (-1), 1) := by decide +kernel
theorem dX2_has_29 : decode cX2_has 29 = .ok (.if_icmp .eq 7, 3) := by decide +kernel
theorem dX2_has_32 : decode cX2_has 32 = .ok (.iconst 1, 1) := by decide +kernel
theorem dX2_has_33 : decode cX2_has 33 = .ok (.goto 4, 3) := by decide +kernel
theorem dX2_has_36 : decode cX2_has 36 = .ok (.iconst 0, 1) := by decide +kernel
theorem dX2_has_37 : decode cX2_has 37 = .ok (.ireturn, 1) := by decide +kernel
theorem dX2_agrees_0 : decode cX2_agrees 0 = .ok (.iload_n 2, 1) := by decide +kernel
theorem dX2_agrees_1 : decode cX2_agrees 1 = .ok (.ifCond .ne 40, 3) := by decide +kernel
theorem dX2_agrees_4 : decode cX2_agrees 4 = .ok (.aload_n 0, 1) := by decide +kernel
theorem dX2_agrees_5 : decode cX2_agrees 5 = .ok (.getfield 12, 3) := by decide +kernel
theorem dX2_agrees_8 : decode cX2_agrees 8 = .ok (.getfield 22, 3) := by decide +kernel
theorem dX2_agrees_11 : decode cX2_agrees 11 = .ok (.aload_n 1, 1) := by decide +kernel
theorem dX2_agrees_12 : decode cX2_agrees 12 = .ok (.getfield 12, 3) := by decide +kernel
theorem dX2_agrees_15 : decode cX2_agrees 15 = .ok (.getfield 22, 3) := by decide +kernel
theorem dX2_agrees_18 : decode cX2_agrees 18 = .ok (.if_icmp .ne 21, 3) := by decide +kernel
theorem dX2_agrees_21 : decode cX2_agrees 21 = .ok (.aload_n 0, 1) := by decide +kernel
theorem dX2_agrees_22 : decode cX2_agrees 22 = .ok (.getfield 12, 3) := by decide +kernel
theorem dX2_agrees_25 : decode cX2_agrees 25 = .ok (.aload_n 1, 1) := by decide +kernel
theorem dX2_agrees_26 : decode cX2_agrees 26 = .ok (.getfield 12, 3) := by decide +kernel
theorem dX2_agrees_29 : decode cX2_agrees 29 = .ok (.invokevirtual 26, 3) := by decide +kernel
theorem dX2_agrees_32 : decode cX2_agrees 32 = .ok (.ifCond .eq 7, 3) := by decide +kernel
theorem dX2_agrees_35 : decode cX2_agrees 35 = .ok (.iconst 1, 1) := by decide +kernel
theorem dX2_agrees_36 : decode cX2_agrees 36 = .ok (.goto 4, 3) := by decide +kernel
theorem dX2_agrees_39 : decode cX2_agrees 39 = .ok (.iconst 0, 1) := by decide +kernel
theorem dX2_agrees_40 : decode cX2_agrees 40 = .ok (.ireturn, 1) := by decide +kernel
theorem dX2_agrees_41 : decode cX2_agrees 41 = .ok (.aload_n 0, 1) := by decide +kernel
theorem dX2_agrees_42 : decode cX2_agrees 42 = .ok (.getfield 18, 3) := by decide +kernel
theorem dX2_agrees_45 : decode cX2_agrees 45 = .ok (.iload_n 2, 1) := by decide +kernel
theorem dX2_agrees_46 : decode cX2_agrees 46 = .ok (.iaload, 1) := by decide +kernel
theorem dX2_agrees_47 : decode cX2_agrees 47 = .ok (.aload_n 1, 1) := by decide +kernel
theorem dX2_agrees_48 : decode cX2_agrees 48 = .ok (.getfield 18, 3) := by decide +kernel
theorem dX2_agrees_51 : decode cX2_agrees 51 = .ok (.iload_n 2, 1) := by decide +kernel
theorem dX2_agrees_52 : decode cX2_agrees 52 = .ok (.iaload, 1) := by decide +kernel
theorem dX2_agrees_53 : decode cX2_agrees 53 = .ok (.if_icmp .ne 7, 3) := by decide +kernel
theorem dX2_agrees_56 : decode cX2_agrees 56 = .ok (.iconst 1, 1) := by decide +kernel
theorem dX2_agrees_57 : decode cX2_agrees 57 = .ok (.goto 4, 3) := by decide +kernel
theorem dX2_agrees_60 : decode cX2_agrees 60 = .ok (.iconst 0, 1) := by decide +kernel
theorem dX2_agrees_61 : decode cX2_agrees 61 = .ok (.ireturn, 1) := by decide +kernel
theorem dX2_key_0 : decode cX2_key 0 = .ok (.iload_n 1, 1) := by decide +kernel
theorem dX2_key_1 : decode cX2_key 1 = .ok (.ifCond .ne 13, 3) := by decide +kernel
theorem dX2_key_4 : decode cX2_key 4 = .ok (.aload_n 0, 1) := by decide +kernel
theorem dX2_key_5 : decode cX2_key 5 = .ok (.getfield 12, 3) := by decide +kernel
theorem dX2_key_8 : decode cX2_key 8 = .ok (.invokevirtual 30, 3) := by decide +kernel
theorem dX2_key_11 : decode cX2_key 11 = .ok (.goto 9, 3) := by decide +kernel
theorem dX2_key_14 : decode cX2_key 14 = .ok (.aload_n 0, 1) := by decide +kernel
theorem dX2_key_15 : decode cX2_key 15 = .ok (.getfield 18, 3) := by decide +kernel
theorem dX2_key_18 : decode cX2_key 18 = .ok (.iload_n 1, 1) := by decide +kernel
theorem dX2_key_19 : decode cX2_key 19 = .ok (.iaload, 1) := by decide +kernel
theorem dX2_key_20 : decode cX2_key 20 = .ok (.ireturn, 1) := by decide +kernel
theorem dX3_init_0 : decode cX3_init 0 = .ok (.aload_n 0, 1) := by decide +kernel
theorem dX3_init_1 : decode cX3_init 1 = .ok (.invokespecial 3, 3) := by decide +kernel
theorem dX3_init_4 : decode cX3_init 4 = .ok (.aload_n 0, 1) := by decide +kernel
theorem dX3_init_5 : decode cX3_init 5 = .ok (.bipush 30, 2) := by decide +kernel
theorem dX3_init_7 : decode cX3_init 7 = .ok (.newarray .int, 2) := by decide +kernel
theorem dX3_init_9 : decode cX3_init 9 = .ok (.putfield 9, 3) := by decide +kernel
theorem dX3_init_12 : decode cX3_init 12 = .ok (.aload_n 0, 1) := by decide +kernel
theorem dX3_init_13 : decode cX3_init 13 = .ok (.bipush 30, 2) := by decide +kernel
theorem dX3_init_15 : decode cX3_init 15 = .ok (.newarray .int, 2) := by decide +kernel
theorem dX3_init_17 : decode cX3_init 17 = .ok (.putfield 15, 3) := by decide +kernel
theorem dX3_init_20 : decode cX3_init 20 = .ok (.aload_n 0, 1) := by decide +kernel
theorem dX3_init_21 : decode cX3_init 21 = .ok (.bipush 30, 2) := by decide +kernel
theorem dX3_init_23 : decode cX3_init 23 = .ok (.newarray .boolean, 2) := by decide +kernel
theorem dX3_init_25 : decode cX3_init 25 = .ok (.putfield 18, 3) := by decide +kernel
theorem dX3_init_28 : decode cX3_init 28 = .ok (.aload_n 0, 1) := by decide +kernel
theorem dX3_init_29 : decode cX3_init 29 = .ok (.new 22, 3) := by decide +kernel
theorem dX3_init_32 : decode cX3_init 32 = .ok (.dup, 1) := by decide +kernel
theorem dX3_init_33 : decode cX3_init 33 = .ok (.invokespecial 24, 3) := by decide +kernel
theorem dX3_init_36 : decode cX3_init 36 = .ok (.putfield 25, 3) := by decide +kernel
theorem dX3_init_39 : decode cX3_init 39 = .ok (.aload_n 0, 1) := by decide +kernel
theorem dX3_init_40 : decode cX3_init 40 = .ok (.bipush 16, 2) := by decide +kernel
theorem dX3_init_42 : decode cX3_init 42 = .ok (.newarray .int, 2) := by decide +kernel
theorem dX3_init_44 : decode cX3_init 44 = .ok (.putfield 29, 3) := by decide +kernel
theorem dX3_init_47 : decode cX3_init 47 = .ok (.return_, 1) := by decide +kernel
theorem dX3_isFull_0 : decode cX3_isFull 0 = .ok (.aload_n 0, 1) := by decide +kernel
theorem dX3_isFull_1 : decode cX3_isFull 1 = .ok (.getfield 32, 3) := by decide +kernel
theorem dX3_isFull_4 : decode cX3_isFull 4 = .ok (.bipush 30, 2) := by decide +kernel
theorem dX3_isFull_6 : decode cX3_isFull 6 = .ok (.if_icmp .lt 7, 3) := by decide +kernel
theorem dX3_isFull_9 : decode cX3_isFull 9 = .ok (.iconst 1, 1) := by decide +kernel
theorem dX3_isFull_10 : decode cX3_isFull 10 = .ok (.goto 4, 3) := by decide +kernel
theorem dX3_isFull_13 : decode cX3_isFull 13 = .ok (.iconst 0, 1) := by decide +kernel
theorem dX3_isFull_14 : decode cX3_isFull 14 = .ok (.ireturn, 1) := by decide +kernel
theorem dX3_make_0 : decode cX3_make 0 = .ok (.aload_n 0, 1) := by decide +kernel
theorem dX3_make_1 : decode cX3_make 1 = .ok (.invokevirtual 36, 3) := by decide +kernel
theorem dX3_make_4 : decode cX3_make 4 = .ok (.ifCond .eq 5, 3) := by decide +kernel
theorem dX3_make_7 : decode cX3_make 7 = .ok (.iconst (-1), 1) := by decide +kernel
theorem dX3_make_8 : decode cX3_make 8 = .ok (.ireturn, 1) := by decide +kernel
theorem dX3_make_9 : decode cX3_make 9 = .ok (.aload_n 0, 1) := by decide +kernel
theorem dX3_make_10 : decode cX3_make 10 = .ok (.getfield 9, 3) := by decide +kernel
theorem dX3_make_13 : decode cX3_make 13 = .ok (.aload_n 0, 1) := by decide +kernel
theorem dX3_make_14 : decode cX3_make 14 = .ok (.getfield 32, 3) := by decide +kernel
theorem dX3_make_17 : decode cX3_make 17 = .ok (.iload_n 1, 1) := by decide +kernel
theorem dX3_make_18 : decode cX3_make 18 = .ok (.iastore, 1) := by decide +kernel
theorem dX3_make_19 : decode cX3_make 19 = .ok (.aload_n 0, 1) := by decide +kernel
theorem dX3_make_20 : decode cX3_make 20 = .ok (.getfield 15, 3) := by decide +kernel
theorem dX3_make_23 : decode cX3_make 23 = .ok (.aload_n 0, 1) := by decide +kernel
theorem dX3_make_24 : decode cX3_make 24 = .ok (.getfield 32, 3) := by decide +kernel
theorem dX3_make_27 : decode cX3_make 27 = .ok (.iload_n 2, 1) := by decide +kernel
theorem dX3_make_28 : decode cX3_make 28 = .ok (.iastore, 1) := by decide +kernel
theorem dX3_make_29 : decode cX3_make 29 = .ok (.aload_n 0, 1) := by decide +kernel
theorem dX3_make_30 : decode cX3_make 30 = .ok (.getfield 18, 3) := by decide +kernel
theorem dX3_make_33 : decode cX3_make 33 = .ok (.aload_n 0, 1) := by decide +kernel
theorem dX3_make_34 : decode cX3_make 34 = .ok (.getfield 32, 3) := by decide +kernel
theorem dX3_make_37 : decode cX3_make 37 = .ok (.iconst 1, 1) := by decide +kernel
theorem dX3_make_38 : decode cX3_make 38 = .ok (.bastore, 1) := by decide +kernel
theorem dX3_make_39 : decode cX3_make 39 = .ok (.aload_n 0, 1) := by decide +kernel
theorem dX3_make_40 : decode cX3_make 40 = .ok (.getfield 25, 3) := by decide +kernel
theorem dX3_make_43 : decode cX3_make 43 = .ok (.iload_n 1, 1) := by decide +kernel
theorem dX3_make_44 : decode cX3_make 44 = .ok (.iload_n 2, 1) := by decide +kernel
theorem dX3_make_45 : decode cX3_make 45 = .ok (.invokevirtual 40, 3) := by decide +kernel
theorem dX3_make_48 : decode cX3_make 48 = .ok (.aload_n 0, 1) := by decide +kernel
theorem dX3_make_49 : decode cX3_make 49 = .ok (.dup, 1) := by decide +kernel
theorem dX3_make_50 : decode cX3_make 50 = .ok (.getfield 32, 3) := by decide +kernel
theorem dX3_make_53 : decode cX3_make 53 = .ok (.iconst 1, 1) := by decide +kernel
theorem dX3_make_54 : decode cX3_make 54 = .ok (.iadd, 1) := by decide +kernel
theorem dX3_make_55 : decode cX3_make 55 = .ok (.putfield 32, 3) := by decide +kernel
theorem dX3_make_58 : decode cX3_make 58 = .ok (.aload_n 0, 1) := by decide +kernel
theorem dX3_make_59 : decode cX3_make 59 = .ok (.getfield 32, 3) := by decide +kernel
theorem dX3_make_62 : decode cX3_make 62 = .ok (.iconst 1, 1) := by decide +kernel
theorem dX3_make_63 : decode cX3_make 63 = .ok (.isub, 1) := by decide +kernel
theorem dX3_make_64 : decode cX3_make 64 = .ok (.ireturn, 1) := by decide +kernel
theorem dX3_takeBack_0 : decode cX3_takeBack 0 = .ok (.aload_n 0, 1) := by decide +kernel
theorem dX3_takeBack_1 : decode cX3_takeBack 1 = .ok (.getfield 18, 3) := by decide +kernel
theorem dX3_takeBack_4 : decode cX3_takeBack 4 = .ok (.iload_n 1, 1) := by decide +kernel
theorem dX3_takeBack_5 : decode cX3_takeBack 5 = .ok (.iconst 0, 1) := by decide +kernel
theorem dX3_takeBack_6 : decode cX3_takeBack 6 = .ok (.bastore, 1) := by decide +kernel
theorem dX3_takeBack_7 : decode cX3_takeBack 7 = .ok (.aload_n 0, 1) := by decide +kernel
theorem dX3_takeBack_8 : decode cX3_takeBack 8 = .ok (.getfield 25, 3) := by decide +kernel
theorem dX3_takeBack_11 : decode cX3_takeBack 11 = .ok (.aload_n 0, 1) := by decide +kernel
theorem dX3_takeBack_12 : decode cX3_takeBack 12 = .ok (.getfield 9, 3) := by decide +kernel
theorem dX3_takeBack_15 : decode cX3_takeBack 15 = .ok (.iload_n 1, 1) := by decide +kernel
theorem dX3_takeBack_16 : decode cX3_takeBack 16 = .ok (.iaload, 1) := by decide +kernel
theorem dX3_takeBack_17 : decode cX3_takeBack 17 = .ok (.aload_n 0, 1) := by decide +kernel
theorem dX3_takeBack_18 : decode cX3_takeBack 18 = .ok (.getfield 15, 3) := by decide +kernel
theorem dX3_takeBack_21 : decode cX3_takeBack 21 = .ok (.iload_n 1, 1) := by decide +kernel
theorem dX3_takeBack_22 : decode cX3_takeBack 22 = .ok (.iaload, 1) := by decide +kernel
theorem dX3_takeBack_23 : decode cX3_takeBack 23 = .ok (.invokevirtual 44, 3) := by decide +kernel
theorem dX3_takeBack_26 : decode cX3_takeBack 26 = .ok (.return_, 1) := by decide +kernel
theorem dX3_joinedWith_0 : decode cX3_joinedWith 0 = .ok (.iconst 1, 1) := by decide +kernel
theorem dX3_joinedWith_1 : decode cX3_joinedWith 1 = .ok (.iload_n 1, 1) := by decide +kernel
theorem dX3_joinedWith_2 : decode cX3_joinedWith 2 = .ok (.ishl, 1) := by decide +kernel
theorem dX3_joinedWith_3 : decode cX3_joinedWith 3 = .ok (.istore_n 2, 1) := by decide +kernel
theorem dX3_joinedWith_4 : decode cX3_joinedWith 4 = .ok (.iload_n 2, 1) := by decide +kernel
theorem dX3_joinedWith_5 : decode cX3_joinedWith 5 = .ok (.istore_n 3, 1) := by decide +kernel
theorem dX3_joinedWith_6 : decode cX3_joinedWith 6 = .ok (.iconst 0, 1) := by decide +kernel
theorem dX3_joinedWith_7 : decode cX3_joinedWith 7 = .ok (.istore 4, 2) := by decide +kernel
theorem dX3_joinedWith_9 : decode cX3_joinedWith 9 = .ok (.iload 4, 2) := by decide +kernel
theorem dX3_joinedWith_11 : decode cX3_joinedWith 11 = .ok (.bipush 16, 2) := by decide +kernel
theorem dX3_joinedWith_13 : decode cX3_joinedWith 13 = .ok (.if_icmp .ge 30, 3) := by decide +kernel
theorem dX3_joinedWith_16 : decode cX3_joinedWith 16 = .ok (.iload_n 3, 1) := by decide +kernel
theorem dX3_joinedWith_17 : decode cX3_joinedWith 17 = .ok (.ifCond .eq 26, 3) := by decide +kernel
theorem dX3_joinedWith_20 : decode cX3_joinedWith 20 = .ok (.aload_n 0, 1) := by decide +kernel
theorem dX3_joinedWith_21 : decode cX3_joinedWith 21 = .ok (.getfield 25, 3) := by decide +kernel
theorem dX3_joinedWith_24 : decode cX3_joinedWith 24 = .ok (.iload_n 3, 1) := by decide +kernel
theorem dX3_joinedWith_25 : decode cX3_joinedWith 25 = .ok (.invokevirtual 47, 3) := by decide +kernel
theorem dX3_joinedWith_28 : decode cX3_joinedWith 28 = .ok (.iload_n 2, 1) := by decide +kernel
theorem dX3_joinedWith_29 : decode cX3_joinedWith 29 = .ok (.iconst (-1), 1) := by decide +kernel
theorem dX3_joinedWith_30 : decode cX3_joinedWith 30 = .ok (.ixor, 1) := by decide +kernel
theorem dX3_joinedWith_31 : decode cX3_joinedWith 31 = .ok (.iand, 1) := by decide +kernel
theorem dX3_joinedWith_32 : decode cX3_joinedWith 32 = .ok (.istore_n 3, 1) := by decide +kernel
theorem dX3_joinedWith_33 : decode cX3_joinedWith 33 = .ok (.iload_n 2, 1) := by decide +kernel
theorem dX3_joinedWith_34 : decode cX3_joinedWith 34 = .ok (.iload_n 3, 1) := by decide +kernel
theorem dX3_joinedWith_35 : decode cX3_joinedWith 35 = .ok (.ior, 1) := by decide +kernel
theorem dX3_joinedWith_36 : decode cX3_joinedWith 36 = .ok (.istore_n 2, 1) := by decide +kernel
theorem dX3_joinedWith_37 : decode cX3_joinedWith 37 = .ok (.iinc 4 1, 3) := by decide +kernel
theorem dX3_joinedWith_40 : decode cX3_joinedWith 40 = .ok (.goto (-31), 3) := by decide +kernel
theorem dX3_joinedWith_43 : decode cX3_joinedWith 43 = .ok (.iload_n 2, 1) := by decide +kernel
theorem dX3_joinedWith_44 : decode cX3_joinedWith 44 = .ok (.ireturn, 1) := by decide +kernel
theorem dX3_distance_0 : decode cX3_distance 0 = .ok (.iconst 1, 1) := by decide +kernel
theorem dX3_distance_1 : decode cX3_distance 1 = .ok (.iload_n 1, 1) := by decide +kernel
theorem dX3_distance_2 : decode cX3_distance 2 = .ok (.ishl, 1) := by decide +kernel
theorem dX3_distance_3 : decode cX3_distance 3 = .ok (.istore_n 3, 1) := by decide +kernel
theorem dX3_distance_4 : decode cX3_distance 4 = .ok (.iconst 0, 1) := by decide +kernel
theorem dX3_distance_5 : decode cX3_distance 5 = .ok (.istore 4, 2) := by decide +kernel
theorem dX3_distance_7 : decode cX3_distance 7 = .ok (.iload 4, 2) := by decide +kernel
theorem dX3_distance_9 : decode cX3_distance 9 = .ok (.bipush 16, 2) := by decide +kernel
theorem dX3_distance_11 : decode cX3_distance 11 = .ok (.if_icmp .ge 31, 3) := by decide +kernel
theorem dX3_distance_14 : decode cX3_distance 14 = .ok (.iload_n 3, 1) := by decide +kernel
theorem dX3_distance_15 : decode cX3_distance 15 = .ok (.iload_n 2, 1) := by decide +kernel
theorem dX3_distance_16 : decode cX3_distance 16 = .ok (.invokestatic 51, 3) := by decide +kernel
theorem dX3_distance_19 : decode cX3_distance 19 = .ok (.ifCond .eq 6, 3) := by decide +kernel
theorem dX3_distance_22 : decode cX3_distance 22 = .ok (.iload 4, 2) := by decide +kernel
theorem dX3_distance_24 : decode cX3_distance 24 = .ok (.ireturn, 1) := by decide +kernel
theorem dX3_distance_25 : decode cX3_distance 25 = .ok (.iload_n 3, 1) := by decide +kernel
theorem dX3_distance_26 : decode cX3_distance 26 = .ok (.aload_n 0, 1) := by decide +kernel
theorem dX3_distance_27 : decode cX3_distance 27 = .ok (.getfield 25, 3) := by decide +kernel
theorem dX3_distance_30 : decode cX3_distance 30 = .ok (.iload_n 3, 1) := by decide +kernel
theorem dX3_distance_31 : decode cX3_distance 31 = .ok (.invokevirtual 47, 3) := by decide +kernel
theorem dX3_distance_34 : decode cX3_distance 34 = .ok (.ior, 1) := by decide +kernel
theorem dX3_distance_35 : decode cX3_distance 35 = .ok (.istore_n 3, 1) := by decide +kernel
theorem dX3_distance_36 : decode cX3_distance 36 = .ok (.iinc 4 1, 3) := by decide +kernel
theorem dX3_distance_39 : decode cX3_distance 39 = .ok (.goto (-32), 3) := by decide +kernel
theorem dX3_distance_42 : decode cX3_distance 42 = .ok (.iconst (-1), 1) := by decide +kernel
theorem dX3_distance_43 : decode cX3_distance 43 = .ok (.ireturn, 1) := by decide +kernel
theorem dX3_labelByRounds_0 : decode cX3_labelByRounds 0 = .ok (.iconst 0, 1) := by decide +kernel
theorem dX3_labelByRounds_1 : decode cX3_labelByRounds 1 = .ok (.istore_n 1, 1) := by decide +kernel
theorem dX3_labelByRounds_2 : decode cX3_labelByRounds 2 = .ok (.iload_n 1, 1) := by decide +kernel
theorem dX3_labelByRounds_3 : decode cX3_labelByRounds 3 = .ok (.bipush 16, 2) := by decide +kernel
theorem dX3_labelByRounds_5 : decode cX3_labelByRounds 5 = .ok (.if_icmp .ge 16, 3) := by decide +kernel
theorem dX3_labelByRounds_8 : decode cX3_labelByRounds 8 = .ok (.aload_n 0, 1) := by decide +kernel
theorem dX3_labelByRounds_9 : decode cX3_labelByRounds 9 = .ok (.getfield 29, 3) := by decide +kernel
theorem dX3_labelByRounds_12 : decode cX3_labelByRounds 12 = .ok (.iload_n 1, 1) := by decide +kernel
theorem dX3_labelByRounds_13 : decode cX3_labelByRounds 13 = .ok (.iload_n 1, 1) := by decide +kernel
theorem dX3_labelByRounds_14 : decode cX3_labelByRounds 14 = .ok (.iastore, 1) := by decide +kernel
theorem dX3_labelByRounds_15 : decode cX3_labelByRounds 15 = .ok (.iinc 1 1, 3) := by decide +kernel
theorem dX3_labelByRounds_18 : decode cX3_labelByRounds 18 = .ok (.goto (-16), 3) := by decide +kernel
theorem dX3_labelByRounds_21 : decode cX3_labelByRounds 21 = .ok (.iconst 1, 1) := by decide +kernel
theorem dX3_labelByRounds_22 : decode cX3_labelByRounds 22 = .ok (.istore_n 1, 1) := by decide +kernel
theorem dX3_labelByRounds_23 : decode cX3_labelByRounds 23 = .ok (.iconst 0, 1) := by decide +kernel
theorem dX3_labelByRounds_24 : decode cX3_labelByRounds 24 = .ok (.istore_n 2, 1) := by decide +kernel
theorem dX3_labelByRounds_25 : decode cX3_labelByRounds 25 = .ok (.iload_n 2, 1) := by decide +kernel
theorem dX3_labelByRounds_26 : decode cX3_labelByRounds 26 = .ok (.bipush 16, 2) := by decide +kernel
theorem dX3_labelByRounds_28 : decode cX3_labelByRounds 28 = .ok (.if_icmp .ge 120, 3) := by decide +kernel
theorem dX3_labelByRounds_31 : decode cX3_labelByRounds 31 = .ok (.iload_n 1, 1) := by decide +kernel
theorem dX3_labelByRounds_32 : decode cX3_labelByRounds 32 = .ok (.ifCond .eq 116, 3) := by decide +kernel
theorem dX3_labelByRounds_35 : decode cX3_labelByRounds 35 = .ok (.iconst 0, 1) := by decide +kernel
theorem dX3_labelByRounds_36 : decode cX3_labelByRounds 36 = .ok (.istore_n 1, 1) := by decide +kernel
theorem dX3_labelByRounds_37 : decode cX3_labelByRounds 37 = .ok (.iconst 0, 1) := by decide +kernel
theorem dX3_labelByRounds_38 : decode cX3_labelByRounds 38 = .ok (.istore_n 3, 1) := by decide +kernel
theorem dX3_labelByRounds_39 : decode cX3_labelByRounds 39 = .ok (.iload_n 3, 1) := by decide +kernel
theorem dX3_labelByRounds_40 : decode cX3_labelByRounds 40 = .ok (.aload_n 0, 1) := by decide +kernel
theorem dX3_labelByRounds_41 : decode cX3_labelByRounds 41 = .ok (.getfield 32, 3) := by decide +kernel
theorem dX3_labelByRounds_44 : decode cX3_labelByRounds 44 = .ok (.if_icmp .ge 98, 3) := by decide +kernel
theorem dX3_labelByRounds_47 : decode cX3_labelByRounds 47 = .ok (.aload_n 0, 1) := by decide +kernel
theorem dX3_labelByRounds_48 : decode cX3_labelByRounds 48 = .ok (.getfield 18, 3) := by decide +kernel
theorem dX3_labelByRounds_51 : decode cX3_labelByRounds 51 = .ok (.iload_n 3, 1) := by decide +kernel
theorem dX3_labelByRounds_52 : decode cX3_labelByRounds 52 = .ok (.baload, 1) := by decide +kernel
theorem dX3_labelByRounds_53 : decode cX3_labelByRounds 53 = .ok (.ifCond .eq 83, 3) := by decide +kernel
theorem dX3_labelByRounds_56 : decode cX3_labelByRounds 56 = .ok (.aload_n 0, 1) := by decide +kernel
theorem dX3_labelByRounds_57 : decode cX3_labelByRounds 57 = .ok (.getfield 29, 3) := by decide +kernel
theorem dX3_labelByRounds_60 : decode cX3_labelByRounds 60 = .ok (.aload_n 0, 1) := by decide +kernel
theorem dX3_labelByRounds_61 : decode cX3_labelByRounds 61 = .ok (.getfield 9, 3) := by decide +kernel
theorem dX3_labelByRounds_64 : decode cX3_labelByRounds 64 = .ok (.iload_n 3, 1) := by decide +kernel
theorem dX3_labelByRounds_65 : decode cX3_labelByRounds 65 = .ok (.iaload, 1) := by decide +kernel
theorem dX3_labelByRounds_66 : decode cX3_labelByRounds 66 = .ok (.iaload, 1) := by decide +kernel
theorem dX3_labelByRounds_67 : decode cX3_labelByRounds 67 = .ok (.aload_n 0, 1) := by decide +kernel
theorem dX3_labelByRounds_68 : decode cX3_labelByRounds 68 = .ok (.getfield 29, 3) := by decide +kernel
theorem dX3_labelByRounds_71 : decode cX3_labelByRounds 71 = .ok (.aload_n 0, 1) := by decide +kernel
theorem dX3_labelByRounds_72 : decode cX3_labelByRounds 72 = .ok (.getfield 15, 3) := by decide +kernel
theorem dX3_labelByRounds_75 : decode cX3_labelByRounds 75 = .ok (.iload_n 3, 1) := by decide +kernel
theorem dX3_labelByRounds_76 : decode cX3_labelByRounds 76 = .ok (.iaload, 1) := by decide +kernel
theorem dX3_labelByRounds_77 : decode cX3_labelByRounds 77 = .ok (.iaload, 1) := by decide +kernel
theorem dX3_labelByRounds_78 : decode cX3_labelByRounds 78 = .ok (.if_icmp .eq 58, 3) := by decide +kernel
theorem dX3_labelByRounds_81 : decode cX3_labelByRounds 81 = .ok (.aload_n 0, 1) := by decide +kernel
theorem dX3_labelByRounds_82 : decode cX3_labelByRounds 82 = .ok (.getfield 29, 3) := by decide +kernel
theorem dX3_labelByRounds_85 : decode cX3_labelByRounds 85 = .ok (.aload_n 0, 1) := by decide +kernel
theorem dX3_labelByRounds_86 : decode cX3_labelByRounds 86 = .ok (.getfield 9, 3) := by decide +kernel
theorem dX3_labelByRounds_89 : decode cX3_labelByRounds 89 = .ok (.iload_n 3, 1) := by decide +kernel
theorem dX3_labelByRounds_90 : decode cX3_labelByRounds 90 = .ok (.iaload, 1) := by decide +kernel
theorem dX3_labelByRounds_91 : decode cX3_labelByRounds 91 = .ok (.iaload, 1) := by decide +kernel
theorem dX3_labelByRounds_92 : decode cX3_labelByRounds 92 = .ok (.aload_n 0, 1) := by decide +kernel
theorem dX3_labelByRounds_93 : decode cX3_labelByRounds 93 = .ok (.getfield 29, 3) := by decide +kernel
theorem dX3_labelByRounds_96 : decode cX3_labelByRounds 96 = .ok (.aload_n 0, 1) := by decide +kernel
theorem dX3_labelByRounds_97 : decode cX3_labelByRounds 97 = .ok (.getfield 15, 3) := by decide +kernel
theorem dX3_labelByRounds_100 : decode cX3_labelByRounds 100 = .ok (.iload_n 3, 1) := by decide +kernel
theorem dX3_labelByRounds_101 : decode cX3_labelByRounds 101 = .ok (.iaload, 1) := by decide +kernel
theorem dX3_labelByRounds_102 : decode cX3_labelByRounds 102 = .ok (.iaload, 1) := by decide +kernel
theorem dX3_labelByRounds_103 : decode cX3_labelByRounds 103 = .ok (.invokestatic 55, 3) := by decide +kernel
theorem dX3_labelByRounds_106 : decode cX3_labelByRounds 106 = .ok (.istore 4, 2) := by decide +kernel
theorem dX3_labelByRounds_108 : decode cX3_labelByRounds 108 = .ok (.aload_n 0, 1) := by decide +kernel
theorem dX3_labelByRounds_109 : decode cX3_labelByRounds 109 = .ok (.getfield 29, 3) := by decide +kernel
theorem dX3_labelByRounds_112 : decode cX3_labelByRounds 112 = .ok (.aload_n 0, 1) := by decide +kernel
theorem dX3_labelByRounds_113 : decode cX3_labelByRounds 113 = .ok (.getfield 9, 3) := by decide +kernel
theorem dX3_labelByRounds_116 : decode cX3_labelByRounds 116 = .ok (.iload_n 3, 1) := by decide +kernel
theorem dX3_labelByRounds_117 : decode cX3_labelByRounds 117 = .ok (.iaload, 1) := by decide +kernel
theorem dX3_labelByRounds_118 : decode cX3_labelByRounds 118 = .ok (.iload 4, 2) := by decide +kernel
theorem dX3_labelByRounds_120 : decode cX3_labelByRounds 120 = .ok (.iastore, 1) := by decide +kernel
theorem dX3_labelByRounds_121 : decode cX3_labelByRounds 121 = .ok (.aload_n 0, 1) := by decide +kernel
theorem dX3_labelByRounds_122 : decode cX3_labelByRounds 122 = .ok (.getfield 29, 3) := by decide +kernel
theorem dX3_labelByRounds_125 : decode cX3_labelByRounds 125 = .ok (.aload_n 0, 1) := by decide +kernel
theorem dX3_labelByRounds_126 : decode cX3_labelByRounds 126 = .ok (.getfield 15, 3) := by decide +kernel
theorem dX3_labelByRounds_129 : decode cX3_labelByRounds 129 = .ok (.iload_n 3, 1) := by decide +kernel
theorem dX3_labelByRounds_130 : decode cX3_labelByRounds 130 = .ok (.iaload, 1) := by decide +kernel
theorem dX3_labelByRounds_131 : decode cX3_labelByRounds 131 = .ok (.iload 4, 2) := by decide +kernel
theorem dX3_labelByRounds_133 : decode cX3_labelByRounds 133 = .ok (.iastore, 1) := by decide +kernel
theorem dX3_labelByRounds_134 : decode cX3_labelByRounds 134 = .ok (.iconst 1, 1) := by decide +kernel
theorem dX3_labelByRounds_135 : decode cX3_labelByRounds 135 = .ok (.istore_n 1, 1) := by decide +kernel
theorem dX3_labelByRounds_136 : decode cX3_labelByRounds 136 = .ok (.iinc 3 1, 3) := by decide +kernel
theorem dX3_labelByRounds_139 : decode cX3_labelByRounds 139 = .ok (.goto (-100), 3) := by decide +kernel
theorem dX3_labelByRounds_142 : decode cX3_labelByRounds 142 = .ok (.iinc 2 1, 3) := by decide +kernel
theorem dX3_labelByRounds_145 : decode cX3_labelByRounds 145 = .ok (.goto (-120), 3) := by decide +kernel
theorem dX3_labelByRounds_148 : decode cX3_labelByRounds 148 = .ok (.return_, 1) := by decide +kernel
theorem dX4_init_0 : decode cX4_init 0 = .ok (.aload_n 0, 1) := by decide +kernel
theorem dX4_init_1 : decode cX4_init 1 = .ok (.invokespecial 3, 3) := by decide +kernel
theorem dX4_init_4 : decode cX4_init 4 = .ok (.aload_n 0, 1) := by decide +kernel
theorem dX4_init_5 : decode cX4_init 5 = .ok (.bipush 10, 2) := by decide +kernel
theorem dX4_init_7 : decode cX4_init 7 = .ok (.newarray .char, 2) := by decide +kernel
theorem dX4_init_9 : decode cX4_init 9 = .ok (.putfield 9, 3) := by decide +kernel
theorem dX4_init_12 : decode cX4_init 12 = .ok (.aload_n 0, 1) := by decide +kernel
theorem dX4_init_13 : decode cX4_init 13 = .ok (.iconst 4, 1) := by decide +kernel
theorem dX4_init_14 : decode cX4_init 14 = .ok (.newarray .char, 2) := by decide +kernel
theorem dX4_init_16 : decode cX4_init 16 = .ok (.putfield 15, 3) := by decide +kernel
theorem dX4_init_19 : decode cX4_init 19 = .ok (.return_, 1) := by decide +kernel
theorem dX4_append_0 : decode cX4_append 0 = .ok (.aload_n 0, 1) := by decide +kernel
theorem dX4_append_1 : decode cX4_append 1 = .ok (.getfield 18, 3) := by decide +kernel
theorem dX4_append_4 : decode cX4_append 4 = .ok (.bipush 10, 2) := by decide +kernel
theorem dX4_append_6 : decode cX4_append 6 = .ok (.if_icmp .lt 4, 3) := by decide +kernel
theorem dX4_append_9 : decode cX4_append 9 = .ok (.return_, 1) := by decide +kernel
theorem dX4_append_10 : decode cX4_append 10 = .ok (.iload_n 1, 1) := by decide +kernel
theorem dX4_append_11 : decode cX4_append 11 = .ok (.invokestatic 22, 3) := by decide +kernel
theorem dX4_append_14 : decode cX4_append 14 = .ok (.istore_n 2, 1) := by decide +kernel
theorem dX4_append_15 : decode cX4_append 15 = .ok (.aload_n 0, 1) := by decide +kernel
theorem dX4_append_16 : decode cX4_append 16 = .ok (.getfield 18, 3) := by decide +kernel
theorem dX4_append_19 : decode cX4_append 19 = .ok (.ifCond .ne 11, 3) := by decide +kernel
theorem dX4_append_22 : decode cX4_append 22 = .ok (.aload_n 0, 1) := by decide +kernel
theorem dX4_append_23 : decode cX4_append 23 = .ok (.iload_n 1, 1) := by decide +kernel
theorem dX4_append_24 : decode cX4_append 24 = .ok (.invokevirtual 26, 3) := by decide +kernel
theorem dX4_append_27 : decode cX4_append 27 = .ok (.goto 32, 3) := by decide +kernel
theorem dX4_append_30 : decode cX4_append 30 = .ok (.iload_n 2, 1) := by decide +kernel
theorem dX4_append_31 : decode cX4_append 31 = .ok (.bipush 48, 2) := by decide +kernel
theorem dX4_append_33 : decode cX4_append 33 = .ok (.if_icmp .eq 26, 3) := by decide +kernel
theorem dX4_append_36 : decode cX4_append 36 = .ok (.iload_n 2, 1) := by decide +kernel
theorem dX4_append_37 : decode cX4_append 37 = .ok (.aload_n 0, 1) := by decide +kernel
theorem dX4_append_38 : decode cX4_append 38 = .ok (.getfield 9, 3) := by decide +kernel
theorem dX4_append_41 : decode cX4_append 41 = .ok (.aload_n 0, 1) := by decide +kernel
theorem dX4_append_42 : decode cX4_append 42 = .ok (.getfield 18, 3) := by decide +kernel
theorem dX4_append_45 : decode cX4_append 45 = .ok (.iconst 1, 1) := by decide +kernel
theorem dX4_append_46 : decode cX4_append 46 = .ok (.isub, 1) := by decide +kernel
theorem dX4_append_47 : decode cX4_append 47 = .ok (.caload, 1) := by decide +kernel
theorem dX4_append_48 : decode cX4_append 48 = .ok (.invokestatic 22, 3) := by decide +kernel
theorem dX4_append_51 : decode cX4_append 51 = .ok (.if_icmp .eq 8, 3) := by decide +kernel
theorem dX4_append_54 : decode cX4_append 54 = .ok (.aload_n 0, 1) := by decide +kernel
theorem dX4_append_55 : decode cX4_append 55 = .ok (.iload_n 2, 1) := by decide +kernel
theorem dX4_append_56 : decode cX4_append 56 = .ok (.invokevirtual 26, 3) := by decide +kernel
theorem dX4_append_59 : decode cX4_append 59 = .ok (.aload_n 0, 1) := by decide +kernel
theorem dX4_append_60 : decode cX4_append 60 = .ok (.getfield 9, 3) := by decide +kernel
theorem dX4_append_63 : decode cX4_append 63 = .ok (.aload_n 0, 1) := by decide +kernel
theorem dX4_append_64 : decode cX4_append 64 = .ok (.getfield 18, 3) := by decide +kernel
theorem dX4_append_67 : decode cX4_append 67 = .ok (.iload_n 1, 1) := by decide +kernel
theorem dX4_append_68 : decode cX4_append 68 = .ok (.castore, 1) := by decide +kernel
theorem dX4_append_69 : decode cX4_append 69 = .ok (.aload_n 0, 1) := by decide +kernel
theorem dX4_append_70 : decode cX4_append 70 = .ok (.dup, 1) := by decide +kernel
theorem dX4_append_71 : decode cX4_append 71 = .ok (.getfield 18, 3) := by decide +kernel
theorem dX4_append_74 : decode cX4_append 74 = .ok (.iconst 1, 1) := by decide +kernel
theorem dX4_append_75 : decode cX4_append 75 = .ok (.iadd, 1) := by decide +kernel
theorem dX4_append_76 : decode cX4_append 76 = .ok (.putfield 18, 3) := by decide +kernel
theorem dX4_append_79 : decode cX4_append 79 = .ok (.return_, 1) := by decide +kernel
theorem dX4_extendSound_0 : decode cX4_extendSound 0 = .ok (.aload_n 0, 1) := by decide +kernel
theorem dX4_extendSound_1 : decode cX4_extendSound 1 = .ok (.getfield 30, 3) := by decide +kernel
theorem dX4_extendSound_4 : decode cX4_extendSound 4 = .ok (.iconst 4, 1) := by decide +kernel
theorem dX4_extendSound_5 : decode cX4_extendSound 5 = .ok (.if_icmp .ge 23, 3) := by decide +kernel
theorem dX4_extendSound_8 : decode cX4_extendSound 8 = .ok (.aload_n 0, 1) := by decide +kernel
theorem dX4_extendSound_9 : decode cX4_extendSound 9 = .ok (.getfield 15, 3) := by decide +kernel
theorem dX4_extendSound_12 : decode cX4_extendSound 12 = .ok (.aload_n 0, 1) := by decide +kernel
theorem dX4_extendSound_13 : decode cX4_extendSound 13 = .ok (.getfield 30, 3) := by decide +kernel
theorem dX4_extendSound_16 : decode cX4_extendSound 16 = .ok (.iload_n 1, 1) := by decide +kernel
theorem dX4_extendSound_17 : decode cX4_extendSound 17 = .ok (.castore, 1) := by decide +kernel
theorem dX4_extendSound_18 : decode cX4_extendSound 18 = .ok (.aload_n 0, 1) := by decide +kernel
theorem dX4_extendSound_19 : decode cX4_extendSound 19 = .ok (.dup, 1) := by decide +kernel
theorem dX4_extendSound_20 : decode cX4_extendSound 20 = .ok (.getfield 30, 3) := by decide +kernel
theorem dX4_extendSound_23 : decode cX4_extendSound 23 = .ok (.iconst 1, 1) := by decide +kernel
theorem dX4_extendSound_24 : decode cX4_extendSound 24 = .ok (.iadd, 1) := by decide +kernel
theorem dX4_extendSound_25 : decode cX4_extendSound 25 = .ok (.putfield 30, 3) := by decide +kernel
theorem dX4_extendSound_28 : decode cX4_extendSound 28 = .ok (.return_, 1) := by decide +kernel
theorem dX4_empty_0 : decode cX4_empty 0 = .ok (.aload_n 0, 1) := by decide +kernel
theorem dX4_empty_1 : decode cX4_empty 1 = .ok (.getfield 18, 3) := by decide +kernel
theorem dX4_empty_4 : decode cX4_empty 4 = .ok (.istore_n 1, 1) := by decide +kernel
theorem dX4_empty_5 : decode cX4_empty 5 = .ok (.aload_n 0, 1) := by decide +kernel
theorem dX4_empty_6 : decode cX4_empty 6 = .ok (.iconst 0, 1) := by decide +kernel
theorem dX4_empty_7 : decode cX4_empty 7 = .ok (.putfield 18, 3) := by decide +kernel
theorem dX4_empty_10 : decode cX4_empty 10 = .ok (.aload_n 0, 1) := by decide +kernel
theorem dX4_empty_11 : decode cX4_empty 11 = .ok (.iconst 0, 1) := by decide +kernel
theorem dX4_empty_12 : decode cX4_empty 12 = .ok (.putfield 30, 3) := by decide +kernel
theorem dX4_empty_15 : decode cX4_empty 15 = .ok (.iload_n 1, 1) := by decide +kernel
theorem dX4_empty_16 : decode cX4_empty 16 = .ok (.ireturn, 1) := by decide +kernel
theorem dX4_beginsWith_0 : decode cX4_beginsWith 0 = .ok (.aload_n 1, 1) := by decide +kernel
theorem dX4_beginsWith_1 : decode cX4_beginsWith 1 = .ok (.getfield 18, 3) := by decide +kernel
theorem dX4_beginsWith_4 : decode cX4_beginsWith 4 = .ok (.aload_n 0, 1) := by decide +kernel
theorem dX4_beginsWith_5 : decode cX4_beginsWith 5 = .ok (.getfield 18, 3) := by decide +kernel
theorem dX4_beginsWith_8 : decode cX4_beginsWith 8 = .ok (.if_icmp .le 5, 3) := by decide +kernel
theorem dX4_beginsWith_11 : decode cX4_beginsWith 11 = .ok (.iconst 0, 1) := by decide +kernel
theorem dX4_beginsWith_12 : decode cX4_beginsWith 12 = .ok (.ireturn, 1) := by decide +kernel
theorem dX4_beginsWith_13 : decode cX4_beginsWith 13 = .ok (.iconst 0, 1) := by decide +kernel
theorem dX4_beginsWith_14 : decode cX4_beginsWith 14 = .ok (.istore_n 2, 1) := by decide +kernel
theorem dX4_beginsWith_15 : decode cX4_beginsWith 15 = .ok (.iload_n 2, 1) := by decide +kernel
theorem dX4_beginsWith_16 : decode cX4_beginsWith 16 = .ok (.aload_n 1, 1) := by decide +kernel
theorem dX4_beginsWith_17 : decode cX4_beginsWith 17 = .ok (.getfield 18, 3) := by decide +kernel
theorem dX4_beginsWith_20 : decode cX4_beginsWith 20 = .ok (.if_icmp .ge 26, 3) := by decide +kernel
theorem dX4_beginsWith_23 : decode cX4_beginsWith 23 = .ok (.aload_n 0, 1) := by decide +kernel
theorem dX4_beginsWith_24 : decode cX4_beginsWith 24 = .ok (.getfield 9, 3) := by decide +kernel
theorem dX4_beginsWith_27 : decode cX4_beginsWith 27 = .ok (.iload_n 2, 1) := by decide +kernel
theorem dX4_beginsWith_28 : decode cX4_beginsWith 28 = .ok (.caload, 1) := by decide +kernel
theorem dX4_beginsWith_29 : decode cX4_beginsWith 29 = .ok (.aload_n 1, 1) := by decide +kernel
theorem dX4_beginsWith_30 : decode cX4_beginsWith 30 = .ok (.getfield 9, 3) := by decide +kernel
theorem dX4_beginsWith_33 : decode cX4_beginsWith 33 = .ok (.iload_n 2, 1) := by decide +kernel
theorem dX4_beginsWith_34 : decode cX4_beginsWith 34 = .ok (.caload, 1) := by decide +kernel
theorem dX4_beginsWith_35 : decode cX4_beginsWith 35 = .ok (.if_icmp .eq 5, 3) := by decide +kernel
theorem dX4_beginsWith_38 : decode cX4_beginsWith 38 = .ok (.iconst 0, 1) := by decide +kernel
theorem dX4_beginsWith_39 : decode cX4_beginsWith 39 = .ok (.ireturn, 1) := by decide +kernel
theorem dX4_beginsWith_40 : decode cX4_beginsWith 40 = .ok (.iinc 2 1, 3) := by decide +kernel
theorem dX4_beginsWith_43 : decode cX4_beginsWith 43 = .ok (.goto (-28), 3) := by decide +kernel
theorem dX4_beginsWith_46 : decode cX4_beginsWith 46 = .ok (.iconst 1, 1) := by decide +kernel
theorem dX4_beginsWith_47 : decode cX4_beginsWith 47 = .ok (.ireturn, 1) := by decide +kernel
theorem dX4_soundsLike_0 : decode cX4_soundsLike 0 = .ok (.aload_n 0, 1) := by decide +kernel
theorem dX4_soundsLike_1 : decode cX4_soundsLike 1 = .ok (.getfield 18, 3) := by decide +kernel
theorem dX4_soundsLike_4 : decode cX4_soundsLike 4 = .ok (.ifCond .le 18, 3) := by decide +kernel
theorem dX4_soundsLike_7 : decode cX4_soundsLike 7 = .ok (.aload_n 0, 1) := by decide +kernel
theorem dX4_soundsLike_8 : decode cX4_soundsLike 8 = .ok (.invokevirtual 33, 3) := by decide +kernel
theorem dX4_soundsLike_11 : decode cX4_soundsLike 11 = .ok (.aload_n 1, 1) := by decide +kernel
theorem dX4_soundsLike_12 : decode cX4_soundsLike 12 = .ok (.invokevirtual 33, 3) := by decide +kernel
theorem dX4_soundsLike_15 : decode cX4_soundsLike 15 = .ok (.if_icmp .ne 7, 3) := by decide +kernel
theorem dX4_soundsLike_18 : decode cX4_soundsLike 18 = .ok (.iconst 1, 1) := by decide +kernel
theorem dX4_soundsLike_19 : decode cX4_soundsLike 19 = .ok (.goto 4, 3) := by decide +kernel
theorem dX4_soundsLike_22 : decode cX4_soundsLike 22 = .ok (.iconst 0, 1) := by decide +kernel
theorem dX4_soundsLike_23 : decode cX4_soundsLike 23 = .ok (.ireturn, 1) := by decide +kernel
theorem dX4_soundKey_0 : decode cX4_soundKey 0 = .ok (.aload_n 0, 1) := by decide +kernel
theorem dX4_soundKey_1 : decode cX4_soundKey 1 = .ok (.getfield 18, 3) := by decide +kernel
theorem dX4_soundKey_4 : decode cX4_soundKey 4 = .ok (.ifCond .ne 5, 3) := by decide +kernel
theorem dX4_soundKey_7 : decode cX4_soundKey 7 = .ok (.iconst (-1), 1) := by decide +kernel
theorem dX4_soundKey_8 : decode cX4_soundKey 8 = .ok (.ireturn, 1) := by decide +kernel
theorem dX4_soundKey_9 : decode cX4_soundKey 9 = .ok (.iconst 0, 1) := by decide +kernel
theorem dX4_soundKey_10 : decode cX4_soundKey 10 = .ok (.istore_n 1, 1) := by decide +kernel
theorem dX4_soundKey_11 : decode cX4_soundKey 11 = .ok (.iconst 0, 1) := by decide +kernel
theorem dX4_soundKey_12 : decode cX4_soundKey 12 = .ok (.istore_n 2, 1) := by decide +kernel
theorem dX4_soundKey_13 : decode cX4_soundKey 13 = .ok (.iload_n 2, 1) := by decide +kernel
theorem dX4_soundKey_14 : decode cX4_soundKey 14 = .ok (.aload_n 0, 1) := by decide +kernel
theorem dX4_soundKey_15 : decode cX4_soundKey 15 = .ok (.getfield 30, 3) := by decide +kernel
theorem dX4_soundKey_18 : decode cX4_soundKey 18 = .ok (.if_icmp .ge 22, 3) := by decide +kernel
theorem dX4_soundKey_21 : decode cX4_soundKey 21 = .ok (.iload_n 1, 1) := by decide +kernel
theorem dX4_soundKey_22 : decode cX4_soundKey 22 = .ok (.sipush 128, 3) := by decide +kernel
theorem dX4_soundKey_25 : decode cX4_soundKey 25 = .ok (.imul, 1) := by decide +kernel
theorem dX4_soundKey_26 : decode cX4_soundKey 26 = .ok (.aload_n 0, 1) := by decide +kernel
theorem dX4_soundKey_27 : decode cX4_soundKey 27 = .ok (.getfield 15, 3) := by decide +kernel
theorem dX4_soundKey_30 : decode cX4_soundKey 30 = .ok (.iload_n 2, 1) := by decide +kernel
theorem dX4_soundKey_31 : decode cX4_soundKey 31 = .ok (.caload, 1) := by decide +kernel
theorem dX4_soundKey_32 : decode cX4_soundKey 32 = .ok (.iadd, 1) := by decide +kernel
theorem dX4_soundKey_33 : decode cX4_soundKey 33 = .ok (.istore_n 1, 1) := by decide +kernel
theorem dX4_soundKey_34 : decode cX4_soundKey 34 = .ok (.iinc 2 1, 3) := by decide +kernel
theorem dX4_soundKey_37 : decode cX4_soundKey 37 = .ok (.goto (-24), 3) := by decide +kernel
theorem dX4_soundKey_40 : decode cX4_soundKey 40 = .ok (.iload_n 1, 1) := by decide +kernel
theorem dX4_soundKey_41 : decode cX4_soundKey 41 = .ok (.ireturn, 1) := by decide +kernel
theorem dX4_digitOf_0 : decode cX4_digitOf 0 = .ok (.iload_n 0, 1) := by decide +kernel
theorem dX4_digitOf_1 : decode cX4_digitOf 1 = .ok (.tableswitch 133 98 122 #[115, 118, 121, 133, 115, 118, 133, 133, 118, 118, 124, 127, 127, 133, 115, 118, 130, 118, 121, 133, 115, 133, 118, 133, 118], 115) := by decide +kernel
theorem dX4_digitOf_116 : decode cX4_digitOf 116 = .ok (.bipush 49, 2) := by decide +kernel
theorem dX4_digitOf_118 : decode cX4_digitOf 118 = .ok (.ireturn, 1) := by decide +kernel
theorem dX4_digitOf_119 : decode cX4_digitOf 119 = .ok (.bipush 50, 2) := by decide +kernel
theorem dX4_digitOf_121 : decode cX4_digitOf 121 = .ok (.ireturn, 1) := by decide +kernel
theorem dX4_digitOf_122 : decode cX4_digitOf 122 = .ok (.bipush 51, 2) := by decide +kernel
theorem dX4_digitOf_124 : decode cX4_digitOf 124 = .ok (.ireturn, 1) := by decide +kernel
theorem dX4_digitOf_125 : decode cX4_digitOf 125 = .ok (.bipush 52, 2) := by decide +kernel
theorem dX4_digitOf_127 : decode cX4_digitOf 127 = .ok (.ireturn, 1) := by decide +kernel
theorem dX4_digitOf_128 : decode cX4_digitOf 128 = .ok (.bipush 53, 2) := by decide +kernel
theorem dX4_digitOf_130 : decode cX4_digitOf 130 = .ok (.ireturn, 1) := by decide +kernel
theorem dX4_digitOf_131 : decode cX4_digitOf 131 = .ok (.bipush 54, 2) := by decide +kernel
theorem dX4_digitOf_133 : decode cX4_digitOf 133 = .ok (.ireturn, 1) := by decide +kernel
theorem dX4_digitOf_134 : decode cX4_digitOf 134 = .ok (.bipush 48, 2) := by decide +kernel
theorem dX4_digitOf_136 : decode cX4_digitOf 136 = .ok (.ireturn, 1) := by decide +kernel
theorem dX5_init_0 : decode cX5_init 0 = .ok (.aload_n 0, 1) := by decide +kernel
theorem dX5_init_1 : decode cX5_init 1 = .ok (.invokespecial 3, 3) := by decide +kernel
theorem dX5_init_4 : decode cX5_init 4 = .ok (.aload_n 0, 1) := by decide +kernel
theorem dX5_init_5 : decode cX5_init 5 = .ok (.bipush 16, 2) := by decide +kernel
theorem dX5_init_7 : decode cX5_init 7 = .ok (.newarray .int, 2) := by decide +kernel
theorem dX5_init_9 : decode cX5_init 9 = .ok (.putfield 9, 3) := by decide +kernel
theorem dX5_init_12 : decode cX5_init 12 = .ok (.return_, 1) := by decide +kernel
theorem dX5_tie_0 : decode cX5_tie 0 = .ok (.aload_n 0, 1) := by decide +kernel
theorem dX5_tie_1 : decode cX5_tie 1 = .ok (.getfield 9, 3) := by decide +kernel
theorem dX5_tie_4 : decode cX5_tie 4 = .ok (.iload_n 1, 1) := by decide +kernel
theorem dX5_tie_5 : decode cX5_tie 5 = .ok (.dup2, 1) := by decide +kernel
theorem dX5_tie_6 : decode cX5_tie 6 = .ok (.iaload, 1) := by decide +kernel
theorem dX5_tie_7 : decode cX5_tie 7 = .ok (.iconst 1, 1) := by decide +kernel
theorem dX5_tie_8 : decode cX5_tie 8 = .ok (.iload_n 2, 1) := by decide +kernel
theorem dX5_tie_9 : decode cX5_tie 9 = .ok (.ishl, 1) := by decide +kernel
theorem dX5_tie_10 : decode cX5_tie 10 = .ok (.ior, 1) := by decide +kernel
theorem dX5_tie_11 : decode cX5_tie 11 = .ok (.iastore, 1) := by decide +kernel
theorem dX5_tie_12 : decode cX5_tie 12 = .ok (.aload_n 0, 1) := by decide +kernel
theorem dX5_tie_13 : decode cX5_tie 13 = .ok (.getfield 9, 3) := by decide +kernel
theorem dX5_tie_16 : decode cX5_tie 16 = .ok (.iload_n 2, 1) := by decide +kernel
theorem dX5_tie_17 : decode cX5_tie 17 = .ok (.dup2, 1) := by decide +kernel
theorem dX5_tie_18 : decode cX5_tie 18 = .ok (.iaload, 1) := by decide +kernel
theorem dX5_tie_19 : decode cX5_tie 19 = .ok (.iconst 1, 1) := by decide +kernel
theorem dX5_tie_20 : decode cX5_tie 20 = .ok (.iload_n 1, 1) := by decide +kernel
theorem dX5_tie_21 : decode cX5_tie 21 = .ok (.ishl, 1) := by decide +kernel
theorem dX5_tie_22 : decode cX5_tie 22 = .ok (.ior, 1) := by decide +kernel
theorem dX5_tie_23 : decode cX5_tie 23 = .ok (.iastore, 1) := by decide +kernel
theorem dX5_tie_24 : decode cX5_tie 24 = .ok (.return_, 1) := by decide +kernel
theorem dX5_cut_0 : decode cX5_cut 0 = .ok (.aload_n 0, 1) := by decide +kernel
theorem dX5_cut_1 : decode cX5_cut 1 = .ok (.getfield 9, 3) := by decide +kernel
theorem dX5_cut_4 : decode cX5_cut 4 = .ok (.iload_n 1, 1) := by decide +kernel
theorem dX5_cut_5 : decode cX5_cut 5 = .ok (.dup2, 1) := by decide +kernel
theorem dX5_cut_6 : decode cX5_cut 6 = .ok (.iaload, 1) := by decide +kernel
theorem dX5_cut_7 : decode cX5_cut 7 = .ok (.iconst 1, 1) := by decide +kernel
theorem dX5_cut_8 : decode cX5_cut 8 = .ok (.iload_n 2, 1) := by decide +kernel
theorem dX5_cut_9 : decode cX5_cut 9 = .ok (.ishl, 1) := by decide +kernel
theorem dX5_cut_10 : decode cX5_cut 10 = .ok (.iconst (-1), 1) := by decide +kernel
theorem dX5_cut_11 : decode cX5_cut 11 = .ok (.ixor, 1) := by decide +kernel
theorem dX5_cut_12 : decode cX5_cut 12 = .ok (.iand, 1) := by decide +kernel
theorem dX5_cut_13 : decode cX5_cut 13 = .ok (.iastore, 1) := by decide +kernel
theorem dX5_cut_14 : decode cX5_cut 14 = .ok (.aload_n 0, 1) := by decide +kernel
theorem dX5_cut_15 : decode cX5_cut 15 = .ok (.getfield 9, 3) := by decide +kernel
theorem dX5_cut_18 : decode cX5_cut 18 = .ok (.iload_n 2, 1) := by decide +kernel
theorem dX5_cut_19 : decode cX5_cut 19 = .ok (.dup2, 1) := by decide +kernel
theorem dX5_cut_20 : decode cX5_cut 20 = .ok (.iaload, 1) := by decide +kernel
theorem dX5_cut_21 : decode cX5_cut 21 = .ok (.iconst 1, 1) := by decide +kernel
theorem dX5_cut_22 : decode cX5_cut 22 = .ok (.iload_n 1, 1) := by decide +kernel
theorem dX5_cut_23 : decode cX5_cut 23 = .ok (.ishl, 1) := by decide +kernel
theorem dX5_cut_24 : decode cX5_cut 24 = .ok (.iconst (-1), 1) := by decide +kernel
theorem dX5_cut_25 : decode cX5_cut 25 = .ok (.ixor, 1) := by decide +kernel
theorem dX5_cut_26 : decode cX5_cut 26 = .ok (.iand, 1) := by decide +kernel
theorem dX5_cut_27 : decode cX5_cut 27 = .ok (.iastore, 1) := by decide +kernel
theorem dX5_cut_28 : decode cX5_cut 28 = .ok (.return_, 1) := by decide +kernel
theorem dX5_holds_0 : decode cX5_holds 0 = .ok (.aload_n 0, 1) := by decide +kernel
theorem dX5_holds_1 : decode cX5_holds 1 = .ok (.getfield 9, 3) := by decide +kernel
theorem dX5_holds_4 : decode cX5_holds 4 = .ok (.iload_n 1, 1) := by decide +kernel
theorem dX5_holds_5 : decode cX5_holds 5 = .ok (.iaload, 1) := by decide +kernel
theorem dX5_holds_6 : decode cX5_holds 6 = .ok (.iload_n 2, 1) := by decide +kernel
theorem dX5_holds_7 : decode cX5_holds 7 = .ok (.invokestatic 15, 3) := by decide +kernel
theorem dX5_holds_10 : decode cX5_holds 10 = .ok (.ireturn, 1) := by decide +kernel
theorem dX5_partnersOfAll_0 : decode cX5_partnersOfAll 0 = .ok (.iconst 0, 1) := by decide +kernel
theorem dX5_partnersOfAll_1 : decode cX5_partnersOfAll 1 = .ok (.istore_n 2, 1) := by decide +kernel
theorem dX5_partnersOfAll_2 : decode cX5_partnersOfAll 2 = .ok (.iconst 0, 1) := by decide +kernel
theorem dX5_partnersOfAll_3 : decode cX5_partnersOfAll 3 = .ok (.istore_n 3, 1) := by decide +kernel
theorem dX5_partnersOfAll_4 : decode cX5_partnersOfAll 4 = .ok (.iload_n 3, 1) := by decide +kernel
theorem dX5_partnersOfAll_5 : decode cX5_partnersOfAll 5 = .ok (.bipush 16, 2) := by decide +kernel
theorem dX5_partnersOfAll_7 : decode cX5_partnersOfAll 7 = .ok (.if_icmp .ge 26, 3) := by decide +kernel
theorem dX5_partnersOfAll_10 : decode cX5_partnersOfAll 10 = .ok (.iload_n 1, 1) := by decide +kernel
theorem dX5_partnersOfAll_11 : decode cX5_partnersOfAll 11 = .ok (.iload_n 3, 1) := by decide +kernel
theorem dX5_partnersOfAll_12 : decode cX5_partnersOfAll 12 = .ok (.invokestatic 15, 3) := by decide +kernel
theorem dX5_partnersOfAll_15 : decode cX5_partnersOfAll 15 = .ok (.ifCond .eq 12, 3) := by decide +kernel
theorem dX5_partnersOfAll_18 : decode cX5_partnersOfAll 18 = .ok (.iload_n 2, 1) := by decide +kernel
theorem dX5_partnersOfAll_19 : decode cX5_partnersOfAll 19 = .ok (.aload_n 0, 1) := by decide +kernel
theorem dX5_partnersOfAll_20 : decode cX5_partnersOfAll 20 = .ok (.getfield 9, 3) := by decide +kernel
theorem dX5_partnersOfAll_23 : decode cX5_partnersOfAll 23 = .ok (.iload_n 3, 1) := by decide +kernel
theorem dX5_partnersOfAll_24 : decode cX5_partnersOfAll 24 = .ok (.iaload, 1) := by decide +kernel
theorem dX5_partnersOfAll_25 : decode cX5_partnersOfAll 25 = .ok (.ior, 1) := by decide +kernel
theorem dX5_partnersOfAll_26 : decode cX5_partnersOfAll 26 = .ok (.istore_n 2, 1) := by decide +kernel
theorem dX5_partnersOfAll_27 : decode cX5_partnersOfAll 27 = .ok (.iinc 3 1, 3) := by decide +kernel
theorem dX5_partnersOfAll_30 : decode cX5_partnersOfAll 30 = .ok (.goto (-26), 3) := by decide +kernel
theorem dX5_partnersOfAll_33 : decode cX5_partnersOfAll 33 = .ok (.iload_n 2, 1) := by decide +kernel
theorem dX5_partnersOfAll_34 : decode cX5_partnersOfAll 34 = .ok (.ireturn, 1) := by decide +kernel
theorem dX6_init_0 : decode cX6_init 0 = .ok (.aload_n 0, 1) := by decide +kernel
theorem dX6_init_1 : decode cX6_init 1 = .ok (.invokespecial 1, 3) := by decide +kernel
theorem dX6_init_4 : decode cX6_init 4 = .ok (.aload_n 0, 1) := by decide +kernel
theorem dX6_init_5 : decode cX6_init 5 = .ok (.iconst 4, 1) := by decide +kernel
theorem dX6_init_6 : decode cX6_init 6 = .ok (.newarray .int, 2) := by decide +kernel
theorem dX6_init_8 : decode cX6_init 8 = .ok (.putfield 9, 3) := by decide +kernel
theorem dX6_init_11 : decode cX6_init 11 = .ok (.aload_n 0, 1) := by decide +kernel
theorem dX6_init_12 : decode cX6_init 12 = .ok (.bipush 16, 2) := by decide +kernel
theorem dX6_init_14 : decode cX6_init 14 = .ok (.anewarray 13, 3) := by decide +kernel
theorem dX6_init_17 : decode cX6_init 17 = .ok (.putfield 15, 3) := by decide +kernel
theorem dX6_init_20 : decode cX6_init 20 = .ok (.aload_n 0, 1) := by decide +kernel
theorem dX6_init_21 : decode cX6_init 21 = .ok (.iconst 4, 1) := by decide +kernel
theorem dX6_init_22 : decode cX6_init 22 = .ok (.newarray .int, 2) := by decide +kernel
theorem dX6_init_24 : decode cX6_init 24 = .ok (.dup, 1) := by decide +kernel
theorem dX6_init_25 : decode cX6_init 25 = .ok (.iconst 0, 1) := by decide +kernel
theorem dX6_init_26 : decode cX6_init 26 = .ok (.iconst 4, 1) := by decide +kernel
theorem dX6_init_27 : decode cX6_init 27 = .ok (.iastore, 1) := by decide +kernel
theorem dX6_init_28 : decode cX6_init 28 = .ok (.dup, 1) := by decide +kernel
theorem dX6_init_29 : decode cX6_init 29 = .ok (.iconst 1, 1) := by decide +kernel
theorem dX6_init_30 : decode cX6_init 30 = .ok (.iconst 5, 1) := by decide +kernel
theorem dX6_init_31 : decode cX6_init 31 = .ok (.iastore, 1) := by decide +kernel
theorem dX6_init_32 : decode cX6_init 32 = .ok (.dup, 1) := by decide +kernel
theorem dX6_init_33 : decode cX6_init 33 = .ok (.iconst 2, 1) := by decide +kernel
theorem dX6_init_34 : decode cX6_init 34 = .ok (.bipush 6, 2) := by decide +kernel
theorem dX6_init_36 : decode cX6_init 36 = .ok (.iastore, 1) := by decide +kernel
theorem dX6_init_37 : decode cX6_init 37 = .ok (.dup, 1) := by decide +kernel
theorem dX6_init_38 : decode cX6_init 38 = .ok (.iconst 3, 1) := by decide +kernel
theorem dX6_init_39 : decode cX6_init 39 = .ok (.iconst 1, 1) := by decide +kernel
theorem dX6_init_40 : decode cX6_init 40 = .ok (.iastore, 1) := by decide +kernel
theorem dX6_init_41 : decode cX6_init 41 = .ok (.putfield 19, 3) := by decide +kernel
theorem dX6_init_44 : decode cX6_init 44 = .ok (.aload_n 0, 1) := by decide +kernel
theorem dX6_init_45 : decode cX6_init 45 = .ok (.iconst 4, 1) := by decide +kernel
theorem dX6_init_46 : decode cX6_init 46 = .ok (.newarray .int, 2) := by decide +kernel
theorem dX6_init_48 : decode cX6_init 48 = .ok (.dup, 1) := by decide +kernel
theorem dX6_init_49 : decode cX6_init 49 = .ok (.iconst 0, 1) := by decide +kernel
theorem dX6_init_50 : decode cX6_init 50 = .ok (.bipush (-2), 2) := by decide +kernel
theorem dX6_init_52 : decode cX6_init 52 = .ok (.iastore, 1) := by decide +kernel
theorem dX6_init_53 : decode cX6_init 53 = .ok (.dup, 1) := by decide +kernel
theorem dX6_init_54 : decode cX6_init 54 = .ok (.iconst 1, 1) := by decide +kernel
theorem dX6_init_55 : decode cX6_init 55 = .ok (.bipush (-3), 2) := by decide +kernel
theorem dX6_init_57 : decode cX6_init 57 = .ok (.iastore, 1) := by decide +kernel
theorem dX6_init_58 : decode cX6_init 58 = .ok (.dup, 1) := by decide +kernel
theorem dX6_init_59 : decode cX6_init 59 = .ok (.iconst 2, 1) := by decide +kernel
theorem dX6_init_60 : decode cX6_init 60 = .ok (.iconst (-1), 1) := by decide +kernel
theorem dX6_init_61 : decode cX6_init 61 = .ok (.iastore, 1) := by decide +kernel
theorem dX6_init_62 : decode cX6_init 62 = .ok (.dup, 1) := by decide +kernel
theorem dX6_init_63 : decode cX6_init 63 = .ok (.iconst 3, 1) := by decide +kernel
theorem dX6_init_64 : decode cX6_init 64 = .ok (.iconst (-1), 1) := by decide +kernel
theorem dX6_init_65 : decode cX6_init 65 = .ok (.iastore, 1) := by decide +kernel
theorem dX6_init_66 : decode cX6_init 66 = .ok (.putfield 22, 3) := by decide +kernel
theorem dX6_init_69 : decode cX6_init 69 = .ok (.aload_n 0, 1) := by decide +kernel
theorem dX6_init_70 : decode cX6_init 70 = .ok (.iconst 5, 1) := by decide +kernel
theorem dX6_init_71 : decode cX6_init 71 = .ok (.putfield 25, 3) := by decide +kernel
theorem dX6_init_74 : decode cX6_init 74 = .ok (.aload_n 0, 1) := by decide +kernel
theorem dX6_init_75 : decode cX6_init 75 = .ok (.new 29, 3) := by decide +kernel
theorem dX6_init_78 : decode cX6_init 78 = .ok (.dup, 1) := by decide +kernel
theorem dX6_init_79 : decode cX6_init 79 = .ok (.invokespecial 31, 3) := by decide +kernel
theorem dX6_init_82 : decode cX6_init 82 = .ok (.putfield 32, 3) := by decide +kernel
theorem dX6_init_85 : decode cX6_init 85 = .ok (.aload_n 0, 1) := by decide +kernel
theorem dX6_init_86 : decode cX6_init 86 = .ok (.new 36, 3) := by decide +kernel
theorem dX6_init_89 : decode cX6_init 89 = .ok (.dup, 1) := by decide +kernel
theorem dX6_init_90 : decode cX6_init 90 = .ok (.invokespecial 38, 3) := by decide +kernel
theorem dX6_init_93 : decode cX6_init 93 = .ok (.putfield 39, 3) := by decide +kernel
theorem dX6_init_96 : decode cX6_init 96 = .ok (.aload_n 0, 1) := by decide +kernel
theorem dX6_init_97 : decode cX6_init 97 = .ok (.iconst 4, 1) := by decide +kernel
theorem dX6_init_98 : decode cX6_init 98 = .ok (.newarray .int, 2) := by decide +kernel
theorem dX6_init_100 : decode cX6_init 100 = .ok (.putfield 43, 3) := by decide +kernel
theorem dX6_init_103 : decode cX6_init 103 = .ok (.aload_n 0, 1) := by decide +kernel
theorem dX6_init_104 : decode cX6_init 104 = .ok (.new 46, 3) := by decide +kernel
theorem dX6_init_107 : decode cX6_init 107 = .ok (.dup, 1) := by decide +kernel
theorem dX6_init_108 : decode cX6_init 108 = .ok (.invokespecial 48, 3) := by decide +kernel
theorem dX6_init_111 : decode cX6_init 111 = .ok (.putfield 49, 3) := by decide +kernel
theorem dX6_init_114 : decode cX6_init 114 = .ok (.aload_n 0, 1) := by decide +kernel
theorem dX6_init_115 : decode cX6_init 115 = .ok (.new 53, 3) := by decide +kernel
theorem dX6_init_118 : decode cX6_init 118 = .ok (.dup, 1) := by decide +kernel
theorem dX6_init_119 : decode cX6_init 119 = .ok (.invokespecial 55, 3) := by decide +kernel
theorem dX6_init_122 : decode cX6_init 122 = .ok (.putfield 56, 3) := by decide +kernel
theorem dX6_init_125 : decode cX6_init 125 = .ok (.aload_n 0, 1) := by decide +kernel
theorem dX6_init_126 : decode cX6_init 126 = .ok (.new 60, 3) := by decide +kernel
theorem dX6_init_129 : decode cX6_init 129 = .ok (.dup, 1) := by decide +kernel
theorem dX6_init_130 : decode cX6_init 130 = .ok (.invokespecial 62, 3) := by decide +kernel
theorem dX6_init_133 : decode cX6_init 133 = .ok (.putfield 63, 3) := by decide +kernel
theorem dX6_init_136 : decode cX6_init 136 = .ok (.aload_n 0, 1) := by decide +kernel
theorem dX6_init_137 : decode cX6_init 137 = .ok (.bipush 16, 2) := by decide +kernel
theorem dX6_init_139 : decode cX6_init 139 = .ok (.newarray .int, 2) := by decide +kernel
theorem dX6_init_141 : decode cX6_init 141 = .ok (.putfield 67, 3) := by decide +kernel
theorem dX6_init_144 : decode cX6_init 144 = .ok (.iconst 0, 1) := by decide +kernel
theorem dX6_init_145 : decode cX6_init 145 = .ok (.istore_n 1, 1) := by decide +kernel
theorem dX6_init_146 : decode cX6_init 146 = .ok (.iload_n 1, 1) := by decide +kernel
theorem dX6_init_147 : decode cX6_init 147 = .ok (.bipush 16, 2) := by decide +kernel
theorem dX6_init_149 : decode cX6_init 149 = .ok (.if_icmp .ge 22, 3) := by decide +kernel
theorem dX6_init_152 : decode cX6_init 152 = .ok (.aload_n 0, 1) := by decide +kernel
theorem dX6_init_153 : decode cX6_init 153 = .ok (.getfield 15, 3) := by decide +kernel
theorem dX6_init_156 : decode cX6_init 156 = .ok (.iload_n 1, 1) := by decide +kernel
theorem dX6_init_157 : decode cX6_init 157 = .ok (.new 13, 3) := by decide +kernel
theorem dX6_init_160 : decode cX6_init 160 = .ok (.dup, 1) := by decide +kernel
theorem dX6_init_161 : decode cX6_init 161 = .ok (.invokespecial 70, 3) := by decide +kernel
theorem dX6_init_164 : decode cX6_init 164 = .ok (.aastore, 1) := by decide +kernel
theorem dX6_init_165 : decode cX6_init 165 = .ok (.iinc 1 1, 3) := by decide +kernel
theorem dX6_init_168 : decode cX6_init 168 = .ok (.goto (-22), 3) := by decide +kernel
theorem dX6_init_171 : decode cX6_init 171 = .ok (.return_, 1) := by decide +kernel
theorem dX6_addSource_0 : decode cX6_addSource 0 = .ok (.aload_n 0, 1) := by decide +kernel
theorem dX6_addSource_1 : decode cX6_addSource 1 = .ok (.iload_n 1, 1) := by decide +kernel
theorem dX6_addSource_2 : decode cX6_addSource 2 = .ok (.invokevirtual 71, 3) := by decide +kernel
theorem dX6_addSource_5 : decode cX6_addSource 5 = .ok (.aload_n 0, 1) := by decide +kernel
theorem dX6_addSource_6 : decode cX6_addSource 6 = .ok (.getfield 75, 3) := by decide +kernel
theorem dX6_addSource_9 : decode cX6_addSource 9 = .ok (.iconst 4, 1) := by decide +kernel
theorem dX6_addSource_10 : decode cX6_addSource 10 = .ok (.if_icmp .lt 13, 3) := by decide +kernel
theorem dX6_addSource_13 : decode cX6_addSource 13 = .ok (.new 78, 3) := by decide +kernel
theorem dX6_addSource_16 : decode cX6_addSource 16 = .ok (.dup, 1) := by decide +kernel
theorem dX6_addSource_17 : decode cX6_addSource 17 = .ok (.ldc 80, 2) := by decide +kernel
theorem dX6_addSource_19 : decode cX6_addSource 19 = .ok (.invokespecial 82, 3) := by decide +kernel
theorem dX6_addSource_22 : decode cX6_addSource 22 = .ok (.athrow, 1) := by decide +kernel
theorem dX6_addSource_23 : decode cX6_addSource 23 = .ok (.aload_n 0, 1) := by decide +kernel
theorem dX6_addSource_24 : decode cX6_addSource 24 = .ok (.getfield 9, 3) := by decide +kernel
theorem dX6_addSource_27 : decode cX6_addSource 27 = .ok (.aload_n 0, 1) := by decide +kernel
theorem dX6_addSource_28 : decode cX6_addSource 28 = .ok (.getfield 75, 3) := by decide +kernel
theorem dX6_addSource_31 : decode cX6_addSource 31 = .ok (.iload_n 1, 1) := by decide +kernel
theorem dX6_addSource_32 : decode cX6_addSource 32 = .ok (.iastore, 1) := by decide +kernel
theorem dX6_addSource_33 : decode cX6_addSource 33 = .ok (.aload_n 0, 1) := by decide +kernel
theorem dX6_addSource_34 : decode cX6_addSource 34 = .ok (.dup, 1) := by decide +kernel
theorem dX6_addSource_35 : decode cX6_addSource 35 = .ok (.getfield 75, 3) := by decide +kernel
theorem dX6_addSource_38 : decode cX6_addSource 38 = .ok (.iconst 1, 1) := by decide +kernel
theorem dX6_addSource_39 : decode cX6_addSource 39 = .ok (.iadd, 1) := by decide +kernel
theorem dX6_addSource_40 : decode cX6_addSource 40 = .ok (.putfield 75, 3) := by decide +kernel
theorem dX6_addSource_43 : decode cX6_addSource 43 = .ok (.aload_n 0, 1) := by decide +kernel
theorem dX6_addSource_44 : decode cX6_addSource 44 = .ok (.getfield 75, 3) := by decide +kernel
theorem dX6_addSource_47 : decode cX6_addSource 47 = .ok (.iconst 1, 1) := by decide +kernel
theorem dX6_addSource_48 : decode cX6_addSource 48 = .ok (.isub, 1) := by decide +kernel
theorem dX6_addSource_49 : decode cX6_addSource 49 = .ok (.ireturn, 1) := by decide +kernel
theorem dX6_setRank_0 : decode cX6_setRank 0 = .ok (.aload_n 0, 1) := by decide +kernel
theorem dX6_setRank_1 : decode cX6_setRank 1 = .ok (.iload_n 1, 1) := by decide +kernel
theorem dX6_setRank_2 : decode cX6_setRank 2 = .ok (.invokevirtual 85, 3) := by decide +kernel
theorem dX6_setRank_5 : decode cX6_setRank 5 = .ok (.aload_n 0, 1) := by decide +kernel
theorem dX6_setRank_6 : decode cX6_setRank 6 = .ok (.iload_n 2, 1) := by decide +kernel
theorem dX6_setRank_7 : decode cX6_setRank 7 = .ok (.invokevirtual 71, 3) := by decide +kernel
theorem dX6_setRank_10 : decode cX6_setRank 10 = .ok (.aload_n 0, 1) := by decide +kernel
theorem dX6_setRank_11 : decode cX6_setRank 11 = .ok (.getfield 9, 3) := by decide +kernel
theorem dX6_setRank_14 : decode cX6_setRank 14 = .ok (.iload_n 1, 1) := by decide +kernel
theorem dX6_setRank_15 : decode cX6_setRank 15 = .ok (.iaload, 1) := by decide +kernel
theorem dX6_setRank_16 : decode cX6_setRank 16 = .ok (.istore_n 3, 1) := by decide +kernel
theorem dX6_setRank_17 : decode cX6_setRank 17 = .ok (.aload_n 0, 1) := by decide +kernel
theorem dX6_setRank_18 : decode cX6_setRank 18 = .ok (.getfield 9, 3) := by decide +kernel
theorem dX6_setRank_21 : decode cX6_setRank 21 = .ok (.iload_n 1, 1) := by decide +kernel
theorem dX6_setRank_22 : decode cX6_setRank 22 = .ok (.iload_n 2, 1) := by decide +kernel
theorem dX6_setRank_23 : decode cX6_setRank 23 = .ok (.iastore, 1) := by decide +kernel
theorem dX6_setRank_24 : decode cX6_setRank 24 = .ok (.iload_n 3, 1) := by decide +kernel
theorem dX6_setRank_25 : decode cX6_setRank 25 = .ok (.ireturn, 1) := by decide +kernel
theorem dX6_addCard_0 : decode cX6_addCard 0 = .ok (.aload_n 0, 1) := by decide +kernel
theorem dX6_addCard_1 : decode cX6_addCard 1 = .ok (.iload_n 1, 1) := by decide +kernel
theorem dX6_addCard_2 : decode cX6_addCard 2 = .ok (.invokevirtual 85, 3) := by decide +kernel
theorem dX6_addCard_5 : decode cX6_addCard 5 = .ok (.aload_n 0, 1) := by decide +kernel
theorem dX6_addCard_6 : decode cX6_addCard 6 = .ok (.getfield 88, 3) := by decide +kernel
theorem dX6_addCard_9 : decode cX6_addCard 9 = .ok (.bipush 16, 2) := by decide +kernel
theorem dX6_addCard_11 : decode cX6_addCard 11 = .ok (.if_icmp .lt 13, 3) := by decide +kernel
theorem dX6_addCard_14 : decode cX6_addCard 14 = .ok (.new 78, 3) := by decide +kernel
theorem dX6_addCard_17 : decode cX6_addCard 17 = .ok (.dup, 1) := by decide +kernel
theorem dX6_addCard_18 : decode cX6_addCard 18 = .ok (.ldc 91, 2) := by decide +kernel
theorem dX6_addCard_20 : decode cX6_addCard 20 = .ok (.invokespecial 82, 3) := by decide +kernel
theorem dX6_addCard_23 : decode cX6_addCard 23 = .ok (.athrow, 1) := by decide +kernel
theorem dX6_addCard_24 : decode cX6_addCard 24 = .ok (.aload_n 0, 1) := by decide +kernel
theorem dX6_addCard_25 : decode cX6_addCard 25 = .ok (.getfield 15, 3) := by decide +kernel
theorem dX6_addCard_28 : decode cX6_addCard 28 = .ok (.aload_n 0, 1) := by decide +kernel
theorem dX6_addCard_29 : decode cX6_addCard 29 = .ok (.getfield 88, 3) := by decide +kernel
theorem dX6_addCard_32 : decode cX6_addCard 32 = .ok (.aaload, 1) := by decide +kernel
theorem dX6_addCard_33 : decode cX6_addCard 33 = .ok (.iload_n 1, 1) := by decide +kernel
theorem dX6_addCard_34 : decode cX6_addCard 34 = .ok (.putfield 93, 3) := by decide +kernel
theorem dX6_addCard_37 : decode cX6_addCard 37 = .ok (.aload_n 0, 1) := by decide +kernel
theorem dX6_addCard_38 : decode cX6_addCard 38 = .ok (.dup, 1) := by decide +kernel
theorem dX6_addCard_39 : decode cX6_addCard 39 = .ok (.getfield 88, 3) := by decide +kernel
theorem dX6_addCard_42 : decode cX6_addCard 42 = .ok (.iconst 1, 1) := by decide +kernel
theorem dX6_addCard_43 : decode cX6_addCard 43 = .ok (.iadd, 1) := by decide +kernel
theorem dX6_addCard_44 : decode cX6_addCard 44 = .ok (.putfield 88, 3) := by decide +kernel
theorem dX6_addCard_47 : decode cX6_addCard 47 = .ok (.aload_n 0, 1) := by decide +kernel
theorem dX6_addCard_48 : decode cX6_addCard 48 = .ok (.getfield 88, 3) := by decide +kernel
theorem dX6_addCard_51 : decode cX6_addCard 51 = .ok (.iconst 1, 1) := by decide +kernel
theorem dX6_addCard_52 : decode cX6_addCard 52 = .ok (.isub, 1) := by decide +kernel
theorem dX6_addCard_53 : decode cX6_addCard 53 = .ok (.ireturn, 1) := by decide +kernel
theorem dX6_cards_0 : decode cX6_cards 0 = .ok (.aload_n 0, 1) := by decide +kernel
theorem dX6_cards_1 : decode cX6_cards 1 = .ok (.getfield 88, 3) := by decide +kernel
theorem dX6_cards_4 : decode cX6_cards 4 = .ok (.ireturn, 1) := by decide +kernel
theorem dX6_letter_0 : decode cX6_letter 0 = .ok (.aload_n 0, 1) := by decide +kernel
theorem dX6_letter_1 : decode cX6_letter 1 = .ok (.iload_n 1, 1) := by decide +kernel
theorem dX6_letter_2 : decode cX6_letter 2 = .ok (.invokevirtual 96, 3) := by decide +kernel
theorem dX6_letter_5 : decode cX6_letter 5 = .ok (.aload_n 0, 1) := by decide +kernel
theorem dX6_letter_6 : decode cX6_letter 6 = .ok (.iload_n 2, 1) := by decide +kernel
theorem dX6_letter_7 : decode cX6_letter 7 = .ok (.invokevirtual 99, 3) := by decide +kernel
theorem dX6_letter_10 : decode cX6_letter 10 = .ok (.aload_n 0, 1) := by decide +kernel
theorem dX6_letter_11 : decode cX6_letter 11 = .ok (.aload_n 0, 1) := by decide +kernel
theorem dX6_letter_12 : decode cX6_letter 12 = .ok (.getfield 15, 3) := by decide +kernel
theorem dX6_letter_15 : decode cX6_letter 15 = .ok (.iload_n 1, 1) := by decide +kernel
theorem dX6_letter_16 : decode cX6_letter 16 = .ok (.aaload, 1) := by decide +kernel
theorem dX6_letter_17 : decode cX6_letter 17 = .ok (.getfield 103, 3) := by decide +kernel
theorem dX6_letter_20 : decode cX6_letter 20 = .ok (.iload_n 2, 1) := by decide +kernel
theorem dX6_letter_21 : decode cX6_letter 21 = .ok (.invokevirtual 106, 3) := by decide +kernel
theorem dX6_letter_24 : decode cX6_letter 24 = .ok (.ireturn, 1) := by decide +kernel
theorem dX6_clearName_0 : decode cX6_clearName 0 = .ok (.aload_n 0, 1) := by decide +kernel
theorem dX6_clearName_1 : decode cX6_clearName 1 = .ok (.iload_n 1, 1) := by decide +kernel
theorem dX6_clearName_2 : decode cX6_clearName 2 = .ok (.invokevirtual 96, 3) := by decide +kernel
theorem dX6_clearName_5 : decode cX6_clearName 5 = .ok (.aload_n 0, 1) := by decide +kernel
theorem dX6_clearName_6 : decode cX6_clearName 6 = .ok (.getfield 15, 3) := by decide +kernel
theorem dX6_clearName_9 : decode cX6_clearName 9 = .ok (.iload_n 1, 1) := by decide +kernel
theorem dX6_clearName_10 : decode cX6_clearName 10 = .ok (.aaload, 1) := by decide +kernel
theorem dX6_clearName_11 : decode cX6_clearName 11 = .ok (.getfield 103, 3) := by decide +kernel
theorem dX6_clearName_14 : decode cX6_clearName 14 = .ok (.invokevirtual 110, 3) := by decide +kernel
theorem dX6_clearName_17 : decode cX6_clearName 17 = .ok (.ireturn, 1) := by decide +kernel
theorem dX6_setNumber_0 : decode cX6_setNumber 0 = .ok (.aload_n 0, 1) := by decide +kernel
theorem dX6_setNumber_1 : decode cX6_setNumber 1 = .ok (.iload_n 1, 1) := by decide +kernel
theorem dX6_setNumber_2 : decode cX6_setNumber 2 = .ok (.invokevirtual 96, 3) := by decide +kernel
theorem dX6_setNumber_5 : decode cX6_setNumber 5 = .ok (.aload_n 0, 1) := by decide +kernel
theorem dX6_setNumber_6 : decode cX6_setNumber 6 = .ok (.iload_n 2, 1) := by decide +kernel
theorem dX6_setNumber_7 : decode cX6_setNumber 7 = .ok (.invokevirtual 114, 3) := by decide +kernel
theorem dX6_setNumber_10 : decode cX6_setNumber 10 = .ok (.iload_n 3, 1) := by decide +kernel
theorem dX6_setNumber_11 : decode cX6_setNumber 11 = .ok (.iconst (-1), 1) := by decide +kernel
theorem dX6_setNumber_12 : decode cX6_setNumber 12 = .ok (.if_icmp .lt 10, 3) := by decide +kernel
theorem dX6_setNumber_15 : decode cX6_setNumber 15 = .ok (.iload_n 3, 1) := by decide +kernel
theorem dX6_setNumber_16 : decode cX6_setNumber 16 = .ok (.sipush 999, 3) := by decide +kernel
theorem dX6_setNumber_19 : decode cX6_setNumber 19 = .ok (.if_icmp .le 13, 3) := by decide +kernel
theorem dX6_setNumber_22 : decode cX6_setNumber 22 = .ok (.new 117, 3) := by decide +kernel
theorem dX6_setNumber_25 : decode cX6_setNumber 25 = .ok (.dup, 1) := by decide +kernel
theorem dX6_setNumber_26 : decode cX6_setNumber 26 = .ok (.ldc 119, 2) := by decide +kernel
theorem dX6_setNumber_28 : decode cX6_setNumber 28 = .ok (.invokespecial 121, 3) := by decide +kernel
theorem dX6_setNumber_31 : decode cX6_setNumber 31 = .ok (.athrow, 1) := by decide +kernel
theorem dX6_setNumber_32 : decode cX6_setNumber 32 = .ok (.aload_n 0, 1) := by decide +kernel
theorem dX6_setNumber_33 : decode cX6_setNumber 33 = .ok (.getfield 15, 3) := by decide +kernel
theorem dX6_setNumber_36 : decode cX6_setNumber 36 = .ok (.iload_n 1, 1) := by decide +kernel
theorem dX6_setNumber_37 : decode cX6_setNumber 37 = .ok (.aaload, 1) := by decide +kernel
theorem dX6_setNumber_38 : decode cX6_setNumber 38 = .ok (.getfield 122, 3) := by decide +kernel
theorem dX6_setNumber_41 : decode cX6_setNumber 41 = .ok (.iload_n 2, 1) := by decide +kernel
theorem dX6_setNumber_42 : decode cX6_setNumber 42 = .ok (.iaload, 1) := by decide +kernel
theorem dX6_setNumber_43 : decode cX6_setNumber 43 = .ok (.istore 4, 2) := by decide +kernel
theorem dX6_setNumber_45 : decode cX6_setNumber 45 = .ok (.aload_n 0, 1) := by decide +kernel
theorem dX6_setNumber_46 : decode cX6_setNumber 46 = .ok (.getfield 15, 3) := by decide +kernel
theorem dX6_setNumber_49 : decode cX6_setNumber 49 = .ok (.iload_n 1, 1) := by decide +kernel
theorem dX6_setNumber_50 : decode cX6_setNumber 50 = .ok (.aaload, 1) := by decide +kernel
theorem dX6_setNumber_51 : decode cX6_setNumber 51 = .ok (.getfield 122, 3) := by decide +kernel
theorem dX6_setNumber_54 : decode cX6_setNumber 54 = .ok (.iload_n 2, 1) := by decide +kernel
theorem dX6_setNumber_55 : decode cX6_setNumber 55 = .ok (.iload_n 3, 1) := by decide +kernel
theorem dX6_setNumber_56 : decode cX6_setNumber 56 = .ok (.iastore, 1) := by decide +kernel
theorem dX6_setNumber_57 : decode cX6_setNumber 57 = .ok (.iload 4, 2) := by decide +kernel
theorem dX6_setNumber_59 : decode cX6_setNumber 59 = .ok (.ireturn, 1) := by decide +kernel
theorem dX6_nameLength_0 : decode cX6_nameLength 0 = .ok (.aload_n 0, 1) := by decide +kernel
theorem dX6_nameLength_1 : decode cX6_nameLength 1 = .ok (.iload_n 1, 1) := by decide +kernel
theorem dX6_nameLength_2 : decode cX6_nameLength 2 = .ok (.invokevirtual 96, 3) := by decide +kernel
theorem dX6_nameLength_5 : decode cX6_nameLength 5 = .ok (.aload_n 0, 1) := by decide +kernel
theorem dX6_nameLength_6 : decode cX6_nameLength 6 = .ok (.getfield 15, 3) := by decide +kernel
theorem dX6_nameLength_9 : decode cX6_nameLength 9 = .ok (.iload_n 1, 1) := by decide +kernel
theorem dX6_nameLength_10 : decode cX6_nameLength 10 = .ok (.aaload, 1) := by decide +kernel
theorem dX6_nameLength_11 : decode cX6_nameLength 11 = .ok (.getfield 103, 3) := by decide +kernel
theorem dX6_nameLength_14 : decode cX6_nameLength 14 = .ok (.getfield 125, 3) := by decide +kernel
theorem dX6_nameLength_17 : decode cX6_nameLength 17 = .ok (.ireturn, 1) := by decide +kernel
theorem dX6_nameAt_0 : decode cX6_nameAt 0 = .ok (.aload_n 0, 1) := by decide +kernel
theorem dX6_nameAt_1 : decode cX6_nameAt 1 = .ok (.iload_n 1, 1) := by decide +kernel
theorem dX6_nameAt_2 : decode cX6_nameAt 2 = .ok (.invokevirtual 96, 3) := by decide +kernel
theorem dX6_nameAt_5 : decode cX6_nameAt 5 = .ok (.aload_n 0, 1) := by decide +kernel
theorem dX6_nameAt_6 : decode cX6_nameAt 6 = .ok (.getfield 15, 3) := by decide +kernel
theorem dX6_nameAt_9 : decode cX6_nameAt 9 = .ok (.iload_n 1, 1) := by decide +kernel
theorem dX6_nameAt_10 : decode cX6_nameAt 10 = .ok (.aaload, 1) := by decide +kernel
theorem dX6_nameAt_11 : decode cX6_nameAt 11 = .ok (.getfield 103, 3) := by decide +kernel
theorem dX6_nameAt_14 : decode cX6_nameAt 14 = .ok (.astore_n 3, 1) := by decide +kernel
theorem dX6_nameAt_15 : decode cX6_nameAt 15 = .ok (.iload_n 2, 1) := by decide +kernel
theorem dX6_nameAt_16 : decode cX6_nameAt 16 = .ok (.ifCond .lt 11, 3) := by decide +kernel
theorem dX6_nameAt_19 : decode cX6_nameAt 19 = .ok (.iload_n 2, 1) := by decide +kernel
theorem dX6_nameAt_20 : decode cX6_nameAt 20 = .ok (.aload_n 3, 1) := by decide +kernel
theorem dX6_nameAt_21 : decode cX6_nameAt 21 = .ok (.getfield 125, 3) := by decide +kernel
theorem dX6_nameAt_24 : decode cX6_nameAt 24 = .ok (.if_icmp .lt 13, 3) := by decide +kernel
theorem dX6_nameAt_27 : decode cX6_nameAt 27 = .ok (.new 128, 3) := by decide +kernel
theorem dX6_nameAt_30 : decode cX6_nameAt 30 = .ok (.dup, 1) := by decide +kernel
theorem dX6_nameAt_31 : decode cX6_nameAt 31 = .ok (.ldc 130, 2) := by decide +kernel
theorem dX6_nameAt_33 : decode cX6_nameAt 33 = .ok (.invokespecial 132, 3) := by decide +kernel
theorem dX6_nameAt_36 : decode cX6_nameAt 36 = .ok (.athrow, 1) := by decide +kernel
theorem dX6_nameAt_37 : decode cX6_nameAt 37 = .ok (.aload_n 3, 1) := by decide +kernel
theorem dX6_nameAt_38 : decode cX6_nameAt 38 = .ok (.getfield 133, 3) := by decide +kernel
theorem dX6_nameAt_41 : decode cX6_nameAt 41 = .ok (.iload_n 2, 1) := by decide +kernel
theorem dX6_nameAt_42 : decode cX6_nameAt 42 = .ok (.caload, 1) := by decide +kernel
theorem dX6_nameAt_43 : decode cX6_nameAt 43 = .ok (.ireturn, 1) := by decide +kernel
theorem dX6_soundAt_0 : decode cX6_soundAt 0 = .ok (.aload_n 0, 1) := by decide +kernel
theorem dX6_soundAt_1 : decode cX6_soundAt 1 = .ok (.iload_n 1, 1) := by decide +kernel
theorem dX6_soundAt_2 : decode cX6_soundAt 2 = .ok (.invokevirtual 96, 3) := by decide +kernel
theorem dX6_soundAt_5 : decode cX6_soundAt 5 = .ok (.aload_n 0, 1) := by decide +kernel
theorem dX6_soundAt_6 : decode cX6_soundAt 6 = .ok (.getfield 15, 3) := by decide +kernel
theorem dX6_soundAt_9 : decode cX6_soundAt 9 = .ok (.iload_n 1, 1) := by decide +kernel
theorem dX6_soundAt_10 : decode cX6_soundAt 10 = .ok (.aaload, 1) := by decide +kernel
theorem dX6_soundAt_11 : decode cX6_soundAt 11 = .ok (.getfield 103, 3) := by decide +kernel
theorem dX6_soundAt_14 : decode cX6_soundAt 14 = .ok (.astore_n 3, 1) := by decide +kernel
theorem dX6_soundAt_15 : decode cX6_soundAt 15 = .ok (.iload_n 2, 1) := by decide +kernel
theorem dX6_soundAt_16 : decode cX6_soundAt 16 = .ok (.ifCond .lt 11, 3) := by decide +kernel
theorem dX6_soundAt_19 : decode cX6_soundAt 19 = .ok (.iload_n 2, 1) := by decide +kernel
theorem dX6_soundAt_20 : decode cX6_soundAt 20 = .ok (.aload_n 3, 1) := by decide +kernel
theorem dX6_soundAt_21 : decode cX6_soundAt 21 = .ok (.getfield 137, 3) := by decide +kernel
theorem dX6_soundAt_24 : decode cX6_soundAt 24 = .ok (.if_icmp .lt 13, 3) := by decide +kernel
theorem dX6_soundAt_27 : decode cX6_soundAt 27 = .ok (.new 128, 3) := by decide +kernel
theorem dX6_soundAt_30 : decode cX6_soundAt 30 = .ok (.dup, 1) := by decide +kernel
theorem dX6_soundAt_31 : decode cX6_soundAt 31 = .ok (.ldc 140, 2) := by decide +kernel
theorem dX6_soundAt_33 : decode cX6_soundAt 33 = .ok (.invokespecial 132, 3) := by decide +kernel
theorem dX6_soundAt_36 : decode cX6_soundAt 36 = .ok (.athrow, 1) := by decide +kernel
theorem dX6_soundAt_37 : decode cX6_soundAt 37 = .ok (.aload_n 3, 1) := by decide +kernel
theorem dX6_soundAt_38 : decode cX6_soundAt 38 = .ok (.getfield 142, 3) := by decide +kernel
theorem dX6_soundAt_41 : decode cX6_soundAt 41 = .ok (.iload_n 2, 1) := by decide +kernel
theorem dX6_soundAt_42 : decode cX6_soundAt 42 = .ok (.caload, 1) := by decide +kernel
theorem dX6_soundAt_43 : decode cX6_soundAt 43 = .ok (.ireturn, 1) := by decide +kernel
theorem dX6_number_0 : decode cX6_number 0 = .ok (.aload_n 0, 1) := by decide +kernel
theorem dX6_number_1 : decode cX6_number 1 = .ok (.iload_n 1, 1) := by decide +kernel
theorem dX6_number_2 : decode cX6_number 2 = .ok (.invokevirtual 96, 3) := by decide +kernel
theorem dX6_number_5 : decode cX6_number 5 = .ok (.aload_n 0, 1) := by decide +kernel
theorem dX6_number_6 : decode cX6_number 6 = .ok (.iload_n 2, 1) := by decide +kernel
theorem dX6_number_7 : decode cX6_number 7 = .ok (.invokevirtual 114, 3) := by decide +kernel
theorem dX6_number_10 : decode cX6_number 10 = .ok (.aload_n 0, 1) := by decide +kernel
theorem dX6_number_11 : decode cX6_number 11 = .ok (.getfield 15, 3) := by decide +kernel
theorem dX6_number_14 : decode cX6_number 14 = .ok (.iload_n 1, 1) := by decide +kernel
theorem dX6_number_15 : decode cX6_number 15 = .ok (.aaload, 1) := by decide +kernel
theorem dX6_number_16 : decode cX6_number 16 = .ok (.getfield 122, 3) := by decide +kernel
theorem dX6_number_19 : decode cX6_number 19 = .ok (.iload_n 2, 1) := by decide +kernel
theorem dX6_number_20 : decode cX6_number 20 = .ok (.iaload, 1) := by decide +kernel
theorem dX6_number_21 : decode cX6_number 21 = .ok (.ireturn, 1) := by decide +kernel
theorem dX6_setWeights_0 : decode cX6_setWeights 0 = .ok (.aload_n 0, 1) := by decide +kernel
theorem dX6_setWeights_1 : decode cX6_setWeights 1 = .ok (.iload_n 1, 1) := by decide +kernel
theorem dX6_setWeights_2 : decode cX6_setWeights 2 = .ok (.invokevirtual 145, 3) := by decide +kernel
theorem dX6_setWeights_5 : decode cX6_setWeights 5 = .ok (.aload_n 0, 1) := by decide +kernel
theorem dX6_setWeights_6 : decode cX6_setWeights 6 = .ok (.iload_n 2, 1) := by decide +kernel
theorem dX6_setWeights_7 : decode cX6_setWeights 7 = .ok (.invokevirtual 148, 3) := by decide +kernel
theorem dX6_setWeights_10 : decode cX6_setWeights 10 = .ok (.aload_n 0, 1) := by decide +kernel
theorem dX6_setWeights_11 : decode cX6_setWeights 11 = .ok (.iload_n 3, 1) := by decide +kernel
theorem dX6_setWeights_12 : decode cX6_setWeights 12 = .ok (.invokevirtual 148, 3) := by decide +kernel
theorem dX6_setWeights_15 : decode cX6_setWeights 15 = .ok (.aload_n 0, 1) := by decide +kernel
theorem dX6_setWeights_16 : decode cX6_setWeights 16 = .ok (.getfield 19, 3) := by decide +kernel
theorem dX6_setWeights_19 : decode cX6_setWeights 19 = .ok (.iload_n 1, 1) := by decide +kernel
theorem dX6_setWeights_20 : decode cX6_setWeights 20 = .ok (.iaload, 1) := by decide +kernel
theorem dX6_setWeights_21 : decode cX6_setWeights 21 = .ok (.istore 4, 2) := by decide +kernel
theorem dX6_setWeights_23 : decode cX6_setWeights 23 = .ok (.aload_n 0, 1) := by decide +kernel
theorem dX6_setWeights_24 : decode cX6_setWeights 24 = .ok (.getfield 19, 3) := by decide +kernel
theorem dX6_setWeights_27 : decode cX6_setWeights 27 = .ok (.iload_n 1, 1) := by decide +kernel
theorem dX6_setWeights_28 : decode cX6_setWeights 28 = .ok (.iload_n 2, 1) := by decide +kernel
theorem dX6_setWeights_29 : decode cX6_setWeights 29 = .ok (.iastore, 1) := by decide +kernel
theorem dX6_setWeights_30 : decode cX6_setWeights 30 = .ok (.aload_n 0, 1) := by decide +kernel
theorem dX6_setWeights_31 : decode cX6_setWeights 31 = .ok (.getfield 22, 3) := by decide +kernel
theorem dX6_setWeights_34 : decode cX6_setWeights 34 = .ok (.iload_n 1, 1) := by decide +kernel
theorem dX6_setWeights_35 : decode cX6_setWeights 35 = .ok (.iload_n 3, 1) := by decide +kernel
theorem dX6_setWeights_36 : decode cX6_setWeights 36 = .ok (.iastore, 1) := by decide +kernel
theorem dX6_setWeights_37 : decode cX6_setWeights 37 = .ok (.iload 4, 2) := by decide +kernel
theorem dX6_setWeights_39 : decode cX6_setWeights 39 = .ok (.ireturn, 1) := by decide +kernel
theorem dX6_setThreshold_0 : decode cX6_setThreshold 0 = .ok (.iload_n 1, 1) := by decide +kernel
theorem dX6_setThreshold_1 : decode cX6_setThreshold 1 = .ok (.bipush (-40), 2) := by decide +kernel
theorem dX6_setThreshold_3 : decode cX6_setThreshold 3 = .ok (.if_icmp .lt 9, 3) := by decide +kernel
theorem dX6_setThreshold_6 : decode cX6_setThreshold 6 = .ok (.iload_n 1, 1) := by decide +kernel
theorem dX6_setThreshold_7 : decode cX6_setThreshold 7 = .ok (.bipush 40, 2) := by decide +kernel
theorem dX6_setThreshold_9 : decode cX6_setThreshold 9 = .ok (.if_icmp .le 13, 3) := by decide +kernel
theorem dX6_setThreshold_12 : decode cX6_setThreshold 12 = .ok (.new 117, 3) := by decide +kernel
theorem dX6_setThreshold_15 : decode cX6_setThreshold 15 = .ok (.dup, 1) := by decide +kernel
theorem dX6_setThreshold_16 : decode cX6_setThreshold 16 = .ok (.ldc 151, 2) := by decide +kernel
theorem dX6_setThreshold_18 : decode cX6_setThreshold 18 = .ok (.invokespecial 121, 3) := by decide +kernel
theorem dX6_setThreshold_21 : decode cX6_setThreshold 21 = .ok (.athrow, 1) := by decide +kernel
theorem dX6_setThreshold_22 : decode cX6_setThreshold 22 = .ok (.aload_n 0, 1) := by decide +kernel
theorem dX6_setThreshold_23 : decode cX6_setThreshold 23 = .ok (.getfield 25, 3) := by decide +kernel
theorem dX6_setThreshold_26 : decode cX6_setThreshold 26 = .ok (.istore_n 2, 1) := by decide +kernel
theorem dX6_setThreshold_27 : decode cX6_setThreshold 27 = .ok (.aload_n 0, 1) := by decide +kernel
theorem dX6_setThreshold_28 : decode cX6_setThreshold 28 = .ok (.iload_n 1, 1) := by decide +kernel
theorem dX6_setThreshold_29 : decode cX6_setThreshold 29 = .ok (.putfield 25, 3) := by decide +kernel
theorem dX6_setThreshold_32 : decode cX6_setThreshold 32 = .ok (.iload_n 2, 1) := by decide +kernel
theorem dX6_setThreshold_33 : decode cX6_setThreshold 33 = .ok (.ireturn, 1) := by decide +kernel
theorem dX6_score_0 : decode cX6_score 0 = .ok (.aload_n 0, 1) := by decide +kernel
theorem dX6_score_1 : decode cX6_score 1 = .ok (.iload_n 1, 1) := by decide +kernel
theorem dX6_score_2 : decode cX6_score 2 = .ok (.iload_n 2, 1) := by decide +kernel
theorem dX6_score_3 : decode cX6_score 3 = .ok (.invokevirtual 153, 3) := by decide +kernel
theorem dX6_score_6 : decode cX6_score 6 = .ok (.aload_n 0, 1) := by decide +kernel
theorem dX6_score_7 : decode cX6_score 7 = .ok (.iload_n 1, 1) := by decide +kernel
theorem dX6_score_8 : decode cX6_score 8 = .ok (.iload_n 2, 1) := by decide +kernel
theorem dX6_score_9 : decode cX6_score 9 = .ok (.invokevirtual 157, 3) := by decide +kernel
theorem dX6_score_12 : decode cX6_score 12 = .ok (.aload_n 0, 1) := by decide +kernel
theorem dX6_score_13 : decode cX6_score 13 = .ok (.iload_n 1, 1) := by decide +kernel
theorem dX6_score_14 : decode cX6_score 14 = .ok (.iload_n 2, 1) := by decide +kernel
theorem dX6_score_15 : decode cX6_score 15 = .ok (.invokevirtual 160, 3) := by decide +kernel
theorem dX6_score_18 : decode cX6_score 18 = .ok (.ireturn, 1) := by decide +kernel
theorem dX6_candidates_0 : decode cX6_candidates 0 = .ok (.iconst 0, 1) := by decide +kernel
theorem dX6_candidates_1 : decode cX6_candidates 1 = .ok (.istore_n 1, 1) := by decide +kernel
theorem dX6_candidates_2 : decode cX6_candidates 2 = .ok (.iconst 0, 1) := by decide +kernel
theorem dX6_candidates_3 : decode cX6_candidates 3 = .ok (.istore_n 2, 1) := by decide +kernel
theorem dX6_candidates_4 : decode cX6_candidates 4 = .ok (.iload_n 2, 1) := by decide +kernel
theorem dX6_candidates_5 : decode cX6_candidates 5 = .ok (.aload_n 0, 1) := by decide +kernel
theorem dX6_candidates_6 : decode cX6_candidates 6 = .ok (.getfield 88, 3) := by decide +kernel
theorem dX6_candidates_9 : decode cX6_candidates 9 = .ok (.if_icmp .ge 61, 3) := by decide +kernel
theorem dX6_candidates_12 : decode cX6_candidates 12 = .ok (.iload_n 2, 1) := by decide +kernel
theorem dX6_candidates_13 : decode cX6_candidates 13 = .ok (.iconst 1, 1) := by decide +kernel
theorem dX6_candidates_14 : decode cX6_candidates 14 = .ok (.iadd, 1) := by decide +kernel
theorem dX6_candidates_15 : decode cX6_candidates 15 = .ok (.istore_n 3, 1) := by decide +kernel
theorem dX6_candidates_16 : decode cX6_candidates 16 = .ok (.iload_n 3, 1) := by decide +kernel
theorem dX6_candidates_17 : decode cX6_candidates 17 = .ok (.aload_n 0, 1) := by decide +kernel
theorem dX6_candidates_18 : decode cX6_candidates 18 = .ok (.getfield 88, 3) := by decide +kernel
theorem dX6_candidates_21 : decode cX6_candidates 21 = .ok (.if_icmp .ge 43, 3) := by decide +kernel
theorem dX6_candidates_24 : decode cX6_candidates 24 = .ok (.aload_n 0, 1) := by decide +kernel
theorem dX6_candidates_25 : decode cX6_candidates 25 = .ok (.iload_n 2, 1) := by decide +kernel
theorem dX6_candidates_26 : decode cX6_candidates 26 = .ok (.iload_n 3, 1) := by decide +kernel
theorem dX6_candidates_27 : decode cX6_candidates 27 = .ok (.invokevirtual 164, 3) := by decide +kernel
theorem dX6_candidates_30 : decode cX6_candidates 30 = .ok (.ifCond .eq 28, 3) := by decide +kernel
theorem dX6_candidates_33 : decode cX6_candidates 33 = .ok (.aload_n 0, 1) := by decide +kernel
theorem dX6_candidates_34 : decode cX6_candidates 34 = .ok (.iload_n 2, 1) := by decide +kernel
theorem dX6_candidates_35 : decode cX6_candidates 35 = .ok (.iload_n 3, 1) := by decide +kernel
theorem dX6_candidates_36 : decode cX6_candidates 36 = .ok (.invokevirtual 160, 3) := by decide +kernel
theorem dX6_candidates_39 : decode cX6_candidates 39 = .ok (.aload_n 0, 1) := by decide +kernel
theorem dX6_candidates_40 : decode cX6_candidates 40 = .ok (.getfield 25, 3) := by decide +kernel
theorem dX6_candidates_43 : decode cX6_candidates 43 = .ok (.if_icmp .lt 15, 3) := by decide +kernel
theorem dX6_candidates_46 : decode cX6_candidates 46 = .ok (.aload_n 0, 1) := by decide +kernel
theorem dX6_candidates_47 : decode cX6_candidates 47 = .ok (.iload_n 2, 1) := by decide +kernel
theorem dX6_candidates_48 : decode cX6_candidates 48 = .ok (.iload_n 3, 1) := by decide +kernel
theorem dX6_candidates_49 : decode cX6_candidates 49 = .ok (.invokevirtual 168, 3) := by decide +kernel
theorem dX6_candidates_52 : decode cX6_candidates 52 = .ok (.ifCond .eq 6, 3) := by decide +kernel
theorem dX6_candidates_55 : decode cX6_candidates 55 = .ok (.iinc 1 1, 3) := by decide +kernel
theorem dX6_candidates_58 : decode cX6_candidates 58 = .ok (.iinc 3 1, 3) := by decide +kernel
theorem dX6_candidates_61 : decode cX6_candidates 61 = .ok (.goto (-45), 3) := by decide +kernel
theorem dX6_candidates_64 : decode cX6_candidates 64 = .ok (.iinc 2 1, 3) := by decide +kernel
theorem dX6_candidates_67 : decode cX6_candidates 67 = .ok (.goto (-63), 3) := by decide +kernel
theorem dX6_candidates_70 : decode cX6_candidates 70 = .ok (.iload_n 1, 1) := by decide +kernel
theorem dX6_candidates_71 : decode cX6_candidates 71 = .ok (.ireturn, 1) := by decide +kernel
theorem dX6_bestScore_0 : decode cX6_bestScore 0 = .ok (.aload_n 0, 1) := by decide +kernel
theorem dX6_bestScore_1 : decode cX6_bestScore 1 = .ok (.invokevirtual 171, 3) := by decide +kernel
theorem dX6_bestScore_4 : decode cX6_bestScore 4 = .ok (.aload_n 0, 1) := by decide +kernel
theorem dX6_bestScore_5 : decode cX6_bestScore 5 = .ok (.invokevirtual 174, 3) := by decide +kernel
theorem dX6_bestScore_8 : decode cX6_bestScore 8 = .ok (.aload_n 0, 1) := by decide +kernel
theorem dX6_bestScore_9 : decode cX6_bestScore 9 = .ok (.getfield 56, 3) := by decide +kernel
theorem dX6_bestScore_12 : decode cX6_bestScore 12 = .ok (.getfield 177, 3) := by decide +kernel
theorem dX6_bestScore_15 : decode cX6_bestScore 15 = .ok (.ireturn, 1) := by decide +kernel
theorem dX6_bestScoreByPairs_0 : decode cX6_bestScoreByPairs 0 = .ok (.aload_n 0, 1) := by decide +kernel
theorem dX6_bestScoreByPairs_1 : decode cX6_bestScoreByPairs 1 = .ok (.invokevirtual 180, 3) := by decide +kernel
theorem dX6_bestScoreByPairs_4 : decode cX6_bestScoreByPairs 4 = .ok (.aload_n 0, 1) := by decide +kernel
theorem dX6_bestScoreByPairs_5 : decode cX6_bestScoreByPairs 5 = .ok (.invokevirtual 174, 3) := by decide +kernel
theorem dX6_bestScoreByPairs_8 : decode cX6_bestScoreByPairs 8 = .ok (.aload_n 0, 1) := by decide +kernel
theorem dX6_bestScoreByPairs_9 : decode cX6_bestScoreByPairs 9 = .ok (.getfield 56, 3) := by decide +kernel
theorem dX6_bestScoreByPairs_12 : decode cX6_bestScoreByPairs 12 = .ok (.getfield 177, 3) := by decide +kernel
theorem dX6_bestScoreByPairs_15 : decode cX6_bestScoreByPairs 15 = .ok (.ireturn, 1) := by decide +kernel
theorem dX6_bestOne_0 : decode cX6_bestOne 0 = .ok (.aload_n 0, 1) := by decide +kernel
theorem dX6_bestOne_1 : decode cX6_bestOne 1 = .ok (.invokevirtual 171, 3) := by decide +kernel
theorem dX6_bestOne_4 : decode cX6_bestOne 4 = .ok (.aload_n 0, 1) := by decide +kernel
theorem dX6_bestOne_5 : decode cX6_bestOne 5 = .ok (.invokevirtual 174, 3) := by decide +kernel
theorem dX6_bestOne_8 : decode cX6_bestOne 8 = .ok (.aload_n 0, 1) := by decide +kernel
theorem dX6_bestOne_9 : decode cX6_bestOne 9 = .ok (.getfield 56, 3) := by decide +kernel
theorem dX6_bestOne_12 : decode cX6_bestOne 12 = .ok (.getfield 183, 3) := by decide +kernel
theorem dX6_bestOne_15 : decode cX6_bestOne 15 = .ok (.ireturn, 1) := by decide +kernel
theorem dX6_bestOther_0 : decode cX6_bestOther 0 = .ok (.aload_n 0, 1) := by decide +kernel
theorem dX6_bestOther_1 : decode cX6_bestOther 1 = .ok (.invokevirtual 171, 3) := by decide +kernel
theorem dX6_bestOther_4 : decode cX6_bestOther 4 = .ok (.aload_n 0, 1) := by decide +kernel
theorem dX6_bestOther_5 : decode cX6_bestOther 5 = .ok (.invokevirtual 174, 3) := by decide +kernel
theorem dX6_bestOther_8 : decode cX6_bestOther 8 = .ok (.aload_n 0, 1) := by decide +kernel
theorem dX6_bestOther_9 : decode cX6_bestOther 9 = .ok (.getfield 56, 3) := by decide +kernel
theorem dX6_bestOther_12 : decode cX6_bestOther 12 = .ok (.getfield 186, 3) := by decide +kernel
theorem dX6_bestOther_15 : decode cX6_bestOther 15 = .ok (.ireturn, 1) := by decide +kernel
theorem dX6_forbid_0 : decode cX6_forbid 0 = .ok (.aload_n 0, 1) := by decide +kernel
theorem dX6_forbid_1 : decode cX6_forbid 1 = .ok (.iload_n 1, 1) := by decide +kernel
theorem dX6_forbid_2 : decode cX6_forbid 2 = .ok (.iload_n 2, 1) := by decide +kernel
theorem dX6_forbid_3 : decode cX6_forbid 3 = .ok (.invokevirtual 153, 3) := by decide +kernel
theorem dX6_forbid_6 : decode cX6_forbid 6 = .ok (.aload_n 0, 1) := by decide +kernel
theorem dX6_forbid_7 : decode cX6_forbid 7 = .ok (.iload_n 1, 1) := by decide +kernel
theorem dX6_forbid_8 : decode cX6_forbid 8 = .ok (.iload_n 2, 1) := by decide +kernel
theorem dX6_forbid_9 : decode cX6_forbid 9 = .ok (.invokevirtual 157, 3) := by decide +kernel
theorem dX6_forbid_12 : decode cX6_forbid 12 = .ok (.aload_n 0, 1) := by decide +kernel
theorem dX6_forbid_13 : decode cX6_forbid 13 = .ok (.iload_n 1, 1) := by decide +kernel
theorem dX6_forbid_14 : decode cX6_forbid 14 = .ok (.iload_n 2, 1) := by decide +kernel
theorem dX6_forbid_15 : decode cX6_forbid 15 = .ok (.invokevirtual 189, 3) := by decide +kernel
theorem dX6_forbid_18 : decode cX6_forbid 18 = .ok (.ifCond .eq 13, 3) := by decide +kernel
theorem dX6_forbid_21 : decode cX6_forbid 21 = .ok (.new 192, 3) := by decide +kernel
theorem dX6_forbid_24 : decode cX6_forbid 24 = .ok (.dup, 1) := by decide +kernel
theorem dX6_forbid_25 : decode cX6_forbid 25 = .ok (.ldc 194, 2) := by decide +kernel
theorem dX6_forbid_27 : decode cX6_forbid 27 = .ok (.invokespecial 196, 3) := by decide +kernel
theorem dX6_forbid_30 : decode cX6_forbid 30 = .ok (.athrow, 1) := by decide +kernel
theorem dX6_forbid_31 : decode cX6_forbid 31 = .ok (.aload_n 0, 1) := by decide +kernel
theorem dX6_forbid_32 : decode cX6_forbid 32 = .ok (.getfield 32, 3) := by decide +kernel
theorem dX6_forbid_35 : decode cX6_forbid 35 = .ok (.iload_n 1, 1) := by decide +kernel
theorem dX6_forbid_36 : decode cX6_forbid 36 = .ok (.iload_n 2, 1) := by decide +kernel
theorem dX6_forbid_37 : decode cX6_forbid 37 = .ok (.invokevirtual 197, 3) := by decide +kernel
theorem dX6_forbid_40 : decode cX6_forbid 40 = .ok (.ifCond .ne 12, 3) := by decide +kernel
theorem dX6_forbid_43 : decode cX6_forbid 43 = .ok (.aload_n 0, 1) := by decide +kernel
theorem dX6_forbid_44 : decode cX6_forbid 44 = .ok (.getfield 200, 3) := by decide +kernel
theorem dX6_forbid_47 : decode cX6_forbid 47 = .ok (.bipush 12, 2) := by decide +kernel
theorem dX6_forbid_49 : decode cX6_forbid 49 = .ok (.if_icmp .lt 13, 3) := by decide +kernel
theorem dX6_forbid_52 : decode cX6_forbid 52 = .ok (.new 78, 3) := by decide +kernel
theorem dX6_forbid_55 : decode cX6_forbid 55 = .ok (.dup, 1) := by decide +kernel
theorem dX6_forbid_56 : decode cX6_forbid 56 = .ok (.ldc 203, 2) := by decide +kernel
theorem dX6_forbid_58 : decode cX6_forbid 58 = .ok (.invokespecial 82, 3) := by decide +kernel
theorem dX6_forbid_61 : decode cX6_forbid 61 = .ok (.athrow, 1) := by decide +kernel
theorem dX6_forbid_62 : decode cX6_forbid 62 = .ok (.aload_n 0, 1) := by decide +kernel
theorem dX6_forbid_63 : decode cX6_forbid 63 = .ok (.getfield 32, 3) := by decide +kernel
theorem dX6_forbid_66 : decode cX6_forbid 66 = .ok (.iload_n 1, 1) := by decide +kernel
theorem dX6_forbid_67 : decode cX6_forbid 67 = .ok (.iload_n 2, 1) := by decide +kernel
theorem dX6_forbid_68 : decode cX6_forbid 68 = .ok (.invokevirtual 205, 3) := by decide +kernel
theorem dX6_forbid_71 : decode cX6_forbid 71 = .ok (.aload_n 0, 1) := by decide +kernel
theorem dX6_forbid_72 : decode cX6_forbid 72 = .ok (.dup, 1) := by decide +kernel
theorem dX6_forbid_73 : decode cX6_forbid 73 = .ok (.getfield 200, 3) := by decide +kernel
theorem dX6_forbid_76 : decode cX6_forbid 76 = .ok (.iconst 1, 1) := by decide +kernel
theorem dX6_forbid_77 : decode cX6_forbid 77 = .ok (.iadd, 1) := by decide +kernel
theorem dX6_forbid_78 : decode cX6_forbid 78 = .ok (.putfield 200, 3) := by decide +kernel
theorem dX6_forbid_81 : decode cX6_forbid 81 = .ok (.aload_n 0, 1) := by decide +kernel
theorem dX6_forbid_82 : decode cX6_forbid 82 = .ok (.getfield 200, 3) := by decide +kernel
theorem dX6_forbid_85 : decode cX6_forbid 85 = .ok (.ireturn, 1) := by decide +kernel
theorem dX6_allow_0 : decode cX6_allow 0 = .ok (.aload_n 0, 1) := by decide +kernel
theorem dX6_allow_1 : decode cX6_allow 1 = .ok (.iload_n 1, 1) := by decide +kernel
theorem dX6_allow_2 : decode cX6_allow 2 = .ok (.iload_n 2, 1) := by decide +kernel
theorem dX6_allow_3 : decode cX6_allow 3 = .ok (.invokevirtual 153, 3) := by decide +kernel
theorem dX6_allow_6 : decode cX6_allow 6 = .ok (.aload_n 0, 1) := by decide +kernel
theorem dX6_allow_7 : decode cX6_allow 7 = .ok (.getfield 32, 3) := by decide +kernel
theorem dX6_allow_10 : decode cX6_allow 10 = .ok (.iload_n 1, 1) := by decide +kernel
theorem dX6_allow_11 : decode cX6_allow 11 = .ok (.iload_n 2, 1) := by decide +kernel
theorem dX6_allow_12 : decode cX6_allow 12 = .ok (.invokevirtual 197, 3) := by decide +kernel
theorem dX6_allow_15 : decode cX6_allow 15 = .ok (.ifCond .ne 13, 3) := by decide +kernel
theorem dX6_allow_18 : decode cX6_allow 18 = .ok (.new 128, 3) := by decide +kernel
theorem dX6_allow_21 : decode cX6_allow 21 = .ok (.dup, 1) := by decide +kernel
theorem dX6_allow_22 : decode cX6_allow 22 = .ok (.ldc 208, 2) := by decide +kernel
theorem dX6_allow_24 : decode cX6_allow 24 = .ok (.invokespecial 132, 3) := by decide +kernel
theorem dX6_allow_27 : decode cX6_allow 27 = .ok (.athrow, 1) := by decide +kernel
theorem dX6_allow_28 : decode cX6_allow 28 = .ok (.aload_n 0, 1) := by decide +kernel
theorem dX6_allow_29 : decode cX6_allow 29 = .ok (.getfield 32, 3) := by decide +kernel
theorem dX6_allow_32 : decode cX6_allow 32 = .ok (.iload_n 1, 1) := by decide +kernel
theorem dX6_allow_33 : decode cX6_allow 33 = .ok (.iload_n 2, 1) := by decide +kernel
theorem dX6_allow_34 : decode cX6_allow 34 = .ok (.invokevirtual 210, 3) := by decide +kernel
theorem dX6_allow_37 : decode cX6_allow 37 = .ok (.aload_n 0, 1) := by decide +kernel
theorem dX6_allow_38 : decode cX6_allow 38 = .ok (.dup, 1) := by decide +kernel
theorem dX6_allow_39 : decode cX6_allow 39 = .ok (.getfield 200, 3) := by decide +kernel
theorem dX6_allow_42 : decode cX6_allow 42 = .ok (.iconst 1, 1) := by decide +kernel
theorem dX6_allow_43 : decode cX6_allow 43 = .ok (.isub, 1) := by decide +kernel
theorem dX6_allow_44 : decode cX6_allow 44 = .ok (.putfield 200, 3) := by decide +kernel
theorem dX6_allow_47 : decode cX6_allow 47 = .ok (.aload_n 0, 1) := by decide +kernel
theorem dX6_allow_48 : decode cX6_allow 48 = .ok (.getfield 200, 3) := by decide +kernel
theorem dX6_allow_51 : decode cX6_allow 51 = .ok (.ireturn, 1) := by decide +kernel
theorem dX6_why_0 : decode cX6_why 0 = .ok (.aload_n 0, 1) := by decide +kernel
theorem dX6_why_1 : decode cX6_why 1 = .ok (.iload_n 1, 1) := by decide +kernel
theorem dX6_why_2 : decode cX6_why 2 = .ok (.iload_n 2, 1) := by decide +kernel
theorem dX6_why_3 : decode cX6_why 3 = .ok (.invokevirtual 153, 3) := by decide +kernel
theorem dX6_why_6 : decode cX6_why 6 = .ok (.aload_n 0, 1) := by decide +kernel
theorem dX6_why_7 : decode cX6_why 7 = .ok (.iload_n 1, 1) := by decide +kernel
theorem dX6_why_8 : decode cX6_why 8 = .ok (.iload_n 2, 1) := by decide +kernel
theorem dX6_why_9 : decode cX6_why 9 = .ok (.invokevirtual 189, 3) := by decide +kernel
theorem dX6_why_12 : decode cX6_why 12 = .ok (.ifCond .eq 6, 3) := by decide +kernel
theorem dX6_why_15 : decode cX6_why 15 = .ok (.bipush 116, 2) := by decide +kernel
theorem dX6_why_17 : decode cX6_why 17 = .ok (.ireturn, 1) := by decide +kernel
theorem dX6_why_18 : decode cX6_why 18 = .ok (.aload_n 0, 1) := by decide +kernel
theorem dX6_why_19 : decode cX6_why 19 = .ok (.getfield 32, 3) := by decide +kernel
theorem dX6_why_22 : decode cX6_why 22 = .ok (.iload_n 1, 1) := by decide +kernel
theorem dX6_why_23 : decode cX6_why 23 = .ok (.iload_n 2, 1) := by decide +kernel
theorem dX6_why_24 : decode cX6_why 24 = .ok (.invokevirtual 197, 3) := by decide +kernel
theorem dX6_why_27 : decode cX6_why 27 = .ok (.ifCond .eq 6, 3) := by decide +kernel
theorem dX6_why_30 : decode cX6_why 30 = .ok (.bipush 100, 2) := by decide +kernel
theorem dX6_why_32 : decode cX6_why 32 = .ok (.ireturn, 1) := by decide +kernel
theorem dX6_why_33 : decode cX6_why 33 = .ok (.aload_n 0, 1) := by decide +kernel
theorem dX6_why_34 : decode cX6_why 34 = .ok (.iload_n 1, 1) := by decide +kernel
theorem dX6_why_35 : decode cX6_why 35 = .ok (.iload_n 2, 1) := by decide +kernel
theorem dX6_why_36 : decode cX6_why 36 = .ok (.invokevirtual 213, 3) := by decide +kernel
theorem dX6_why_39 : decode cX6_why 39 = .ok (.ifCond .eq 8, 3) := by decide +kernel
theorem dX6_why_42 : decode cX6_why 42 = .ok (.bipush 105, 2) := by decide +kernel
theorem dX6_why_44 : decode cX6_why 44 = .ok (.goto 5, 3) := by decide +kernel
theorem dX6_why_47 : decode cX6_why 47 = .ok (.bipush 45, 2) := by decide +kernel
theorem dX6_why_49 : decode cX6_why 49 = .ok (.ireturn, 1) := by decide +kernel
theorem dX6_barOne_0 : decode cX6_barOne 0 = .ok (.aload_n 0, 1) := by decide +kernel
theorem dX6_barOne_1 : decode cX6_barOne 1 = .ok (.iload_n 1, 1) := by decide +kernel
theorem dX6_barOne_2 : decode cX6_barOne 2 = .ok (.iload_n 2, 1) := by decide +kernel
theorem dX6_barOne_3 : decode cX6_barOne 3 = .ok (.invokevirtual 153, 3) := by decide +kernel
theorem dX6_barOne_6 : decode cX6_barOne 6 = .ok (.aload_n 0, 1) := by decide +kernel
theorem dX6_barOne_7 : decode cX6_barOne 7 = .ok (.iload_n 1, 1) := by decide +kernel
theorem dX6_barOne_8 : decode cX6_barOne 8 = .ok (.iload_n 2, 1) := by decide +kernel
theorem dX6_barOne_9 : decode cX6_barOne 9 = .ok (.invokevirtual 213, 3) := by decide +kernel
theorem dX6_barOne_12 : decode cX6_barOne 12 = .ok (.istore_n 3, 1) := by decide +kernel
theorem dX6_barOne_13 : decode cX6_barOne 13 = .ok (.aload_n 0, 1) := by decide +kernel
theorem dX6_barOne_14 : decode cX6_barOne 14 = .ok (.iload_n 3, 1) := by decide +kernel
theorem dX6_barOne_15 : decode cX6_barOne 15 = .ok (.invokevirtual 216, 3) := by decide +kernel
theorem dX6_barOne_18 : decode cX6_barOne 18 = .ok (.iload_n 3, 1) := by decide +kernel
theorem dX6_barOne_19 : decode cX6_barOne 19 = .ok (.invokestatic 219, 3) := by decide +kernel
theorem dX6_barOne_22 : decode cX6_barOne 22 = .ok (.ireturn, 1) := by decide +kernel
theorem dX6_barOther_0 : decode cX6_barOther 0 = .ok (.aload_n 0, 1) := by decide +kernel
theorem dX6_barOther_1 : decode cX6_barOther 1 = .ok (.iload_n 1, 1) := by decide +kernel
theorem dX6_barOther_2 : decode cX6_barOther 2 = .ok (.iload_n 2, 1) := by decide +kernel
theorem dX6_barOther_3 : decode cX6_barOther 3 = .ok (.invokevirtual 153, 3) := by decide +kernel
theorem dX6_barOther_6 : decode cX6_barOther 6 = .ok (.aload_n 0, 1) := by decide +kernel
theorem dX6_barOther_7 : decode cX6_barOther 7 = .ok (.iload_n 1, 1) := by decide +kernel
theorem dX6_barOther_8 : decode cX6_barOther 8 = .ok (.iload_n 2, 1) := by decide +kernel
theorem dX6_barOther_9 : decode cX6_barOther 9 = .ok (.invokevirtual 213, 3) := by decide +kernel
theorem dX6_barOther_12 : decode cX6_barOther 12 = .ok (.istore_n 3, 1) := by decide +kernel
theorem dX6_barOther_13 : decode cX6_barOther 13 = .ok (.aload_n 0, 1) := by decide +kernel
theorem dX6_barOther_14 : decode cX6_barOther 14 = .ok (.iload_n 3, 1) := by decide +kernel
theorem dX6_barOther_15 : decode cX6_barOther 15 = .ok (.invokevirtual 216, 3) := by decide +kernel
theorem dX6_barOther_18 : decode cX6_barOther 18 = .ok (.iload_n 3, 1) := by decide +kernel
theorem dX6_barOther_19 : decode cX6_barOther 19 = .ok (.iload_n 3, 1) := by decide +kernel
theorem dX6_barOther_20 : decode cX6_barOther 20 = .ok (.ineg, 1) := by decide +kernel
theorem dX6_barOther_21 : decode cX6_barOther 21 = .ok (.iand, 1) := by decide +kernel
theorem dX6_barOther_22 : decode cX6_barOther 22 = .ok (.istore 4, 2) := by decide +kernel
theorem dX6_barOther_24 : decode cX6_barOther 24 = .ok (.aload_n 0, 1) := by decide +kernel
theorem dX6_barOther_25 : decode cX6_barOther 25 = .ok (.getfield 32, 3) := by decide +kernel
theorem dX6_barOther_28 : decode cX6_barOther 28 = .ok (.iload 4, 2) := by decide +kernel
theorem dX6_barOther_30 : decode cX6_barOther 30 = .ok (.invokevirtual 223, 3) := by decide +kernel
theorem dX6_barOther_33 : decode cX6_barOther 33 = .ok (.aload_n 0, 1) := by decide +kernel
theorem dX6_barOther_34 : decode cX6_barOther 34 = .ok (.getfield 39, 3) := by decide +kernel
theorem dX6_barOther_37 : decode cX6_barOther 37 = .ok (.iload_n 2, 1) := by decide +kernel
theorem dX6_barOther_38 : decode cX6_barOther 38 = .ok (.invokevirtual 226, 3) := by decide +kernel
theorem dX6_barOther_41 : decode cX6_barOther 41 = .ok (.iand, 1) := by decide +kernel
theorem dX6_barOther_42 : decode cX6_barOther 42 = .ok (.invokestatic 219, 3) := by decide +kernel
theorem dX6_barOther_45 : decode cX6_barOther 45 = .ok (.ireturn, 1) := by decide +kernel
theorem dX6_merge_0 : decode cX6_merge 0 = .ok (.aload_n 0, 1) := by decide +kernel
theorem dX6_merge_1 : decode cX6_merge 1 = .ok (.iload_n 1, 1) := by decide +kernel
theorem dX6_merge_2 : decode cX6_merge 2 = .ok (.iload_n 2, 1) := by decide +kernel
theorem dX6_merge_3 : decode cX6_merge 3 = .ok (.invokevirtual 153, 3) := by decide +kernel
theorem dX6_merge_6 : decode cX6_merge 6 = .ok (.aload_n 0, 1) := by decide +kernel
theorem dX6_merge_7 : decode cX6_merge 7 = .ok (.iload_n 1, 1) := by decide +kernel
theorem dX6_merge_8 : decode cX6_merge 8 = .ok (.iload_n 2, 1) := by decide +kernel
theorem dX6_merge_9 : decode cX6_merge 9 = .ok (.invokevirtual 213, 3) := by decide +kernel
theorem dX6_merge_12 : decode cX6_merge 12 = .ok (.ifCond .eq 13, 3) := by decide +kernel
theorem dX6_merge_15 : decode cX6_merge 15 = .ok (.new 192, 3) := by decide +kernel
theorem dX6_merge_18 : decode cX6_merge 18 = .ok (.dup, 1) := by decide +kernel
theorem dX6_merge_19 : decode cX6_merge 19 = .ok (.ldc 229, 2) := by decide +kernel
theorem dX6_merge_21 : decode cX6_merge 21 = .ok (.invokespecial 196, 3) := by decide +kernel
theorem dX6_merge_24 : decode cX6_merge 24 = .ok (.athrow, 1) := by decide +kernel
theorem dX6_merge_25 : decode cX6_merge 25 = .ok (.aload_n 0, 1) := by decide +kernel
theorem dX6_merge_26 : decode cX6_merge 26 = .ok (.iload_n 1, 1) := by decide +kernel
theorem dX6_merge_27 : decode cX6_merge 27 = .ok (.iload_n 2, 1) := by decide +kernel
theorem dX6_merge_28 : decode cX6_merge 28 = .ok (.invokevirtual 189, 3) := by decide +kernel
theorem dX6_merge_31 : decode cX6_merge 31 = .ok (.ifCond .ne 13, 3) := by decide +kernel
theorem dX6_merge_34 : decode cX6_merge 34 = .ok (.aload_n 0, 1) := by decide +kernel
theorem dX6_merge_35 : decode cX6_merge 35 = .ok (.getfield 39, 3) := by decide +kernel
theorem dX6_merge_38 : decode cX6_merge 38 = .ok (.invokevirtual 231, 3) := by decide +kernel
theorem dX6_merge_41 : decode cX6_merge 41 = .ok (.ifCond .eq 13, 3) := by decide +kernel
theorem dX6_merge_44 : decode cX6_merge 44 = .ok (.new 78, 3) := by decide +kernel
theorem dX6_merge_47 : decode cX6_merge 47 = .ok (.dup, 1) := by decide +kernel
theorem dX6_merge_48 : decode cX6_merge 48 = .ok (.ldc 235, 2) := by decide +kernel
theorem dX6_merge_50 : decode cX6_merge 50 = .ok (.invokespecial 82, 3) := by decide +kernel
theorem dX6_merge_53 : decode cX6_merge 53 = .ok (.athrow, 1) := by decide +kernel
theorem dX6_merge_54 : decode cX6_merge 54 = .ok (.aload_n 0, 1) := by decide +kernel
theorem dX6_merge_55 : decode cX6_merge 55 = .ok (.getfield 39, 3) := by decide +kernel
theorem dX6_merge_58 : decode cX6_merge 58 = .ok (.iload_n 1, 1) := by decide +kernel
theorem dX6_merge_59 : decode cX6_merge 59 = .ok (.iload_n 2, 1) := by decide +kernel
theorem dX6_merge_60 : decode cX6_merge 60 = .ok (.invokevirtual 237, 3) := by decide +kernel
theorem dX6_merge_63 : decode cX6_merge 63 = .ok (.ireturn, 1) := by decide +kernel
theorem dX6_mergeBest_0 : decode cX6_mergeBest 0 = .ok (.aload_n 0, 1) := by decide +kernel
theorem dX6_mergeBest_1 : decode cX6_mergeBest 1 = .ok (.invokevirtual 171, 3) := by decide +kernel
theorem dX6_mergeBest_4 : decode cX6_mergeBest 4 = .ok (.aload_n 0, 1) := by decide +kernel
theorem dX6_mergeBest_5 : decode cX6_mergeBest 5 = .ok (.invokevirtual 174, 3) := by decide +kernel
theorem dX6_mergeBest_8 : decode cX6_mergeBest 8 = .ok (.aload_n 0, 1) := by decide +kernel
theorem dX6_mergeBest_9 : decode cX6_mergeBest 9 = .ok (.getfield 39, 3) := by decide +kernel
theorem dX6_mergeBest_12 : decode cX6_mergeBest 12 = .ok (.invokevirtual 231, 3) := by decide +kernel
theorem dX6_mergeBest_15 : decode cX6_mergeBest 15 = .ok (.ifCond .eq 13, 3) := by decide +kernel
theorem dX6_mergeBest_18 : decode cX6_mergeBest 18 = .ok (.new 78, 3) := by decide +kernel
theorem dX6_mergeBest_21 : decode cX6_mergeBest 21 = .ok (.dup, 1) := by decide +kernel
theorem dX6_mergeBest_22 : decode cX6_mergeBest 22 = .ok (.ldc 240, 2) := by decide +kernel
theorem dX6_mergeBest_24 : decode cX6_mergeBest 24 = .ok (.invokespecial 82, 3) := by decide +kernel
theorem dX6_mergeBest_27 : decode cX6_mergeBest 27 = .ok (.athrow, 1) := by decide +kernel
theorem dX6_mergeBest_28 : decode cX6_mergeBest 28 = .ok (.aload_n 0, 1) := by decide +kernel
theorem dX6_mergeBest_29 : decode cX6_mergeBest 29 = .ok (.getfield 39, 3) := by decide +kernel
theorem dX6_mergeBest_32 : decode cX6_mergeBest 32 = .ok (.aload_n 0, 1) := by decide +kernel
theorem dX6_mergeBest_33 : decode cX6_mergeBest 33 = .ok (.getfield 56, 3) := by decide +kernel
theorem dX6_mergeBest_36 : decode cX6_mergeBest 36 = .ok (.getfield 183, 3) := by decide +kernel
theorem dX6_mergeBest_39 : decode cX6_mergeBest 39 = .ok (.aload_n 0, 1) := by decide +kernel
theorem dX6_mergeBest_40 : decode cX6_mergeBest 40 = .ok (.getfield 56, 3) := by decide +kernel
theorem dX6_mergeBest_43 : decode cX6_mergeBest 43 = .ok (.getfield 186, 3) := by decide +kernel
theorem dX6_mergeBest_46 : decode cX6_mergeBest 46 = .ok (.invokevirtual 237, 3) := by decide +kernel
theorem dX6_mergeBest_49 : decode cX6_mergeBest 49 = .ok (.ireturn, 1) := by decide +kernel
theorem dX6_undo_0 : decode cX6_undo 0 = .ok (.aload_n 0, 1) := by decide +kernel
theorem dX6_undo_1 : decode cX6_undo 1 = .ok (.iload_n 1, 1) := by decide +kernel
theorem dX6_undo_2 : decode cX6_undo 2 = .ok (.invokevirtual 242, 3) := by decide +kernel
theorem dX6_undo_5 : decode cX6_undo 5 = .ok (.aload_n 0, 1) := by decide +kernel
theorem dX6_undo_6 : decode cX6_undo 6 = .ok (.getfield 39, 3) := by decide +kernel
theorem dX6_undo_9 : decode cX6_undo 9 = .ok (.getfield 245, 3) := by decide +kernel
theorem dX6_undo_12 : decode cX6_undo 12 = .ok (.iload_n 1, 1) := by decide +kernel
theorem dX6_undo_13 : decode cX6_undo 13 = .ok (.baload, 1) := by decide +kernel
theorem dX6_undo_14 : decode cX6_undo 14 = .ok (.ifCond .ne 13, 3) := by decide +kernel
theorem dX6_undo_17 : decode cX6_undo 17 = .ok (.new 78, 3) := by decide +kernel
theorem dX6_undo_20 : decode cX6_undo 20 = .ok (.dup, 1) := by decide +kernel
theorem dX6_undo_21 : decode cX6_undo 21 = .ok (.ldc 249, 2) := by decide +kernel
theorem dX6_undo_23 : decode cX6_undo 23 = .ok (.invokespecial 82, 3) := by decide +kernel
theorem dX6_undo_26 : decode cX6_undo 26 = .ok (.athrow, 1) := by decide +kernel
theorem dX6_undo_27 : decode cX6_undo 27 = .ok (.aload_n 0, 1) := by decide +kernel
theorem dX6_undo_28 : decode cX6_undo 28 = .ok (.getfield 39, 3) := by decide +kernel
theorem dX6_undo_31 : decode cX6_undo 31 = .ok (.iload_n 1, 1) := by decide +kernel
theorem dX6_undo_32 : decode cX6_undo 32 = .ok (.invokevirtual 251, 3) := by decide +kernel
theorem dX6_undo_35 : decode cX6_undo 35 = .ok (.aload_n 0, 1) := by decide +kernel
theorem dX6_undo_36 : decode cX6_undo 36 = .ok (.aload_n 0, 1) := by decide +kernel
theorem dX6_undo_37 : decode cX6_undo 37 = .ok (.invokevirtual 254, 3) := by decide +kernel
theorem dX6_undo_40 : decode cX6_undo 40 = .ok (.invokevirtual 257, 3) := by decide +kernel
theorem dX6_undo_43 : decode cX6_undo 43 = .ok (.invokestatic 260, 3) := by decide +kernel
theorem dX6_undo_46 : decode cX6_undo 46 = .ok (.ireturn, 1) := by decide +kernel
theorem dX6_stands_0 : decode cX6_stands 0 = .ok (.aload_n 0, 1) := by decide +kernel
theorem dX6_stands_1 : decode cX6_stands 1 = .ok (.iload_n 1, 1) := by decide +kernel
theorem dX6_stands_2 : decode cX6_stands 2 = .ok (.invokevirtual 242, 3) := by decide +kernel
theorem dX6_stands_5 : decode cX6_stands 5 = .ok (.aload_n 0, 1) := by decide +kernel
theorem dX6_stands_6 : decode cX6_stands 6 = .ok (.getfield 39, 3) := by decide +kernel
theorem dX6_stands_9 : decode cX6_stands 9 = .ok (.getfield 245, 3) := by decide +kernel
theorem dX6_stands_12 : decode cX6_stands 12 = .ok (.iload_n 1, 1) := by decide +kernel
theorem dX6_stands_13 : decode cX6_stands 13 = .ok (.baload, 1) := by decide +kernel
theorem dX6_stands_14 : decode cX6_stands 14 = .ok (.ireturn, 1) := by decide +kernel
theorem dX6_steps_0 : decode cX6_steps 0 = .ok (.aload_n 0, 1) := by decide +kernel
theorem dX6_steps_1 : decode cX6_steps 1 = .ok (.iload_n 1, 1) := by decide +kernel
theorem dX6_steps_2 : decode cX6_steps 2 = .ok (.iload_n 2, 1) := by decide +kernel
theorem dX6_steps_3 : decode cX6_steps 3 = .ok (.invokevirtual 153, 3) := by decide +kernel
theorem dX6_steps_6 : decode cX6_steps 6 = .ok (.aload_n 0, 1) := by decide +kernel
theorem dX6_steps_7 : decode cX6_steps 7 = .ok (.getfield 39, 3) := by decide +kernel
theorem dX6_steps_10 : decode cX6_steps 10 = .ok (.iload_n 1, 1) := by decide +kernel
theorem dX6_steps_11 : decode cX6_steps 11 = .ok (.iload_n 2, 1) := by decide +kernel
theorem dX6_steps_12 : decode cX6_steps 12 = .ok (.invokevirtual 265, 3) := by decide +kernel
theorem dX6_steps_15 : decode cX6_steps 15 = .ok (.istore_n 3, 1) := by decide +kernel
theorem dX6_steps_16 : decode cX6_steps 16 = .ok (.iload_n 3, 1) := by decide +kernel
theorem dX6_steps_17 : decode cX6_steps 17 = .ok (.iconst (-1), 1) := by decide +kernel
theorem dX6_steps_18 : decode cX6_steps 18 = .ok (.if_icmp .ne 14, 3) := by decide +kernel
theorem dX6_steps_21 : decode cX6_steps 21 = .ok (.new 128, 3) := by decide +kernel
theorem dX6_steps_24 : decode cX6_steps 24 = .ok (.dup, 1) := by decide +kernel
theorem dX6_steps_25 : decode cX6_steps 25 = .ok (.ldc_w 268, 3) := by decide +kernel
theorem dX6_steps_28 : decode cX6_steps 28 = .ok (.invokespecial 132, 3) := by decide +kernel
theorem dX6_steps_31 : decode cX6_steps 31 = .ok (.athrow, 1) := by decide +kernel
theorem dX6_steps_32 : decode cX6_steps 32 = .ok (.iload_n 3, 1) := by decide +kernel
theorem dX6_steps_33 : decode cX6_steps 33 = .ok (.ireturn, 1) := by decide +kernel
theorem dX6_person_0 : decode cX6_person 0 = .ok (.aload_n 0, 1) := by decide +kernel
theorem dX6_person_1 : decode cX6_person 1 = .ok (.iload_n 1, 1) := by decide +kernel
theorem dX6_person_2 : decode cX6_person 2 = .ok (.invokevirtual 96, 3) := by decide +kernel
theorem dX6_person_5 : decode cX6_person 5 = .ok (.aload_n 0, 1) := by decide +kernel
theorem dX6_person_6 : decode cX6_person 6 = .ok (.getfield 39, 3) := by decide +kernel
theorem dX6_person_9 : decode cX6_person 9 = .ok (.iload_n 1, 1) := by decide +kernel
theorem dX6_person_10 : decode cX6_person 10 = .ok (.invokevirtual 226, 3) := by decide +kernel
theorem dX6_person_13 : decode cX6_person 13 = .ok (.invokestatic 219, 3) := by decide +kernel
theorem dX6_person_16 : decode cX6_person 16 = .ok (.ireturn, 1) := by decide +kernel
theorem dX6_personByRounds_0 : decode cX6_personByRounds 0 = .ok (.aload_n 0, 1) := by decide +kernel
theorem dX6_personByRounds_1 : decode cX6_personByRounds 1 = .ok (.iload_n 1, 1) := by decide +kernel
theorem dX6_personByRounds_2 : decode cX6_personByRounds 2 = .ok (.invokevirtual 96, 3) := by decide +kernel
theorem dX6_personByRounds_5 : decode cX6_personByRounds 5 = .ok (.aload_n 0, 1) := by decide +kernel
theorem dX6_personByRounds_6 : decode cX6_personByRounds 6 = .ok (.getfield 39, 3) := by decide +kernel
theorem dX6_personByRounds_9 : decode cX6_personByRounds 9 = .ok (.invokevirtual 270, 3) := by decide +kernel
theorem dX6_personByRounds_12 : decode cX6_personByRounds 12 = .ok (.aload_n 0, 1) := by decide +kernel
theorem dX6_personByRounds_13 : decode cX6_personByRounds 13 = .ok (.getfield 39, 3) := by decide +kernel
theorem dX6_personByRounds_16 : decode cX6_personByRounds 16 = .ok (.getfield 273, 3) := by decide +kernel
theorem dX6_personByRounds_19 : decode cX6_personByRounds 19 = .ok (.iload_n 1, 1) := by decide +kernel
theorem dX6_personByRounds_20 : decode cX6_personByRounds 20 = .ok (.iaload, 1) := by decide +kernel
theorem dX6_personByRounds_21 : decode cX6_personByRounds 21 = .ok (.ireturn, 1) := by decide +kernel
theorem dX6_persons_0 : decode cX6_persons 0 = .ok (.aload_n 0, 1) := by decide +kernel
theorem dX6_persons_1 : decode cX6_persons 1 = .ok (.aload_n 0, 1) := by decide +kernel
theorem dX6_persons_2 : decode cX6_persons 2 = .ok (.invokevirtual 254, 3) := by decide +kernel
theorem dX6_persons_5 : decode cX6_persons 5 = .ok (.invokevirtual 257, 3) := by decide +kernel
theorem dX6_persons_8 : decode cX6_persons 8 = .ok (.invokestatic 260, 3) := by decide +kernel
theorem dX6_persons_11 : decode cX6_persons 11 = .ok (.ireturn, 1) := by decide +kernel
theorem dX6_size_0 : decode cX6_size 0 = .ok (.aload_n 0, 1) := by decide +kernel
theorem dX6_size_1 : decode cX6_size 1 = .ok (.iload_n 1, 1) := by decide +kernel
theorem dX6_size_2 : decode cX6_size 2 = .ok (.invokevirtual 96, 3) := by decide +kernel
theorem dX6_size_5 : decode cX6_size 5 = .ok (.aload_n 0, 1) := by decide +kernel
theorem dX6_size_6 : decode cX6_size 6 = .ok (.getfield 39, 3) := by decide +kernel
theorem dX6_size_9 : decode cX6_size 9 = .ok (.iload_n 1, 1) := by decide +kernel
theorem dX6_size_10 : decode cX6_size 10 = .ok (.invokevirtual 226, 3) := by decide +kernel
theorem dX6_size_13 : decode cX6_size 13 = .ok (.invokestatic 260, 3) := by decide +kernel
theorem dX6_size_16 : decode cX6_size 16 = .ok (.ireturn, 1) := by decide +kernel
theorem dX6_fieldFrom_0 : decode cX6_fieldFrom 0 = .ok (.aload_n 0, 1) := by decide +kernel
theorem dX6_fieldFrom_1 : decode cX6_fieldFrom 1 = .ok (.iload_n 1, 1) := by decide +kernel
theorem dX6_fieldFrom_2 : decode cX6_fieldFrom 2 = .ok (.invokevirtual 96, 3) := by decide +kernel
theorem dX6_fieldFrom_5 : decode cX6_fieldFrom 5 = .ok (.aload_n 0, 1) := by decide +kernel
theorem dX6_fieldFrom_6 : decode cX6_fieldFrom 6 = .ok (.iload_n 2, 1) := by decide +kernel
theorem dX6_fieldFrom_7 : decode cX6_fieldFrom 7 = .ok (.invokevirtual 145, 3) := by decide +kernel
theorem dX6_fieldFrom_10 : decode cX6_fieldFrom 10 = .ok (.aload_n 0, 1) := by decide +kernel
theorem dX6_fieldFrom_11 : decode cX6_fieldFrom 11 = .ok (.aload_n 0, 1) := by decide +kernel
theorem dX6_fieldFrom_12 : decode cX6_fieldFrom 12 = .ok (.getfield 39, 3) := by decide +kernel
theorem dX6_fieldFrom_15 : decode cX6_fieldFrom 15 = .ok (.iload_n 1, 1) := by decide +kernel
theorem dX6_fieldFrom_16 : decode cX6_fieldFrom 16 = .ok (.invokevirtual 226, 3) := by decide +kernel
theorem dX6_fieldFrom_19 : decode cX6_fieldFrom 19 = .ok (.iload_n 2, 1) := by decide +kernel
theorem dX6_fieldFrom_20 : decode cX6_fieldFrom 20 = .ok (.invokevirtual 276, 3) := by decide +kernel
theorem dX6_fieldFrom_23 : decode cX6_fieldFrom 23 = .ok (.istore_n 3, 1) := by decide +kernel
theorem dX6_fieldFrom_24 : decode cX6_fieldFrom 24 = .ok (.iload_n 3, 1) := by decide +kernel
theorem dX6_fieldFrom_25 : decode cX6_fieldFrom 25 = .ok (.iconst (-1), 1) := by decide +kernel
theorem dX6_fieldFrom_26 : decode cX6_fieldFrom 26 = .ok (.if_icmp .ne 14, 3) := by decide +kernel
theorem dX6_fieldFrom_29 : decode cX6_fieldFrom 29 = .ok (.new 128, 3) := by decide +kernel
theorem dX6_fieldFrom_32 : decode cX6_fieldFrom 32 = .ok (.dup, 1) := by decide +kernel
theorem dX6_fieldFrom_33 : decode cX6_fieldFrom 33 = .ok (.ldc_w 279, 3) := by decide +kernel
theorem dX6_fieldFrom_36 : decode cX6_fieldFrom 36 = .ok (.invokespecial 132, 3) := by decide +kernel
theorem dX6_fieldFrom_39 : decode cX6_fieldFrom 39 = .ok (.athrow, 1) := by decide +kernel
theorem dX6_fieldFrom_40 : decode cX6_fieldFrom 40 = .ok (.iload_n 3, 1) := by decide +kernel
theorem dX6_fieldFrom_41 : decode cX6_fieldFrom 41 = .ok (.ireturn, 1) := by decide +kernel
theorem dX6_conflicts_0 : decode cX6_conflicts 0 = .ok (.aload_n 0, 1) := by decide +kernel
theorem dX6_conflicts_1 : decode cX6_conflicts 1 = .ok (.iload_n 1, 1) := by decide +kernel
theorem dX6_conflicts_2 : decode cX6_conflicts 2 = .ok (.invokevirtual 96, 3) := by decide +kernel
theorem dX6_conflicts_5 : decode cX6_conflicts 5 = .ok (.aload_n 0, 1) := by decide +kernel
theorem dX6_conflicts_6 : decode cX6_conflicts 6 = .ok (.getfield 39, 3) := by decide +kernel
theorem dX6_conflicts_9 : decode cX6_conflicts 9 = .ok (.iload_n 1, 1) := by decide +kernel
theorem dX6_conflicts_10 : decode cX6_conflicts 10 = .ok (.invokevirtual 226, 3) := by decide +kernel
theorem dX6_conflicts_13 : decode cX6_conflicts 13 = .ok (.istore_n 2, 1) := by decide +kernel
theorem dX6_conflicts_14 : decode cX6_conflicts 14 = .ok (.iconst 0, 1) := by decide +kernel
theorem dX6_conflicts_15 : decode cX6_conflicts 15 = .ok (.istore_n 3, 1) := by decide +kernel
theorem dX6_conflicts_16 : decode cX6_conflicts 16 = .ok (.iconst 0, 1) := by decide +kernel
theorem dX6_conflicts_17 : decode cX6_conflicts 17 = .ok (.istore 4, 2) := by decide +kernel
theorem dX6_conflicts_19 : decode cX6_conflicts 19 = .ok (.iload 4, 2) := by decide +kernel
theorem dX6_conflicts_21 : decode cX6_conflicts 21 = .ok (.iconst 4, 1) := by decide +kernel
theorem dX6_conflicts_22 : decode cX6_conflicts 22 = .ok (.if_icmp .ge 22, 3) := by decide +kernel
theorem dX6_conflicts_25 : decode cX6_conflicts 25 = .ok (.aload_n 0, 1) := by decide +kernel
theorem dX6_conflicts_26 : decode cX6_conflicts 26 = .ok (.iload_n 2, 1) := by decide +kernel
theorem dX6_conflicts_27 : decode cX6_conflicts 27 = .ok (.iload 4, 2) := by decide +kernel
theorem dX6_conflicts_29 : decode cX6_conflicts 29 = .ok (.invokevirtual 281, 3) := by decide +kernel
theorem dX6_conflicts_32 : decode cX6_conflicts 32 = .ok (.ifCond .eq 6, 3) := by decide +kernel
theorem dX6_conflicts_35 : decode cX6_conflicts 35 = .ok (.iinc 3 1, 3) := by decide +kernel
theorem dX6_conflicts_38 : decode cX6_conflicts 38 = .ok (.iinc 4 1, 3) := by decide +kernel
theorem dX6_conflicts_41 : decode cX6_conflicts 41 = .ok (.goto (-22), 3) := by decide +kernel
theorem dX6_conflicts_44 : decode cX6_conflicts 44 = .ok (.iload_n 3, 1) := by decide +kernel
theorem dX6_conflicts_45 : decode cX6_conflicts 45 = .ok (.ireturn, 1) := by decide +kernel
theorem dX6_join_0 : decode cX6_join 0 = .ok (.aload_n 0, 1) := by decide +kernel
theorem dX6_join_1 : decode cX6_join 1 = .ok (.iload_n 1, 1) := by decide +kernel
theorem dX6_join_2 : decode cX6_join 2 = .ok (.invokevirtual 284, 3) := by decide +kernel
theorem dX6_join_5 : decode cX6_join 5 = .ok (.aload_n 0, 1) := by decide +kernel
theorem dX6_join_6 : decode cX6_join 6 = .ok (.iload_n 2, 1) := by decide +kernel
theorem dX6_join_7 : decode cX6_join 7 = .ok (.invokevirtual 96, 3) := by decide +kernel
theorem dX6_join_10 : decode cX6_join 10 = .ok (.aload_n 0, 1) := by decide +kernel
theorem dX6_join_11 : decode cX6_join 11 = .ok (.getfield 43, 3) := by decide +kernel
theorem dX6_join_14 : decode cX6_join 14 = .ok (.iload_n 1, 1) := by decide +kernel
theorem dX6_join_15 : decode cX6_join 15 = .ok (.iaload, 1) := by decide +kernel
theorem dX6_join_16 : decode cX6_join 16 = .ok (.iload_n 2, 1) := by decide +kernel
theorem dX6_join_17 : decode cX6_join 17 = .ok (.invokestatic 287, 3) := by decide +kernel
theorem dX6_join_20 : decode cX6_join 20 = .ok (.ifCond .eq 14, 3) := by decide +kernel
theorem dX6_join_23 : decode cX6_join 23 = .ok (.new 78, 3) := by decide +kernel
theorem dX6_join_26 : decode cX6_join 26 = .ok (.dup, 1) := by decide +kernel
theorem dX6_join_27 : decode cX6_join 27 = .ok (.ldc_w 290, 3) := by decide +kernel
theorem dX6_join_30 : decode cX6_join 30 = .ok (.invokespecial 82, 3) := by decide +kernel
theorem dX6_join_33 : decode cX6_join 33 = .ok (.athrow, 1) := by decide +kernel
theorem dX6_join_34 : decode cX6_join 34 = .ok (.aload_n 0, 1) := by decide +kernel
theorem dX6_join_35 : decode cX6_join 35 = .ok (.getfield 43, 3) := by decide +kernel
theorem dX6_join_38 : decode cX6_join 38 = .ok (.iload_n 1, 1) := by decide +kernel
theorem dX6_join_39 : decode cX6_join 39 = .ok (.dup2, 1) := by decide +kernel
theorem dX6_join_40 : decode cX6_join 40 = .ok (.iaload, 1) := by decide +kernel
theorem dX6_join_41 : decode cX6_join 41 = .ok (.iconst 1, 1) := by decide +kernel
theorem dX6_join_42 : decode cX6_join 42 = .ok (.iload_n 2, 1) := by decide +kernel
theorem dX6_join_43 : decode cX6_join 43 = .ok (.ishl, 1) := by decide +kernel
theorem dX6_join_44 : decode cX6_join 44 = .ok (.ior, 1) := by decide +kernel
theorem dX6_join_45 : decode cX6_join 45 = .ok (.iastore, 1) := by decide +kernel
theorem dX6_join_46 : decode cX6_join 46 = .ok (.aload_n 0, 1) := by decide +kernel
theorem dX6_join_47 : decode cX6_join 47 = .ok (.getfield 43, 3) := by decide +kernel
theorem dX6_join_50 : decode cX6_join 50 = .ok (.iload_n 1, 1) := by decide +kernel
theorem dX6_join_51 : decode cX6_join 51 = .ok (.iaload, 1) := by decide +kernel
theorem dX6_join_52 : decode cX6_join 52 = .ok (.invokestatic 260, 3) := by decide +kernel
theorem dX6_join_55 : decode cX6_join 55 = .ok (.ireturn, 1) := by decide +kernel
theorem dX6_leave_0 : decode cX6_leave 0 = .ok (.aload_n 0, 1) := by decide +kernel
theorem dX6_leave_1 : decode cX6_leave 1 = .ok (.iload_n 1, 1) := by decide +kernel
theorem dX6_leave_2 : decode cX6_leave 2 = .ok (.invokevirtual 284, 3) := by decide +kernel
theorem dX6_leave_5 : decode cX6_leave 5 = .ok (.aload_n 0, 1) := by decide +kernel
theorem dX6_leave_6 : decode cX6_leave 6 = .ok (.iload_n 2, 1) := by decide +kernel
theorem dX6_leave_7 : decode cX6_leave 7 = .ok (.invokevirtual 96, 3) := by decide +kernel
theorem dX6_leave_10 : decode cX6_leave 10 = .ok (.aload_n 0, 1) := by decide +kernel
theorem dX6_leave_11 : decode cX6_leave 11 = .ok (.getfield 43, 3) := by decide +kernel
theorem dX6_leave_14 : decode cX6_leave 14 = .ok (.iload_n 1, 1) := by decide +kernel
theorem dX6_leave_15 : decode cX6_leave 15 = .ok (.iaload, 1) := by decide +kernel
theorem dX6_leave_16 : decode cX6_leave 16 = .ok (.iload_n 2, 1) := by decide +kernel
theorem dX6_leave_17 : decode cX6_leave 17 = .ok (.invokestatic 287, 3) := by decide +kernel
theorem dX6_leave_20 : decode cX6_leave 20 = .ok (.ifCond .ne 14, 3) := by decide +kernel
theorem dX6_leave_23 : decode cX6_leave 23 = .ok (.new 128, 3) := by decide +kernel
theorem dX6_leave_26 : decode cX6_leave 26 = .ok (.dup, 1) := by decide +kernel
theorem dX6_leave_27 : decode cX6_leave 27 = .ok (.ldc_w 292, 3) := by decide +kernel
theorem dX6_leave_30 : decode cX6_leave 30 = .ok (.invokespecial 132, 3) := by decide +kernel
theorem dX6_leave_33 : decode cX6_leave 33 = .ok (.athrow, 1) := by decide +kernel
theorem dX6_leave_34 : decode cX6_leave 34 = .ok (.aload_n 0, 1) := by decide +kernel
theorem dX6_leave_35 : decode cX6_leave 35 = .ok (.getfield 43, 3) := by decide +kernel
theorem dX6_leave_38 : decode cX6_leave 38 = .ok (.iload_n 1, 1) := by decide +kernel
theorem dX6_leave_39 : decode cX6_leave 39 = .ok (.dup2, 1) := by decide +kernel
theorem dX6_leave_40 : decode cX6_leave 40 = .ok (.iaload, 1) := by decide +kernel
theorem dX6_leave_41 : decode cX6_leave 41 = .ok (.iconst 1, 1) := by decide +kernel
theorem dX6_leave_42 : decode cX6_leave 42 = .ok (.iload_n 2, 1) := by decide +kernel
theorem dX6_leave_43 : decode cX6_leave 43 = .ok (.ishl, 1) := by decide +kernel
theorem dX6_leave_44 : decode cX6_leave 44 = .ok (.iconst (-1), 1) := by decide +kernel
theorem dX6_leave_45 : decode cX6_leave 45 = .ok (.ixor, 1) := by decide +kernel
theorem dX6_leave_46 : decode cX6_leave 46 = .ok (.iand, 1) := by decide +kernel
theorem dX6_leave_47 : decode cX6_leave 47 = .ok (.iastore, 1) := by decide +kernel
theorem dX6_leave_48 : decode cX6_leave 48 = .ok (.aload_n 0, 1) := by decide +kernel
theorem dX6_leave_49 : decode cX6_leave 49 = .ok (.getfield 43, 3) := by decide +kernel
theorem dX6_leave_52 : decode cX6_leave 52 = .ok (.iload_n 1, 1) := by decide +kernel
theorem dX6_leave_53 : decode cX6_leave 53 = .ok (.iaload, 1) := by decide +kernel
theorem dX6_leave_54 : decode cX6_leave 54 = .ok (.invokestatic 260, 3) := by decide +kernel
theorem dX6_leave_57 : decode cX6_leave 57 = .ok (.ireturn, 1) := by decide +kernel
theorem dX6_isIn_0 : decode cX6_isIn 0 = .ok (.aload_n 0, 1) := by decide +kernel
theorem dX6_isIn_1 : decode cX6_isIn 1 = .ok (.iload_n 1, 1) := by decide +kernel
theorem dX6_isIn_2 : decode cX6_isIn 2 = .ok (.invokevirtual 284, 3) := by decide +kernel
theorem dX6_isIn_5 : decode cX6_isIn 5 = .ok (.aload_n 0, 1) := by decide +kernel
theorem dX6_isIn_6 : decode cX6_isIn 6 = .ok (.iload_n 2, 1) := by decide +kernel
theorem dX6_isIn_7 : decode cX6_isIn 7 = .ok (.invokevirtual 96, 3) := by decide +kernel
theorem dX6_isIn_10 : decode cX6_isIn 10 = .ok (.aload_n 0, 1) := by decide +kernel
theorem dX6_isIn_11 : decode cX6_isIn 11 = .ok (.getfield 43, 3) := by decide +kernel
theorem dX6_isIn_14 : decode cX6_isIn 14 = .ok (.iload_n 1, 1) := by decide +kernel
theorem dX6_isIn_15 : decode cX6_isIn 15 = .ok (.iaload, 1) := by decide +kernel
theorem dX6_isIn_16 : decode cX6_isIn 16 = .ok (.aload_n 0, 1) := by decide +kernel
theorem dX6_isIn_17 : decode cX6_isIn 17 = .ok (.getfield 39, 3) := by decide +kernel
theorem dX6_isIn_20 : decode cX6_isIn 20 = .ok (.iload_n 2, 1) := by decide +kernel
theorem dX6_isIn_21 : decode cX6_isIn 21 = .ok (.invokevirtual 226, 3) := by decide +kernel
theorem dX6_isIn_24 : decode cX6_isIn 24 = .ok (.iand, 1) := by decide +kernel
theorem dX6_isIn_25 : decode cX6_isIn 25 = .ok (.ifCond .eq 7, 3) := by decide +kernel
theorem dX6_isIn_28 : decode cX6_isIn 28 = .ok (.iconst 1, 1) := by decide +kernel
theorem dX6_isIn_29 : decode cX6_isIn 29 = .ok (.goto 4, 3) := by decide +kernel
theorem dX6_isIn_32 : decode cX6_isIn 32 = .ok (.iconst 0, 1) := by decide +kernel
theorem dX6_isIn_33 : decode cX6_isIn 33 = .ok (.ireturn, 1) := by decide +kernel
theorem dX6_personsIn_0 : decode cX6_personsIn 0 = .ok (.aload_n 0, 1) := by decide +kernel
theorem dX6_personsIn_1 : decode cX6_personsIn 1 = .ok (.iload_n 1, 1) := by decide +kernel
theorem dX6_personsIn_2 : decode cX6_personsIn 2 = .ok (.invokevirtual 284, 3) := by decide +kernel
theorem dX6_personsIn_5 : decode cX6_personsIn 5 = .ok (.aload_n 0, 1) := by decide +kernel
theorem dX6_personsIn_6 : decode cX6_personsIn 6 = .ok (.aload_n 0, 1) := by decide +kernel
theorem dX6_personsIn_7 : decode cX6_personsIn 7 = .ok (.getfield 43, 3) := by decide +kernel
theorem dX6_personsIn_10 : decode cX6_personsIn 10 = .ok (.iload_n 1, 1) := by decide +kernel
theorem dX6_personsIn_11 : decode cX6_personsIn 11 = .ok (.iaload, 1) := by decide +kernel
theorem dX6_personsIn_12 : decode cX6_personsIn 12 = .ok (.invokevirtual 257, 3) := by decide +kernel
theorem dX6_personsIn_15 : decode cX6_personsIn 15 = .ok (.invokestatic 260, 3) := by decide +kernel
theorem dX6_personsIn_18 : decode cX6_personsIn 18 = .ok (.ireturn, 1) := by decide +kernel
theorem dX6_type_0 : decode cX6_type 0 = .ok (.aload_n 0, 1) := by decide +kernel
theorem dX6_type_1 : decode cX6_type 1 = .ok (.iload_n 1, 1) := by decide +kernel
theorem dX6_type_2 : decode cX6_type 2 = .ok (.invokevirtual 99, 3) := by decide +kernel
theorem dX6_type_5 : decode cX6_type 5 = .ok (.aload_n 0, 1) := by decide +kernel
theorem dX6_type_6 : decode cX6_type 6 = .ok (.aload_n 0, 1) := by decide +kernel
theorem dX6_type_7 : decode cX6_type 7 = .ok (.getfield 49, 3) := by decide +kernel
theorem dX6_type_10 : decode cX6_type 10 = .ok (.iload_n 1, 1) := by decide +kernel
theorem dX6_type_11 : decode cX6_type 11 = .ok (.invokevirtual 106, 3) := by decide +kernel
theorem dX6_type_14 : decode cX6_type 14 = .ok (.ireturn, 1) := by decide +kernel
theorem dX6_clearQuery_0 : decode cX6_clearQuery 0 = .ok (.aload_n 0, 1) := by decide +kernel
theorem dX6_clearQuery_1 : decode cX6_clearQuery 1 = .ok (.getfield 49, 3) := by decide +kernel
theorem dX6_clearQuery_4 : decode cX6_clearQuery 4 = .ok (.invokevirtual 110, 3) := by decide +kernel
theorem dX6_clearQuery_7 : decode cX6_clearQuery 7 = .ok (.ireturn, 1) := by decide +kernel
theorem dX6_found_0 : decode cX6_found 0 = .ok (.aload_n 0, 1) := by decide +kernel
theorem dX6_found_1 : decode cX6_found 1 = .ok (.aload_n 0, 1) := by decide +kernel
theorem dX6_found_2 : decode cX6_found 2 = .ok (.iload_n 1, 1) := by decide +kernel
theorem dX6_found_3 : decode cX6_found 3 = .ok (.invokevirtual 294, 3) := by decide +kernel
theorem dX6_found_6 : decode cX6_found 6 = .ok (.invokevirtual 257, 3) := by decide +kernel
theorem dX6_found_9 : decode cX6_found 9 = .ok (.invokestatic 260, 3) := by decide +kernel
theorem dX6_found_12 : decode cX6_found 12 = .ok (.ireturn, 1) := by decide +kernel
theorem dX6_foundAt_0 : decode cX6_foundAt 0 = .ok (.aload_n 0, 1) := by decide +kernel
theorem dX6_foundAt_1 : decode cX6_foundAt 1 = .ok (.aload_n 0, 1) := by decide +kernel
theorem dX6_foundAt_2 : decode cX6_foundAt 2 = .ok (.iload_n 1, 1) := by decide +kernel
theorem dX6_foundAt_3 : decode cX6_foundAt 3 = .ok (.invokevirtual 294, 3) := by decide +kernel
theorem dX6_foundAt_6 : decode cX6_foundAt 6 = .ok (.invokevirtual 257, 3) := by decide +kernel
theorem dX6_foundAt_9 : decode cX6_foundAt 9 = .ok (.istore_n 3, 1) := by decide +kernel
theorem dX6_foundAt_10 : decode cX6_foundAt 10 = .ok (.iload_n 2, 1) := by decide +kernel
theorem dX6_foundAt_11 : decode cX6_foundAt 11 = .ok (.ifCond .lt 11, 3) := by decide +kernel
theorem dX6_foundAt_14 : decode cX6_foundAt 14 = .ok (.iload_n 2, 1) := by decide +kernel
theorem dX6_foundAt_15 : decode cX6_foundAt 15 = .ok (.iload_n 3, 1) := by decide +kernel
theorem dX6_foundAt_16 : decode cX6_foundAt 16 = .ok (.invokestatic 260, 3) := by decide +kernel
theorem dX6_foundAt_19 : decode cX6_foundAt 19 = .ok (.if_icmp .lt 14, 3) := by decide +kernel
theorem dX6_foundAt_22 : decode cX6_foundAt 22 = .ok (.new 128, 3) := by decide +kernel
theorem dX6_foundAt_25 : decode cX6_foundAt 25 = .ok (.dup, 1) := by decide +kernel
theorem dX6_foundAt_26 : decode cX6_foundAt 26 = .ok (.ldc_w 298, 3) := by decide +kernel
theorem dX6_foundAt_29 : decode cX6_foundAt 29 = .ok (.invokespecial 132, 3) := by decide +kernel
theorem dX6_foundAt_32 : decode cX6_foundAt 32 = .ok (.athrow, 1) := by decide +kernel
theorem dX6_foundAt_33 : decode cX6_foundAt 33 = .ok (.iconst 0, 1) := by decide +kernel
theorem dX6_foundAt_34 : decode cX6_foundAt 34 = .ok (.istore 4, 2) := by decide +kernel
theorem dX6_foundAt_36 : decode cX6_foundAt 36 = .ok (.iload 4, 2) := by decide +kernel
theorem dX6_foundAt_38 : decode cX6_foundAt 38 = .ok (.iload_n 2, 1) := by decide +kernel
theorem dX6_foundAt_39 : decode cX6_foundAt 39 = .ok (.if_icmp .ge 15, 3) := by decide +kernel
theorem dX6_foundAt_42 : decode cX6_foundAt 42 = .ok (.iload_n 3, 1) := by decide +kernel
theorem dX6_foundAt_43 : decode cX6_foundAt 43 = .ok (.iload_n 3, 1) := by decide +kernel
theorem dX6_foundAt_44 : decode cX6_foundAt 44 = .ok (.iconst 1, 1) := by decide +kernel
theorem dX6_foundAt_45 : decode cX6_foundAt 45 = .ok (.isub, 1) := by decide +kernel
theorem dX6_foundAt_46 : decode cX6_foundAt 46 = .ok (.iand, 1) := by decide +kernel
theorem dX6_foundAt_47 : decode cX6_foundAt 47 = .ok (.istore_n 3, 1) := by decide +kernel
theorem dX6_foundAt_48 : decode cX6_foundAt 48 = .ok (.iinc 4 1, 3) := by decide +kernel
theorem dX6_foundAt_51 : decode cX6_foundAt 51 = .ok (.goto (-15), 3) := by decide +kernel
theorem dX6_foundAt_54 : decode cX6_foundAt 54 = .ok (.iload_n 3, 1) := by decide +kernel
theorem dX6_foundAt_55 : decode cX6_foundAt 55 = .ok (.invokestatic 219, 3) := by decide +kernel
theorem dX6_foundAt_58 : decode cX6_foundAt 58 = .ok (.ireturn, 1) := by decide +kernel
theorem dX6_mergedShare_0 : decode cX6_mergedShare 0 = .ok (.aload_n 0, 1) := by decide +kernel
theorem dX6_mergedShare_1 : decode cX6_mergedShare 1 = .ok (.getfield 88, 3) := by decide +kernel
theorem dX6_mergedShare_4 : decode cX6_mergedShare 4 = .ok (.ifCond .ne 14, 3) := by decide +kernel
theorem dX6_mergedShare_7 : decode cX6_mergedShare 7 = .ok (.new 128, 3) := by decide +kernel
theorem dX6_mergedShare_10 : decode cX6_mergedShare 10 = .ok (.dup, 1) := by decide +kernel
theorem dX6_mergedShare_11 : decode cX6_mergedShare 11 = .ok (.ldc_w 300, 3) := by decide +kernel
theorem dX6_mergedShare_14 : decode cX6_mergedShare 14 = .ok (.invokespecial 132, 3) := by decide +kernel
theorem dX6_mergedShare_17 : decode cX6_mergedShare 17 = .ok (.athrow, 1) := by decide +kernel
theorem dX6_mergedShare_18 : decode cX6_mergedShare 18 = .ok (.iconst 0, 1) := by decide +kernel
theorem dX6_mergedShare_19 : decode cX6_mergedShare 19 = .ok (.istore_n 1, 1) := by decide +kernel
theorem dX6_mergedShare_20 : decode cX6_mergedShare 20 = .ok (.iconst 0, 1) := by decide +kernel
theorem dX6_mergedShare_21 : decode cX6_mergedShare 21 = .ok (.istore_n 2, 1) := by decide +kernel
theorem dX6_mergedShare_22 : decode cX6_mergedShare 22 = .ok (.iload_n 2, 1) := by decide +kernel
theorem dX6_mergedShare_23 : decode cX6_mergedShare 23 = .ok (.aload_n 0, 1) := by decide +kernel
theorem dX6_mergedShare_24 : decode cX6_mergedShare 24 = .ok (.getfield 88, 3) := by decide +kernel
theorem dX6_mergedShare_27 : decode cX6_mergedShare 27 = .ok (.if_icmp .ge 27, 3) := by decide +kernel
theorem dX6_mergedShare_30 : decode cX6_mergedShare 30 = .ok (.aload_n 0, 1) := by decide +kernel
theorem dX6_mergedShare_31 : decode cX6_mergedShare 31 = .ok (.getfield 39, 3) := by decide +kernel
theorem dX6_mergedShare_34 : decode cX6_mergedShare 34 = .ok (.iload_n 2, 1) := by decide +kernel
theorem dX6_mergedShare_35 : decode cX6_mergedShare 35 = .ok (.invokevirtual 226, 3) := by decide +kernel
theorem dX6_mergedShare_38 : decode cX6_mergedShare 38 = .ok (.invokestatic 260, 3) := by decide +kernel
theorem dX6_mergedShare_41 : decode cX6_mergedShare 41 = .ok (.iconst 1, 1) := by decide +kernel
theorem dX6_mergedShare_42 : decode cX6_mergedShare 42 = .ok (.if_icmp .le 6, 3) := by decide +kernel
theorem dX6_mergedShare_45 : decode cX6_mergedShare 45 = .ok (.iinc 1 1, 3) := by decide +kernel
theorem dX6_mergedShare_48 : decode cX6_mergedShare 48 = .ok (.iinc 2 1, 3) := by decide +kernel
theorem dX6_mergedShare_51 : decode cX6_mergedShare 51 = .ok (.goto (-29), 3) := by decide +kernel
theorem dX6_mergedShare_54 : decode cX6_mergedShare 54 = .ok (.iload_n 1, 1) := by decide +kernel
theorem dX6_mergedShare_55 : decode cX6_mergedShare 55 = .ok (.i2f, 1) := by decide +kernel
theorem dX6_mergedShare_56 : decode cX6_mergedShare 56 = .ok (.aload_n 0, 1) := by decide +kernel
theorem dX6_mergedShare_57 : decode cX6_mergedShare 57 = .ok (.getfield 88, 3) := by decide +kernel
theorem dX6_mergedShare_60 : decode cX6_mergedShare 60 = .ok (.i2f, 1) := by decide +kernel
theorem dX6_mergedShare_61 : decode cX6_mergedShare 61 = .ok (.fdiv, 1) := by decide +kernel
theorem dX6_mergedShare_62 : decode cX6_mergedShare 62 = .ok (.freturn, 1) := by decide +kernel
theorem dX6_requireRank_0 : decode cX6_requireRank 0 = .ok (.iload_n 1, 1) := by decide +kernel
theorem dX6_requireRank_1 : decode cX6_requireRank 1 = .ok (.iconst 1, 1) := by decide +kernel
theorem dX6_requireRank_2 : decode cX6_requireRank 2 = .ok (.if_icmp .lt 9, 3) := by decide +kernel
theorem dX6_requireRank_5 : decode cX6_requireRank 5 = .ok (.iload_n 1, 1) := by decide +kernel
theorem dX6_requireRank_6 : decode cX6_requireRank 6 = .ok (.bipush 9, 2) := by decide +kernel
theorem dX6_requireRank_8 : decode cX6_requireRank 8 = .ok (.if_icmp .le 14, 3) := by decide +kernel
theorem dX6_requireRank_11 : decode cX6_requireRank 11 = .ok (.new 117, 3) := by decide +kernel
theorem dX6_requireRank_14 : decode cX6_requireRank 14 = .ok (.dup, 1) := by decide +kernel
theorem dX6_requireRank_15 : decode cX6_requireRank 15 = .ok (.ldc_w 302, 3) := by decide +kernel
theorem dX6_requireRank_18 : decode cX6_requireRank 18 = .ok (.invokespecial 121, 3) := by decide +kernel
theorem dX6_requireRank_21 : decode cX6_requireRank 21 = .ok (.athrow, 1) := by decide +kernel
theorem dX6_requireRank_22 : decode cX6_requireRank 22 = .ok (.return_, 1) := by decide +kernel
theorem dX6_requireSource_0 : decode cX6_requireSource 0 = .ok (.iload_n 1, 1) := by decide +kernel
theorem dX6_requireSource_1 : decode cX6_requireSource 1 = .ok (.ifCond .lt 11, 3) := by decide +kernel
theorem dX6_requireSource_4 : decode cX6_requireSource 4 = .ok (.iload_n 1, 1) := by decide +kernel
theorem dX6_requireSource_5 : decode cX6_requireSource 5 = .ok (.aload_n 0, 1) := by decide +kernel
theorem dX6_requireSource_6 : decode cX6_requireSource 6 = .ok (.getfield 75, 3) := by decide +kernel
theorem dX6_requireSource_9 : decode cX6_requireSource 9 = .ok (.if_icmp .lt 14, 3) := by decide +kernel
theorem dX6_requireSource_12 : decode cX6_requireSource 12 = .ok (.new 304, 3) := by decide +kernel
theorem dX6_requireSource_15 : decode cX6_requireSource 15 = .ok (.dup, 1) := by decide +kernel
theorem dX6_requireSource_16 : decode cX6_requireSource 16 = .ok (.ldc_w 306, 3) := by decide +kernel
theorem dX6_requireSource_19 : decode cX6_requireSource 19 = .ok (.invokespecial 308, 3) := by decide +kernel
theorem dX6_requireSource_22 : decode cX6_requireSource 22 = .ok (.athrow, 1) := by decide +kernel
theorem dX6_requireSource_23 : decode cX6_requireSource 23 = .ok (.return_, 1) := by decide +kernel
theorem dX6_requireCard_0 : decode cX6_requireCard 0 = .ok (.iload_n 1, 1) := by decide +kernel
theorem dX6_requireCard_1 : decode cX6_requireCard 1 = .ok (.ifCond .lt 11, 3) := by decide +kernel
theorem dX6_requireCard_4 : decode cX6_requireCard 4 = .ok (.iload_n 1, 1) := by decide +kernel
theorem dX6_requireCard_5 : decode cX6_requireCard 5 = .ok (.aload_n 0, 1) := by decide +kernel
theorem dX6_requireCard_6 : decode cX6_requireCard 6 = .ok (.getfield 88, 3) := by decide +kernel
theorem dX6_requireCard_9 : decode cX6_requireCard 9 = .ok (.if_icmp .lt 14, 3) := by decide +kernel
theorem dX6_requireCard_12 : decode cX6_requireCard 12 = .ok (.new 304, 3) := by decide +kernel
theorem dX6_requireCard_15 : decode cX6_requireCard 15 = .ok (.dup, 1) := by decide +kernel
theorem dX6_requireCard_16 : decode cX6_requireCard 16 = .ok (.ldc_w 309, 3) := by decide +kernel
theorem dX6_requireCard_19 : decode cX6_requireCard 19 = .ok (.invokespecial 308, 3) := by decide +kernel
theorem dX6_requireCard_22 : decode cX6_requireCard 22 = .ok (.athrow, 1) := by decide +kernel
theorem dX6_requireCard_23 : decode cX6_requireCard 23 = .ok (.return_, 1) := by decide +kernel
theorem dX6_requireCards_0 : decode cX6_requireCards 0 = .ok (.aload_n 0, 1) := by decide +kernel
theorem dX6_requireCards_1 : decode cX6_requireCards 1 = .ok (.iload_n 1, 1) := by decide +kernel
theorem dX6_requireCards_2 : decode cX6_requireCards 2 = .ok (.invokevirtual 96, 3) := by decide +kernel
theorem dX6_requireCards_5 : decode cX6_requireCards 5 = .ok (.aload_n 0, 1) := by decide +kernel
theorem dX6_requireCards_6 : decode cX6_requireCards 6 = .ok (.iload_n 2, 1) := by decide +kernel
theorem dX6_requireCards_7 : decode cX6_requireCards 7 = .ok (.invokevirtual 96, 3) := by decide +kernel
theorem dX6_requireCards_10 : decode cX6_requireCards 10 = .ok (.return_, 1) := by decide +kernel
theorem dX6_requireTwo_0 : decode cX6_requireTwo 0 = .ok (.iload_n 1, 1) := by decide +kernel
theorem dX6_requireTwo_1 : decode cX6_requireTwo 1 = .ok (.iload_n 2, 1) := by decide +kernel
theorem dX6_requireTwo_2 : decode cX6_requireTwo 2 = .ok (.if_icmp .ne 14, 3) := by decide +kernel
theorem dX6_requireTwo_5 : decode cX6_requireTwo 5 = .ok (.new 117, 3) := by decide +kernel
theorem dX6_requireTwo_8 : decode cX6_requireTwo 8 = .ok (.dup, 1) := by decide +kernel
theorem dX6_requireTwo_9 : decode cX6_requireTwo 9 = .ok (.ldc_w 311, 3) := by decide +kernel
theorem dX6_requireTwo_12 : decode cX6_requireTwo 12 = .ok (.invokespecial 121, 3) := by decide +kernel
theorem dX6_requireTwo_15 : decode cX6_requireTwo 15 = .ok (.athrow, 1) := by decide +kernel
theorem dX6_requireTwo_16 : decode cX6_requireTwo 16 = .ok (.return_, 1) := by decide +kernel
theorem dX6_requireLetter_0 : decode cX6_requireLetter 0 = .ok (.iload_n 1, 1) := by decide +kernel
theorem dX6_requireLetter_1 : decode cX6_requireLetter 1 = .ok (.bipush 97, 2) := by decide +kernel
theorem dX6_requireLetter_3 : decode cX6_requireLetter 3 = .ok (.if_icmp .lt 9, 3) := by decide +kernel
theorem dX6_requireLetter_6 : decode cX6_requireLetter 6 = .ok (.iload_n 1, 1) := by decide +kernel
theorem dX6_requireLetter_7 : decode cX6_requireLetter 7 = .ok (.bipush 122, 2) := by decide +kernel
theorem dX6_requireLetter_9 : decode cX6_requireLetter 9 = .ok (.if_icmp .le 14, 3) := by decide +kernel
theorem dX6_requireLetter_12 : decode cX6_requireLetter 12 = .ok (.new 117, 3) := by decide +kernel
theorem dX6_requireLetter_15 : decode cX6_requireLetter 15 = .ok (.dup, 1) := by decide +kernel
theorem dX6_requireLetter_16 : decode cX6_requireLetter 16 = .ok (.ldc_w 313, 3) := by decide +kernel
theorem dX6_requireLetter_19 : decode cX6_requireLetter 19 = .ok (.invokespecial 121, 3) := by decide +kernel
theorem dX6_requireLetter_22 : decode cX6_requireLetter 22 = .ok (.athrow, 1) := by decide +kernel
theorem dX6_requireLetter_23 : decode cX6_requireLetter 23 = .ok (.return_, 1) := by decide +kernel
theorem dX6_requireField_0 : decode cX6_requireField 0 = .ok (.iload_n 1, 1) := by decide +kernel
theorem dX6_requireField_1 : decode cX6_requireField 1 = .ok (.ifCond .lt 8, 3) := by decide +kernel
theorem dX6_requireField_4 : decode cX6_requireField 4 = .ok (.iload_n 1, 1) := by decide +kernel
theorem dX6_requireField_5 : decode cX6_requireField 5 = .ok (.iconst 4, 1) := by decide +kernel
theorem dX6_requireField_6 : decode cX6_requireField 6 = .ok (.if_icmp .lt 14, 3) := by decide +kernel
theorem dX6_requireField_9 : decode cX6_requireField 9 = .ok (.new 117, 3) := by decide +kernel
theorem dX6_requireField_12 : decode cX6_requireField 12 = .ok (.dup, 1) := by decide +kernel
theorem dX6_requireField_13 : decode cX6_requireField 13 = .ok (.ldc_w 315, 3) := by decide +kernel
theorem dX6_requireField_16 : decode cX6_requireField 16 = .ok (.invokespecial 121, 3) := by decide +kernel
theorem dX6_requireField_19 : decode cX6_requireField 19 = .ok (.athrow, 1) := by decide +kernel
theorem dX6_requireField_20 : decode cX6_requireField 20 = .ok (.return_, 1) := by decide +kernel
theorem dX6_requireNumberField_0 : decode cX6_requireNumberField 0 = .ok (.iload_n 1, 1) := by decide +kernel
theorem dX6_requireNumberField_1 : decode cX6_requireNumberField 1 = .ok (.iconst 1, 1) := by decide +kernel
theorem dX6_requireNumberField_2 : decode cX6_requireNumberField 2 = .ok (.if_icmp .lt 8, 3) := by decide +kernel
theorem dX6_requireNumberField_5 : decode cX6_requireNumberField 5 = .ok (.iload_n 1, 1) := by decide +kernel
theorem dX6_requireNumberField_6 : decode cX6_requireNumberField 6 = .ok (.iconst 4, 1) := by decide +kernel
theorem dX6_requireNumberField_7 : decode cX6_requireNumberField 7 = .ok (.if_icmp .lt 14, 3) := by decide +kernel
theorem dX6_requireNumberField_10 : decode cX6_requireNumberField 10 = .ok (.new 117, 3) := by decide +kernel
theorem dX6_requireNumberField_13 : decode cX6_requireNumberField 13 = .ok (.dup, 1) := by decide +kernel
theorem dX6_requireNumberField_14 : decode cX6_requireNumberField 14 = .ok (.ldc_w 317, 3) := by decide +kernel
theorem dX6_requireNumberField_17 : decode cX6_requireNumberField 17 = .ok (.invokespecial 121, 3) := by decide +kernel
theorem dX6_requireNumberField_20 : decode cX6_requireNumberField 20 = .ok (.athrow, 1) := by decide +kernel
theorem dX6_requireNumberField_21 : decode cX6_requireNumberField 21 = .ok (.return_, 1) := by decide +kernel
theorem dX6_requireWeight_0 : decode cX6_requireWeight 0 = .ok (.iload_n 1, 1) := by decide +kernel
theorem dX6_requireWeight_1 : decode cX6_requireWeight 1 = .ok (.bipush (-9), 2) := by decide +kernel
theorem dX6_requireWeight_3 : decode cX6_requireWeight 3 = .ok (.if_icmp .lt 9, 3) := by decide +kernel
theorem dX6_requireWeight_6 : decode cX6_requireWeight 6 = .ok (.iload_n 1, 1) := by decide +kernel
theorem dX6_requireWeight_7 : decode cX6_requireWeight 7 = .ok (.bipush 9, 2) := by decide +kernel
theorem dX6_requireWeight_9 : decode cX6_requireWeight 9 = .ok (.if_icmp .le 14, 3) := by decide +kernel
theorem dX6_requireWeight_12 : decode cX6_requireWeight 12 = .ok (.new 117, 3) := by decide +kernel
theorem dX6_requireWeight_15 : decode cX6_requireWeight 15 = .ok (.dup, 1) := by decide +kernel
theorem dX6_requireWeight_16 : decode cX6_requireWeight 16 = .ok (.ldc_w 319, 3) := by decide +kernel
theorem dX6_requireWeight_19 : decode cX6_requireWeight 19 = .ok (.invokespecial 121, 3) := by decide +kernel
theorem dX6_requireWeight_22 : decode cX6_requireWeight 22 = .ok (.athrow, 1) := by decide +kernel
theorem dX6_requireWeight_23 : decode cX6_requireWeight 23 = .ok (.return_, 1) := by decide +kernel
theorem dX6_requireMerge_0 : decode cX6_requireMerge 0 = .ok (.iload_n 1, 1) := by decide +kernel
theorem dX6_requireMerge_1 : decode cX6_requireMerge 1 = .ok (.ifCond .lt 14, 3) := by decide +kernel
theorem dX6_requireMerge_4 : decode cX6_requireMerge 4 = .ok (.iload_n 1, 1) := by decide +kernel
theorem dX6_requireMerge_5 : decode cX6_requireMerge 5 = .ok (.aload_n 0, 1) := by decide +kernel
theorem dX6_requireMerge_6 : decode cX6_requireMerge 6 = .ok (.getfield 39, 3) := by decide +kernel
theorem dX6_requireMerge_9 : decode cX6_requireMerge 9 = .ok (.getfield 321, 3) := by decide +kernel
theorem dX6_requireMerge_12 : decode cX6_requireMerge 12 = .ok (.if_icmp .lt 14, 3) := by decide +kernel
theorem dX6_requireMerge_15 : decode cX6_requireMerge 15 = .ok (.new 304, 3) := by decide +kernel
theorem dX6_requireMerge_18 : decode cX6_requireMerge 18 = .ok (.dup, 1) := by decide +kernel
theorem dX6_requireMerge_19 : decode cX6_requireMerge 19 = .ok (.ldc_w 324, 3) := by decide +kernel
theorem dX6_requireMerge_22 : decode cX6_requireMerge 22 = .ok (.invokespecial 308, 3) := by decide +kernel
theorem dX6_requireMerge_25 : decode cX6_requireMerge 25 = .ok (.athrow, 1) := by decide +kernel
theorem dX6_requireMerge_26 : decode cX6_requireMerge 26 = .ok (.return_, 1) := by decide +kernel
theorem dX6_requireGroup_0 : decode cX6_requireGroup 0 = .ok (.iload_n 1, 1) := by decide +kernel
theorem dX6_requireGroup_1 : decode cX6_requireGroup 1 = .ok (.ifCond .lt 8, 3) := by decide +kernel
theorem dX6_requireGroup_4 : decode cX6_requireGroup 4 = .ok (.iload_n 1, 1) := by decide +kernel
theorem dX6_requireGroup_5 : decode cX6_requireGroup 5 = .ok (.iconst 4, 1) := by decide +kernel
theorem dX6_requireGroup_6 : decode cX6_requireGroup 6 = .ok (.if_icmp .lt 14, 3) := by decide +kernel
theorem dX6_requireGroup_9 : decode cX6_requireGroup 9 = .ok (.new 304, 3) := by decide +kernel
theorem dX6_requireGroup_12 : decode cX6_requireGroup 12 = .ok (.dup, 1) := by decide +kernel
theorem dX6_requireGroup_13 : decode cX6_requireGroup 13 = .ok (.ldc_w 326, 3) := by decide +kernel
theorem dX6_requireGroup_16 : decode cX6_requireGroup 16 = .ok (.invokespecial 308, 3) := by decide +kernel
theorem dX6_requireGroup_19 : decode cX6_requireGroup 19 = .ok (.athrow, 1) := by decide +kernel
theorem dX6_requireGroup_20 : decode cX6_requireGroup 20 = .ok (.return_, 1) := by decide +kernel
theorem dX6_requireBest_0 : decode cX6_requireBest 0 = .ok (.aload_n 0, 1) := by decide +kernel
theorem dX6_requireBest_1 : decode cX6_requireBest 1 = .ok (.getfield 56, 3) := by decide +kernel
theorem dX6_requireBest_4 : decode cX6_requireBest 4 = .ok (.invokevirtual 328, 3) := by decide +kernel
theorem dX6_requireBest_7 : decode cX6_requireBest 7 = .ok (.ifCond .eq 14, 3) := by decide +kernel
theorem dX6_requireBest_10 : decode cX6_requireBest 10 = .ok (.new 128, 3) := by decide +kernel
theorem dX6_requireBest_13 : decode cX6_requireBest 13 = .ok (.dup, 1) := by decide +kernel
theorem dX6_requireBest_14 : decode cX6_requireBest 14 = .ok (.ldc_w 331, 3) := by decide +kernel
theorem dX6_requireBest_17 : decode cX6_requireBest 17 = .ok (.invokespecial 132, 3) := by decide +kernel
theorem dX6_requireBest_20 : decode cX6_requireBest 20 = .ok (.athrow, 1) := by decide +kernel
theorem dX6_requireBest_21 : decode cX6_requireBest 21 = .ok (.return_, 1) := by decide +kernel
theorem dX6_requireBars_0 : decode cX6_requireBars 0 = .ok (.iload_n 1, 1) := by decide +kernel
theorem dX6_requireBars_1 : decode cX6_requireBars 1 = .ok (.ifCond .ne 14, 3) := by decide +kernel
theorem dX6_requireBars_4 : decode cX6_requireBars 4 = .ok (.new 128, 3) := by decide +kernel
theorem dX6_requireBars_7 : decode cX6_requireBars 7 = .ok (.dup, 1) := by decide +kernel
theorem dX6_requireBars_8 : decode cX6_requireBars 8 = .ok (.ldc_w 333, 3) := by decide +kernel
theorem dX6_requireBars_11 : decode cX6_requireBars 11 = .ok (.invokespecial 132, 3) := by decide +kernel
theorem dX6_requireBars_14 : decode cX6_requireBars 14 = .ok (.athrow, 1) := by decide +kernel
theorem dX6_requireBars_15 : decode cX6_requireBars 15 = .ok (.return_, 1) := by decide +kernel
theorem dX6_appendTo_0 : decode cX6_appendTo 0 = .ok (.aload_n 1, 1) := by decide +kernel
theorem dX6_appendTo_1 : decode cX6_appendTo 1 = .ok (.getfield 125, 3) := by decide +kernel
theorem dX6_appendTo_4 : decode cX6_appendTo 4 = .ok (.bipush 10, 2) := by decide +kernel
theorem dX6_appendTo_6 : decode cX6_appendTo 6 = .ok (.if_icmp .lt 14, 3) := by decide +kernel
theorem dX6_appendTo_9 : decode cX6_appendTo 9 = .ok (.new 78, 3) := by decide +kernel
theorem dX6_appendTo_12 : decode cX6_appendTo 12 = .ok (.dup, 1) := by decide +kernel
theorem dX6_appendTo_13 : decode cX6_appendTo 13 = .ok (.ldc_w 335, 3) := by decide +kernel
theorem dX6_appendTo_16 : decode cX6_appendTo 16 = .ok (.invokespecial 82, 3) := by decide +kernel
theorem dX6_appendTo_19 : decode cX6_appendTo 19 = .ok (.athrow, 1) := by decide +kernel
theorem dX6_appendTo_20 : decode cX6_appendTo 20 = .ok (.aload_n 1, 1) := by decide +kernel
theorem dX6_appendTo_21 : decode cX6_appendTo 21 = .ok (.iload_n 2, 1) := by decide +kernel
theorem dX6_appendTo_22 : decode cX6_appendTo 22 = .ok (.invokevirtual 337, 3) := by decide +kernel
theorem dX6_appendTo_25 : decode cX6_appendTo 25 = .ok (.aload_n 1, 1) := by decide +kernel
theorem dX6_appendTo_26 : decode cX6_appendTo 26 = .ok (.getfield 125, 3) := by decide +kernel
theorem dX6_appendTo_29 : decode cX6_appendTo 29 = .ok (.ireturn, 1) := by decide +kernel
theorem dX6_scoreOf_0 : decode cX6_scoreOf 0 = .ok (.iconst 0, 1) := by decide +kernel
theorem dX6_scoreOf_1 : decode cX6_scoreOf 1 = .ok (.istore_n 3, 1) := by decide +kernel
theorem dX6_scoreOf_2 : decode cX6_scoreOf 2 = .ok (.iconst 0, 1) := by decide +kernel
theorem dX6_scoreOf_3 : decode cX6_scoreOf 3 = .ok (.istore 4, 2) := by decide +kernel
theorem dX6_scoreOf_5 : decode cX6_scoreOf 5 = .ok (.iload 4, 2) := by decide +kernel
theorem dX6_scoreOf_7 : decode cX6_scoreOf 7 = .ok (.iconst 4, 1) := by decide +kernel
theorem dX6_scoreOf_8 : decode cX6_scoreOf 8 = .ok (.if_icmp .ge 30, 3) := by decide +kernel
theorem dX6_scoreOf_11 : decode cX6_scoreOf 11 = .ok (.iload_n 3, 1) := by decide +kernel
theorem dX6_scoreOf_12 : decode cX6_scoreOf 12 = .ok (.aload_n 0, 1) := by decide +kernel
theorem dX6_scoreOf_13 : decode cX6_scoreOf 13 = .ok (.aload_n 0, 1) := by decide +kernel
theorem dX6_scoreOf_14 : decode cX6_scoreOf 14 = .ok (.getfield 15, 3) := by decide +kernel
theorem dX6_scoreOf_17 : decode cX6_scoreOf 17 = .ok (.iload_n 1, 1) := by decide +kernel
theorem dX6_scoreOf_18 : decode cX6_scoreOf 18 = .ok (.aaload, 1) := by decide +kernel
theorem dX6_scoreOf_19 : decode cX6_scoreOf 19 = .ok (.aload_n 0, 1) := by decide +kernel
theorem dX6_scoreOf_20 : decode cX6_scoreOf 20 = .ok (.getfield 15, 3) := by decide +kernel
theorem dX6_scoreOf_23 : decode cX6_scoreOf 23 = .ok (.iload_n 2, 1) := by decide +kernel
theorem dX6_scoreOf_24 : decode cX6_scoreOf 24 = .ok (.aaload, 1) := by decide +kernel
theorem dX6_scoreOf_25 : decode cX6_scoreOf 25 = .ok (.iload 4, 2) := by decide +kernel
theorem dX6_scoreOf_27 : decode cX6_scoreOf 27 = .ok (.invokevirtual 340, 3) := by decide +kernel
theorem dX6_scoreOf_30 : decode cX6_scoreOf 30 = .ok (.iadd, 1) := by decide +kernel
theorem dX6_scoreOf_31 : decode cX6_scoreOf 31 = .ok (.istore_n 3, 1) := by decide +kernel
theorem dX6_scoreOf_32 : decode cX6_scoreOf 32 = .ok (.iinc 4 1, 3) := by decide +kernel
theorem dX6_scoreOf_35 : decode cX6_scoreOf 35 = .ok (.goto (-30), 3) := by decide +kernel
theorem dX6_scoreOf_38 : decode cX6_scoreOf 38 = .ok (.iload_n 3, 1) := by decide +kernel
theorem dX6_scoreOf_39 : decode cX6_scoreOf 39 = .ok (.ireturn, 1) := by decide +kernel
theorem dX6_fieldScore_0 : decode cX6_fieldScore 0 = .ok (.aload_n 1, 1) := by decide +kernel
theorem dX6_fieldScore_1 : decode cX6_fieldScore 1 = .ok (.iload_n 3, 1) := by decide +kernel
theorem dX6_fieldScore_2 : decode cX6_fieldScore 2 = .ok (.invokevirtual 344, 3) := by decide +kernel
theorem dX6_fieldScore_5 : decode cX6_fieldScore 5 = .ok (.ifCond .eq 11, 3) := by decide +kernel
theorem dX6_fieldScore_8 : decode cX6_fieldScore 8 = .ok (.aload_n 2, 1) := by decide +kernel
theorem dX6_fieldScore_9 : decode cX6_fieldScore 9 = .ok (.iload_n 3, 1) := by decide +kernel
theorem dX6_fieldScore_10 : decode cX6_fieldScore 10 = .ok (.invokevirtual 344, 3) := by decide +kernel
theorem dX6_fieldScore_13 : decode cX6_fieldScore 13 = .ok (.ifCond .ne 5, 3) := by decide +kernel
theorem dX6_fieldScore_16 : decode cX6_fieldScore 16 = .ok (.iconst 0, 1) := by decide +kernel
theorem dX6_fieldScore_17 : decode cX6_fieldScore 17 = .ok (.ireturn, 1) := by decide +kernel
theorem dX6_fieldScore_18 : decode cX6_fieldScore 18 = .ok (.aload_n 1, 1) := by decide +kernel
theorem dX6_fieldScore_19 : decode cX6_fieldScore 19 = .ok (.aload_n 2, 1) := by decide +kernel
theorem dX6_fieldScore_20 : decode cX6_fieldScore 20 = .ok (.iload_n 3, 1) := by decide +kernel
theorem dX6_fieldScore_21 : decode cX6_fieldScore 21 = .ok (.invokevirtual 348, 3) := by decide +kernel
theorem dX6_fieldScore_24 : decode cX6_fieldScore 24 = .ok (.ifCond .eq 10, 3) := by decide +kernel
theorem dX6_fieldScore_27 : decode cX6_fieldScore 27 = .ok (.aload_n 0, 1) := by decide +kernel
theorem dX6_fieldScore_28 : decode cX6_fieldScore 28 = .ok (.getfield 19, 3) := by decide +kernel
theorem dX6_fieldScore_31 : decode cX6_fieldScore 31 = .ok (.iload_n 3, 1) := by decide +kernel
theorem dX6_fieldScore_32 : decode cX6_fieldScore 32 = .ok (.iaload, 1) := by decide +kernel
theorem dX6_fieldScore_33 : decode cX6_fieldScore 33 = .ok (.ireturn, 1) := by decide +kernel
theorem dX6_fieldScore_34 : decode cX6_fieldScore 34 = .ok (.iload_n 3, 1) := by decide +kernel
theorem dX6_fieldScore_35 : decode cX6_fieldScore 35 = .ok (.ifCond .ne 28, 3) := by decide +kernel
theorem dX6_fieldScore_38 : decode cX6_fieldScore 38 = .ok (.aload_n 1, 1) := by decide +kernel
theorem dX6_fieldScore_39 : decode cX6_fieldScore 39 = .ok (.getfield 103, 3) := by decide +kernel
theorem dX6_fieldScore_42 : decode cX6_fieldScore 42 = .ok (.aload_n 2, 1) := by decide +kernel
theorem dX6_fieldScore_43 : decode cX6_fieldScore 43 = .ok (.getfield 103, 3) := by decide +kernel
theorem dX6_fieldScore_46 : decode cX6_fieldScore 46 = .ok (.invokevirtual 352, 3) := by decide +kernel
theorem dX6_fieldScore_49 : decode cX6_fieldScore 49 = .ok (.ifCond .eq 14, 3) := by decide +kernel
theorem dX6_fieldScore_52 : decode cX6_fieldScore 52 = .ok (.aload_n 0, 1) := by decide +kernel
theorem dX6_fieldScore_53 : decode cX6_fieldScore 53 = .ok (.getfield 19, 3) := by decide +kernel
theorem dX6_fieldScore_56 : decode cX6_fieldScore 56 = .ok (.iconst 0, 1) := by decide +kernel
theorem dX6_fieldScore_57 : decode cX6_fieldScore 57 = .ok (.iaload, 1) := by decide +kernel
theorem dX6_fieldScore_58 : decode cX6_fieldScore 58 = .ok (.iconst 2, 1) := by decide +kernel
theorem dX6_fieldScore_59 : decode cX6_fieldScore 59 = .ok (.invokestatic 356, 3) := by decide +kernel
theorem dX6_fieldScore_62 : decode cX6_fieldScore 62 = .ok (.ireturn, 1) := by decide +kernel
theorem dX6_fieldScore_63 : decode cX6_fieldScore 63 = .ok (.aload_n 0, 1) := by decide +kernel
theorem dX6_fieldScore_64 : decode cX6_fieldScore 64 = .ok (.getfield 22, 3) := by decide +kernel
theorem dX6_fieldScore_67 : decode cX6_fieldScore 67 = .ok (.iload_n 3, 1) := by decide +kernel
theorem dX6_fieldScore_68 : decode cX6_fieldScore 68 = .ok (.iaload, 1) := by decide +kernel
theorem dX6_fieldScore_69 : decode cX6_fieldScore 69 = .ok (.ireturn, 1) := by decide +kernel
theorem dX6_sharesKey_0 : decode cX6_sharesKey 0 = .ok (.aload_n 0, 1) := by decide +kernel
theorem dX6_sharesKey_1 : decode cX6_sharesKey 1 = .ok (.iload_n 1, 1) := by decide +kernel
theorem dX6_sharesKey_2 : decode cX6_sharesKey 2 = .ok (.iload_n 2, 1) := by decide +kernel
theorem dX6_sharesKey_3 : decode cX6_sharesKey 3 = .ok (.iconst 1, 1) := by decide +kernel
theorem dX6_sharesKey_4 : decode cX6_sharesKey 4 = .ok (.invokevirtual 361, 3) := by decide +kernel
theorem dX6_sharesKey_7 : decode cX6_sharesKey 7 = .ok (.ifCond .ne 37, 3) := by decide +kernel
theorem dX6_sharesKey_10 : decode cX6_sharesKey 10 = .ok (.aload_n 0, 1) := by decide +kernel
theorem dX6_sharesKey_11 : decode cX6_sharesKey 11 = .ok (.iload_n 1, 1) := by decide +kernel
theorem dX6_sharesKey_12 : decode cX6_sharesKey 12 = .ok (.iload_n 2, 1) := by decide +kernel
theorem dX6_sharesKey_13 : decode cX6_sharesKey 13 = .ok (.iconst 2, 1) := by decide +kernel
theorem dX6_sharesKey_14 : decode cX6_sharesKey 14 = .ok (.invokevirtual 361, 3) := by decide +kernel
theorem dX6_sharesKey_17 : decode cX6_sharesKey 17 = .ok (.ifCond .ne 27, 3) := by decide +kernel
theorem dX6_sharesKey_20 : decode cX6_sharesKey 20 = .ok (.aload_n 0, 1) := by decide +kernel
theorem dX6_sharesKey_21 : decode cX6_sharesKey 21 = .ok (.getfield 15, 3) := by decide +kernel
theorem dX6_sharesKey_24 : decode cX6_sharesKey 24 = .ok (.iload_n 1, 1) := by decide +kernel
theorem dX6_sharesKey_25 : decode cX6_sharesKey 25 = .ok (.aaload, 1) := by decide +kernel
theorem dX6_sharesKey_26 : decode cX6_sharesKey 26 = .ok (.getfield 103, 3) := by decide +kernel
theorem dX6_sharesKey_29 : decode cX6_sharesKey 29 = .ok (.aload_n 0, 1) := by decide +kernel
theorem dX6_sharesKey_30 : decode cX6_sharesKey 30 = .ok (.getfield 15, 3) := by decide +kernel
theorem dX6_sharesKey_33 : decode cX6_sharesKey 33 = .ok (.iload_n 2, 1) := by decide +kernel
theorem dX6_sharesKey_34 : decode cX6_sharesKey 34 = .ok (.aaload, 1) := by decide +kernel
theorem dX6_sharesKey_35 : decode cX6_sharesKey 35 = .ok (.getfield 103, 3) := by decide +kernel
theorem dX6_sharesKey_38 : decode cX6_sharesKey 38 = .ok (.invokevirtual 352, 3) := by decide +kernel
theorem dX6_sharesKey_41 : decode cX6_sharesKey 41 = .ok (.ifCond .eq 7, 3) := by decide +kernel
theorem dX6_sharesKey_44 : decode cX6_sharesKey 44 = .ok (.iconst 1, 1) := by decide +kernel
theorem dX6_sharesKey_45 : decode cX6_sharesKey 45 = .ok (.goto 4, 3) := by decide +kernel
theorem dX6_sharesKey_48 : decode cX6_sharesKey 48 = .ok (.iconst 0, 1) := by decide +kernel
theorem dX6_sharesKey_49 : decode cX6_sharesKey 49 = .ok (.ireturn, 1) := by decide +kernel
theorem dX6_sharesNumber_0 : decode cX6_sharesNumber 0 = .ok (.aload_n 0, 1) := by decide +kernel
theorem dX6_sharesNumber_1 : decode cX6_sharesNumber 1 = .ok (.getfield 15, 3) := by decide +kernel
theorem dX6_sharesNumber_4 : decode cX6_sharesNumber 4 = .ok (.iload_n 1, 1) := by decide +kernel
theorem dX6_sharesNumber_5 : decode cX6_sharesNumber 5 = .ok (.aaload, 1) := by decide +kernel
theorem dX6_sharesNumber_6 : decode cX6_sharesNumber 6 = .ok (.iload_n 3, 1) := by decide +kernel
theorem dX6_sharesNumber_7 : decode cX6_sharesNumber 7 = .ok (.invokevirtual 344, 3) := by decide +kernel
theorem dX6_sharesNumber_10 : decode cX6_sharesNumber 10 = .ok (.ifCond .eq 26, 3) := by decide +kernel
theorem dX6_sharesNumber_13 : decode cX6_sharesNumber 13 = .ok (.aload_n 0, 1) := by decide +kernel
theorem dX6_sharesNumber_14 : decode cX6_sharesNumber 14 = .ok (.getfield 15, 3) := by decide +kernel
theorem dX6_sharesNumber_17 : decode cX6_sharesNumber 17 = .ok (.iload_n 1, 1) := by decide +kernel
theorem dX6_sharesNumber_18 : decode cX6_sharesNumber 18 = .ok (.aaload, 1) := by decide +kernel
theorem dX6_sharesNumber_19 : decode cX6_sharesNumber 19 = .ok (.aload_n 0, 1) := by decide +kernel
theorem dX6_sharesNumber_20 : decode cX6_sharesNumber 20 = .ok (.getfield 15, 3) := by decide +kernel
theorem dX6_sharesNumber_23 : decode cX6_sharesNumber 23 = .ok (.iload_n 2, 1) := by decide +kernel
theorem dX6_sharesNumber_24 : decode cX6_sharesNumber 24 = .ok (.aaload, 1) := by decide +kernel
theorem dX6_sharesNumber_25 : decode cX6_sharesNumber 25 = .ok (.iload_n 3, 1) := by decide +kernel
theorem dX6_sharesNumber_26 : decode cX6_sharesNumber 26 = .ok (.invokevirtual 348, 3) := by decide +kernel
theorem dX6_sharesNumber_29 : decode cX6_sharesNumber 29 = .ok (.ifCond .eq 7, 3) := by decide +kernel
theorem dX6_sharesNumber_32 : decode cX6_sharesNumber 32 = .ok (.iconst 1, 1) := by decide +kernel
theorem dX6_sharesNumber_33 : decode cX6_sharesNumber 33 = .ok (.goto 4, 3) := by decide +kernel
theorem dX6_sharesNumber_36 : decode cX6_sharesNumber 36 = .ok (.iconst 0, 1) := by decide +kernel
theorem dX6_sharesNumber_37 : decode cX6_sharesNumber 37 = .ok (.ireturn, 1) := by decide +kernel
theorem dX6_canBeMerged_0 : decode cX6_canBeMerged 0 = .ok (.aload_n 0, 1) := by decide +kernel
theorem dX6_canBeMerged_1 : decode cX6_canBeMerged 1 = .ok (.getfield 39, 3) := by decide +kernel
theorem dX6_canBeMerged_4 : decode cX6_canBeMerged 4 = .ok (.iload_n 1, 1) := by decide +kernel
theorem dX6_canBeMerged_5 : decode cX6_canBeMerged 5 = .ok (.invokevirtual 226, 3) := by decide +kernel
theorem dX6_canBeMerged_8 : decode cX6_canBeMerged 8 = .ok (.istore_n 3, 1) := by decide +kernel
theorem dX6_canBeMerged_9 : decode cX6_canBeMerged 9 = .ok (.aload_n 0, 1) := by decide +kernel
theorem dX6_canBeMerged_10 : decode cX6_canBeMerged 10 = .ok (.getfield 39, 3) := by decide +kernel
theorem dX6_canBeMerged_13 : decode cX6_canBeMerged 13 = .ok (.iload_n 2, 1) := by decide +kernel
theorem dX6_canBeMerged_14 : decode cX6_canBeMerged 14 = .ok (.invokevirtual 226, 3) := by decide +kernel
theorem dX6_canBeMerged_17 : decode cX6_canBeMerged 17 = .ok (.istore 4, 2) := by decide +kernel
theorem dX6_canBeMerged_19 : decode cX6_canBeMerged 19 = .ok (.iload_n 3, 1) := by decide +kernel
theorem dX6_canBeMerged_20 : decode cX6_canBeMerged 20 = .ok (.iload 4, 2) := by decide +kernel
theorem dX6_canBeMerged_22 : decode cX6_canBeMerged 22 = .ok (.iand, 1) := by decide +kernel
theorem dX6_canBeMerged_23 : decode cX6_canBeMerged 23 = .ok (.ifCond .ne 21, 3) := by decide +kernel
theorem dX6_canBeMerged_26 : decode cX6_canBeMerged 26 = .ok (.aload_n 0, 1) := by decide +kernel
theorem dX6_canBeMerged_27 : decode cX6_canBeMerged 27 = .ok (.getfield 32, 3) := by decide +kernel
theorem dX6_canBeMerged_30 : decode cX6_canBeMerged 30 = .ok (.iload_n 3, 1) := by decide +kernel
theorem dX6_canBeMerged_31 : decode cX6_canBeMerged 31 = .ok (.invokevirtual 223, 3) := by decide +kernel
theorem dX6_canBeMerged_34 : decode cX6_canBeMerged 34 = .ok (.iload 4, 2) := by decide +kernel
theorem dX6_canBeMerged_36 : decode cX6_canBeMerged 36 = .ok (.iand, 1) := by decide +kernel
theorem dX6_canBeMerged_37 : decode cX6_canBeMerged 37 = .ok (.ifCond .ne 7, 3) := by decide +kernel
theorem dX6_canBeMerged_40 : decode cX6_canBeMerged 40 = .ok (.iconst 1, 1) := by decide +kernel
theorem dX6_canBeMerged_41 : decode cX6_canBeMerged 41 = .ok (.goto 4, 3) := by decide +kernel
theorem dX6_canBeMerged_44 : decode cX6_canBeMerged 44 = .ok (.iconst 0, 1) := by decide +kernel
theorem dX6_canBeMerged_45 : decode cX6_canBeMerged 45 = .ok (.ireturn, 1) := by decide +kernel
theorem dX6_findBestByPairs_0 : decode cX6_findBestByPairs 0 = .ok (.aload_n 0, 1) := by decide +kernel
theorem dX6_findBestByPairs_1 : decode cX6_findBestByPairs 1 = .ok (.getfield 56, 3) := by decide +kernel
theorem dX6_findBestByPairs_4 : decode cX6_findBestByPairs 4 = .ok (.invokevirtual 365, 3) := by decide +kernel
theorem dX6_findBestByPairs_7 : decode cX6_findBestByPairs 7 = .ok (.iconst 0, 1) := by decide +kernel
theorem dX6_findBestByPairs_8 : decode cX6_findBestByPairs 8 = .ok (.istore_n 1, 1) := by decide +kernel
theorem dX6_findBestByPairs_9 : decode cX6_findBestByPairs 9 = .ok (.iload_n 1, 1) := by decide +kernel
theorem dX6_findBestByPairs_10 : decode cX6_findBestByPairs 10 = .ok (.aload_n 0, 1) := by decide +kernel
theorem dX6_findBestByPairs_11 : decode cX6_findBestByPairs 11 = .ok (.getfield 88, 3) := by decide +kernel
theorem dX6_findBestByPairs_14 : decode cX6_findBestByPairs 14 = .ok (.if_icmp .ge 42, 3) := by decide +kernel
theorem dX6_findBestByPairs_17 : decode cX6_findBestByPairs 17 = .ok (.iload_n 1, 1) := by decide +kernel
theorem dX6_findBestByPairs_18 : decode cX6_findBestByPairs 18 = .ok (.iconst 1, 1) := by decide +kernel
theorem dX6_findBestByPairs_19 : decode cX6_findBestByPairs 19 = .ok (.iadd, 1) := by decide +kernel
theorem dX6_findBestByPairs_20 : decode cX6_findBestByPairs 20 = .ok (.istore_n 2, 1) := by decide +kernel
theorem dX6_findBestByPairs_21 : decode cX6_findBestByPairs 21 = .ok (.iload_n 2, 1) := by decide +kernel
theorem dX6_findBestByPairs_22 : decode cX6_findBestByPairs 22 = .ok (.aload_n 0, 1) := by decide +kernel
theorem dX6_findBestByPairs_23 : decode cX6_findBestByPairs 23 = .ok (.getfield 88, 3) := by decide +kernel
theorem dX6_findBestByPairs_26 : decode cX6_findBestByPairs 26 = .ok (.if_icmp .ge 24, 3) := by decide +kernel
theorem dX6_findBestByPairs_29 : decode cX6_findBestByPairs 29 = .ok (.aload_n 0, 1) := by decide +kernel
theorem dX6_findBestByPairs_30 : decode cX6_findBestByPairs 30 = .ok (.iload_n 1, 1) := by decide +kernel
theorem dX6_findBestByPairs_31 : decode cX6_findBestByPairs 31 = .ok (.iload_n 2, 1) := by decide +kernel
theorem dX6_findBestByPairs_32 : decode cX6_findBestByPairs 32 = .ok (.invokevirtual 164, 3) := by decide +kernel
theorem dX6_findBestByPairs_35 : decode cX6_findBestByPairs 35 = .ok (.ifCond .eq 9, 3) := by decide +kernel
theorem dX6_findBestByPairs_38 : decode cX6_findBestByPairs 38 = .ok (.aload_n 0, 1) := by decide +kernel
theorem dX6_findBestByPairs_39 : decode cX6_findBestByPairs 39 = .ok (.iload_n 1, 1) := by decide +kernel
theorem dX6_findBestByPairs_40 : decode cX6_findBestByPairs 40 = .ok (.iload_n 2, 1) := by decide +kernel
theorem dX6_findBestByPairs_41 : decode cX6_findBestByPairs 41 = .ok (.invokevirtual 368, 3) := by decide +kernel
theorem dX6_findBestByPairs_44 : decode cX6_findBestByPairs 44 = .ok (.iinc 2 1, 3) := by decide +kernel
theorem dX6_findBestByPairs_47 : decode cX6_findBestByPairs 47 = .ok (.goto (-26), 3) := by decide +kernel
theorem dX6_findBestByPairs_50 : decode cX6_findBestByPairs 50 = .ok (.iinc 1 1, 3) := by decide +kernel
theorem dX6_findBestByPairs_53 : decode cX6_findBestByPairs 53 = .ok (.goto (-44), 3) := by decide +kernel
theorem dX6_findBestByPairs_56 : decode cX6_findBestByPairs 56 = .ok (.return_, 1) := by decide +kernel
theorem dX6_findBestByKeys_0 : decode cX6_findBestByKeys 0 = .ok (.aload_n 0, 1) := by decide +kernel
theorem dX6_findBestByKeys_1 : decode cX6_findBestByKeys 1 = .ok (.getfield 56, 3) := by decide +kernel
theorem dX6_findBestByKeys_4 : decode cX6_findBestByKeys 4 = .ok (.invokevirtual 365, 3) := by decide +kernel
theorem dX6_findBestByKeys_7 : decode cX6_findBestByKeys 7 = .ok (.aload_n 0, 1) := by decide +kernel
theorem dX6_findBestByKeys_8 : decode cX6_findBestByKeys 8 = .ok (.invokevirtual 371, 3) := by decide +kernel
theorem dX6_findBestByKeys_11 : decode cX6_findBestByKeys 11 = .ok (.iconst 0, 1) := by decide +kernel
theorem dX6_findBestByKeys_12 : decode cX6_findBestByKeys 12 = .ok (.istore_n 1, 1) := by decide +kernel
theorem dX6_findBestByKeys_13 : decode cX6_findBestByKeys 13 = .ok (.iload_n 1, 1) := by decide +kernel
theorem dX6_findBestByKeys_14 : decode cX6_findBestByKeys 14 = .ok (.aload_n 0, 1) := by decide +kernel
theorem dX6_findBestByKeys_15 : decode cX6_findBestByKeys 15 = .ok (.getfield 88, 3) := by decide +kernel
theorem dX6_findBestByKeys_18 : decode cX6_findBestByKeys 18 = .ok (.if_icmp .ge 46, 3) := by decide +kernel
theorem dX6_findBestByKeys_21 : decode cX6_findBestByKeys 21 = .ok (.iload_n 1, 1) := by decide +kernel
theorem dX6_findBestByKeys_22 : decode cX6_findBestByKeys 22 = .ok (.iconst 1, 1) := by decide +kernel
theorem dX6_findBestByKeys_23 : decode cX6_findBestByKeys 23 = .ok (.iadd, 1) := by decide +kernel
theorem dX6_findBestByKeys_24 : decode cX6_findBestByKeys 24 = .ok (.istore_n 2, 1) := by decide +kernel
theorem dX6_findBestByKeys_25 : decode cX6_findBestByKeys 25 = .ok (.iload_n 2, 1) := by decide +kernel
theorem dX6_findBestByKeys_26 : decode cX6_findBestByKeys 26 = .ok (.aload_n 0, 1) := by decide +kernel
theorem dX6_findBestByKeys_27 : decode cX6_findBestByKeys 27 = .ok (.getfield 88, 3) := by decide +kernel
theorem dX6_findBestByKeys_30 : decode cX6_findBestByKeys 30 = .ok (.if_icmp .ge 28, 3) := by decide +kernel
theorem dX6_findBestByKeys_33 : decode cX6_findBestByKeys 33 = .ok (.aload_n 0, 1) := by decide +kernel
theorem dX6_findBestByKeys_34 : decode cX6_findBestByKeys 34 = .ok (.getfield 67, 3) := by decide +kernel
theorem dX6_findBestByKeys_37 : decode cX6_findBestByKeys 37 = .ok (.iload_n 1, 1) := by decide +kernel
theorem dX6_findBestByKeys_38 : decode cX6_findBestByKeys 38 = .ok (.iaload, 1) := by decide +kernel
theorem dX6_findBestByKeys_39 : decode cX6_findBestByKeys 39 = .ok (.iload_n 2, 1) := by decide +kernel
theorem dX6_findBestByKeys_40 : decode cX6_findBestByKeys 40 = .ok (.invokestatic 287, 3) := by decide +kernel
theorem dX6_findBestByKeys_43 : decode cX6_findBestByKeys 43 = .ok (.ifCond .eq 9, 3) := by decide +kernel
theorem dX6_findBestByKeys_46 : decode cX6_findBestByKeys 46 = .ok (.aload_n 0, 1) := by decide +kernel
theorem dX6_findBestByKeys_47 : decode cX6_findBestByKeys 47 = .ok (.iload_n 1, 1) := by decide +kernel
theorem dX6_findBestByKeys_48 : decode cX6_findBestByKeys 48 = .ok (.iload_n 2, 1) := by decide +kernel
theorem dX6_findBestByKeys_49 : decode cX6_findBestByKeys 49 = .ok (.invokevirtual 368, 3) := by decide +kernel
theorem dX6_findBestByKeys_52 : decode cX6_findBestByKeys 52 = .ok (.iinc 2 1, 3) := by decide +kernel
theorem dX6_findBestByKeys_55 : decode cX6_findBestByKeys 55 = .ok (.goto (-30), 3) := by decide +kernel
theorem dX6_findBestByKeys_58 : decode cX6_findBestByKeys 58 = .ok (.iinc 1 1, 3) := by decide +kernel
theorem dX6_findBestByKeys_61 : decode cX6_findBestByKeys 61 = .ok (.goto (-48), 3) := by decide +kernel
theorem dX6_findBestByKeys_64 : decode cX6_findBestByKeys 64 = .ok (.return_, 1) := by decide +kernel
theorem dX6_offer_0 : decode cX6_offer 0 = .ok (.aload_n 0, 1) := by decide +kernel
theorem dX6_offer_1 : decode cX6_offer 1 = .ok (.iload_n 1, 1) := by decide +kernel
theorem dX6_offer_2 : decode cX6_offer 2 = .ok (.iload_n 2, 1) := by decide +kernel
theorem dX6_offer_3 : decode cX6_offer 3 = .ok (.invokevirtual 160, 3) := by decide +kernel
theorem dX6_offer_6 : decode cX6_offer 6 = .ok (.istore_n 3, 1) := by decide +kernel
theorem dX6_offer_7 : decode cX6_offer 7 = .ok (.iload_n 3, 1) := by decide +kernel
theorem dX6_offer_8 : decode cX6_offer 8 = .ok (.aload_n 0, 1) := by decide +kernel
theorem dX6_offer_9 : decode cX6_offer 9 = .ok (.getfield 25, 3) := by decide +kernel
theorem dX6_offer_12 : decode cX6_offer 12 = .ok (.if_icmp .lt 22, 3) := by decide +kernel
theorem dX6_offer_15 : decode cX6_offer 15 = .ok (.aload_n 0, 1) := by decide +kernel
theorem dX6_offer_16 : decode cX6_offer 16 = .ok (.iload_n 1, 1) := by decide +kernel
theorem dX6_offer_17 : decode cX6_offer 17 = .ok (.iload_n 2, 1) := by decide +kernel
theorem dX6_offer_18 : decode cX6_offer 18 = .ok (.invokevirtual 168, 3) := by decide +kernel
theorem dX6_offer_21 : decode cX6_offer 21 = .ok (.ifCond .eq 13, 3) := by decide +kernel
theorem dX6_offer_24 : decode cX6_offer 24 = .ok (.aload_n 0, 1) := by decide +kernel
theorem dX6_offer_25 : decode cX6_offer 25 = .ok (.getfield 56, 3) := by decide +kernel
theorem dX6_offer_28 : decode cX6_offer 28 = .ok (.iload_n 3, 1) := by decide +kernel
theorem dX6_offer_29 : decode cX6_offer 29 = .ok (.iload_n 1, 1) := by decide +kernel
theorem dX6_offer_30 : decode cX6_offer 30 = .ok (.iload_n 2, 1) := by decide +kernel
theorem dX6_offer_31 : decode cX6_offer 31 = .ok (.invokevirtual 374, 3) := by decide +kernel
theorem dX6_offer_34 : decode cX6_offer 34 = .ok (.return_, 1) := by decide +kernel
theorem dX6_gatherMates_0 : decode cX6_gatherMates 0 = .ok (.iconst 0, 1) := by decide +kernel
theorem dX6_gatherMates_1 : decode cX6_gatherMates 1 = .ok (.istore_n 1, 1) := by decide +kernel
theorem dX6_gatherMates_2 : decode cX6_gatherMates 2 = .ok (.iload_n 1, 1) := by decide +kernel
theorem dX6_gatherMates_3 : decode cX6_gatherMates 3 = .ok (.aload_n 0, 1) := by decide +kernel
theorem dX6_gatherMates_4 : decode cX6_gatherMates 4 = .ok (.getfield 88, 3) := by decide +kernel
theorem dX6_gatherMates_7 : decode cX6_gatherMates 7 = .ok (.if_icmp .ge 16, 3) := by decide +kernel
theorem dX6_gatherMates_10 : decode cX6_gatherMates 10 = .ok (.aload_n 0, 1) := by decide +kernel
theorem dX6_gatherMates_11 : decode cX6_gatherMates 11 = .ok (.getfield 67, 3) := by decide +kernel
theorem dX6_gatherMates_14 : decode cX6_gatherMates 14 = .ok (.iload_n 1, 1) := by decide +kernel
theorem dX6_gatherMates_15 : decode cX6_gatherMates 15 = .ok (.iconst 0, 1) := by decide +kernel
theorem dX6_gatherMates_16 : decode cX6_gatherMates 16 = .ok (.iastore, 1) := by decide +kernel
theorem dX6_gatherMates_17 : decode cX6_gatherMates 17 = .ok (.iinc 1 1, 3) := by decide +kernel
theorem dX6_gatherMates_20 : decode cX6_gatherMates 20 = .ok (.goto (-18), 3) := by decide +kernel
theorem dX6_gatherMates_23 : decode cX6_gatherMates 23 = .ok (.iconst 0, 1) := by decide +kernel
theorem dX6_gatherMates_24 : decode cX6_gatherMates 24 = .ok (.istore_n 1, 1) := by decide +kernel
theorem dX6_gatherMates_25 : decode cX6_gatherMates 25 = .ok (.iload_n 1, 1) := by decide +kernel
theorem dX6_gatherMates_26 : decode cX6_gatherMates 26 = .ok (.iconst 2, 1) := by decide +kernel
theorem dX6_gatherMates_27 : decode cX6_gatherMates 27 = .ok (.if_icmp .gt 92, 3) := by decide +kernel
theorem dX6_gatherMates_30 : decode cX6_gatherMates 30 = .ok (.aload_n 0, 1) := by decide +kernel
theorem dX6_gatherMates_31 : decode cX6_gatherMates 31 = .ok (.getfield 63, 3) := by decide +kernel
theorem dX6_gatherMates_34 : decode cX6_gatherMates 34 = .ok (.invokevirtual 378, 3) := by decide +kernel
theorem dX6_gatherMates_37 : decode cX6_gatherMates 37 = .ok (.iconst 0, 1) := by decide +kernel
theorem dX6_gatherMates_38 : decode cX6_gatherMates 38 = .ok (.istore_n 2, 1) := by decide +kernel
theorem dX6_gatherMates_39 : decode cX6_gatherMates 39 = .ok (.iload_n 2, 1) := by decide +kernel
theorem dX6_gatherMates_40 : decode cX6_gatherMates 40 = .ok (.aload_n 0, 1) := by decide +kernel
theorem dX6_gatherMates_41 : decode cX6_gatherMates 41 = .ok (.getfield 88, 3) := by decide +kernel
theorem dX6_gatherMates_44 : decode cX6_gatherMates 44 = .ok (.if_icmp .ge 27, 3) := by decide +kernel
theorem dX6_gatherMates_47 : decode cX6_gatherMates 47 = .ok (.aload_n 0, 1) := by decide +kernel
theorem dX6_gatherMates_48 : decode cX6_gatherMates 48 = .ok (.getfield 63, 3) := by decide +kernel
theorem dX6_gatherMates_51 : decode cX6_gatherMates 51 = .ok (.aload_n 0, 1) := by decide +kernel
theorem dX6_gatherMates_52 : decode cX6_gatherMates 52 = .ok (.getfield 15, 3) := by decide +kernel
theorem dX6_gatherMates_55 : decode cX6_gatherMates 55 = .ok (.iload_n 2, 1) := by decide +kernel
theorem dX6_gatherMates_56 : decode cX6_gatherMates 56 = .ok (.aaload, 1) := by decide +kernel
theorem dX6_gatherMates_57 : decode cX6_gatherMates 57 = .ok (.iload_n 1, 1) := by decide +kernel
theorem dX6_gatherMates_58 : decode cX6_gatherMates 58 = .ok (.invokevirtual 380, 3) := by decide +kernel
theorem dX6_gatherMates_61 : decode cX6_gatherMates 61 = .ok (.iload_n 2, 1) := by decide +kernel
theorem dX6_gatherMates_62 : decode cX6_gatherMates 62 = .ok (.invokevirtual 383, 3) := by decide +kernel
theorem dX6_gatherMates_65 : decode cX6_gatherMates 65 = .ok (.iinc 2 1, 3) := by decide +kernel
theorem dX6_gatherMates_68 : decode cX6_gatherMates 68 = .ok (.goto (-29), 3) := by decide +kernel
theorem dX6_gatherMates_71 : decode cX6_gatherMates 71 = .ok (.iconst 0, 1) := by decide +kernel
theorem dX6_gatherMates_72 : decode cX6_gatherMates 72 = .ok (.istore_n 2, 1) := by decide +kernel
theorem dX6_gatherMates_73 : decode cX6_gatherMates 73 = .ok (.iload_n 2, 1) := by decide +kernel
theorem dX6_gatherMates_74 : decode cX6_gatherMates 74 = .ok (.aload_n 0, 1) := by decide +kernel
theorem dX6_gatherMates_75 : decode cX6_gatherMates 75 = .ok (.getfield 88, 3) := by decide +kernel
theorem dX6_gatherMates_78 : decode cX6_gatherMates 78 = .ok (.if_icmp .ge 35, 3) := by decide +kernel
theorem dX6_gatherMates_81 : decode cX6_gatherMates 81 = .ok (.aload_n 0, 1) := by decide +kernel
theorem dX6_gatherMates_82 : decode cX6_gatherMates 82 = .ok (.getfield 67, 3) := by decide +kernel
theorem dX6_gatherMates_85 : decode cX6_gatherMates 85 = .ok (.iload_n 2, 1) := by decide +kernel
theorem dX6_gatherMates_86 : decode cX6_gatherMates 86 = .ok (.dup2, 1) := by decide +kernel
theorem dX6_gatherMates_87 : decode cX6_gatherMates 87 = .ok (.iaload, 1) := by decide +kernel
theorem dX6_gatherMates_88 : decode cX6_gatherMates 88 = .ok (.aload_n 0, 1) := by decide +kernel
theorem dX6_gatherMates_89 : decode cX6_gatherMates 89 = .ok (.getfield 63, 3) := by decide +kernel
theorem dX6_gatherMates_92 : decode cX6_gatherMates 92 = .ok (.aload_n 0, 1) := by decide +kernel
theorem dX6_gatherMates_93 : decode cX6_gatherMates 93 = .ok (.getfield 15, 3) := by decide +kernel
theorem dX6_gatherMates_96 : decode cX6_gatherMates 96 = .ok (.iload_n 2, 1) := by decide +kernel
theorem dX6_gatherMates_97 : decode cX6_gatherMates 97 = .ok (.aaload, 1) := by decide +kernel
theorem dX6_gatherMates_98 : decode cX6_gatherMates 98 = .ok (.iload_n 1, 1) := by decide +kernel
theorem dX6_gatherMates_99 : decode cX6_gatherMates 99 = .ok (.invokevirtual 380, 3) := by decide +kernel
theorem dX6_gatherMates_102 : decode cX6_gatherMates 102 = .ok (.invokevirtual 386, 3) := by decide +kernel
theorem dX6_gatherMates_105 : decode cX6_gatherMates 105 = .ok (.ior, 1) := by decide +kernel
theorem dX6_gatherMates_106 : decode cX6_gatherMates 106 = .ok (.iastore, 1) := by decide +kernel
theorem dX6_gatherMates_107 : decode cX6_gatherMates 107 = .ok (.iinc 2 1, 3) := by decide +kernel
theorem dX6_gatherMates_110 : decode cX6_gatherMates 110 = .ok (.goto (-37), 3) := by decide +kernel
theorem dX6_gatherMates_113 : decode cX6_gatherMates 113 = .ok (.iinc 1 1, 3) := by decide +kernel
theorem dX6_gatherMates_116 : decode cX6_gatherMates 116 = .ok (.goto (-91), 3) := by decide +kernel
theorem dX6_gatherMates_119 : decode cX6_gatherMates 119 = .ok (.return_, 1) := by decide +kernel
theorem dX6_allCards_0 : decode cX6_allCards 0 = .ok (.iconst 1, 1) := by decide +kernel
theorem dX6_allCards_1 : decode cX6_allCards 1 = .ok (.aload_n 0, 1) := by decide +kernel
theorem dX6_allCards_2 : decode cX6_allCards 2 = .ok (.getfield 88, 3) := by decide +kernel
theorem dX6_allCards_5 : decode cX6_allCards 5 = .ok (.ishl, 1) := by decide +kernel
theorem dX6_allCards_6 : decode cX6_allCards 6 = .ok (.iconst 1, 1) := by decide +kernel
theorem dX6_allCards_7 : decode cX6_allCards 7 = .ok (.isub, 1) := by decide +kernel
theorem dX6_allCards_8 : decode cX6_allCards 8 = .ok (.ireturn, 1) := by decide +kernel
theorem dX6_isOnePerson_0 : decode cX6_isOnePerson 0 = .ok (.aload_n 0, 1) := by decide +kernel
theorem dX6_isOnePerson_1 : decode cX6_isOnePerson 1 = .ok (.getfield 39, 3) := by decide +kernel
theorem dX6_isOnePerson_4 : decode cX6_isOnePerson 4 = .ok (.iload_n 1, 1) := by decide +kernel
theorem dX6_isOnePerson_5 : decode cX6_isOnePerson 5 = .ok (.invokevirtual 226, 3) := by decide +kernel
theorem dX6_isOnePerson_8 : decode cX6_isOnePerson 8 = .ok (.iload_n 2, 1) := by decide +kernel
theorem dX6_isOnePerson_9 : decode cX6_isOnePerson 9 = .ok (.invokestatic 287, 3) := by decide +kernel
theorem dX6_isOnePerson_12 : decode cX6_isOnePerson 12 = .ok (.ireturn, 1) := by decide +kernel
theorem dX6_barsBetween_0 : decode cX6_barsBetween 0 = .ok (.aload_n 0, 1) := by decide +kernel
theorem dX6_barsBetween_1 : decode cX6_barsBetween 1 = .ok (.getfield 39, 3) := by decide +kernel
theorem dX6_barsBetween_4 : decode cX6_barsBetween 4 = .ok (.iload_n 1, 1) := by decide +kernel
theorem dX6_barsBetween_5 : decode cX6_barsBetween 5 = .ok (.invokevirtual 226, 3) := by decide +kernel
theorem dX6_barsBetween_8 : decode cX6_barsBetween 8 = .ok (.aload_n 0, 1) := by decide +kernel
theorem dX6_barsBetween_9 : decode cX6_barsBetween 9 = .ok (.getfield 32, 3) := by decide +kernel
theorem dX6_barsBetween_12 : decode cX6_barsBetween 12 = .ok (.aload_n 0, 1) := by decide +kernel
theorem dX6_barsBetween_13 : decode cX6_barsBetween 13 = .ok (.getfield 39, 3) := by decide +kernel
theorem dX6_barsBetween_16 : decode cX6_barsBetween 16 = .ok (.iload_n 2, 1) := by decide +kernel
theorem dX6_barsBetween_17 : decode cX6_barsBetween 17 = .ok (.invokevirtual 226, 3) := by decide +kernel
theorem dX6_barsBetween_20 : decode cX6_barsBetween 20 = .ok (.invokevirtual 223, 3) := by decide +kernel
theorem dX6_barsBetween_23 : decode cX6_barsBetween 23 = .ok (.iand, 1) := by decide +kernel
theorem dX6_barsBetween_24 : decode cX6_barsBetween 24 = .ok (.ireturn, 1) := by decide +kernel
theorem dX6_personsWith_0 : decode cX6_personsWith 0 = .ok (.iconst 0, 1) := by decide +kernel
theorem dX6_personsWith_1 : decode cX6_personsWith 1 = .ok (.istore_n 2, 1) := by decide +kernel
theorem dX6_personsWith_2 : decode cX6_personsWith 2 = .ok (.iconst 0, 1) := by decide +kernel
theorem dX6_personsWith_3 : decode cX6_personsWith 3 = .ok (.istore_n 3, 1) := by decide +kernel
theorem dX6_personsWith_4 : decode cX6_personsWith 4 = .ok (.iconst 0, 1) := by decide +kernel
theorem dX6_personsWith_5 : decode cX6_personsWith 5 = .ok (.istore 4, 2) := by decide +kernel
theorem dX6_personsWith_7 : decode cX6_personsWith 7 = .ok (.iload 4, 2) := by decide +kernel
theorem dX6_personsWith_9 : decode cX6_personsWith 9 = .ok (.aload_n 0, 1) := by decide +kernel
theorem dX6_personsWith_10 : decode cX6_personsWith 10 = .ok (.getfield 88, 3) := by decide +kernel
theorem dX6_personsWith_13 : decode cX6_personsWith 13 = .ok (.if_icmp .ge 48, 3) := by decide +kernel
theorem dX6_personsWith_16 : decode cX6_personsWith 16 = .ok (.iload_n 3, 1) := by decide +kernel
theorem dX6_personsWith_17 : decode cX6_personsWith 17 = .ok (.iload 4, 2) := by decide +kernel
theorem dX6_personsWith_19 : decode cX6_personsWith 19 = .ok (.invokestatic 287, 3) := by decide +kernel
theorem dX6_personsWith_22 : decode cX6_personsWith 22 = .ok (.ifCond .ne 33, 3) := by decide +kernel
theorem dX6_personsWith_25 : decode cX6_personsWith 25 = .ok (.aload_n 0, 1) := by decide +kernel
theorem dX6_personsWith_26 : decode cX6_personsWith 26 = .ok (.getfield 39, 3) := by decide +kernel
theorem dX6_personsWith_29 : decode cX6_personsWith 29 = .ok (.iload 4, 2) := by decide +kernel
theorem dX6_personsWith_31 : decode cX6_personsWith 31 = .ok (.invokevirtual 226, 3) := by decide +kernel
theorem dX6_personsWith_34 : decode cX6_personsWith 34 = .ok (.istore 5, 2) := by decide +kernel
theorem dX6_personsWith_36 : decode cX6_personsWith 36 = .ok (.iload_n 3, 1) := by decide +kernel
theorem dX6_personsWith_37 : decode cX6_personsWith 37 = .ok (.iload 5, 2) := by decide +kernel
theorem dX6_personsWith_39 : decode cX6_personsWith 39 = .ok (.ior, 1) := by decide +kernel
theorem dX6_personsWith_40 : decode cX6_personsWith 40 = .ok (.istore_n 3, 1) := by decide +kernel
theorem dX6_personsWith_41 : decode cX6_personsWith 41 = .ok (.iload 5, 2) := by decide +kernel
theorem dX6_personsWith_43 : decode cX6_personsWith 43 = .ok (.iload_n 1, 1) := by decide +kernel
theorem dX6_personsWith_44 : decode cX6_personsWith 44 = .ok (.iand, 1) := by decide +kernel
theorem dX6_personsWith_45 : decode cX6_personsWith 45 = .ok (.ifCond .eq 10, 3) := by decide +kernel
theorem dX6_personsWith_48 : decode cX6_personsWith 48 = .ok (.iload_n 2, 1) := by decide +kernel
theorem dX6_personsWith_49 : decode cX6_personsWith 49 = .ok (.iconst 1, 1) := by decide +kernel
theorem dX6_personsWith_50 : decode cX6_personsWith 50 = .ok (.iload 4, 2) := by decide +kernel
theorem dX6_personsWith_52 : decode cX6_personsWith 52 = .ok (.ishl, 1) := by decide +kernel
theorem dX6_personsWith_53 : decode cX6_personsWith 53 = .ok (.ior, 1) := by decide +kernel
theorem dX6_personsWith_54 : decode cX6_personsWith 54 = .ok (.istore_n 2, 1) := by decide +kernel
theorem dX6_personsWith_55 : decode cX6_personsWith 55 = .ok (.iinc 4 1, 3) := by decide +kernel
theorem dX6_personsWith_58 : decode cX6_personsWith 58 = .ok (.goto (-51), 3) := by decide +kernel
theorem dX6_personsWith_61 : decode cX6_personsWith 61 = .ok (.iload_n 2, 1) := by decide +kernel
theorem dX6_personsWith_62 : decode cX6_personsWith 62 = .ok (.ireturn, 1) := by decide +kernel
theorem dX6_highestRanked_0 : decode cX6_highestRanked 0 = .ok (.iconst (-1), 1) := by decide +kernel
theorem dX6_highestRanked_1 : decode cX6_highestRanked 1 = .ok (.istore_n 3, 1) := by decide +kernel
theorem dX6_highestRanked_2 : decode cX6_highestRanked 2 = .ok (.iconst 0, 1) := by decide +kernel
theorem dX6_highestRanked_3 : decode cX6_highestRanked 3 = .ok (.istore 4, 2) := by decide +kernel
theorem dX6_highestRanked_5 : decode cX6_highestRanked 5 = .ok (.iconst 0, 1) := by decide +kernel
theorem dX6_highestRanked_6 : decode cX6_highestRanked 6 = .ok (.istore 5, 2) := by decide +kernel
theorem dX6_highestRanked_8 : decode cX6_highestRanked 8 = .ok (.iload 5, 2) := by decide +kernel
theorem dX6_highestRanked_10 : decode cX6_highestRanked 10 = .ok (.aload_n 0, 1) := by decide +kernel
theorem dX6_highestRanked_11 : decode cX6_highestRanked 11 = .ok (.getfield 88, 3) := by decide +kernel
theorem dX6_highestRanked_14 : decode cX6_highestRanked 14 = .ok (.if_icmp .ge 72, 3) := by decide +kernel
theorem dX6_highestRanked_17 : decode cX6_highestRanked 17 = .ok (.iload_n 1, 1) := by decide +kernel
theorem dX6_highestRanked_18 : decode cX6_highestRanked 18 = .ok (.iload 5, 2) := by decide +kernel
theorem dX6_highestRanked_20 : decode cX6_highestRanked 20 = .ok (.invokestatic 287, 3) := by decide +kernel
theorem dX6_highestRanked_23 : decode cX6_highestRanked 23 = .ok (.ifCond .eq 57, 3) := by decide +kernel
theorem dX6_highestRanked_26 : decode cX6_highestRanked 26 = .ok (.aload_n 0, 1) := by decide +kernel
theorem dX6_highestRanked_27 : decode cX6_highestRanked 27 = .ok (.getfield 15, 3) := by decide +kernel
theorem dX6_highestRanked_30 : decode cX6_highestRanked 30 = .ok (.iload 5, 2) := by decide +kernel
theorem dX6_highestRanked_32 : decode cX6_highestRanked 32 = .ok (.aaload, 1) := by decide +kernel
theorem dX6_highestRanked_33 : decode cX6_highestRanked 33 = .ok (.iload_n 2, 1) := by decide +kernel
theorem dX6_highestRanked_34 : decode cX6_highestRanked 34 = .ok (.invokevirtual 344, 3) := by decide +kernel
theorem dX6_highestRanked_37 : decode cX6_highestRanked 37 = .ok (.ifCond .eq 43, 3) := by decide +kernel
theorem dX6_highestRanked_40 : decode cX6_highestRanked 40 = .ok (.aload_n 0, 1) := by decide +kernel
theorem dX6_highestRanked_41 : decode cX6_highestRanked 41 = .ok (.getfield 9, 3) := by decide +kernel
theorem dX6_highestRanked_44 : decode cX6_highestRanked 44 = .ok (.aload_n 0, 1) := by decide +kernel
theorem dX6_highestRanked_45 : decode cX6_highestRanked 45 = .ok (.getfield 15, 3) := by decide +kernel
theorem dX6_highestRanked_48 : decode cX6_highestRanked 48 = .ok (.iload 5, 2) := by decide +kernel
theorem dX6_highestRanked_50 : decode cX6_highestRanked 50 = .ok (.aaload, 1) := by decide +kernel
theorem dX6_highestRanked_51 : decode cX6_highestRanked 51 = .ok (.getfield 93, 3) := by decide +kernel
theorem dX6_highestRanked_54 : decode cX6_highestRanked 54 = .ok (.iaload, 1) := by decide +kernel
theorem dX6_highestRanked_55 : decode cX6_highestRanked 55 = .ok (.iload 4, 2) := by decide +kernel
theorem dX6_highestRanked_57 : decode cX6_highestRanked 57 = .ok (.if_icmp .le 23, 3) := by decide +kernel
theorem dX6_highestRanked_60 : decode cX6_highestRanked 60 = .ok (.iload 5, 2) := by decide +kernel
theorem dX6_highestRanked_62 : decode cX6_highestRanked 62 = .ok (.istore_n 3, 1) := by decide +kernel
theorem dX6_highestRanked_63 : decode cX6_highestRanked 63 = .ok (.aload_n 0, 1) := by decide +kernel
theorem dX6_highestRanked_64 : decode cX6_highestRanked 64 = .ok (.getfield 9, 3) := by decide +kernel
theorem dX6_highestRanked_67 : decode cX6_highestRanked 67 = .ok (.aload_n 0, 1) := by decide +kernel
theorem dX6_highestRanked_68 : decode cX6_highestRanked 68 = .ok (.getfield 15, 3) := by decide +kernel
theorem dX6_highestRanked_71 : decode cX6_highestRanked 71 = .ok (.iload 5, 2) := by decide +kernel
theorem dX6_highestRanked_73 : decode cX6_highestRanked 73 = .ok (.aaload, 1) := by decide +kernel
theorem dX6_highestRanked_74 : decode cX6_highestRanked 74 = .ok (.getfield 93, 3) := by decide +kernel
theorem dX6_highestRanked_77 : decode cX6_highestRanked 77 = .ok (.iaload, 1) := by decide +kernel
theorem dX6_highestRanked_78 : decode cX6_highestRanked 78 = .ok (.istore 4, 2) := by decide +kernel
theorem dX6_highestRanked_80 : decode cX6_highestRanked 80 = .ok (.iinc 5 1, 3) := by decide +kernel
theorem dX6_highestRanked_83 : decode cX6_highestRanked 83 = .ok (.goto (-75), 3) := by decide +kernel
theorem dX6_highestRanked_86 : decode cX6_highestRanked 86 = .ok (.iload_n 3, 1) := by decide +kernel
theorem dX6_highestRanked_87 : decode cX6_highestRanked 87 = .ok (.ireturn, 1) := by decide +kernel
theorem dX6_disagree_0 : decode cX6_disagree 0 = .ok (.iconst (-1), 1) := by decide +kernel
theorem dX6_disagree_1 : decode cX6_disagree 1 = .ok (.istore_n 3, 1) := by decide +kernel
theorem dX6_disagree_2 : decode cX6_disagree 2 = .ok (.iconst 0, 1) := by decide +kernel
theorem dX6_disagree_3 : decode cX6_disagree 3 = .ok (.istore 4, 2) := by decide +kernel
theorem dX6_disagree_5 : decode cX6_disagree 5 = .ok (.iload 4, 2) := by decide +kernel
theorem dX6_disagree_7 : decode cX6_disagree 7 = .ok (.aload_n 0, 1) := by decide +kernel
theorem dX6_disagree_8 : decode cX6_disagree 8 = .ok (.getfield 88, 3) := by decide +kernel
theorem dX6_disagree_11 : decode cX6_disagree 11 = .ok (.if_icmp .ge 65, 3) := by decide +kernel
theorem dX6_disagree_14 : decode cX6_disagree 14 = .ok (.iload_n 1, 1) := by decide +kernel
theorem dX6_disagree_15 : decode cX6_disagree 15 = .ok (.iload 4, 2) := by decide +kernel
theorem dX6_disagree_17 : decode cX6_disagree 17 = .ok (.invokestatic 287, 3) := by decide +kernel
theorem dX6_disagree_20 : decode cX6_disagree 20 = .ok (.ifCond .eq 50, 3) := by decide +kernel
theorem dX6_disagree_23 : decode cX6_disagree 23 = .ok (.aload_n 0, 1) := by decide +kernel
theorem dX6_disagree_24 : decode cX6_disagree 24 = .ok (.getfield 15, 3) := by decide +kernel
theorem dX6_disagree_27 : decode cX6_disagree 27 = .ok (.iload 4, 2) := by decide +kernel
theorem dX6_disagree_29 : decode cX6_disagree 29 = .ok (.aaload, 1) := by decide +kernel
theorem dX6_disagree_30 : decode cX6_disagree 30 = .ok (.iload_n 2, 1) := by decide +kernel
theorem dX6_disagree_31 : decode cX6_disagree 31 = .ok (.invokevirtual 344, 3) := by decide +kernel
theorem dX6_disagree_34 : decode cX6_disagree 34 = .ok (.ifCond .eq 36, 3) := by decide +kernel
theorem dX6_disagree_37 : decode cX6_disagree 37 = .ok (.iload_n 3, 1) := by decide +kernel
theorem dX6_disagree_38 : decode cX6_disagree 38 = .ok (.iconst (-1), 1) := by decide +kernel
theorem dX6_disagree_39 : decode cX6_disagree 39 = .ok (.if_icmp .ne 9, 3) := by decide +kernel
theorem dX6_disagree_42 : decode cX6_disagree 42 = .ok (.iload 4, 2) := by decide +kernel
theorem dX6_disagree_44 : decode cX6_disagree 44 = .ok (.istore_n 3, 1) := by decide +kernel
theorem dX6_disagree_45 : decode cX6_disagree 45 = .ok (.goto 25, 3) := by decide +kernel
theorem dX6_disagree_48 : decode cX6_disagree 48 = .ok (.aload_n 0, 1) := by decide +kernel
theorem dX6_disagree_49 : decode cX6_disagree 49 = .ok (.getfield 15, 3) := by decide +kernel
theorem dX6_disagree_52 : decode cX6_disagree 52 = .ok (.iload_n 3, 1) := by decide +kernel
theorem dX6_disagree_53 : decode cX6_disagree 53 = .ok (.aaload, 1) := by decide +kernel
theorem dX6_disagree_54 : decode cX6_disagree 54 = .ok (.aload_n 0, 1) := by decide +kernel
theorem dX6_disagree_55 : decode cX6_disagree 55 = .ok (.getfield 15, 3) := by decide +kernel
theorem dX6_disagree_58 : decode cX6_disagree 58 = .ok (.iload 4, 2) := by decide +kernel
theorem dX6_disagree_60 : decode cX6_disagree 60 = .ok (.aaload, 1) := by decide +kernel
theorem dX6_disagree_61 : decode cX6_disagree 61 = .ok (.iload_n 2, 1) := by decide +kernel
theorem dX6_disagree_62 : decode cX6_disagree 62 = .ok (.invokevirtual 348, 3) := by decide +kernel
theorem dX6_disagree_65 : decode cX6_disagree 65 = .ok (.ifCond .ne 5, 3) := by decide +kernel
theorem dX6_disagree_68 : decode cX6_disagree 68 = .ok (.iconst 1, 1) := by decide +kernel
theorem dX6_disagree_69 : decode cX6_disagree 69 = .ok (.ireturn, 1) := by decide +kernel
theorem dX6_disagree_70 : decode cX6_disagree 70 = .ok (.iinc 4 1, 3) := by decide +kernel
theorem dX6_disagree_73 : decode cX6_disagree 73 = .ok (.goto (-68), 3) := by decide +kernel
theorem dX6_disagree_76 : decode cX6_disagree 76 = .ok (.iconst 0, 1) := by decide +kernel
theorem dX6_disagree_77 : decode cX6_disagree 77 = .ok (.ireturn, 1) := by decide +kernel
theorem dX6_matches_0 : decode cX6_matches 0 = .ok (.iconst 0, 1) := by decide +kernel
theorem dX6_matches_1 : decode cX6_matches 1 = .ok (.istore_n 2, 1) := by decide +kernel
theorem dX6_matches_2 : decode cX6_matches 2 = .ok (.iconst 0, 1) := by decide +kernel
theorem dX6_matches_3 : decode cX6_matches 3 = .ok (.istore_n 3, 1) := by decide +kernel
theorem dX6_matches_4 : decode cX6_matches 4 = .ok (.iload_n 3, 1) := by decide +kernel
theorem dX6_matches_5 : decode cX6_matches 5 = .ok (.aload_n 0, 1) := by decide +kernel
theorem dX6_matches_6 : decode cX6_matches 6 = .ok (.getfield 88, 3) := by decide +kernel
theorem dX6_matches_9 : decode cX6_matches 9 = .ok (.if_icmp .ge 65, 3) := by decide +kernel
theorem dX6_matches_12 : decode cX6_matches 12 = .ok (.aload_n 0, 1) := by decide +kernel
theorem dX6_matches_13 : decode cX6_matches 13 = .ok (.getfield 15, 3) := by decide +kernel
theorem dX6_matches_16 : decode cX6_matches 16 = .ok (.iload_n 3, 1) := by decide +kernel
theorem dX6_matches_17 : decode cX6_matches 17 = .ok (.aaload, 1) := by decide +kernel
theorem dX6_matches_18 : decode cX6_matches 18 = .ok (.getfield 103, 3) := by decide +kernel
theorem dX6_matches_21 : decode cX6_matches 21 = .ok (.astore 4, 2) := by decide +kernel
theorem dX6_matches_23 : decode cX6_matches 23 = .ok (.iload_n 1, 1) := by decide +kernel
theorem dX6_matches_24 : decode cX6_matches 24 = .ok (.ifCond .eq 18, 3) := by decide +kernel
theorem dX6_matches_27 : decode cX6_matches 27 = .ok (.aload 4, 2) := by decide +kernel
theorem dX6_matches_29 : decode cX6_matches 29 = .ok (.aload_n 0, 1) := by decide +kernel
theorem dX6_matches_30 : decode cX6_matches 30 = .ok (.getfield 49, 3) := by decide +kernel
theorem dX6_matches_33 : decode cX6_matches 33 = .ok (.invokevirtual 352, 3) := by decide +kernel
theorem dX6_matches_36 : decode cX6_matches 36 = .ok (.ifCond .eq 32, 3) := by decide +kernel
theorem dX6_matches_39 : decode cX6_matches 39 = .ok (.goto 23, 3) := by decide +kernel
theorem dX6_matches_42 : decode cX6_matches 42 = .ok (.aload 4, 2) := by decide +kernel
theorem dX6_matches_44 : decode cX6_matches 44 = .ok (.getfield 125, 3) := by decide +kernel
theorem dX6_matches_47 : decode cX6_matches 47 = .ok (.ifCond .le 21, 3) := by decide +kernel
theorem dX6_matches_50 : decode cX6_matches 50 = .ok (.aload 4, 2) := by decide +kernel
theorem dX6_matches_52 : decode cX6_matches 52 = .ok (.aload_n 0, 1) := by decide +kernel
theorem dX6_matches_53 : decode cX6_matches 53 = .ok (.getfield 49, 3) := by decide +kernel
theorem dX6_matches_56 : decode cX6_matches 56 = .ok (.invokevirtual 389, 3) := by decide +kernel
theorem dX6_matches_59 : decode cX6_matches 59 = .ok (.ifCond .eq 9, 3) := by decide +kernel
theorem dX6_matches_62 : decode cX6_matches 62 = .ok (.iload_n 2, 1) := by decide +kernel
theorem dX6_matches_63 : decode cX6_matches 63 = .ok (.iconst 1, 1) := by decide +kernel
theorem dX6_matches_64 : decode cX6_matches 64 = .ok (.iload_n 3, 1) := by decide +kernel
theorem dX6_matches_65 : decode cX6_matches 65 = .ok (.ishl, 1) := by decide +kernel
theorem dX6_matches_66 : decode cX6_matches 66 = .ok (.ior, 1) := by decide +kernel
theorem dX6_matches_67 : decode cX6_matches 67 = .ok (.istore_n 2, 1) := by decide +kernel
theorem dX6_matches_68 : decode cX6_matches 68 = .ok (.iinc 3 1, 3) := by decide +kernel
theorem dX6_matches_71 : decode cX6_matches 71 = .ok (.goto (-67), 3) := by decide +kernel
theorem dX6_matches_74 : decode cX6_matches 74 = .ok (.iload_n 2, 1) := by decide +kernel
theorem dX6_matches_75 : decode cX6_matches 75 = .ok (.ireturn, 1) := by decide +kernel
theorem dX6_contains_0 : decode cX6_contains 0 = .ok (.iload_n 0, 1) := by decide +kernel
theorem dX6_contains_1 : decode cX6_contains 1 = .ok (.iload_n 1, 1) := by decide +kernel
theorem dX6_contains_2 : decode cX6_contains 2 = .ok (.ishr, 1) := by decide +kernel
theorem dX6_contains_3 : decode cX6_contains 3 = .ok (.iconst 1, 1) := by decide +kernel
theorem dX6_contains_4 : decode cX6_contains 4 = .ok (.iand, 1) := by decide +kernel
theorem dX6_contains_5 : decode cX6_contains 5 = .ok (.ifCond .eq 7, 3) := by decide +kernel
theorem dX6_contains_8 : decode cX6_contains 8 = .ok (.iconst 1, 1) := by decide +kernel
theorem dX6_contains_9 : decode cX6_contains 9 = .ok (.goto 4, 3) := by decide +kernel
theorem dX6_contains_12 : decode cX6_contains 12 = .ok (.iconst 0, 1) := by decide +kernel
theorem dX6_contains_13 : decode cX6_contains 13 = .ok (.ireturn, 1) := by decide +kernel
theorem dX6_lowestOf_0 : decode cX6_lowestOf 0 = .ok (.iconst 0, 1) := by decide +kernel
theorem dX6_lowestOf_1 : decode cX6_lowestOf 1 = .ok (.istore_n 1, 1) := by decide +kernel
theorem dX6_lowestOf_2 : decode cX6_lowestOf 2 = .ok (.iload_n 1, 1) := by decide +kernel
theorem dX6_lowestOf_3 : decode cX6_lowestOf 3 = .ok (.bipush 16, 2) := by decide +kernel
theorem dX6_lowestOf_5 : decode cX6_lowestOf 5 = .ok (.if_icmp .ge 19, 3) := by decide +kernel
theorem dX6_lowestOf_8 : decode cX6_lowestOf 8 = .ok (.iload_n 0, 1) := by decide +kernel
theorem dX6_lowestOf_9 : decode cX6_lowestOf 9 = .ok (.iload_n 1, 1) := by decide +kernel
theorem dX6_lowestOf_10 : decode cX6_lowestOf 10 = .ok (.invokestatic 287, 3) := by decide +kernel
theorem dX6_lowestOf_13 : decode cX6_lowestOf 13 = .ok (.ifCond .eq 5, 3) := by decide +kernel
theorem dX6_lowestOf_16 : decode cX6_lowestOf 16 = .ok (.iload_n 1, 1) := by decide +kernel
theorem dX6_lowestOf_17 : decode cX6_lowestOf 17 = .ok (.ireturn, 1) := by decide +kernel
theorem dX6_lowestOf_18 : decode cX6_lowestOf 18 = .ok (.iinc 1 1, 3) := by decide +kernel
theorem dX6_lowestOf_21 : decode cX6_lowestOf 21 = .ok (.goto (-19), 3) := by decide +kernel
theorem dX6_lowestOf_24 : decode cX6_lowestOf 24 = .ok (.iconst (-1), 1) := by decide +kernel
theorem dX6_lowestOf_25 : decode cX6_lowestOf 25 = .ok (.ireturn, 1) := by decide +kernel
theorem dX7_init_0 : decode cX7_init 0 = .ok (.aload_n 0, 1) := by decide +kernel
theorem dX7_init_1 : decode cX7_init 1 = .ok (.invokespecial 1, 3) := by decide +kernel
theorem dX7_init_4 : decode cX7_init 4 = .ok (.aload_n 0, 1) := by decide +kernel
theorem dX7_init_5 : decode cX7_init 5 = .ok (.iconst 5, 1) := by decide +kernel
theorem dX7_init_6 : decode cX7_init 6 = .ok (.putfield 7, 3) := by decide +kernel
theorem dX7_init_9 : decode cX7_init 9 = .ok (.aload_n 0, 1) := by decide +kernel
theorem dX7_init_10 : decode cX7_init 10 = .ok (.iconst 4, 1) := by decide +kernel
theorem dX7_init_11 : decode cX7_init 11 = .ok (.newarray .int, 2) := by decide +kernel
theorem dX7_init_13 : decode cX7_init 13 = .ok (.putfield 13, 3) := by decide +kernel
theorem dX7_init_16 : decode cX7_init 16 = .ok (.aload_n 0, 1) := by decide +kernel
theorem dX7_init_17 : decode cX7_init 17 = .ok (.bipush 16, 2) := by decide +kernel
theorem dX7_init_19 : decode cX7_init 19 = .ok (.newarray .int, 2) := by decide +kernel
theorem dX7_init_21 : decode cX7_init 21 = .ok (.putfield 17, 3) := by decide +kernel
theorem dX7_init_24 : decode cX7_init 24 = .ok (.aload_n 0, 1) := by decide +kernel
theorem dX7_init_25 : decode cX7_init 25 = .ok (.bipush 16, 2) := by decide +kernel
theorem dX7_init_27 : decode cX7_init 27 = .ok (.newarray .int, 2) := by decide +kernel
theorem dX7_init_29 : decode cX7_init 29 = .ok (.putfield 20, 3) := by decide +kernel
theorem dX7_init_32 : decode cX7_init 32 = .ok (.aload_n 0, 1) := by decide +kernel
theorem dX7_init_33 : decode cX7_init 33 = .ok (.bipush 64, 2) := by decide +kernel
theorem dX7_init_35 : decode cX7_init 35 = .ok (.newarray .int, 2) := by decide +kernel
theorem dX7_init_37 : decode cX7_init 37 = .ok (.putfield 23, 3) := by decide +kernel
theorem dX7_init_40 : decode cX7_init 40 = .ok (.aload_n 0, 1) := by decide +kernel
theorem dX7_init_41 : decode cX7_init 41 = .ok (.iconst 4, 1) := by decide +kernel
theorem dX7_init_42 : decode cX7_init 42 = .ok (.newarray .int, 2) := by decide +kernel
theorem dX7_init_44 : decode cX7_init 44 = .ok (.dup, 1) := by decide +kernel
theorem dX7_init_45 : decode cX7_init 45 = .ok (.iconst 0, 1) := by decide +kernel
theorem dX7_init_46 : decode cX7_init 46 = .ok (.iconst 4, 1) := by decide +kernel
theorem dX7_init_47 : decode cX7_init 47 = .ok (.iastore, 1) := by decide +kernel
theorem dX7_init_48 : decode cX7_init 48 = .ok (.dup, 1) := by decide +kernel
theorem dX7_init_49 : decode cX7_init 49 = .ok (.iconst 1, 1) := by decide +kernel
theorem dX7_init_50 : decode cX7_init 50 = .ok (.iconst 5, 1) := by decide +kernel
theorem dX7_init_51 : decode cX7_init 51 = .ok (.iastore, 1) := by decide +kernel
theorem dX7_init_52 : decode cX7_init 52 = .ok (.dup, 1) := by decide +kernel
theorem dX7_init_53 : decode cX7_init 53 = .ok (.iconst 2, 1) := by decide +kernel
theorem dX7_init_54 : decode cX7_init 54 = .ok (.bipush 6, 2) := by decide +kernel
theorem dX7_init_56 : decode cX7_init 56 = .ok (.iastore, 1) := by decide +kernel
theorem dX7_init_57 : decode cX7_init 57 = .ok (.dup, 1) := by decide +kernel
theorem dX7_init_58 : decode cX7_init 58 = .ok (.iconst 3, 1) := by decide +kernel
theorem dX7_init_59 : decode cX7_init 59 = .ok (.iconst 1, 1) := by decide +kernel
theorem dX7_init_60 : decode cX7_init 60 = .ok (.iastore, 1) := by decide +kernel
theorem dX7_init_61 : decode cX7_init 61 = .ok (.putfield 26, 3) := by decide +kernel
theorem dX7_init_64 : decode cX7_init 64 = .ok (.aload_n 0, 1) := by decide +kernel
theorem dX7_init_65 : decode cX7_init 65 = .ok (.iconst 4, 1) := by decide +kernel
theorem dX7_init_66 : decode cX7_init 66 = .ok (.newarray .int, 2) := by decide +kernel
theorem dX7_init_68 : decode cX7_init 68 = .ok (.dup, 1) := by decide +kernel
theorem dX7_init_69 : decode cX7_init 69 = .ok (.iconst 0, 1) := by decide +kernel
theorem dX7_init_70 : decode cX7_init 70 = .ok (.bipush (-2), 2) := by decide +kernel
theorem dX7_init_72 : decode cX7_init 72 = .ok (.iastore, 1) := by decide +kernel
theorem dX7_init_73 : decode cX7_init 73 = .ok (.dup, 1) := by decide +kernel
theorem dX7_init_74 : decode cX7_init 74 = .ok (.iconst 1, 1) := by decide +kernel
theorem dX7_init_75 : decode cX7_init 75 = .ok (.bipush (-3), 2) := by decide +kernel
theorem dX7_init_77 : decode cX7_init 77 = .ok (.iastore, 1) := by decide +kernel
theorem dX7_init_78 : decode cX7_init 78 = .ok (.dup, 1) := by decide +kernel
theorem dX7_init_79 : decode cX7_init 79 = .ok (.iconst 2, 1) := by decide +kernel
theorem dX7_init_80 : decode cX7_init 80 = .ok (.iconst (-1), 1) := by decide +kernel
theorem dX7_init_81 : decode cX7_init 81 = .ok (.iastore, 1) := by decide +kernel
theorem dX7_init_82 : decode cX7_init 82 = .ok (.dup, 1) := by decide +kernel
theorem dX7_init_83 : decode cX7_init 83 = .ok (.iconst 3, 1) := by decide +kernel
theorem dX7_init_84 : decode cX7_init 84 = .ok (.iconst (-1), 1) := by decide +kernel
theorem dX7_init_85 : decode cX7_init 85 = .ok (.iastore, 1) := by decide +kernel
theorem dX7_init_86 : decode cX7_init 86 = .ok (.putfield 29, 3) := by decide +kernel
theorem dX7_init_89 : decode cX7_init 89 = .ok (.aload_n 0, 1) := by decide +kernel
theorem dX7_init_90 : decode cX7_init 90 = .ok (.bipush 30, 2) := by decide +kernel
theorem dX7_init_92 : decode cX7_init 92 = .ok (.newarray .int, 2) := by decide +kernel
theorem dX7_init_94 : decode cX7_init 94 = .ok (.putfield 32, 3) := by decide +kernel
theorem dX7_init_97 : decode cX7_init 97 = .ok (.aload_n 0, 1) := by decide +kernel
theorem dX7_init_98 : decode cX7_init 98 = .ok (.bipush 30, 2) := by decide +kernel
theorem dX7_init_100 : decode cX7_init 100 = .ok (.newarray .int, 2) := by decide +kernel
theorem dX7_init_102 : decode cX7_init 102 = .ok (.putfield 35, 3) := by decide +kernel
theorem dX7_init_105 : decode cX7_init 105 = .ok (.aload_n 0, 1) := by decide +kernel
theorem dX7_init_106 : decode cX7_init 106 = .ok (.bipush 16, 2) := by decide +kernel
theorem dX7_init_108 : decode cX7_init 108 = .ok (.newarray .int, 2) := by decide +kernel
theorem dX7_init_110 : decode cX7_init 110 = .ok (.putfield 38, 3) := by decide +kernel
theorem dX7_init_113 : decode cX7_init 113 = .ok (.aload_n 0, 1) := by decide +kernel
theorem dX7_init_114 : decode cX7_init 114 = .ok (.bipush 16, 2) := by decide +kernel
theorem dX7_init_116 : decode cX7_init 116 = .ok (.newarray .int, 2) := by decide +kernel
theorem dX7_init_118 : decode cX7_init 118 = .ok (.putfield 41, 3) := by decide +kernel
theorem dX7_init_121 : decode cX7_init 121 = .ok (.aload_n 0, 1) := by decide +kernel
theorem dX7_init_122 : decode cX7_init 122 = .ok (.iconst 4, 1) := by decide +kernel
theorem dX7_init_123 : decode cX7_init 123 = .ok (.newarray .int, 2) := by decide +kernel
theorem dX7_init_125 : decode cX7_init 125 = .ok (.putfield 44, 3) := by decide +kernel
theorem dX7_init_128 : decode cX7_init 128 = .ok (.aload_n 0, 1) := by decide +kernel
theorem dX7_init_129 : decode cX7_init 129 = .ok (.iconst 4, 1) := by decide +kernel
theorem dX7_init_130 : decode cX7_init 130 = .ok (.newarray .int, 2) := by decide +kernel
theorem dX7_init_132 : decode cX7_init 132 = .ok (.putfield 47, 3) := by decide +kernel
theorem dX7_init_135 : decode cX7_init 135 = .ok (.aload_n 0, 1) := by decide +kernel
theorem dX7_init_136 : decode cX7_init 136 = .ok (.sipush 176, 3) := by decide +kernel
theorem dX7_init_139 : decode cX7_init 139 = .ok (.newarray .char, 2) := by decide +kernel
theorem dX7_init_141 : decode cX7_init 141 = .ok (.putfield 50, 3) := by decide +kernel
theorem dX7_init_144 : decode cX7_init 144 = .ok (.aload_n 0, 1) := by decide +kernel
theorem dX7_init_145 : decode cX7_init 145 = .ok (.bipush 30, 2) := by decide +kernel
theorem dX7_init_147 : decode cX7_init 147 = .ok (.newarray .boolean, 2) := by decide +kernel
theorem dX7_init_149 : decode cX7_init 149 = .ok (.putfield 54, 3) := by decide +kernel
theorem dX7_init_152 : decode cX7_init 152 = .ok (.aload_n 0, 1) := by decide +kernel
theorem dX7_init_153 : decode cX7_init 153 = .ok (.sipush 256, 3) := by decide +kernel
theorem dX7_init_156 : decode cX7_init 156 = .ok (.newarray .boolean, 2) := by decide +kernel
theorem dX7_init_158 : decode cX7_init 158 = .ok (.putfield 58, 3) := by decide +kernel
theorem dX7_init_161 : decode cX7_init 161 = .ok (.aload_n 0, 1) := by decide +kernel
theorem dX7_init_162 : decode cX7_init 162 = .ok (.bipush 64, 2) := by decide +kernel
theorem dX7_init_164 : decode cX7_init 164 = .ok (.newarray .boolean, 2) := by decide +kernel
theorem dX7_init_166 : decode cX7_init 166 = .ok (.putfield 61, 3) := by decide +kernel
theorem dX7_init_169 : decode cX7_init 169 = .ok (.return_, 1) := by decide +kernel
theorem dX7_thrown_0 : decode cX7_thrown 0 = .ok (.aload_n 0, 1) := by decide +kernel
theorem dX7_thrown_1 : decode cX7_thrown 1 = .ok (.getfield 64, 3) := by decide +kernel
theorem dX7_thrown_4 : decode cX7_thrown 4 = .ok (.ireturn, 1) := by decide +kernel
theorem dX7_fail_0 : decode cX7_fail 0 = .ok (.aload_n 0, 1) := by decide +kernel
theorem dX7_fail_1 : decode cX7_fail 1 = .ok (.iload_n 1, 1) := by decide +kernel
theorem dX7_fail_2 : decode cX7_fail 2 = .ok (.putfield 64, 3) := by decide +kernel
theorem dX7_fail_5 : decode cX7_fail 5 = .ok (.iconst 0, 1) := by decide +kernel
theorem dX7_fail_6 : decode cX7_fail 6 = .ok (.ireturn, 1) := by decide +kernel
theorem dX7_isWithin_0 : decode cX7_isWithin 0 = .ok (.iload_n 0, 1) := by decide +kernel
theorem dX7_isWithin_1 : decode cX7_isWithin 1 = .ok (.iload_n 1, 1) := by decide +kernel
theorem dX7_isWithin_2 : decode cX7_isWithin 2 = .ok (.if_icmp .lt 12, 3) := by decide +kernel
theorem dX7_isWithin_5 : decode cX7_isWithin 5 = .ok (.iload_n 0, 1) := by decide +kernel
theorem dX7_isWithin_6 : decode cX7_isWithin 6 = .ok (.iload_n 2, 1) := by decide +kernel
theorem dX7_isWithin_7 : decode cX7_isWithin 7 = .ok (.if_icmp .gt 7, 3) := by decide +kernel
theorem dX7_isWithin_10 : decode cX7_isWithin 10 = .ok (.iconst 1, 1) := by decide +kernel
theorem dX7_isWithin_11 : decode cX7_isWithin 11 = .ok (.goto 4, 3) := by decide +kernel
theorem dX7_isWithin_14 : decode cX7_isWithin 14 = .ok (.iconst 0, 1) := by decide +kernel
theorem dX7_isWithin_15 : decode cX7_isWithin 15 = .ok (.ireturn, 1) := by decide +kernel
theorem dX7_noCard_0 : decode cX7_noCard 0 = .ok (.aload_n 0, 1) := by decide +kernel
theorem dX7_noCard_1 : decode cX7_noCard 1 = .ok (.iload_n 1, 1) := by decide +kernel
theorem dX7_noCard_2 : decode cX7_noCard 2 = .ok (.iconst 0, 1) := by decide +kernel
theorem dX7_noCard_3 : decode cX7_noCard 3 = .ok (.aload_n 0, 1) := by decide +kernel
theorem dX7_noCard_4 : decode cX7_noCard 4 = .ok (.getfield 67, 3) := by decide +kernel
theorem dX7_noCard_7 : decode cX7_noCard 7 = .ok (.iconst 1, 1) := by decide +kernel
theorem dX7_noCard_8 : decode cX7_noCard 8 = .ok (.isub, 1) := by decide +kernel
theorem dX7_noCard_9 : decode cX7_noCard 9 = .ok (.invokestatic 70, 3) := by decide +kernel
theorem dX7_noCard_12 : decode cX7_noCard 12 = .ok (.ifCond .eq 7, 3) := by decide +kernel
theorem dX7_noCard_15 : decode cX7_noCard 15 = .ok (.iconst 0, 1) := by decide +kernel
theorem dX7_noCard_16 : decode cX7_noCard 16 = .ok (.goto 4, 3) := by decide +kernel
theorem dX7_noCard_19 : decode cX7_noCard 19 = .ok (.iconst 1, 1) := by decide +kernel
theorem dX7_noCard_20 : decode cX7_noCard 20 = .ok (.putfield 64, 3) := by decide +kernel
theorem dX7_noCard_23 : decode cX7_noCard 23 = .ok (.aload_n 0, 1) := by decide +kernel
theorem dX7_noCard_24 : decode cX7_noCard 24 = .ok (.getfield 64, 3) := by decide +kernel
theorem dX7_noCard_27 : decode cX7_noCard 27 = .ok (.ifCond .eq 7, 3) := by decide +kernel
theorem dX7_noCard_30 : decode cX7_noCard 30 = .ok (.iconst 1, 1) := by decide +kernel
theorem dX7_noCard_31 : decode cX7_noCard 31 = .ok (.goto 4, 3) := by decide +kernel
theorem dX7_noCard_34 : decode cX7_noCard 34 = .ok (.iconst 0, 1) := by decide +kernel
theorem dX7_noCard_35 : decode cX7_noCard 35 = .ok (.ireturn, 1) := by decide +kernel
theorem dX7_noCards_0 : decode cX7_noCards 0 = .ok (.aload_n 0, 1) := by decide +kernel
theorem dX7_noCards_1 : decode cX7_noCards 1 = .ok (.iload_n 1, 1) := by decide +kernel
theorem dX7_noCards_2 : decode cX7_noCards 2 = .ok (.invokevirtual 74, 3) := by decide +kernel
theorem dX7_noCards_5 : decode cX7_noCards 5 = .ok (.ifCond .ne 11, 3) := by decide +kernel
theorem dX7_noCards_8 : decode cX7_noCards 8 = .ok (.aload_n 0, 1) := by decide +kernel
theorem dX7_noCards_9 : decode cX7_noCards 9 = .ok (.iload_n 2, 1) := by decide +kernel
theorem dX7_noCards_10 : decode cX7_noCards 10 = .ok (.invokevirtual 74, 3) := by decide +kernel
theorem dX7_noCards_13 : decode cX7_noCards 13 = .ok (.ifCond .eq 7, 3) := by decide +kernel
theorem dX7_noCards_16 : decode cX7_noCards 16 = .ok (.iconst 1, 1) := by decide +kernel
theorem dX7_noCards_17 : decode cX7_noCards 17 = .ok (.goto 4, 3) := by decide +kernel
theorem dX7_noCards_20 : decode cX7_noCards 20 = .ok (.iconst 0, 1) := by decide +kernel
theorem dX7_noCards_21 : decode cX7_noCards 21 = .ok (.ireturn, 1) := by decide +kernel
theorem dX7_addSource_0 : decode cX7_addSource 0 = .ok (.iload_n 1, 1) := by decide +kernel
theorem dX7_addSource_1 : decode cX7_addSource 1 = .ok (.iconst 1, 1) := by decide +kernel
theorem dX7_addSource_2 : decode cX7_addSource 2 = .ok (.bipush 9, 2) := by decide +kernel
theorem dX7_addSource_4 : decode cX7_addSource 4 = .ok (.invokestatic 70, 3) := by decide +kernel
theorem dX7_addSource_7 : decode cX7_addSource 7 = .ok (.ifCond .ne 9, 3) := by decide +kernel
theorem dX7_addSource_10 : decode cX7_addSource 10 = .ok (.aload_n 0, 1) := by decide +kernel
theorem dX7_addSource_11 : decode cX7_addSource 11 = .ok (.iconst 1, 1) := by decide +kernel
theorem dX7_addSource_12 : decode cX7_addSource 12 = .ok (.invokevirtual 78, 3) := by decide +kernel
theorem dX7_addSource_15 : decode cX7_addSource 15 = .ok (.ireturn, 1) := by decide +kernel
theorem dX7_addSource_16 : decode cX7_addSource 16 = .ok (.aload_n 0, 1) := by decide +kernel
theorem dX7_addSource_17 : decode cX7_addSource 17 = .ok (.getfield 82, 3) := by decide +kernel
theorem dX7_addSource_20 : decode cX7_addSource 20 = .ok (.iconst 4, 1) := by decide +kernel
theorem dX7_addSource_21 : decode cX7_addSource 21 = .ok (.if_icmp .ne 9, 3) := by decide +kernel
theorem dX7_addSource_24 : decode cX7_addSource 24 = .ok (.aload_n 0, 1) := by decide +kernel
theorem dX7_addSource_25 : decode cX7_addSource 25 = .ok (.iconst 2, 1) := by decide +kernel
theorem dX7_addSource_26 : decode cX7_addSource 26 = .ok (.invokevirtual 78, 3) := by decide +kernel
theorem dX7_addSource_29 : decode cX7_addSource 29 = .ok (.ireturn, 1) := by decide +kernel
theorem dX7_addSource_30 : decode cX7_addSource 30 = .ok (.aload_n 0, 1) := by decide +kernel
theorem dX7_addSource_31 : decode cX7_addSource 31 = .ok (.iconst 0, 1) := by decide +kernel
theorem dX7_addSource_32 : decode cX7_addSource 32 = .ok (.putfield 64, 3) := by decide +kernel
theorem dX7_addSource_35 : decode cX7_addSource 35 = .ok (.aload_n 0, 1) := by decide +kernel
theorem dX7_addSource_36 : decode cX7_addSource 36 = .ok (.getfield 13, 3) := by decide +kernel
theorem dX7_addSource_39 : decode cX7_addSource 39 = .ok (.aload_n 0, 1) := by decide +kernel
theorem dX7_addSource_40 : decode cX7_addSource 40 = .ok (.getfield 82, 3) := by decide +kernel
theorem dX7_addSource_43 : decode cX7_addSource 43 = .ok (.iload_n 1, 1) := by decide +kernel
theorem dX7_addSource_44 : decode cX7_addSource 44 = .ok (.iastore, 1) := by decide +kernel
theorem dX7_addSource_45 : decode cX7_addSource 45 = .ok (.aload_n 0, 1) := by decide +kernel
theorem dX7_addSource_46 : decode cX7_addSource 46 = .ok (.dup, 1) := by decide +kernel
theorem dX7_addSource_47 : decode cX7_addSource 47 = .ok (.getfield 82, 3) := by decide +kernel
theorem dX7_addSource_50 : decode cX7_addSource 50 = .ok (.dup_x1, 1) := by decide +kernel
theorem dX7_addSource_51 : decode cX7_addSource 51 = .ok (.iconst 1, 1) := by decide +kernel
theorem dX7_addSource_52 : decode cX7_addSource 52 = .ok (.iadd, 1) := by decide +kernel
theorem dX7_addSource_53 : decode cX7_addSource 53 = .ok (.putfield 82, 3) := by decide +kernel
theorem dX7_addSource_56 : decode cX7_addSource 56 = .ok (.ireturn, 1) := by decide +kernel
theorem dX7_setRank_0 : decode cX7_setRank 0 = .ok (.iload_n 1, 1) := by decide +kernel
theorem dX7_setRank_1 : decode cX7_setRank 1 = .ok (.iconst 0, 1) := by decide +kernel
theorem dX7_setRank_2 : decode cX7_setRank 2 = .ok (.aload_n 0, 1) := by decide +kernel
theorem dX7_setRank_3 : decode cX7_setRank 3 = .ok (.getfield 82, 3) := by decide +kernel
theorem dX7_setRank_6 : decode cX7_setRank 6 = .ok (.iconst 1, 1) := by decide +kernel
theorem dX7_setRank_7 : decode cX7_setRank 7 = .ok (.isub, 1) := by decide +kernel
theorem dX7_setRank_8 : decode cX7_setRank 8 = .ok (.invokestatic 70, 3) := by decide +kernel
theorem dX7_setRank_11 : decode cX7_setRank 11 = .ok (.ifCond .ne 9, 3) := by decide +kernel
theorem dX7_setRank_14 : decode cX7_setRank 14 = .ok (.aload_n 0, 1) := by decide +kernel
theorem dX7_setRank_15 : decode cX7_setRank 15 = .ok (.iconst 1, 1) := by decide +kernel
theorem dX7_setRank_16 : decode cX7_setRank 16 = .ok (.invokevirtual 78, 3) := by decide +kernel
theorem dX7_setRank_19 : decode cX7_setRank 19 = .ok (.ireturn, 1) := by decide +kernel
theorem dX7_setRank_20 : decode cX7_setRank 20 = .ok (.iload_n 2, 1) := by decide +kernel
theorem dX7_setRank_21 : decode cX7_setRank 21 = .ok (.iconst 1, 1) := by decide +kernel
theorem dX7_setRank_22 : decode cX7_setRank 22 = .ok (.bipush 9, 2) := by decide +kernel
theorem dX7_setRank_24 : decode cX7_setRank 24 = .ok (.invokestatic 70, 3) := by decide +kernel
theorem dX7_setRank_27 : decode cX7_setRank 27 = .ok (.ifCond .ne 9, 3) := by decide +kernel
theorem dX7_setRank_30 : decode cX7_setRank 30 = .ok (.aload_n 0, 1) := by decide +kernel
theorem dX7_setRank_31 : decode cX7_setRank 31 = .ok (.iconst 2, 1) := by decide +kernel
theorem dX7_setRank_32 : decode cX7_setRank 32 = .ok (.invokevirtual 78, 3) := by decide +kernel
theorem dX7_setRank_35 : decode cX7_setRank 35 = .ok (.ireturn, 1) := by decide +kernel
theorem dX7_setRank_36 : decode cX7_setRank 36 = .ok (.aload_n 0, 1) := by decide +kernel
theorem dX7_setRank_37 : decode cX7_setRank 37 = .ok (.iconst 0, 1) := by decide +kernel
theorem dX7_setRank_38 : decode cX7_setRank 38 = .ok (.putfield 64, 3) := by decide +kernel
theorem dX7_setRank_41 : decode cX7_setRank 41 = .ok (.aload_n 0, 1) := by decide +kernel
theorem dX7_setRank_42 : decode cX7_setRank 42 = .ok (.getfield 13, 3) := by decide +kernel
theorem dX7_setRank_45 : decode cX7_setRank 45 = .ok (.iload_n 1, 1) := by decide +kernel
theorem dX7_setRank_46 : decode cX7_setRank 46 = .ok (.iaload, 1) := by decide +kernel
theorem dX7_setRank_47 : decode cX7_setRank 47 = .ok (.istore_n 3, 1) := by decide +kernel
theorem dX7_setRank_48 : decode cX7_setRank 48 = .ok (.aload_n 0, 1) := by decide +kernel
theorem dX7_setRank_49 : decode cX7_setRank 49 = .ok (.getfield 13, 3) := by decide +kernel
theorem dX7_setRank_52 : decode cX7_setRank 52 = .ok (.iload_n 1, 1) := by decide +kernel
theorem dX7_setRank_53 : decode cX7_setRank 53 = .ok (.iload_n 2, 1) := by decide +kernel
theorem dX7_setRank_54 : decode cX7_setRank 54 = .ok (.iastore, 1) := by decide +kernel
theorem dX7_setRank_55 : decode cX7_setRank 55 = .ok (.iload_n 3, 1) := by decide +kernel
theorem dX7_setRank_56 : decode cX7_setRank 56 = .ok (.ireturn, 1) := by decide +kernel
theorem dX7_addCard_0 : decode cX7_addCard 0 = .ok (.iload_n 1, 1) := by decide +kernel
theorem dX7_addCard_1 : decode cX7_addCard 1 = .ok (.iconst 0, 1) := by decide +kernel
theorem dX7_addCard_2 : decode cX7_addCard 2 = .ok (.aload_n 0, 1) := by decide +kernel
theorem dX7_addCard_3 : decode cX7_addCard 3 = .ok (.getfield 82, 3) := by decide +kernel
theorem dX7_addCard_6 : decode cX7_addCard 6 = .ok (.iconst 1, 1) := by decide +kernel
theorem dX7_addCard_7 : decode cX7_addCard 7 = .ok (.isub, 1) := by decide +kernel
theorem dX7_addCard_8 : decode cX7_addCard 8 = .ok (.invokestatic 70, 3) := by decide +kernel
theorem dX7_addCard_11 : decode cX7_addCard 11 = .ok (.ifCond .ne 9, 3) := by decide +kernel
theorem dX7_addCard_14 : decode cX7_addCard 14 = .ok (.aload_n 0, 1) := by decide +kernel
theorem dX7_addCard_15 : decode cX7_addCard 15 = .ok (.iconst 1, 1) := by decide +kernel
theorem dX7_addCard_16 : decode cX7_addCard 16 = .ok (.invokevirtual 78, 3) := by decide +kernel
theorem dX7_addCard_19 : decode cX7_addCard 19 = .ok (.ireturn, 1) := by decide +kernel
theorem dX7_addCard_20 : decode cX7_addCard 20 = .ok (.aload_n 0, 1) := by decide +kernel
theorem dX7_addCard_21 : decode cX7_addCard 21 = .ok (.getfield 67, 3) := by decide +kernel
theorem dX7_addCard_24 : decode cX7_addCard 24 = .ok (.bipush 16, 2) := by decide +kernel
theorem dX7_addCard_26 : decode cX7_addCard 26 = .ok (.if_icmp .ne 9, 3) := by decide +kernel
theorem dX7_addCard_29 : decode cX7_addCard 29 = .ok (.aload_n 0, 1) := by decide +kernel
theorem dX7_addCard_30 : decode cX7_addCard 30 = .ok (.iconst 2, 1) := by decide +kernel
theorem dX7_addCard_31 : decode cX7_addCard 31 = .ok (.invokevirtual 78, 3) := by decide +kernel
theorem dX7_addCard_34 : decode cX7_addCard 34 = .ok (.ireturn, 1) := by decide +kernel
theorem dX7_addCard_35 : decode cX7_addCard 35 = .ok (.aload_n 0, 1) := by decide +kernel
theorem dX7_addCard_36 : decode cX7_addCard 36 = .ok (.iconst 0, 1) := by decide +kernel
theorem dX7_addCard_37 : decode cX7_addCard 37 = .ok (.putfield 64, 3) := by decide +kernel
theorem dX7_addCard_40 : decode cX7_addCard 40 = .ok (.aload_n 0, 1) := by decide +kernel
theorem dX7_addCard_41 : decode cX7_addCard 41 = .ok (.getfield 17, 3) := by decide +kernel
theorem dX7_addCard_44 : decode cX7_addCard 44 = .ok (.aload_n 0, 1) := by decide +kernel
theorem dX7_addCard_45 : decode cX7_addCard 45 = .ok (.getfield 67, 3) := by decide +kernel
theorem dX7_addCard_48 : decode cX7_addCard 48 = .ok (.iload_n 1, 1) := by decide +kernel
theorem dX7_addCard_49 : decode cX7_addCard 49 = .ok (.iastore, 1) := by decide +kernel
theorem dX7_addCard_50 : decode cX7_addCard 50 = .ok (.iconst 1, 1) := by decide +kernel
theorem dX7_addCard_51 : decode cX7_addCard 51 = .ok (.istore_n 2, 1) := by decide +kernel
theorem dX7_addCard_52 : decode cX7_addCard 52 = .ok (.iload_n 2, 1) := by decide +kernel
theorem dX7_addCard_53 : decode cX7_addCard 53 = .ok (.iconst 4, 1) := by decide +kernel
theorem dX7_addCard_54 : decode cX7_addCard 54 = .ok (.if_icmp .ge 23, 3) := by decide +kernel
theorem dX7_addCard_57 : decode cX7_addCard 57 = .ok (.aload_n 0, 1) := by decide +kernel
theorem dX7_addCard_58 : decode cX7_addCard 58 = .ok (.getfield 23, 3) := by decide +kernel
theorem dX7_addCard_61 : decode cX7_addCard 61 = .ok (.iconst 4, 1) := by decide +kernel
theorem dX7_addCard_62 : decode cX7_addCard 62 = .ok (.aload_n 0, 1) := by decide +kernel
theorem dX7_addCard_63 : decode cX7_addCard 63 = .ok (.getfield 67, 3) := by decide +kernel
theorem dX7_addCard_66 : decode cX7_addCard 66 = .ok (.imul, 1) := by decide +kernel
theorem dX7_addCard_67 : decode cX7_addCard 67 = .ok (.iload_n 2, 1) := by decide +kernel
theorem dX7_addCard_68 : decode cX7_addCard 68 = .ok (.iadd, 1) := by decide +kernel
theorem dX7_addCard_69 : decode cX7_addCard 69 = .ok (.iconst (-1), 1) := by decide +kernel
theorem dX7_addCard_70 : decode cX7_addCard 70 = .ok (.iastore, 1) := by decide +kernel
theorem dX7_addCard_71 : decode cX7_addCard 71 = .ok (.iinc 2 1, 3) := by decide +kernel
theorem dX7_addCard_74 : decode cX7_addCard 74 = .ok (.goto (-22), 3) := by decide +kernel
theorem dX7_addCard_77 : decode cX7_addCard 77 = .ok (.aload_n 0, 1) := by decide +kernel
theorem dX7_addCard_78 : decode cX7_addCard 78 = .ok (.dup, 1) := by decide +kernel
theorem dX7_addCard_79 : decode cX7_addCard 79 = .ok (.getfield 67, 3) := by decide +kernel
theorem dX7_addCard_82 : decode cX7_addCard 82 = .ok (.dup_x1, 1) := by decide +kernel
theorem dX7_addCard_83 : decode cX7_addCard 83 = .ok (.iconst 1, 1) := by decide +kernel
theorem dX7_addCard_84 : decode cX7_addCard 84 = .ok (.iadd, 1) := by decide +kernel
theorem dX7_addCard_85 : decode cX7_addCard 85 = .ok (.putfield 67, 3) := by decide +kernel
theorem dX7_addCard_88 : decode cX7_addCard 88 = .ok (.ireturn, 1) := by decide +kernel
theorem dX7_cards_0 : decode cX7_cards 0 = .ok (.aload_n 0, 1) := by decide +kernel
theorem dX7_cards_1 : decode cX7_cards 1 = .ok (.getfield 67, 3) := by decide +kernel
theorem dX7_cards_4 : decode cX7_cards 4 = .ok (.ireturn, 1) := by decide +kernel
theorem dX7_isLetter_0 : decode cX7_isLetter 0 = .ok (.iload_n 0, 1) := by decide +kernel
theorem dX7_isLetter_1 : decode cX7_isLetter 1 = .ok (.bipush 97, 2) := by decide +kernel
theorem dX7_isLetter_3 : decode cX7_isLetter 3 = .ok (.if_icmp .lt 13, 3) := by decide +kernel
theorem dX7_isLetter_6 : decode cX7_isLetter 6 = .ok (.iload_n 0, 1) := by decide +kernel
theorem dX7_isLetter_7 : decode cX7_isLetter 7 = .ok (.bipush 122, 2) := by decide +kernel
theorem dX7_isLetter_9 : decode cX7_isLetter 9 = .ok (.if_icmp .gt 7, 3) := by decide +kernel
theorem dX7_isLetter_12 : decode cX7_isLetter 12 = .ok (.iconst 1, 1) := by decide +kernel
theorem dX7_isLetter_13 : decode cX7_isLetter 13 = .ok (.goto 4, 3) := by decide +kernel
theorem dX7_isLetter_16 : decode cX7_isLetter 16 = .ok (.iconst 0, 1) := by decide +kernel
theorem dX7_isLetter_17 : decode cX7_isLetter 17 = .ok (.ireturn, 1) := by decide +kernel
theorem dX7_letter_0 : decode cX7_letter 0 = .ok (.aload_n 0, 1) := by decide +kernel
theorem dX7_letter_1 : decode cX7_letter 1 = .ok (.iload_n 1, 1) := by decide +kernel
theorem dX7_letter_2 : decode cX7_letter 2 = .ok (.invokevirtual 74, 3) := by decide +kernel
theorem dX7_letter_5 : decode cX7_letter 5 = .ok (.ifCond .eq 5, 3) := by decide +kernel
theorem dX7_letter_8 : decode cX7_letter 8 = .ok (.iconst 0, 1) := by decide +kernel
theorem dX7_letter_9 : decode cX7_letter 9 = .ok (.ireturn, 1) := by decide +kernel
theorem dX7_letter_10 : decode cX7_letter 10 = .ok (.iload_n 2, 1) := by decide +kernel
theorem dX7_letter_11 : decode cX7_letter 11 = .ok (.invokestatic 85, 3) := by decide +kernel
theorem dX7_letter_14 : decode cX7_letter 14 = .ok (.ifCond .ne 9, 3) := by decide +kernel
theorem dX7_letter_17 : decode cX7_letter 17 = .ok (.aload_n 0, 1) := by decide +kernel
theorem dX7_letter_18 : decode cX7_letter 18 = .ok (.iconst 2, 1) := by decide +kernel
theorem dX7_letter_19 : decode cX7_letter 19 = .ok (.invokevirtual 78, 3) := by decide +kernel
theorem dX7_letter_22 : decode cX7_letter 22 = .ok (.ireturn, 1) := by decide +kernel
theorem dX7_letter_23 : decode cX7_letter 23 = .ok (.aload_n 0, 1) := by decide +kernel
theorem dX7_letter_24 : decode cX7_letter 24 = .ok (.getfield 20, 3) := by decide +kernel
theorem dX7_letter_27 : decode cX7_letter 27 = .ok (.iload_n 1, 1) := by decide +kernel
theorem dX7_letter_28 : decode cX7_letter 28 = .ok (.iaload, 1) := by decide +kernel
theorem dX7_letter_29 : decode cX7_letter 29 = .ok (.bipush 10, 2) := by decide +kernel
theorem dX7_letter_31 : decode cX7_letter 31 = .ok (.if_icmp .ne 9, 3) := by decide +kernel
theorem dX7_letter_34 : decode cX7_letter 34 = .ok (.aload_n 0, 1) := by decide +kernel
theorem dX7_letter_35 : decode cX7_letter 35 = .ok (.iconst 3, 1) := by decide +kernel
theorem dX7_letter_36 : decode cX7_letter 36 = .ok (.invokevirtual 78, 3) := by decide +kernel
theorem dX7_letter_39 : decode cX7_letter 39 = .ok (.ireturn, 1) := by decide +kernel
theorem dX7_letter_40 : decode cX7_letter 40 = .ok (.aload_n 0, 1) := by decide +kernel
theorem dX7_letter_41 : decode cX7_letter 41 = .ok (.getfield 50, 3) := by decide +kernel
theorem dX7_letter_44 : decode cX7_letter 44 = .ok (.bipush 10, 2) := by decide +kernel
theorem dX7_letter_46 : decode cX7_letter 46 = .ok (.iload_n 1, 1) := by decide +kernel
theorem dX7_letter_47 : decode cX7_letter 47 = .ok (.imul, 1) := by decide +kernel
theorem dX7_letter_48 : decode cX7_letter 48 = .ok (.aload_n 0, 1) := by decide +kernel
theorem dX7_letter_49 : decode cX7_letter 49 = .ok (.getfield 20, 3) := by decide +kernel
theorem dX7_letter_52 : decode cX7_letter 52 = .ok (.iload_n 1, 1) := by decide +kernel
theorem dX7_letter_53 : decode cX7_letter 53 = .ok (.iaload, 1) := by decide +kernel
theorem dX7_letter_54 : decode cX7_letter 54 = .ok (.iadd, 1) := by decide +kernel
theorem dX7_letter_55 : decode cX7_letter 55 = .ok (.iload_n 2, 1) := by decide +kernel
theorem dX7_letter_56 : decode cX7_letter 56 = .ok (.castore, 1) := by decide +kernel
theorem dX7_letter_57 : decode cX7_letter 57 = .ok (.aload_n 0, 1) := by decide +kernel
theorem dX7_letter_58 : decode cX7_letter 58 = .ok (.getfield 20, 3) := by decide +kernel
theorem dX7_letter_61 : decode cX7_letter 61 = .ok (.iload_n 1, 1) := by decide +kernel
theorem dX7_letter_62 : decode cX7_letter 62 = .ok (.dup2, 1) := by decide +kernel
theorem dX7_letter_63 : decode cX7_letter 63 = .ok (.iaload, 1) := by decide +kernel
theorem dX7_letter_64 : decode cX7_letter 64 = .ok (.iconst 1, 1) := by decide +kernel
theorem dX7_letter_65 : decode cX7_letter 65 = .ok (.iadd, 1) := by decide +kernel
theorem dX7_letter_66 : decode cX7_letter 66 = .ok (.dup_x2, 1) := by decide +kernel
theorem dX7_letter_67 : decode cX7_letter 67 = .ok (.iastore, 1) := by decide +kernel
theorem dX7_letter_68 : decode cX7_letter 68 = .ok (.ireturn, 1) := by decide +kernel
theorem dX7_clearName_0 : decode cX7_clearName 0 = .ok (.aload_n 0, 1) := by decide +kernel
theorem dX7_clearName_1 : decode cX7_clearName 1 = .ok (.iload_n 1, 1) := by decide +kernel
theorem dX7_clearName_2 : decode cX7_clearName 2 = .ok (.invokevirtual 74, 3) := by decide +kernel
theorem dX7_clearName_5 : decode cX7_clearName 5 = .ok (.ifCond .eq 5, 3) := by decide +kernel
theorem dX7_clearName_8 : decode cX7_clearName 8 = .ok (.iconst 0, 1) := by decide +kernel
theorem dX7_clearName_9 : decode cX7_clearName 9 = .ok (.ireturn, 1) := by decide +kernel
theorem dX7_clearName_10 : decode cX7_clearName 10 = .ok (.aload_n 0, 1) := by decide +kernel
theorem dX7_clearName_11 : decode cX7_clearName 11 = .ok (.getfield 20, 3) := by decide +kernel
theorem dX7_clearName_14 : decode cX7_clearName 14 = .ok (.iload_n 1, 1) := by decide +kernel
theorem dX7_clearName_15 : decode cX7_clearName 15 = .ok (.iaload, 1) := by decide +kernel
theorem dX7_clearName_16 : decode cX7_clearName 16 = .ok (.istore_n 2, 1) := by decide +kernel
theorem dX7_clearName_17 : decode cX7_clearName 17 = .ok (.aload_n 0, 1) := by decide +kernel
theorem dX7_clearName_18 : decode cX7_clearName 18 = .ok (.getfield 20, 3) := by decide +kernel
theorem dX7_clearName_21 : decode cX7_clearName 21 = .ok (.iload_n 1, 1) := by decide +kernel
theorem dX7_clearName_22 : decode cX7_clearName 22 = .ok (.iconst 0, 1) := by decide +kernel
theorem dX7_clearName_23 : decode cX7_clearName 23 = .ok (.iastore, 1) := by decide +kernel
theorem dX7_clearName_24 : decode cX7_clearName 24 = .ok (.iload_n 2, 1) := by decide +kernel
theorem dX7_clearName_25 : decode cX7_clearName 25 = .ok (.ireturn, 1) := by decide +kernel
theorem dX7_setNumber_0 : decode cX7_setNumber 0 = .ok (.aload_n 0, 1) := by decide +kernel
theorem dX7_setNumber_1 : decode cX7_setNumber 1 = .ok (.iload_n 1, 1) := by decide +kernel
theorem dX7_setNumber_2 : decode cX7_setNumber 2 = .ok (.invokevirtual 74, 3) := by decide +kernel
theorem dX7_setNumber_5 : decode cX7_setNumber 5 = .ok (.ifCond .eq 5, 3) := by decide +kernel
theorem dX7_setNumber_8 : decode cX7_setNumber 8 = .ok (.iconst 0, 1) := by decide +kernel
theorem dX7_setNumber_9 : decode cX7_setNumber 9 = .ok (.ireturn, 1) := by decide +kernel
theorem dX7_setNumber_10 : decode cX7_setNumber 10 = .ok (.iload_n 2, 1) := by decide +kernel
theorem dX7_setNumber_11 : decode cX7_setNumber 11 = .ok (.iconst 1, 1) := by decide +kernel
theorem dX7_setNumber_12 : decode cX7_setNumber 12 = .ok (.iconst 3, 1) := by decide +kernel
theorem dX7_setNumber_13 : decode cX7_setNumber 13 = .ok (.invokestatic 70, 3) := by decide +kernel
theorem dX7_setNumber_16 : decode cX7_setNumber 16 = .ok (.ifCond .eq 14, 3) := by decide +kernel
theorem dX7_setNumber_19 : decode cX7_setNumber 19 = .ok (.iload_n 3, 1) := by decide +kernel
theorem dX7_setNumber_20 : decode cX7_setNumber 20 = .ok (.iconst (-1), 1) := by decide +kernel
theorem dX7_setNumber_21 : decode cX7_setNumber 21 = .ok (.sipush 999, 3) := by decide +kernel
theorem dX7_setNumber_24 : decode cX7_setNumber 24 = .ok (.invokestatic 70, 3) := by decide +kernel
theorem dX7_setNumber_27 : decode cX7_setNumber 27 = .ok (.ifCond .ne 9, 3) := by decide +kernel
theorem dX7_setNumber_30 : decode cX7_setNumber 30 = .ok (.aload_n 0, 1) := by decide +kernel
theorem dX7_setNumber_31 : decode cX7_setNumber 31 = .ok (.iconst 2, 1) := by decide +kernel
theorem dX7_setNumber_32 : decode cX7_setNumber 32 = .ok (.invokevirtual 78, 3) := by decide +kernel
theorem dX7_setNumber_35 : decode cX7_setNumber 35 = .ok (.ireturn, 1) := by decide +kernel
theorem dX7_setNumber_36 : decode cX7_setNumber 36 = .ok (.aload_n 0, 1) := by decide +kernel
theorem dX7_setNumber_37 : decode cX7_setNumber 37 = .ok (.getfield 23, 3) := by decide +kernel
theorem dX7_setNumber_40 : decode cX7_setNumber 40 = .ok (.iconst 4, 1) := by decide +kernel
theorem dX7_setNumber_41 : decode cX7_setNumber 41 = .ok (.iload_n 1, 1) := by decide +kernel
theorem dX7_setNumber_42 : decode cX7_setNumber 42 = .ok (.imul, 1) := by decide +kernel
theorem dX7_setNumber_43 : decode cX7_setNumber 43 = .ok (.iload_n 2, 1) := by decide +kernel
theorem dX7_setNumber_44 : decode cX7_setNumber 44 = .ok (.iadd, 1) := by decide +kernel
theorem dX7_setNumber_45 : decode cX7_setNumber 45 = .ok (.iaload, 1) := by decide +kernel
theorem dX7_setNumber_46 : decode cX7_setNumber 46 = .ok (.istore 4, 2) := by decide +kernel
theorem dX7_setNumber_48 : decode cX7_setNumber 48 = .ok (.aload_n 0, 1) := by decide +kernel
theorem dX7_setNumber_49 : decode cX7_setNumber 49 = .ok (.getfield 23, 3) := by decide +kernel
theorem dX7_setNumber_52 : decode cX7_setNumber 52 = .ok (.iconst 4, 1) := by decide +kernel
theorem dX7_setNumber_53 : decode cX7_setNumber 53 = .ok (.iload_n 1, 1) := by decide +kernel
theorem dX7_setNumber_54 : decode cX7_setNumber 54 = .ok (.imul, 1) := by decide +kernel
theorem dX7_setNumber_55 : decode cX7_setNumber 55 = .ok (.iload_n 2, 1) := by decide +kernel
theorem dX7_setNumber_56 : decode cX7_setNumber 56 = .ok (.iadd, 1) := by decide +kernel
theorem dX7_setNumber_57 : decode cX7_setNumber 57 = .ok (.iload_n 3, 1) := by decide +kernel
theorem dX7_setNumber_58 : decode cX7_setNumber 58 = .ok (.iastore, 1) := by decide +kernel
theorem dX7_setNumber_59 : decode cX7_setNumber 59 = .ok (.iload 4, 2) := by decide +kernel
theorem dX7_setNumber_61 : decode cX7_setNumber 61 = .ok (.ireturn, 1) := by decide +kernel
theorem dX7_nameLength_0 : decode cX7_nameLength 0 = .ok (.aload_n 0, 1) := by decide +kernel
theorem dX7_nameLength_1 : decode cX7_nameLength 1 = .ok (.iload_n 1, 1) := by decide +kernel
theorem dX7_nameLength_2 : decode cX7_nameLength 2 = .ok (.invokevirtual 74, 3) := by decide +kernel
theorem dX7_nameLength_5 : decode cX7_nameLength 5 = .ok (.ifCond .eq 7, 3) := by decide +kernel
theorem dX7_nameLength_8 : decode cX7_nameLength 8 = .ok (.iconst 0, 1) := by decide +kernel
theorem dX7_nameLength_9 : decode cX7_nameLength 9 = .ok (.goto 9, 3) := by decide +kernel
theorem dX7_nameLength_12 : decode cX7_nameLength 12 = .ok (.aload_n 0, 1) := by decide +kernel
theorem dX7_nameLength_13 : decode cX7_nameLength 13 = .ok (.getfield 20, 3) := by decide +kernel
theorem dX7_nameLength_16 : decode cX7_nameLength 16 = .ok (.iload_n 1, 1) := by decide +kernel
theorem dX7_nameLength_17 : decode cX7_nameLength 17 = .ok (.iaload, 1) := by decide +kernel
theorem dX7_nameLength_18 : decode cX7_nameLength 18 = .ok (.ireturn, 1) := by decide +kernel
theorem dX7_nameAt_0 : decode cX7_nameAt 0 = .ok (.aload_n 0, 1) := by decide +kernel
theorem dX7_nameAt_1 : decode cX7_nameAt 1 = .ok (.iload_n 1, 1) := by decide +kernel
theorem dX7_nameAt_2 : decode cX7_nameAt 2 = .ok (.invokevirtual 74, 3) := by decide +kernel
theorem dX7_nameAt_5 : decode cX7_nameAt 5 = .ok (.ifCond .ne 28, 3) := by decide +kernel
theorem dX7_nameAt_8 : decode cX7_nameAt 8 = .ok (.aload_n 0, 1) := by decide +kernel
theorem dX7_nameAt_9 : decode cX7_nameAt 9 = .ok (.iload_n 2, 1) := by decide +kernel
theorem dX7_nameAt_10 : decode cX7_nameAt 10 = .ok (.iconst 0, 1) := by decide +kernel
theorem dX7_nameAt_11 : decode cX7_nameAt 11 = .ok (.aload_n 0, 1) := by decide +kernel
theorem dX7_nameAt_12 : decode cX7_nameAt 12 = .ok (.getfield 20, 3) := by decide +kernel
theorem dX7_nameAt_15 : decode cX7_nameAt 15 = .ok (.iload_n 1, 1) := by decide +kernel
theorem dX7_nameAt_16 : decode cX7_nameAt 16 = .ok (.iaload, 1) := by decide +kernel
theorem dX7_nameAt_17 : decode cX7_nameAt 17 = .ok (.iconst 1, 1) := by decide +kernel
theorem dX7_nameAt_18 : decode cX7_nameAt 18 = .ok (.isub, 1) := by decide +kernel
theorem dX7_nameAt_19 : decode cX7_nameAt 19 = .ok (.invokestatic 70, 3) := by decide +kernel
theorem dX7_nameAt_22 : decode cX7_nameAt 22 = .ok (.ifCond .eq 7, 3) := by decide +kernel
theorem dX7_nameAt_25 : decode cX7_nameAt 25 = .ok (.iconst 0, 1) := by decide +kernel
theorem dX7_nameAt_26 : decode cX7_nameAt 26 = .ok (.goto 4, 3) := by decide +kernel
theorem dX7_nameAt_29 : decode cX7_nameAt 29 = .ok (.iconst 2, 1) := by decide +kernel
theorem dX7_nameAt_30 : decode cX7_nameAt 30 = .ok (.putfield 64, 3) := by decide +kernel
theorem dX7_nameAt_33 : decode cX7_nameAt 33 = .ok (.aload_n 0, 1) := by decide +kernel
theorem dX7_nameAt_34 : decode cX7_nameAt 34 = .ok (.getfield 64, 3) := by decide +kernel
theorem dX7_nameAt_37 : decode cX7_nameAt 37 = .ok (.ifCond .ne 17, 3) := by decide +kernel
theorem dX7_nameAt_40 : decode cX7_nameAt 40 = .ok (.aload_n 0, 1) := by decide +kernel
theorem dX7_nameAt_41 : decode cX7_nameAt 41 = .ok (.getfield 50, 3) := by decide +kernel
theorem dX7_nameAt_44 : decode cX7_nameAt 44 = .ok (.bipush 10, 2) := by decide +kernel
theorem dX7_nameAt_46 : decode cX7_nameAt 46 = .ok (.iload_n 1, 1) := by decide +kernel
theorem dX7_nameAt_47 : decode cX7_nameAt 47 = .ok (.imul, 1) := by decide +kernel
theorem dX7_nameAt_48 : decode cX7_nameAt 48 = .ok (.iload_n 2, 1) := by decide +kernel
theorem dX7_nameAt_49 : decode cX7_nameAt 49 = .ok (.iadd, 1) := by decide +kernel
theorem dX7_nameAt_50 : decode cX7_nameAt 50 = .ok (.caload, 1) := by decide +kernel
theorem dX7_nameAt_51 : decode cX7_nameAt 51 = .ok (.goto 5, 3) := by decide +kernel
theorem dX7_nameAt_54 : decode cX7_nameAt 54 = .ok (.bipush 97, 2) := by decide +kernel
theorem dX7_nameAt_56 : decode cX7_nameAt 56 = .ok (.ireturn, 1) := by decide +kernel
theorem dX7_digit_0 : decode cX7_digit 0 = .ok (.iload_n 0, 1) := by decide +kernel
theorem dX7_digit_1 : decode cX7_digit 1 = .ok (.bipush 98, 2) := by decide +kernel
theorem dX7_digit_3 : decode cX7_digit 3 = .ok (.if_icmp .eq 21, 3) := by decide +kernel
theorem dX7_digit_6 : decode cX7_digit 6 = .ok (.iload_n 0, 1) := by decide +kernel
theorem dX7_digit_7 : decode cX7_digit 7 = .ok (.bipush 102, 2) := by decide +kernel
theorem dX7_digit_9 : decode cX7_digit 9 = .ok (.if_icmp .eq 15, 3) := by decide +kernel
theorem dX7_digit_12 : decode cX7_digit 12 = .ok (.iload_n 0, 1) := by decide +kernel
theorem dX7_digit_13 : decode cX7_digit 13 = .ok (.bipush 112, 2) := by decide +kernel
theorem dX7_digit_15 : decode cX7_digit 15 = .ok (.if_icmp .eq 9, 3) := by decide +kernel
theorem dX7_digit_18 : decode cX7_digit 18 = .ok (.iload_n 0, 1) := by decide +kernel
theorem dX7_digit_19 : decode cX7_digit 19 = .ok (.bipush 118, 2) := by decide +kernel
theorem dX7_digit_21 : decode cX7_digit 21 = .ok (.if_icmp .ne 5, 3) := by decide +kernel
theorem dX7_digit_24 : decode cX7_digit 24 = .ok (.iconst 1, 1) := by decide +kernel
theorem dX7_digit_25 : decode cX7_digit 25 = .ok (.ireturn, 1) := by decide +kernel
theorem dX7_digit_26 : decode cX7_digit 26 = .ok (.iload_n 0, 1) := by decide +kernel
theorem dX7_digit_27 : decode cX7_digit 27 = .ok (.bipush 99, 2) := by decide +kernel
theorem dX7_digit_29 : decode cX7_digit 29 = .ok (.if_icmp .eq 45, 3) := by decide +kernel
theorem dX7_digit_32 : decode cX7_digit 32 = .ok (.iload_n 0, 1) := by decide +kernel
theorem dX7_digit_33 : decode cX7_digit 33 = .ok (.bipush 103, 2) := by decide +kernel
theorem dX7_digit_35 : decode cX7_digit 35 = .ok (.if_icmp .eq 39, 3) := by decide +kernel
theorem dX7_digit_38 : decode cX7_digit 38 = .ok (.iload_n 0, 1) := by decide +kernel
theorem dX7_digit_39 : decode cX7_digit 39 = .ok (.bipush 106, 2) := by decide +kernel
theorem dX7_digit_41 : decode cX7_digit 41 = .ok (.if_icmp .eq 33, 3) := by decide +kernel
theorem dX7_digit_44 : decode cX7_digit 44 = .ok (.iload_n 0, 1) := by decide +kernel
theorem dX7_digit_45 : decode cX7_digit 45 = .ok (.bipush 107, 2) := by decide +kernel
theorem dX7_digit_47 : decode cX7_digit 47 = .ok (.if_icmp .eq 27, 3) := by decide +kernel
theorem dX7_digit_50 : decode cX7_digit 50 = .ok (.iload_n 0, 1) := by decide +kernel
theorem dX7_digit_51 : decode cX7_digit 51 = .ok (.bipush 113, 2) := by decide +kernel
theorem dX7_digit_53 : decode cX7_digit 53 = .ok (.if_icmp .eq 21, 3) := by decide +kernel
theorem dX7_digit_56 : decode cX7_digit 56 = .ok (.iload_n 0, 1) := by decide +kernel
theorem dX7_digit_57 : decode cX7_digit 57 = .ok (.bipush 115, 2) := by decide +kernel
theorem dX7_digit_59 : decode cX7_digit 59 = .ok (.if_icmp .eq 15, 3) := by decide +kernel
theorem dX7_digit_62 : decode cX7_digit 62 = .ok (.iload_n 0, 1) := by decide +kernel
theorem dX7_digit_63 : decode cX7_digit 63 = .ok (.bipush 120, 2) := by decide +kernel
theorem dX7_digit_65 : decode cX7_digit 65 = .ok (.if_icmp .eq 9, 3) := by decide +kernel
theorem dX7_digit_68 : decode cX7_digit 68 = .ok (.iload_n 0, 1) := by decide +kernel
theorem dX7_digit_69 : decode cX7_digit 69 = .ok (.bipush 122, 2) := by decide +kernel
theorem dX7_digit_71 : decode cX7_digit 71 = .ok (.if_icmp .ne 5, 3) := by decide +kernel
theorem dX7_digit_74 : decode cX7_digit 74 = .ok (.iconst 2, 1) := by decide +kernel
theorem dX7_digit_75 : decode cX7_digit 75 = .ok (.ireturn, 1) := by decide +kernel
theorem dX7_digit_76 : decode cX7_digit 76 = .ok (.iload_n 0, 1) := by decide +kernel
theorem dX7_digit_77 : decode cX7_digit 77 = .ok (.bipush 100, 2) := by decide +kernel
theorem dX7_digit_79 : decode cX7_digit 79 = .ok (.if_icmp .eq 9, 3) := by decide +kernel
theorem dX7_digit_82 : decode cX7_digit 82 = .ok (.iload_n 0, 1) := by decide +kernel
theorem dX7_digit_83 : decode cX7_digit 83 = .ok (.bipush 116, 2) := by decide +kernel
theorem dX7_digit_85 : decode cX7_digit 85 = .ok (.if_icmp .ne 5, 3) := by decide +kernel
theorem dX7_digit_88 : decode cX7_digit 88 = .ok (.iconst 3, 1) := by decide +kernel
theorem dX7_digit_89 : decode cX7_digit 89 = .ok (.ireturn, 1) := by decide +kernel
theorem dX7_digit_90 : decode cX7_digit 90 = .ok (.iload_n 0, 1) := by decide +kernel
theorem dX7_digit_91 : decode cX7_digit 91 = .ok (.bipush 108, 2) := by decide +kernel
theorem dX7_digit_93 : decode cX7_digit 93 = .ok (.if_icmp .ne 5, 3) := by decide +kernel
theorem dX7_digit_96 : decode cX7_digit 96 = .ok (.iconst 4, 1) := by decide +kernel
theorem dX7_digit_97 : decode cX7_digit 97 = .ok (.ireturn, 1) := by decide +kernel
theorem dX7_digit_98 : decode cX7_digit 98 = .ok (.iload_n 0, 1) := by decide +kernel
theorem dX7_digit_99 : decode cX7_digit 99 = .ok (.bipush 109, 2) := by decide +kernel
theorem dX7_digit_101 : decode cX7_digit 101 = .ok (.if_icmp .eq 9, 3) := by decide +kernel
theorem dX7_digit_104 : decode cX7_digit 104 = .ok (.iload_n 0, 1) := by decide +kernel
theorem dX7_digit_105 : decode cX7_digit 105 = .ok (.bipush 110, 2) := by decide +kernel
theorem dX7_digit_107 : decode cX7_digit 107 = .ok (.if_icmp .ne 5, 3) := by decide +kernel
theorem dX7_digit_110 : decode cX7_digit 110 = .ok (.iconst 5, 1) := by decide +kernel
theorem dX7_digit_111 : decode cX7_digit 111 = .ok (.ireturn, 1) := by decide +kernel
theorem dX7_digit_112 : decode cX7_digit 112 = .ok (.iload_n 0, 1) := by decide +kernel
theorem dX7_digit_113 : decode cX7_digit 113 = .ok (.bipush 114, 2) := by decide +kernel
theorem dX7_digit_115 : decode cX7_digit 115 = .ok (.if_icmp .ne 8, 3) := by decide +kernel
theorem dX7_digit_118 : decode cX7_digit 118 = .ok (.bipush 6, 2) := by decide +kernel
theorem dX7_digit_120 : decode cX7_digit 120 = .ok (.goto 4, 3) := by decide +kernel
theorem dX7_digit_123 : decode cX7_digit 123 = .ok (.iconst 0, 1) := by decide +kernel
theorem dX7_digit_124 : decode cX7_digit 124 = .ok (.ireturn, 1) := by decide +kernel
theorem dX7_sounds_0 : decode cX7_sounds 0 = .ok (.iconst 0, 1) := by decide +kernel
theorem dX7_sounds_1 : decode cX7_sounds 1 = .ok (.istore 4, 2) := by decide +kernel
theorem dX7_sounds_3 : decode cX7_sounds 3 = .ok (.iload 4, 2) := by decide +kernel
theorem dX7_sounds_5 : decode cX7_sounds 5 = .ok (.iconst 4, 1) := by decide +kernel
theorem dX7_sounds_6 : decode cX7_sounds 6 = .ok (.if_icmp .ge 14, 3) := by decide +kernel
theorem dX7_sounds_9 : decode cX7_sounds 9 = .ok (.aload_n 3, 1) := by decide +kernel
theorem dX7_sounds_10 : decode cX7_sounds 10 = .ok (.iload 4, 2) := by decide +kernel
theorem dX7_sounds_12 : decode cX7_sounds 12 = .ok (.iconst 0, 1) := by decide +kernel
theorem dX7_sounds_13 : decode cX7_sounds 13 = .ok (.iastore, 1) := by decide +kernel
theorem dX7_sounds_14 : decode cX7_sounds 14 = .ok (.iinc 4 1, 3) := by decide +kernel
theorem dX7_sounds_17 : decode cX7_sounds 17 = .ok (.goto (-14), 3) := by decide +kernel
theorem dX7_sounds_20 : decode cX7_sounds 20 = .ok (.iload_n 2, 1) := by decide +kernel
theorem dX7_sounds_21 : decode cX7_sounds 21 = .ok (.ifCond .ne 5, 3) := by decide +kernel
theorem dX7_sounds_24 : decode cX7_sounds 24 = .ok (.iconst 0, 1) := by decide +kernel
theorem dX7_sounds_25 : decode cX7_sounds 25 = .ok (.ireturn, 1) := by decide +kernel
theorem dX7_sounds_26 : decode cX7_sounds 26 = .ok (.aload_n 3, 1) := by decide +kernel
theorem dX7_sounds_27 : decode cX7_sounds 27 = .ok (.iconst 0, 1) := by decide +kernel
theorem dX7_sounds_28 : decode cX7_sounds 28 = .ok (.aload_n 0, 1) := by decide +kernel
theorem dX7_sounds_29 : decode cX7_sounds 29 = .ok (.getfield 50, 3) := by decide +kernel
theorem dX7_sounds_32 : decode cX7_sounds 32 = .ok (.bipush 10, 2) := by decide +kernel
theorem dX7_sounds_34 : decode cX7_sounds 34 = .ok (.iload_n 1, 1) := by decide +kernel
theorem dX7_sounds_35 : decode cX7_sounds 35 = .ok (.imul, 1) := by decide +kernel
theorem dX7_sounds_36 : decode cX7_sounds 36 = .ok (.caload, 1) := by decide +kernel
theorem dX7_sounds_37 : decode cX7_sounds 37 = .ok (.iastore, 1) := by decide +kernel
theorem dX7_sounds_38 : decode cX7_sounds 38 = .ok (.iconst 1, 1) := by decide +kernel
theorem dX7_sounds_39 : decode cX7_sounds 39 = .ok (.istore 4, 2) := by decide +kernel
theorem dX7_sounds_41 : decode cX7_sounds 41 = .ok (.iconst 1, 1) := by decide +kernel
theorem dX7_sounds_42 : decode cX7_sounds 42 = .ok (.istore 5, 2) := by decide +kernel
theorem dX7_sounds_44 : decode cX7_sounds 44 = .ok (.iload 5, 2) := by decide +kernel
theorem dX7_sounds_46 : decode cX7_sounds 46 = .ok (.iload_n 2, 1) := by decide +kernel
theorem dX7_sounds_47 : decode cX7_sounds 47 = .ok (.if_icmp .ge 71, 3) := by decide +kernel
theorem dX7_sounds_50 : decode cX7_sounds 50 = .ok (.iload 4, 2) := by decide +kernel
theorem dX7_sounds_52 : decode cX7_sounds 52 = .ok (.iconst 4, 1) := by decide +kernel
theorem dX7_sounds_53 : decode cX7_sounds 53 = .ok (.if_icmp .ge 65, 3) := by decide +kernel
theorem dX7_sounds_56 : decode cX7_sounds 56 = .ok (.aload_n 0, 1) := by decide +kernel
theorem dX7_sounds_57 : decode cX7_sounds 57 = .ok (.getfield 50, 3) := by decide +kernel
theorem dX7_sounds_60 : decode cX7_sounds 60 = .ok (.bipush 10, 2) := by decide +kernel
theorem dX7_sounds_62 : decode cX7_sounds 62 = .ok (.iload_n 1, 1) := by decide +kernel
theorem dX7_sounds_63 : decode cX7_sounds 63 = .ok (.imul, 1) := by decide +kernel
theorem dX7_sounds_64 : decode cX7_sounds 64 = .ok (.iload 5, 2) := by decide +kernel
theorem dX7_sounds_66 : decode cX7_sounds 66 = .ok (.iadd, 1) := by decide +kernel
theorem dX7_sounds_67 : decode cX7_sounds 67 = .ok (.caload, 1) := by decide +kernel
theorem dX7_sounds_68 : decode cX7_sounds 68 = .ok (.invokestatic 89, 3) := by decide +kernel
theorem dX7_sounds_71 : decode cX7_sounds 71 = .ok (.istore 6, 2) := by decide +kernel
theorem dX7_sounds_73 : decode cX7_sounds 73 = .ok (.iload 6, 2) := by decide +kernel
theorem dX7_sounds_75 : decode cX7_sounds 75 = .ok (.ifCond .eq 37, 3) := by decide +kernel
theorem dX7_sounds_78 : decode cX7_sounds 78 = .ok (.iload 6, 2) := by decide +kernel
theorem dX7_sounds_80 : decode cX7_sounds 80 = .ok (.aload_n 0, 1) := by decide +kernel
theorem dX7_sounds_81 : decode cX7_sounds 81 = .ok (.getfield 50, 3) := by decide +kernel
theorem dX7_sounds_84 : decode cX7_sounds 84 = .ok (.bipush 10, 2) := by decide +kernel
theorem dX7_sounds_86 : decode cX7_sounds 86 = .ok (.iload_n 1, 1) := by decide +kernel
theorem dX7_sounds_87 : decode cX7_sounds 87 = .ok (.imul, 1) := by decide +kernel
theorem dX7_sounds_88 : decode cX7_sounds 88 = .ok (.iload 5, 2) := by decide +kernel
theorem dX7_sounds_90 : decode cX7_sounds 90 = .ok (.iadd, 1) := by decide +kernel
theorem dX7_sounds_91 : decode cX7_sounds 91 = .ok (.iconst 1, 1) := by decide +kernel
theorem dX7_sounds_92 : decode cX7_sounds 92 = .ok (.isub, 1) := by decide +kernel
theorem dX7_sounds_93 : decode cX7_sounds 93 = .ok (.caload, 1) := by decide +kernel
theorem dX7_sounds_94 : decode cX7_sounds 94 = .ok (.invokestatic 89, 3) := by decide +kernel
theorem dX7_sounds_97 : decode cX7_sounds 97 = .ok (.if_icmp .ne 6, 3) := by decide +kernel
theorem dX7_sounds_100 : decode cX7_sounds 100 = .ok (.goto 12, 3) := by decide +kernel
theorem dX7_sounds_103 : decode cX7_sounds 103 = .ok (.aload_n 3, 1) := by decide +kernel
theorem dX7_sounds_104 : decode cX7_sounds 104 = .ok (.iload 4, 2) := by decide +kernel
theorem dX7_sounds_106 : decode cX7_sounds 106 = .ok (.iload 6, 2) := by decide +kernel
theorem dX7_sounds_108 : decode cX7_sounds 108 = .ok (.iastore, 1) := by decide +kernel
theorem dX7_sounds_109 : decode cX7_sounds 109 = .ok (.iinc 4 1, 3) := by decide +kernel
theorem dX7_sounds_112 : decode cX7_sounds 112 = .ok (.iinc 5 1, 3) := by decide +kernel
theorem dX7_sounds_115 : decode cX7_sounds 115 = .ok (.goto (-71), 3) := by decide +kernel
theorem dX7_sounds_118 : decode cX7_sounds 118 = .ok (.iload 4, 2) := by decide +kernel
theorem dX7_sounds_120 : decode cX7_sounds 120 = .ok (.ireturn, 1) := by decide +kernel
theorem dX7_isSameSound_0 : decode cX7_isSameSound 0 = .ok (.aload_n 0, 1) := by decide +kernel
theorem dX7_isSameSound_1 : decode cX7_isSameSound 1 = .ok (.iload_n 1, 1) := by decide +kernel
theorem dX7_isSameSound_2 : decode cX7_isSameSound 2 = .ok (.iload_n 2, 1) := by decide +kernel
theorem dX7_isSameSound_3 : decode cX7_isSameSound 3 = .ok (.aload_n 0, 1) := by decide +kernel
theorem dX7_isSameSound_4 : decode cX7_isSameSound 4 = .ok (.getfield 44, 3) := by decide +kernel
theorem dX7_isSameSound_7 : decode cX7_isSameSound 7 = .ok (.invokevirtual 93, 3) := by decide +kernel
theorem dX7_isSameSound_10 : decode cX7_isSameSound 10 = .ok (.istore 5, 2) := by decide +kernel
theorem dX7_isSameSound_12 : decode cX7_isSameSound 12 = .ok (.iload 5, 2) := by decide +kernel
theorem dX7_isSameSound_14 : decode cX7_isSameSound 14 = .ok (.ifCond .eq 19, 3) := by decide +kernel
theorem dX7_isSameSound_17 : decode cX7_isSameSound 17 = .ok (.aload_n 0, 1) := by decide +kernel
theorem dX7_isSameSound_18 : decode cX7_isSameSound 18 = .ok (.iload_n 3, 1) := by decide +kernel
theorem dX7_isSameSound_19 : decode cX7_isSameSound 19 = .ok (.iload 4, 2) := by decide +kernel
theorem dX7_isSameSound_21 : decode cX7_isSameSound 21 = .ok (.aload_n 0, 1) := by decide +kernel
theorem dX7_isSameSound_22 : decode cX7_isSameSound 22 = .ok (.getfield 47, 3) := by decide +kernel
theorem dX7_isSameSound_25 : decode cX7_isSameSound 25 = .ok (.invokevirtual 93, 3) := by decide +kernel
theorem dX7_isSameSound_28 : decode cX7_isSameSound 28 = .ok (.iload 5, 2) := by decide +kernel
theorem dX7_isSameSound_30 : decode cX7_isSameSound 30 = .ok (.if_icmp .eq 5, 3) := by decide +kernel
theorem dX7_isSameSound_33 : decode cX7_isSameSound 33 = .ok (.iconst 0, 1) := by decide +kernel
theorem dX7_isSameSound_34 : decode cX7_isSameSound 34 = .ok (.ireturn, 1) := by decide +kernel
theorem dX7_isSameSound_35 : decode cX7_isSameSound 35 = .ok (.iconst 0, 1) := by decide +kernel
theorem dX7_isSameSound_36 : decode cX7_isSameSound 36 = .ok (.istore 6, 2) := by decide +kernel
theorem dX7_isSameSound_38 : decode cX7_isSameSound 38 = .ok (.iload 6, 2) := by decide +kernel
theorem dX7_isSameSound_40 : decode cX7_isSameSound 40 = .ok (.iload 5, 2) := by decide +kernel
theorem dX7_isSameSound_42 : decode cX7_isSameSound 42 = .ok (.if_icmp .ge 28, 3) := by decide +kernel
theorem dX7_isSameSound_45 : decode cX7_isSameSound 45 = .ok (.aload_n 0, 1) := by decide +kernel
theorem dX7_isSameSound_46 : decode cX7_isSameSound 46 = .ok (.getfield 44, 3) := by decide +kernel
theorem dX7_isSameSound_49 : decode cX7_isSameSound 49 = .ok (.iload 6, 2) := by decide +kernel
theorem dX7_isSameSound_51 : decode cX7_isSameSound 51 = .ok (.iaload, 1) := by decide +kernel
theorem dX7_isSameSound_52 : decode cX7_isSameSound 52 = .ok (.aload_n 0, 1) := by decide +kernel
theorem dX7_isSameSound_53 : decode cX7_isSameSound 53 = .ok (.getfield 47, 3) := by decide +kernel
theorem dX7_isSameSound_56 : decode cX7_isSameSound 56 = .ok (.iload 6, 2) := by decide +kernel
theorem dX7_isSameSound_58 : decode cX7_isSameSound 58 = .ok (.iaload, 1) := by decide +kernel
theorem dX7_isSameSound_59 : decode cX7_isSameSound 59 = .ok (.if_icmp .eq 5, 3) := by decide +kernel
theorem dX7_isSameSound_62 : decode cX7_isSameSound 62 = .ok (.iconst 0, 1) := by decide +kernel
theorem dX7_isSameSound_63 : decode cX7_isSameSound 63 = .ok (.ireturn, 1) := by decide +kernel
theorem dX7_isSameSound_64 : decode cX7_isSameSound 64 = .ok (.iinc 6 1, 3) := by decide +kernel
theorem dX7_isSameSound_67 : decode cX7_isSameSound 67 = .ok (.goto (-29), 3) := by decide +kernel
theorem dX7_isSameSound_70 : decode cX7_isSameSound 70 = .ok (.iconst 1, 1) := by decide +kernel
theorem dX7_isSameSound_71 : decode cX7_isSameSound 71 = .ok (.ireturn, 1) := by decide +kernel
theorem dX7_soundAt_0 : decode cX7_soundAt 0 = .ok (.aload_n 0, 1) := by decide +kernel
theorem dX7_soundAt_1 : decode cX7_soundAt 1 = .ok (.iload_n 1, 1) := by decide +kernel
theorem dX7_soundAt_2 : decode cX7_soundAt 2 = .ok (.invokevirtual 74, 3) := by decide +kernel
theorem dX7_soundAt_5 : decode cX7_soundAt 5 = .ok (.ifCond .eq 6, 3) := by decide +kernel
theorem dX7_soundAt_8 : decode cX7_soundAt 8 = .ok (.bipush 97, 2) := by decide +kernel
theorem dX7_soundAt_10 : decode cX7_soundAt 10 = .ok (.ireturn, 1) := by decide +kernel
theorem dX7_soundAt_11 : decode cX7_soundAt 11 = .ok (.aload_n 0, 1) := by decide +kernel
theorem dX7_soundAt_12 : decode cX7_soundAt 12 = .ok (.iload_n 1, 1) := by decide +kernel
theorem dX7_soundAt_13 : decode cX7_soundAt 13 = .ok (.aload_n 0, 1) := by decide +kernel
theorem dX7_soundAt_14 : decode cX7_soundAt 14 = .ok (.getfield 20, 3) := by decide +kernel
theorem dX7_soundAt_17 : decode cX7_soundAt 17 = .ok (.iload_n 1, 1) := by decide +kernel
theorem dX7_soundAt_18 : decode cX7_soundAt 18 = .ok (.iaload, 1) := by decide +kernel
theorem dX7_soundAt_19 : decode cX7_soundAt 19 = .ok (.aload_n 0, 1) := by decide +kernel
theorem dX7_soundAt_20 : decode cX7_soundAt 20 = .ok (.getfield 44, 3) := by decide +kernel
theorem dX7_soundAt_23 : decode cX7_soundAt 23 = .ok (.invokevirtual 93, 3) := by decide +kernel
theorem dX7_soundAt_26 : decode cX7_soundAt 26 = .ok (.istore_n 3, 1) := by decide +kernel
theorem dX7_soundAt_27 : decode cX7_soundAt 27 = .ok (.aload_n 0, 1) := by decide +kernel
theorem dX7_soundAt_28 : decode cX7_soundAt 28 = .ok (.iload_n 2, 1) := by decide +kernel
theorem dX7_soundAt_29 : decode cX7_soundAt 29 = .ok (.iconst 0, 1) := by decide +kernel
theorem dX7_soundAt_30 : decode cX7_soundAt 30 = .ok (.iload_n 3, 1) := by decide +kernel
theorem dX7_soundAt_31 : decode cX7_soundAt 31 = .ok (.iconst 1, 1) := by decide +kernel
theorem dX7_soundAt_32 : decode cX7_soundAt 32 = .ok (.isub, 1) := by decide +kernel
theorem dX7_soundAt_33 : decode cX7_soundAt 33 = .ok (.invokestatic 70, 3) := by decide +kernel
theorem dX7_soundAt_36 : decode cX7_soundAt 36 = .ok (.ifCond .eq 7, 3) := by decide +kernel
theorem dX7_soundAt_39 : decode cX7_soundAt 39 = .ok (.iconst 0, 1) := by decide +kernel
theorem dX7_soundAt_40 : decode cX7_soundAt 40 = .ok (.goto 4, 3) := by decide +kernel
theorem dX7_soundAt_43 : decode cX7_soundAt 43 = .ok (.iconst 2, 1) := by decide +kernel
theorem dX7_soundAt_44 : decode cX7_soundAt 44 = .ok (.putfield 64, 3) := by decide +kernel
theorem dX7_soundAt_47 : decode cX7_soundAt 47 = .ok (.aload_n 0, 1) := by decide +kernel
theorem dX7_soundAt_48 : decode cX7_soundAt 48 = .ok (.getfield 64, 3) := by decide +kernel
theorem dX7_soundAt_51 : decode cX7_soundAt 51 = .ok (.ifCond .eq 6, 3) := by decide +kernel
theorem dX7_soundAt_54 : decode cX7_soundAt 54 = .ok (.bipush 97, 2) := by decide +kernel
theorem dX7_soundAt_56 : decode cX7_soundAt 56 = .ok (.ireturn, 1) := by decide +kernel
theorem dX7_soundAt_57 : decode cX7_soundAt 57 = .ok (.iload_n 2, 1) := by decide +kernel
theorem dX7_soundAt_58 : decode cX7_soundAt 58 = .ok (.ifCond .ne 13, 3) := by decide +kernel
theorem dX7_soundAt_61 : decode cX7_soundAt 61 = .ok (.aload_n 0, 1) := by decide +kernel
theorem dX7_soundAt_62 : decode cX7_soundAt 62 = .ok (.getfield 44, 3) := by decide +kernel
theorem dX7_soundAt_65 : decode cX7_soundAt 65 = .ok (.iconst 0, 1) := by decide +kernel
theorem dX7_soundAt_66 : decode cX7_soundAt 66 = .ok (.iaload, 1) := by decide +kernel
theorem dX7_soundAt_67 : decode cX7_soundAt 67 = .ok (.i2c, 1) := by decide +kernel
theorem dX7_soundAt_68 : decode cX7_soundAt 68 = .ok (.goto 13, 3) := by decide +kernel
theorem dX7_soundAt_71 : decode cX7_soundAt 71 = .ok (.bipush 48, 2) := by decide +kernel
theorem dX7_soundAt_73 : decode cX7_soundAt 73 = .ok (.aload_n 0, 1) := by decide +kernel
theorem dX7_soundAt_74 : decode cX7_soundAt 74 = .ok (.getfield 44, 3) := by decide +kernel
theorem dX7_soundAt_77 : decode cX7_soundAt 77 = .ok (.iload_n 2, 1) := by decide +kernel
theorem dX7_soundAt_78 : decode cX7_soundAt 78 = .ok (.iaload, 1) := by decide +kernel
theorem dX7_soundAt_79 : decode cX7_soundAt 79 = .ok (.iadd, 1) := by decide +kernel
theorem dX7_soundAt_80 : decode cX7_soundAt 80 = .ok (.i2c, 1) := by decide +kernel
theorem dX7_soundAt_81 : decode cX7_soundAt 81 = .ok (.ireturn, 1) := by decide +kernel
theorem dX7_number_0 : decode cX7_number 0 = .ok (.aload_n 0, 1) := by decide +kernel
theorem dX7_number_1 : decode cX7_number 1 = .ok (.iload_n 1, 1) := by decide +kernel
theorem dX7_number_2 : decode cX7_number 2 = .ok (.invokevirtual 74, 3) := by decide +kernel
theorem dX7_number_5 : decode cX7_number 5 = .ok (.ifCond .eq 5, 3) := by decide +kernel
theorem dX7_number_8 : decode cX7_number 8 = .ok (.iconst 0, 1) := by decide +kernel
theorem dX7_number_9 : decode cX7_number 9 = .ok (.ireturn, 1) := by decide +kernel
theorem dX7_number_10 : decode cX7_number 10 = .ok (.iload_n 2, 1) := by decide +kernel
theorem dX7_number_11 : decode cX7_number 11 = .ok (.iconst 1, 1) := by decide +kernel
theorem dX7_number_12 : decode cX7_number 12 = .ok (.iconst 3, 1) := by decide +kernel
theorem dX7_number_13 : decode cX7_number 13 = .ok (.invokestatic 70, 3) := by decide +kernel
theorem dX7_number_16 : decode cX7_number 16 = .ok (.ifCond .ne 9, 3) := by decide +kernel
theorem dX7_number_19 : decode cX7_number 19 = .ok (.aload_n 0, 1) := by decide +kernel
theorem dX7_number_20 : decode cX7_number 20 = .ok (.iconst 2, 1) := by decide +kernel
theorem dX7_number_21 : decode cX7_number 21 = .ok (.invokevirtual 78, 3) := by decide +kernel
theorem dX7_number_24 : decode cX7_number 24 = .ok (.ireturn, 1) := by decide +kernel
theorem dX7_number_25 : decode cX7_number 25 = .ok (.aload_n 0, 1) := by decide +kernel
theorem dX7_number_26 : decode cX7_number 26 = .ok (.getfield 23, 3) := by decide +kernel
theorem dX7_number_29 : decode cX7_number 29 = .ok (.iconst 4, 1) := by decide +kernel
theorem dX7_number_30 : decode cX7_number 30 = .ok (.iload_n 1, 1) := by decide +kernel
theorem dX7_number_31 : decode cX7_number 31 = .ok (.imul, 1) := by decide +kernel
theorem dX7_number_32 : decode cX7_number 32 = .ok (.iload_n 2, 1) := by decide +kernel
theorem dX7_number_33 : decode cX7_number 33 = .ok (.iadd, 1) := by decide +kernel
theorem dX7_number_34 : decode cX7_number 34 = .ok (.iaload, 1) := by decide +kernel
theorem dX7_number_35 : decode cX7_number 35 = .ok (.ireturn, 1) := by decide +kernel
theorem dX7_setWeights_0 : decode cX7_setWeights 0 = .ok (.iload_n 1, 1) := by decide +kernel
theorem dX7_setWeights_1 : decode cX7_setWeights 1 = .ok (.iconst 0, 1) := by decide +kernel
theorem dX7_setWeights_2 : decode cX7_setWeights 2 = .ok (.iconst 3, 1) := by decide +kernel
theorem dX7_setWeights_3 : decode cX7_setWeights 3 = .ok (.invokestatic 70, 3) := by decide +kernel
theorem dX7_setWeights_6 : decode cX7_setWeights 6 = .ok (.ifCond .eq 25, 3) := by decide +kernel
theorem dX7_setWeights_9 : decode cX7_setWeights 9 = .ok (.iload_n 2, 1) := by decide +kernel
theorem dX7_setWeights_10 : decode cX7_setWeights 10 = .ok (.bipush (-9), 2) := by decide +kernel
theorem dX7_setWeights_12 : decode cX7_setWeights 12 = .ok (.bipush 9, 2) := by decide +kernel
theorem dX7_setWeights_14 : decode cX7_setWeights 14 = .ok (.invokestatic 70, 3) := by decide +kernel
theorem dX7_setWeights_17 : decode cX7_setWeights 17 = .ok (.ifCond .eq 14, 3) := by decide +kernel
theorem dX7_setWeights_20 : decode cX7_setWeights 20 = .ok (.iload_n 3, 1) := by decide +kernel
theorem dX7_setWeights_21 : decode cX7_setWeights 21 = .ok (.bipush (-9), 2) := by decide +kernel
theorem dX7_setWeights_23 : decode cX7_setWeights 23 = .ok (.bipush 9, 2) := by decide +kernel
theorem dX7_setWeights_25 : decode cX7_setWeights 25 = .ok (.invokestatic 70, 3) := by decide +kernel
theorem dX7_setWeights_28 : decode cX7_setWeights 28 = .ok (.ifCond .ne 9, 3) := by decide +kernel
theorem dX7_setWeights_31 : decode cX7_setWeights 31 = .ok (.aload_n 0, 1) := by decide +kernel
theorem dX7_setWeights_32 : decode cX7_setWeights 32 = .ok (.iconst 1, 1) := by decide +kernel
theorem dX7_setWeights_33 : decode cX7_setWeights 33 = .ok (.invokevirtual 78, 3) := by decide +kernel
theorem dX7_setWeights_36 : decode cX7_setWeights 36 = .ok (.ireturn, 1) := by decide +kernel
theorem dX7_setWeights_37 : decode cX7_setWeights 37 = .ok (.aload_n 0, 1) := by decide +kernel
theorem dX7_setWeights_38 : decode cX7_setWeights 38 = .ok (.iconst 0, 1) := by decide +kernel
theorem dX7_setWeights_39 : decode cX7_setWeights 39 = .ok (.putfield 64, 3) := by decide +kernel
theorem dX7_setWeights_42 : decode cX7_setWeights 42 = .ok (.aload_n 0, 1) := by decide +kernel
theorem dX7_setWeights_43 : decode cX7_setWeights 43 = .ok (.getfield 26, 3) := by decide +kernel
theorem dX7_setWeights_46 : decode cX7_setWeights 46 = .ok (.iload_n 1, 1) := by decide +kernel
theorem dX7_setWeights_47 : decode cX7_setWeights 47 = .ok (.iaload, 1) := by decide +kernel
theorem dX7_setWeights_48 : decode cX7_setWeights 48 = .ok (.istore 4, 2) := by decide +kernel
theorem dX7_setWeights_50 : decode cX7_setWeights 50 = .ok (.aload_n 0, 1) := by decide +kernel
theorem dX7_setWeights_51 : decode cX7_setWeights 51 = .ok (.getfield 26, 3) := by decide +kernel
theorem dX7_setWeights_54 : decode cX7_setWeights 54 = .ok (.iload_n 1, 1) := by decide +kernel
theorem dX7_setWeights_55 : decode cX7_setWeights 55 = .ok (.iload_n 2, 1) := by decide +kernel
theorem dX7_setWeights_56 : decode cX7_setWeights 56 = .ok (.iastore, 1) := by decide +kernel
theorem dX7_setWeights_57 : decode cX7_setWeights 57 = .ok (.aload_n 0, 1) := by decide +kernel
theorem dX7_setWeights_58 : decode cX7_setWeights 58 = .ok (.getfield 29, 3) := by decide +kernel
theorem dX7_setWeights_61 : decode cX7_setWeights 61 = .ok (.iload_n 1, 1) := by decide +kernel
theorem dX7_setWeights_62 : decode cX7_setWeights 62 = .ok (.iload_n 3, 1) := by decide +kernel
theorem dX7_setWeights_63 : decode cX7_setWeights 63 = .ok (.iastore, 1) := by decide +kernel
theorem dX7_setWeights_64 : decode cX7_setWeights 64 = .ok (.iload 4, 2) := by decide +kernel
theorem dX7_setWeights_66 : decode cX7_setWeights 66 = .ok (.ireturn, 1) := by decide +kernel
theorem dX7_setThreshold_0 : decode cX7_setThreshold 0 = .ok (.iload_n 1, 1) := by decide +kernel
theorem dX7_setThreshold_1 : decode cX7_setThreshold 1 = .ok (.bipush (-40), 2) := by decide +kernel
theorem dX7_setThreshold_3 : decode cX7_setThreshold 3 = .ok (.bipush 40, 2) := by decide +kernel
theorem dX7_setThreshold_5 : decode cX7_setThreshold 5 = .ok (.invokestatic 70, 3) := by decide +kernel
theorem dX7_setThreshold_8 : decode cX7_setThreshold 8 = .ok (.ifCond .ne 9, 3) := by decide +kernel
theorem dX7_setThreshold_11 : decode cX7_setThreshold 11 = .ok (.aload_n 0, 1) := by decide +kernel
theorem dX7_setThreshold_12 : decode cX7_setThreshold 12 = .ok (.iconst 1, 1) := by decide +kernel
theorem dX7_setThreshold_13 : decode cX7_setThreshold 13 = .ok (.invokevirtual 78, 3) := by decide +kernel
theorem dX7_setThreshold_16 : decode cX7_setThreshold 16 = .ok (.ireturn, 1) := by decide +kernel
theorem dX7_setThreshold_17 : decode cX7_setThreshold 17 = .ok (.aload_n 0, 1) := by decide +kernel
theorem dX7_setThreshold_18 : decode cX7_setThreshold 18 = .ok (.iconst 0, 1) := by decide +kernel
theorem dX7_setThreshold_19 : decode cX7_setThreshold 19 = .ok (.putfield 64, 3) := by decide +kernel
theorem dX7_setThreshold_22 : decode cX7_setThreshold 22 = .ok (.aload_n 0, 1) := by decide +kernel
theorem dX7_setThreshold_23 : decode cX7_setThreshold 23 = .ok (.getfield 7, 3) := by decide +kernel
theorem dX7_setThreshold_26 : decode cX7_setThreshold 26 = .ok (.istore_n 2, 1) := by decide +kernel
theorem dX7_setThreshold_27 : decode cX7_setThreshold 27 = .ok (.aload_n 0, 1) := by decide +kernel
theorem dX7_setThreshold_28 : decode cX7_setThreshold 28 = .ok (.iload_n 1, 1) := by decide +kernel
theorem dX7_setThreshold_29 : decode cX7_setThreshold 29 = .ok (.putfield 7, 3) := by decide +kernel
theorem dX7_setThreshold_32 : decode cX7_setThreshold 32 = .ok (.iload_n 2, 1) := by decide +kernel
theorem dX7_setThreshold_33 : decode cX7_setThreshold 33 = .ok (.ireturn, 1) := by decide +kernel
theorem dX7_has_0 : decode cX7_has 0 = .ok (.iload_n 2, 1) := by decide +kernel
theorem dX7_has_1 : decode cX7_has 1 = .ok (.ifCond .ne 20, 3) := by decide +kernel
theorem dX7_has_4 : decode cX7_has 4 = .ok (.aload_n 0, 1) := by decide +kernel
theorem dX7_has_5 : decode cX7_has 5 = .ok (.getfield 20, 3) := by decide +kernel
theorem dX7_has_8 : decode cX7_has 8 = .ok (.iload_n 1, 1) := by decide +kernel
theorem dX7_has_9 : decode cX7_has 9 = .ok (.iaload, 1) := by decide +kernel
theorem dX7_has_10 : decode cX7_has 10 = .ok (.ifCond .le 7, 3) := by decide +kernel
theorem dX7_has_13 : decode cX7_has 13 = .ok (.iconst 1, 1) := by decide +kernel
theorem dX7_has_14 : decode cX7_has 14 = .ok (.goto 25, 3) := by decide +kernel
theorem dX7_has_17 : decode cX7_has 17 = .ok (.iconst 0, 1) := by decide +kernel
theorem dX7_has_18 : decode cX7_has 18 = .ok (.goto 21, 3) := by decide +kernel
theorem dX7_has_21 : decode cX7_has 21 = .ok (.aload_n 0, 1) := by decide +kernel
theorem dX7_has_22 : decode cX7_has 22 = .ok (.getfield 23, 3) := by decide +kernel
theorem dX7_has_25 : decode cX7_has 25 = .ok (.iconst 4, 1) := by decide +kernel
theorem dX7_has_26 : decode cX7_has 26 = .ok (.iload_n 1, 1) := by decide +kernel
theorem dX7_has_27 : decode cX7_has 27 = .ok (.imul, 1) := by decide +kernel
theorem dX7_has_28 : decode cX7_has 28 = .ok (.iload_n 2, 1) := by decide +kernel
theorem dX7_has_29 : decode cX7_has 29 = .ok (.iadd, 1) := by decide +kernel
theorem dX7_has_30 : decode cX7_has 30 = .ok (.iaload, 1) := by decide +kernel
theorem dX7_has_31 : decode cX7_has 31 = .ok (.ifCond .lt 7, 3) := by decide +kernel
theorem dX7_has_34 : decode cX7_has 34 = .ok (.iconst 1, 1) := by decide +kernel
theorem dX7_has_35 : decode cX7_has 35 = .ok (.goto 4, 3) := by decide +kernel
theorem dX7_has_38 : decode cX7_has 38 = .ok (.iconst 0, 1) := by decide +kernel
theorem dX7_has_39 : decode cX7_has 39 = .ok (.ireturn, 1) := by decide +kernel
theorem dX7_isSame_0 : decode cX7_isSame 0 = .ok (.iload_n 3, 1) := by decide +kernel
theorem dX7_isSame_1 : decode cX7_isSame 1 = .ok (.ifCond .le 32, 3) := by decide +kernel
theorem dX7_isSame_4 : decode cX7_isSame 4 = .ok (.aload_n 0, 1) := by decide +kernel
theorem dX7_isSame_5 : decode cX7_isSame 5 = .ok (.getfield 23, 3) := by decide +kernel
theorem dX7_isSame_8 : decode cX7_isSame 8 = .ok (.iconst 4, 1) := by decide +kernel
theorem dX7_isSame_9 : decode cX7_isSame 9 = .ok (.iload_n 1, 1) := by decide +kernel
theorem dX7_isSame_10 : decode cX7_isSame 10 = .ok (.imul, 1) := by decide +kernel
theorem dX7_isSame_11 : decode cX7_isSame 11 = .ok (.iload_n 3, 1) := by decide +kernel
theorem dX7_isSame_12 : decode cX7_isSame 12 = .ok (.iadd, 1) := by decide +kernel
theorem dX7_isSame_13 : decode cX7_isSame 13 = .ok (.iaload, 1) := by decide +kernel
theorem dX7_isSame_14 : decode cX7_isSame 14 = .ok (.aload_n 0, 1) := by decide +kernel
theorem dX7_isSame_15 : decode cX7_isSame 15 = .ok (.getfield 23, 3) := by decide +kernel
theorem dX7_isSame_18 : decode cX7_isSame 18 = .ok (.iconst 4, 1) := by decide +kernel
theorem dX7_isSame_19 : decode cX7_isSame 19 = .ok (.iload_n 2, 1) := by decide +kernel
theorem dX7_isSame_20 : decode cX7_isSame 20 = .ok (.imul, 1) := by decide +kernel
theorem dX7_isSame_21 : decode cX7_isSame 21 = .ok (.iload_n 3, 1) := by decide +kernel
theorem dX7_isSame_22 : decode cX7_isSame 22 = .ok (.iadd, 1) := by decide +kernel
theorem dX7_isSame_23 : decode cX7_isSame 23 = .ok (.iaload, 1) := by decide +kernel
theorem dX7_isSame_24 : decode cX7_isSame 24 = .ok (.if_icmp .ne 7, 3) := by decide +kernel
theorem dX7_isSame_27 : decode cX7_isSame 27 = .ok (.iconst 1, 1) := by decide +kernel
theorem dX7_isSame_28 : decode cX7_isSame 28 = .ok (.goto 4, 3) := by decide +kernel
theorem dX7_isSame_31 : decode cX7_isSame 31 = .ok (.iconst 0, 1) := by decide +kernel
theorem dX7_isSame_32 : decode cX7_isSame 32 = .ok (.ireturn, 1) := by decide +kernel
theorem dX7_isSame_33 : decode cX7_isSame 33 = .ok (.aload_n 0, 1) := by decide +kernel
theorem dX7_isSame_34 : decode cX7_isSame 34 = .ok (.getfield 20, 3) := by decide +kernel
theorem dX7_isSame_37 : decode cX7_isSame 37 = .ok (.iload_n 1, 1) := by decide +kernel
theorem dX7_isSame_38 : decode cX7_isSame 38 = .ok (.iaload, 1) := by decide +kernel
theorem dX7_isSame_39 : decode cX7_isSame 39 = .ok (.aload_n 0, 1) := by decide +kernel
theorem dX7_isSame_40 : decode cX7_isSame 40 = .ok (.getfield 20, 3) := by decide +kernel
theorem dX7_isSame_43 : decode cX7_isSame 43 = .ok (.iload_n 2, 1) := by decide +kernel
theorem dX7_isSame_44 : decode cX7_isSame 44 = .ok (.iaload, 1) := by decide +kernel
theorem dX7_isSame_45 : decode cX7_isSame 45 = .ok (.if_icmp .eq 5, 3) := by decide +kernel
theorem dX7_isSame_48 : decode cX7_isSame 48 = .ok (.iconst 0, 1) := by decide +kernel
theorem dX7_isSame_49 : decode cX7_isSame 49 = .ok (.ireturn, 1) := by decide +kernel
theorem dX7_isSame_50 : decode cX7_isSame 50 = .ok (.iconst 0, 1) := by decide +kernel
theorem dX7_isSame_51 : decode cX7_isSame 51 = .ok (.istore 4, 2) := by decide +kernel
theorem dX7_isSame_53 : decode cX7_isSame 53 = .ok (.iload 4, 2) := by decide +kernel
theorem dX7_isSame_55 : decode cX7_isSame 55 = .ok (.aload_n 0, 1) := by decide +kernel
theorem dX7_isSame_56 : decode cX7_isSame 56 = .ok (.getfield 20, 3) := by decide +kernel
theorem dX7_isSame_59 : decode cX7_isSame 59 = .ok (.iload_n 1, 1) := by decide +kernel
theorem dX7_isSame_60 : decode cX7_isSame 60 = .ok (.iaload, 1) := by decide +kernel
theorem dX7_isSame_61 : decode cX7_isSame 61 = .ok (.if_icmp .ge 38, 3) := by decide +kernel
theorem dX7_isSame_64 : decode cX7_isSame 64 = .ok (.aload_n 0, 1) := by decide +kernel
theorem dX7_isSame_65 : decode cX7_isSame 65 = .ok (.getfield 50, 3) := by decide +kernel
theorem dX7_isSame_68 : decode cX7_isSame 68 = .ok (.bipush 10, 2) := by decide +kernel
theorem dX7_isSame_70 : decode cX7_isSame 70 = .ok (.iload_n 1, 1) := by decide +kernel
theorem dX7_isSame_71 : decode cX7_isSame 71 = .ok (.imul, 1) := by decide +kernel
theorem dX7_isSame_72 : decode cX7_isSame 72 = .ok (.iload 4, 2) := by decide +kernel
theorem dX7_isSame_74 : decode cX7_isSame 74 = .ok (.iadd, 1) := by decide +kernel
theorem dX7_isSame_75 : decode cX7_isSame 75 = .ok (.caload, 1) := by decide +kernel
theorem dX7_isSame_76 : decode cX7_isSame 76 = .ok (.aload_n 0, 1) := by decide +kernel
theorem dX7_isSame_77 : decode cX7_isSame 77 = .ok (.getfield 50, 3) := by decide +kernel
theorem dX7_isSame_80 : decode cX7_isSame 80 = .ok (.bipush 10, 2) := by decide +kernel
theorem dX7_isSame_82 : decode cX7_isSame 82 = .ok (.iload_n 2, 1) := by decide +kernel
theorem dX7_isSame_83 : decode cX7_isSame 83 = .ok (.imul, 1) := by decide +kernel
theorem dX7_isSame_84 : decode cX7_isSame 84 = .ok (.iload 4, 2) := by decide +kernel
theorem dX7_isSame_86 : decode cX7_isSame 86 = .ok (.iadd, 1) := by decide +kernel
theorem dX7_isSame_87 : decode cX7_isSame 87 = .ok (.caload, 1) := by decide +kernel
theorem dX7_isSame_88 : decode cX7_isSame 88 = .ok (.if_icmp .eq 5, 3) := by decide +kernel
theorem dX7_isSame_91 : decode cX7_isSame 91 = .ok (.iconst 0, 1) := by decide +kernel
theorem dX7_isSame_92 : decode cX7_isSame 92 = .ok (.ireturn, 1) := by decide +kernel
theorem dX7_isSame_93 : decode cX7_isSame 93 = .ok (.iinc 4 1, 3) := by decide +kernel
theorem dX7_isSame_96 : decode cX7_isSame 96 = .ok (.goto (-43), 3) := by decide +kernel
theorem dX7_isSame_99 : decode cX7_isSame 99 = .ok (.iconst 1, 1) := by decide +kernel
theorem dX7_isSame_100 : decode cX7_isSame 100 = .ok (.ireturn, 1) := by decide +kernel
theorem dX7_scoreOf_0 : decode cX7_scoreOf 0 = .ok (.iconst 0, 1) := by decide +kernel
theorem dX7_scoreOf_1 : decode cX7_scoreOf 1 = .ok (.istore_n 3, 1) := by decide +kernel
theorem dX7_scoreOf_2 : decode cX7_scoreOf 2 = .ok (.iconst 0, 1) := by decide +kernel
theorem dX7_scoreOf_3 : decode cX7_scoreOf 3 = .ok (.istore 4, 2) := by decide +kernel
theorem dX7_scoreOf_5 : decode cX7_scoreOf 5 = .ok (.iload 4, 2) := by decide +kernel
theorem dX7_scoreOf_7 : decode cX7_scoreOf 7 = .ok (.iconst 4, 1) := by decide +kernel
theorem dX7_scoreOf_8 : decode cX7_scoreOf 8 = .ok (.if_icmp .ge 129, 3) := by decide +kernel
theorem dX7_scoreOf_11 : decode cX7_scoreOf 11 = .ok (.aload_n 0, 1) := by decide +kernel
theorem dX7_scoreOf_12 : decode cX7_scoreOf 12 = .ok (.iload_n 1, 1) := by decide +kernel
theorem dX7_scoreOf_13 : decode cX7_scoreOf 13 = .ok (.iload 4, 2) := by decide +kernel
theorem dX7_scoreOf_15 : decode cX7_scoreOf 15 = .ok (.invokevirtual 97, 3) := by decide +kernel
theorem dX7_scoreOf_18 : decode cX7_scoreOf 18 = .ok (.ifCond .eq 113, 3) := by decide +kernel
theorem dX7_scoreOf_21 : decode cX7_scoreOf 21 = .ok (.aload_n 0, 1) := by decide +kernel
theorem dX7_scoreOf_22 : decode cX7_scoreOf 22 = .ok (.iload_n 2, 1) := by decide +kernel
theorem dX7_scoreOf_23 : decode cX7_scoreOf 23 = .ok (.iload 4, 2) := by decide +kernel
theorem dX7_scoreOf_25 : decode cX7_scoreOf 25 = .ok (.invokevirtual 97, 3) := by decide +kernel
theorem dX7_scoreOf_28 : decode cX7_scoreOf 28 = .ok (.ifCond .ne 6, 3) := by decide +kernel
theorem dX7_scoreOf_31 : decode cX7_scoreOf 31 = .ok (.goto 100, 3) := by decide +kernel
theorem dX7_scoreOf_34 : decode cX7_scoreOf 34 = .ok (.aload_n 0, 1) := by decide +kernel
theorem dX7_scoreOf_35 : decode cX7_scoreOf 35 = .ok (.iload_n 1, 1) := by decide +kernel
theorem dX7_scoreOf_36 : decode cX7_scoreOf 36 = .ok (.iload_n 2, 1) := by decide +kernel
theorem dX7_scoreOf_37 : decode cX7_scoreOf 37 = .ok (.iload 4, 2) := by decide +kernel
theorem dX7_scoreOf_39 : decode cX7_scoreOf 39 = .ok (.invokevirtual 101, 3) := by decide +kernel
theorem dX7_scoreOf_42 : decode cX7_scoreOf 42 = .ok (.ifCond .eq 16, 3) := by decide +kernel
theorem dX7_scoreOf_45 : decode cX7_scoreOf 45 = .ok (.iload_n 3, 1) := by decide +kernel
theorem dX7_scoreOf_46 : decode cX7_scoreOf 46 = .ok (.aload_n 0, 1) := by decide +kernel
theorem dX7_scoreOf_47 : decode cX7_scoreOf 47 = .ok (.getfield 26, 3) := by decide +kernel
theorem dX7_scoreOf_50 : decode cX7_scoreOf 50 = .ok (.iload 4, 2) := by decide +kernel
theorem dX7_scoreOf_52 : decode cX7_scoreOf 52 = .ok (.iaload, 1) := by decide +kernel
theorem dX7_scoreOf_53 : decode cX7_scoreOf 53 = .ok (.iadd, 1) := by decide +kernel
theorem dX7_scoreOf_54 : decode cX7_scoreOf 54 = .ok (.istore_n 3, 1) := by decide +kernel
theorem dX7_scoreOf_55 : decode cX7_scoreOf 55 = .ok (.goto 76, 3) := by decide +kernel
theorem dX7_scoreOf_58 : decode cX7_scoreOf 58 = .ok (.iload 4, 2) := by decide +kernel
theorem dX7_scoreOf_60 : decode cX7_scoreOf 60 = .ok (.ifCond .ne 61, 3) := by decide +kernel
theorem dX7_scoreOf_63 : decode cX7_scoreOf 63 = .ok (.aload_n 0, 1) := by decide +kernel
theorem dX7_scoreOf_64 : decode cX7_scoreOf 64 = .ok (.iload_n 1, 1) := by decide +kernel
theorem dX7_scoreOf_65 : decode cX7_scoreOf 65 = .ok (.aload_n 0, 1) := by decide +kernel
theorem dX7_scoreOf_66 : decode cX7_scoreOf 66 = .ok (.getfield 20, 3) := by decide +kernel
theorem dX7_scoreOf_69 : decode cX7_scoreOf 69 = .ok (.iload_n 1, 1) := by decide +kernel
theorem dX7_scoreOf_70 : decode cX7_scoreOf 70 = .ok (.iaload, 1) := by decide +kernel
theorem dX7_scoreOf_71 : decode cX7_scoreOf 71 = .ok (.iload_n 2, 1) := by decide +kernel
theorem dX7_scoreOf_72 : decode cX7_scoreOf 72 = .ok (.aload_n 0, 1) := by decide +kernel
theorem dX7_scoreOf_73 : decode cX7_scoreOf 73 = .ok (.getfield 20, 3) := by decide +kernel
theorem dX7_scoreOf_76 : decode cX7_scoreOf 76 = .ok (.iload_n 2, 1) := by decide +kernel
theorem dX7_scoreOf_77 : decode cX7_scoreOf 77 = .ok (.iaload, 1) := by decide +kernel
theorem dX7_scoreOf_78 : decode cX7_scoreOf 78 = .ok (.invokevirtual 104, 3) := by decide +kernel
theorem dX7_scoreOf_81 : decode cX7_scoreOf 81 = .ok (.ifCond .eq 40, 3) := by decide +kernel
theorem dX7_scoreOf_84 : decode cX7_scoreOf 84 = .ok (.iload_n 3, 1) := by decide +kernel
theorem dX7_scoreOf_85 : decode cX7_scoreOf 85 = .ok (.aload_n 0, 1) := by decide +kernel
theorem dX7_scoreOf_86 : decode cX7_scoreOf 86 = .ok (.getfield 26, 3) := by decide +kernel
theorem dX7_scoreOf_89 : decode cX7_scoreOf 89 = .ok (.iconst 0, 1) := by decide +kernel
theorem dX7_scoreOf_90 : decode cX7_scoreOf 90 = .ok (.iaload, 1) := by decide +kernel
theorem dX7_scoreOf_91 : decode cX7_scoreOf 91 = .ok (.ifCond .ge 17, 3) := by decide +kernel
theorem dX7_scoreOf_94 : decode cX7_scoreOf 94 = .ok (.iconst 1, 1) := by decide +kernel
theorem dX7_scoreOf_95 : decode cX7_scoreOf 95 = .ok (.aload_n 0, 1) := by decide +kernel
theorem dX7_scoreOf_96 : decode cX7_scoreOf 96 = .ok (.getfield 26, 3) := by decide +kernel
theorem dX7_scoreOf_99 : decode cX7_scoreOf 99 = .ok (.iconst 0, 1) := by decide +kernel
theorem dX7_scoreOf_100 : decode cX7_scoreOf 100 = .ok (.iaload, 1) := by decide +kernel
theorem dX7_scoreOf_101 : decode cX7_scoreOf 101 = .ok (.isub, 1) := by decide +kernel
theorem dX7_scoreOf_102 : decode cX7_scoreOf 102 = .ok (.iconst 2, 1) := by decide +kernel
theorem dX7_scoreOf_103 : decode cX7_scoreOf 103 = .ok (.idiv, 1) := by decide +kernel
theorem dX7_scoreOf_104 : decode cX7_scoreOf 104 = .ok (.ineg, 1) := by decide +kernel
theorem dX7_scoreOf_105 : decode cX7_scoreOf 105 = .ok (.goto 11, 3) := by decide +kernel
theorem dX7_scoreOf_108 : decode cX7_scoreOf 108 = .ok (.aload_n 0, 1) := by decide +kernel
theorem dX7_scoreOf_109 : decode cX7_scoreOf 109 = .ok (.getfield 26, 3) := by decide +kernel
theorem dX7_scoreOf_112 : decode cX7_scoreOf 112 = .ok (.iconst 0, 1) := by decide +kernel
theorem dX7_scoreOf_113 : decode cX7_scoreOf 113 = .ok (.iaload, 1) := by decide +kernel
theorem dX7_scoreOf_114 : decode cX7_scoreOf 114 = .ok (.iconst 2, 1) := by decide +kernel
theorem dX7_scoreOf_115 : decode cX7_scoreOf 115 = .ok (.idiv, 1) := by decide +kernel
theorem dX7_scoreOf_116 : decode cX7_scoreOf 116 = .ok (.iadd, 1) := by decide +kernel
theorem dX7_scoreOf_117 : decode cX7_scoreOf 117 = .ok (.istore_n 3, 1) := by decide +kernel
theorem dX7_scoreOf_118 : decode cX7_scoreOf 118 = .ok (.goto 13, 3) := by decide +kernel
theorem dX7_scoreOf_121 : decode cX7_scoreOf 121 = .ok (.iload_n 3, 1) := by decide +kernel
theorem dX7_scoreOf_122 : decode cX7_scoreOf 122 = .ok (.aload_n 0, 1) := by decide +kernel
theorem dX7_scoreOf_123 : decode cX7_scoreOf 123 = .ok (.getfield 29, 3) := by decide +kernel
theorem dX7_scoreOf_126 : decode cX7_scoreOf 126 = .ok (.iload 4, 2) := by decide +kernel
theorem dX7_scoreOf_128 : decode cX7_scoreOf 128 = .ok (.iaload, 1) := by decide +kernel
theorem dX7_scoreOf_129 : decode cX7_scoreOf 129 = .ok (.iadd, 1) := by decide +kernel
theorem dX7_scoreOf_130 : decode cX7_scoreOf 130 = .ok (.istore_n 3, 1) := by decide +kernel
theorem dX7_scoreOf_131 : decode cX7_scoreOf 131 = .ok (.iinc 4 1, 3) := by decide +kernel
theorem dX7_scoreOf_134 : decode cX7_scoreOf 134 = .ok (.goto (-129), 3) := by decide +kernel
theorem dX7_scoreOf_137 : decode cX7_scoreOf 137 = .ok (.iload_n 3, 1) := by decide +kernel
theorem dX7_scoreOf_138 : decode cX7_scoreOf 138 = .ok (.ireturn, 1) := by decide +kernel
theorem dX7_score_0 : decode cX7_score 0 = .ok (.aload_n 0, 1) := by decide +kernel
theorem dX7_score_1 : decode cX7_score 1 = .ok (.iload_n 1, 1) := by decide +kernel
theorem dX7_score_2 : decode cX7_score 2 = .ok (.iload_n 2, 1) := by decide +kernel
theorem dX7_score_3 : decode cX7_score 3 = .ok (.invokevirtual 108, 3) := by decide +kernel
theorem dX7_score_6 : decode cX7_score 6 = .ok (.ifCond .eq 5, 3) := by decide +kernel
theorem dX7_score_9 : decode cX7_score 9 = .ok (.iconst 0, 1) := by decide +kernel
theorem dX7_score_10 : decode cX7_score 10 = .ok (.ireturn, 1) := by decide +kernel
theorem dX7_score_11 : decode cX7_score 11 = .ok (.iload_n 1, 1) := by decide +kernel
theorem dX7_score_12 : decode cX7_score 12 = .ok (.iload_n 2, 1) := by decide +kernel
theorem dX7_score_13 : decode cX7_score 13 = .ok (.if_icmp .ne 9, 3) := by decide +kernel
theorem dX7_score_16 : decode cX7_score 16 = .ok (.aload_n 0, 1) := by decide +kernel
theorem dX7_score_17 : decode cX7_score 17 = .ok (.iconst 2, 1) := by decide +kernel
theorem dX7_score_18 : decode cX7_score 18 = .ok (.invokevirtual 78, 3) := by decide +kernel
theorem dX7_score_21 : decode cX7_score 21 = .ok (.ireturn, 1) := by decide +kernel
theorem dX7_score_22 : decode cX7_score 22 = .ok (.aload_n 0, 1) := by decide +kernel
theorem dX7_score_23 : decode cX7_score 23 = .ok (.iload_n 1, 1) := by decide +kernel
theorem dX7_score_24 : decode cX7_score 24 = .ok (.iload_n 2, 1) := by decide +kernel
theorem dX7_score_25 : decode cX7_score 25 = .ok (.invokevirtual 111, 3) := by decide +kernel
theorem dX7_score_28 : decode cX7_score 28 = .ok (.ireturn, 1) := by decide +kernel
theorem dX7_gather_0 : decode cX7_gather 0 = .ok (.iconst 0, 1) := by decide +kernel
theorem dX7_gather_1 : decode cX7_gather 1 = .ok (.istore_n 1, 1) := by decide +kernel
theorem dX7_gather_2 : decode cX7_gather 2 = .ok (.iload_n 1, 1) := by decide +kernel
theorem dX7_gather_3 : decode cX7_gather 3 = .ok (.aload_n 0, 1) := by decide +kernel
theorem dX7_gather_4 : decode cX7_gather 4 = .ok (.getfield 67, 3) := by decide +kernel
theorem dX7_gather_7 : decode cX7_gather 7 = .ok (.if_icmp .ge 16, 3) := by decide +kernel
theorem dX7_gather_10 : decode cX7_gather 10 = .ok (.aload_n 0, 1) := by decide +kernel
theorem dX7_gather_11 : decode cX7_gather 11 = .ok (.getfield 38, 3) := by decide +kernel
theorem dX7_gather_14 : decode cX7_gather 14 = .ok (.iload_n 1, 1) := by decide +kernel
theorem dX7_gather_15 : decode cX7_gather 15 = .ok (.iload_n 1, 1) := by decide +kernel
theorem dX7_gather_16 : decode cX7_gather 16 = .ok (.iastore, 1) := by decide +kernel
theorem dX7_gather_17 : decode cX7_gather 17 = .ok (.iinc 1 1, 3) := by decide +kernel
theorem dX7_gather_20 : decode cX7_gather 20 = .ok (.goto (-18), 3) := by decide +kernel
theorem dX7_gather_23 : decode cX7_gather 23 = .ok (.iconst 1, 1) := by decide +kernel
theorem dX7_gather_24 : decode cX7_gather 24 = .ok (.istore_n 1, 1) := by decide +kernel
theorem dX7_gather_25 : decode cX7_gather 25 = .ok (.iload_n 1, 1) := by decide +kernel
theorem dX7_gather_26 : decode cX7_gather 26 = .ok (.ifCond .eq 138, 3) := by decide +kernel
theorem dX7_gather_29 : decode cX7_gather 29 = .ok (.iconst 0, 1) := by decide +kernel
theorem dX7_gather_30 : decode cX7_gather 30 = .ok (.istore_n 1, 1) := by decide +kernel
theorem dX7_gather_31 : decode cX7_gather 31 = .ok (.iconst 0, 1) := by decide +kernel
theorem dX7_gather_32 : decode cX7_gather 32 = .ok (.istore_n 2, 1) := by decide +kernel
theorem dX7_gather_33 : decode cX7_gather 33 = .ok (.iload_n 2, 1) := by decide +kernel
theorem dX7_gather_34 : decode cX7_gather 34 = .ok (.aload_n 0, 1) := by decide +kernel
theorem dX7_gather_35 : decode cX7_gather 35 = .ok (.getfield 115, 3) := by decide +kernel
theorem dX7_gather_38 : decode cX7_gather 38 = .ok (.if_icmp .ge 123, 3) := by decide +kernel
theorem dX7_gather_41 : decode cX7_gather 41 = .ok (.aload_n 0, 1) := by decide +kernel
theorem dX7_gather_42 : decode cX7_gather 42 = .ok (.getfield 54, 3) := by decide +kernel
theorem dX7_gather_45 : decode cX7_gather 45 = .ok (.iload_n 2, 1) := by decide +kernel
theorem dX7_gather_46 : decode cX7_gather 46 = .ok (.baload, 1) := by decide +kernel
theorem dX7_gather_47 : decode cX7_gather 47 = .ok (.ifCond .eq 108, 3) := by decide +kernel
theorem dX7_gather_50 : decode cX7_gather 50 = .ok (.aload_n 0, 1) := by decide +kernel
theorem dX7_gather_51 : decode cX7_gather 51 = .ok (.getfield 38, 3) := by decide +kernel
theorem dX7_gather_54 : decode cX7_gather 54 = .ok (.aload_n 0, 1) := by decide +kernel
theorem dX7_gather_55 : decode cX7_gather 55 = .ok (.getfield 32, 3) := by decide +kernel
theorem dX7_gather_58 : decode cX7_gather 58 = .ok (.iload_n 2, 1) := by decide +kernel
theorem dX7_gather_59 : decode cX7_gather 59 = .ok (.iaload, 1) := by decide +kernel
theorem dX7_gather_60 : decode cX7_gather 60 = .ok (.iaload, 1) := by decide +kernel
theorem dX7_gather_61 : decode cX7_gather 61 = .ok (.aload_n 0, 1) := by decide +kernel
theorem dX7_gather_62 : decode cX7_gather 62 = .ok (.getfield 38, 3) := by decide +kernel
theorem dX7_gather_65 : decode cX7_gather 65 = .ok (.aload_n 0, 1) := by decide +kernel
theorem dX7_gather_66 : decode cX7_gather 66 = .ok (.getfield 35, 3) := by decide +kernel
theorem dX7_gather_69 : decode cX7_gather 69 = .ok (.iload_n 2, 1) := by decide +kernel
theorem dX7_gather_70 : decode cX7_gather 70 = .ok (.iaload, 1) := by decide +kernel
theorem dX7_gather_71 : decode cX7_gather 71 = .ok (.iaload, 1) := by decide +kernel
theorem dX7_gather_72 : decode cX7_gather 72 = .ok (.if_icmp .ne 6, 3) := by decide +kernel
theorem dX7_gather_75 : decode cX7_gather 75 = .ok (.goto 80, 3) := by decide +kernel
theorem dX7_gather_78 : decode cX7_gather 78 = .ok (.aload_n 0, 1) := by decide +kernel
theorem dX7_gather_79 : decode cX7_gather 79 = .ok (.getfield 38, 3) := by decide +kernel
theorem dX7_gather_82 : decode cX7_gather 82 = .ok (.aload_n 0, 1) := by decide +kernel
theorem dX7_gather_83 : decode cX7_gather 83 = .ok (.getfield 32, 3) := by decide +kernel
theorem dX7_gather_86 : decode cX7_gather 86 = .ok (.iload_n 2, 1) := by decide +kernel
theorem dX7_gather_87 : decode cX7_gather 87 = .ok (.iaload, 1) := by decide +kernel
theorem dX7_gather_88 : decode cX7_gather 88 = .ok (.iaload, 1) := by decide +kernel
theorem dX7_gather_89 : decode cX7_gather 89 = .ok (.aload_n 0, 1) := by decide +kernel
theorem dX7_gather_90 : decode cX7_gather 90 = .ok (.getfield 38, 3) := by decide +kernel
theorem dX7_gather_93 : decode cX7_gather 93 = .ok (.aload_n 0, 1) := by decide +kernel
theorem dX7_gather_94 : decode cX7_gather 94 = .ok (.getfield 35, 3) := by decide +kernel
theorem dX7_gather_97 : decode cX7_gather 97 = .ok (.iload_n 2, 1) := by decide +kernel
theorem dX7_gather_98 : decode cX7_gather 98 = .ok (.iaload, 1) := by decide +kernel
theorem dX7_gather_99 : decode cX7_gather 99 = .ok (.iaload, 1) := by decide +kernel
theorem dX7_gather_100 : decode cX7_gather 100 = .ok (.if_icmp .ge 17, 3) := by decide +kernel
theorem dX7_gather_103 : decode cX7_gather 103 = .ok (.aload_n 0, 1) := by decide +kernel
theorem dX7_gather_104 : decode cX7_gather 104 = .ok (.getfield 38, 3) := by decide +kernel
theorem dX7_gather_107 : decode cX7_gather 107 = .ok (.aload_n 0, 1) := by decide +kernel
theorem dX7_gather_108 : decode cX7_gather 108 = .ok (.getfield 32, 3) := by decide +kernel
theorem dX7_gather_111 : decode cX7_gather 111 = .ok (.iload_n 2, 1) := by decide +kernel
theorem dX7_gather_112 : decode cX7_gather 112 = .ok (.iaload, 1) := by decide +kernel
theorem dX7_gather_113 : decode cX7_gather 113 = .ok (.iaload, 1) := by decide +kernel
theorem dX7_gather_114 : decode cX7_gather 114 = .ok (.goto 14, 3) := by decide +kernel
theorem dX7_gather_117 : decode cX7_gather 117 = .ok (.aload_n 0, 1) := by decide +kernel
theorem dX7_gather_118 : decode cX7_gather 118 = .ok (.getfield 38, 3) := by decide +kernel
theorem dX7_gather_121 : decode cX7_gather 121 = .ok (.aload_n 0, 1) := by decide +kernel
theorem dX7_gather_122 : decode cX7_gather 122 = .ok (.getfield 35, 3) := by decide +kernel
theorem dX7_gather_125 : decode cX7_gather 125 = .ok (.iload_n 2, 1) := by decide +kernel
theorem dX7_gather_126 : decode cX7_gather 126 = .ok (.iaload, 1) := by decide +kernel
theorem dX7_gather_127 : decode cX7_gather 127 = .ok (.iaload, 1) := by decide +kernel
theorem dX7_gather_128 : decode cX7_gather 128 = .ok (.istore_n 3, 1) := by decide +kernel
theorem dX7_gather_129 : decode cX7_gather 129 = .ok (.aload_n 0, 1) := by decide +kernel
theorem dX7_gather_130 : decode cX7_gather 130 = .ok (.getfield 38, 3) := by decide +kernel
theorem dX7_gather_133 : decode cX7_gather 133 = .ok (.aload_n 0, 1) := by decide +kernel
theorem dX7_gather_134 : decode cX7_gather 134 = .ok (.getfield 32, 3) := by decide +kernel
theorem dX7_gather_137 : decode cX7_gather 137 = .ok (.iload_n 2, 1) := by decide +kernel
theorem dX7_gather_138 : decode cX7_gather 138 = .ok (.iaload, 1) := by decide +kernel
theorem dX7_gather_139 : decode cX7_gather 139 = .ok (.iload_n 3, 1) := by decide +kernel
theorem dX7_gather_140 : decode cX7_gather 140 = .ok (.iastore, 1) := by decide +kernel
theorem dX7_gather_141 : decode cX7_gather 141 = .ok (.aload_n 0, 1) := by decide +kernel
theorem dX7_gather_142 : decode cX7_gather 142 = .ok (.getfield 38, 3) := by decide +kernel
theorem dX7_gather_145 : decode cX7_gather 145 = .ok (.aload_n 0, 1) := by decide +kernel
theorem dX7_gather_146 : decode cX7_gather 146 = .ok (.getfield 35, 3) := by decide +kernel
theorem dX7_gather_149 : decode cX7_gather 149 = .ok (.iload_n 2, 1) := by decide +kernel
theorem dX7_gather_150 : decode cX7_gather 150 = .ok (.iaload, 1) := by decide +kernel
theorem dX7_gather_151 : decode cX7_gather 151 = .ok (.iload_n 3, 1) := by decide +kernel
theorem dX7_gather_152 : decode cX7_gather 152 = .ok (.iastore, 1) := by decide +kernel
theorem dX7_gather_153 : decode cX7_gather 153 = .ok (.iconst 1, 1) := by decide +kernel
theorem dX7_gather_154 : decode cX7_gather 154 = .ok (.istore_n 1, 1) := by decide +kernel
theorem dX7_gather_155 : decode cX7_gather 155 = .ok (.iinc 2 1, 3) := by decide +kernel
theorem dX7_gather_158 : decode cX7_gather 158 = .ok (.goto (-125), 3) := by decide +kernel
theorem dX7_gather_161 : decode cX7_gather 161 = .ok (.goto (-136), 3) := by decide +kernel
theorem dX7_gather_164 : decode cX7_gather 164 = .ok (.return_, 1) := by decide +kernel
theorem dX7_isPair_0 : decode cX7_isPair 0 = .ok (.aload_n 0, 1) := by decide +kernel
theorem dX7_isPair_1 : decode cX7_isPair 1 = .ok (.getfield 58, 3) := by decide +kernel
theorem dX7_isPair_4 : decode cX7_isPair 4 = .ok (.bipush 16, 2) := by decide +kernel
theorem dX7_isPair_6 : decode cX7_isPair 6 = .ok (.iload_n 1, 1) := by decide +kernel
theorem dX7_isPair_7 : decode cX7_isPair 7 = .ok (.imul, 1) := by decide +kernel
theorem dX7_isPair_8 : decode cX7_isPair 8 = .ok (.iload_n 2, 1) := by decide +kernel
theorem dX7_isPair_9 : decode cX7_isPair 9 = .ok (.iadd, 1) := by decide +kernel
theorem dX7_isPair_10 : decode cX7_isPair 10 = .ok (.baload, 1) := by decide +kernel
theorem dX7_isPair_11 : decode cX7_isPair 11 = .ok (.ireturn, 1) := by decide +kernel
theorem dX7_isBarred_0 : decode cX7_isBarred 0 = .ok (.iconst 0, 1) := by decide +kernel
theorem dX7_isBarred_1 : decode cX7_isBarred 1 = .ok (.istore_n 3, 1) := by decide +kernel
theorem dX7_isBarred_2 : decode cX7_isBarred 2 = .ok (.iload_n 3, 1) := by decide +kernel
theorem dX7_isBarred_3 : decode cX7_isBarred 3 = .ok (.aload_n 0, 1) := by decide +kernel
theorem dX7_isBarred_4 : decode cX7_isBarred 4 = .ok (.getfield 67, 3) := by decide +kernel
theorem dX7_isBarred_7 : decode cX7_isBarred 7 = .ok (.if_icmp .ge 74, 3) := by decide +kernel
theorem dX7_isBarred_10 : decode cX7_isBarred 10 = .ok (.iconst 0, 1) := by decide +kernel
theorem dX7_isBarred_11 : decode cX7_isBarred 11 = .ok (.istore 4, 2) := by decide +kernel
theorem dX7_isBarred_13 : decode cX7_isBarred 13 = .ok (.iload 4, 2) := by decide +kernel
theorem dX7_isBarred_15 : decode cX7_isBarred 15 = .ok (.aload_n 0, 1) := by decide +kernel
theorem dX7_isBarred_16 : decode cX7_isBarred 16 = .ok (.getfield 67, 3) := by decide +kernel
theorem dX7_isBarred_19 : decode cX7_isBarred 19 = .ok (.if_icmp .ge 56, 3) := by decide +kernel
theorem dX7_isBarred_22 : decode cX7_isBarred 22 = .ok (.aload_n 0, 1) := by decide +kernel
theorem dX7_isBarred_23 : decode cX7_isBarred 23 = .ok (.getfield 38, 3) := by decide +kernel
theorem dX7_isBarred_26 : decode cX7_isBarred 26 = .ok (.iload_n 3, 1) := by decide +kernel
theorem dX7_isBarred_27 : decode cX7_isBarred 27 = .ok (.iaload, 1) := by decide +kernel
theorem dX7_isBarred_28 : decode cX7_isBarred 28 = .ok (.iload_n 1, 1) := by decide +kernel
theorem dX7_isBarred_29 : decode cX7_isBarred 29 = .ok (.if_icmp .ne 40, 3) := by decide +kernel
theorem dX7_isBarred_32 : decode cX7_isBarred 32 = .ok (.aload_n 0, 1) := by decide +kernel
theorem dX7_isBarred_33 : decode cX7_isBarred 33 = .ok (.getfield 38, 3) := by decide +kernel
theorem dX7_isBarred_36 : decode cX7_isBarred 36 = .ok (.iload 4, 2) := by decide +kernel
theorem dX7_isBarred_38 : decode cX7_isBarred 38 = .ok (.iaload, 1) := by decide +kernel
theorem dX7_isBarred_39 : decode cX7_isBarred 39 = .ok (.iload_n 2, 1) := by decide +kernel
theorem dX7_isBarred_40 : decode cX7_isBarred 40 = .ok (.if_icmp .ne 29, 3) := by decide +kernel
theorem dX7_isBarred_43 : decode cX7_isBarred 43 = .ok (.aload_n 0, 1) := by decide +kernel
theorem dX7_isBarred_44 : decode cX7_isBarred 44 = .ok (.iload_n 3, 1) := by decide +kernel
theorem dX7_isBarred_45 : decode cX7_isBarred 45 = .ok (.iload 4, 2) := by decide +kernel
theorem dX7_isBarred_47 : decode cX7_isBarred 47 = .ok (.invokevirtual 118, 3) := by decide +kernel
theorem dX7_isBarred_50 : decode cX7_isBarred 50 = .ok (.ifCond .ne 6, 3) := by decide +kernel
theorem dX7_isBarred_53 : decode cX7_isBarred 53 = .ok (.goto 16, 3) := by decide +kernel
theorem dX7_isBarred_56 : decode cX7_isBarred 56 = .ok (.aload_n 0, 1) := by decide +kernel
theorem dX7_isBarred_57 : decode cX7_isBarred 57 = .ok (.iload_n 3, 1) := by decide +kernel
theorem dX7_isBarred_58 : decode cX7_isBarred 58 = .ok (.putfield 121, 3) := by decide +kernel
theorem dX7_isBarred_61 : decode cX7_isBarred 61 = .ok (.aload_n 0, 1) := by decide +kernel
theorem dX7_isBarred_62 : decode cX7_isBarred 62 = .ok (.iload 4, 2) := by decide +kernel
theorem dX7_isBarred_64 : decode cX7_isBarred 64 = .ok (.putfield 124, 3) := by decide +kernel
theorem dX7_isBarred_67 : decode cX7_isBarred 67 = .ok (.iconst 1, 1) := by decide +kernel
theorem dX7_isBarred_68 : decode cX7_isBarred 68 = .ok (.ireturn, 1) := by decide +kernel
theorem dX7_isBarred_69 : decode cX7_isBarred 69 = .ok (.iinc 4 1, 3) := by decide +kernel
theorem dX7_isBarred_72 : decode cX7_isBarred 72 = .ok (.goto (-59), 3) := by decide +kernel
theorem dX7_isBarred_75 : decode cX7_isBarred 75 = .ok (.iinc 3 1, 3) := by decide +kernel
theorem dX7_isBarred_78 : decode cX7_isBarred 78 = .ok (.goto (-76), 3) := by decide +kernel
theorem dX7_isBarred_81 : decode cX7_isBarred 81 = .ok (.iconst 0, 1) := by decide +kernel
theorem dX7_isBarred_82 : decode cX7_isBarred 82 = .ok (.ireturn, 1) := by decide +kernel
theorem dX7_areCandidates_0 : decode cX7_areCandidates 0 = .ok (.aload_n 0, 1) := by decide +kernel
theorem dX7_areCandidates_1 : decode cX7_areCandidates 1 = .ok (.getfield 38, 3) := by decide +kernel
theorem dX7_areCandidates_4 : decode cX7_areCandidates 4 = .ok (.iload_n 1, 1) := by decide +kernel
theorem dX7_areCandidates_5 : decode cX7_areCandidates 5 = .ok (.iaload, 1) := by decide +kernel
theorem dX7_areCandidates_6 : decode cX7_areCandidates 6 = .ok (.aload_n 0, 1) := by decide +kernel
theorem dX7_areCandidates_7 : decode cX7_areCandidates 7 = .ok (.getfield 38, 3) := by decide +kernel
theorem dX7_areCandidates_10 : decode cX7_areCandidates 10 = .ok (.iload_n 2, 1) := by decide +kernel
theorem dX7_areCandidates_11 : decode cX7_areCandidates 11 = .ok (.iaload, 1) := by decide +kernel
theorem dX7_areCandidates_12 : decode cX7_areCandidates 12 = .ok (.if_icmp .ne 5, 3) := by decide +kernel
theorem dX7_areCandidates_15 : decode cX7_areCandidates 15 = .ok (.iconst 0, 1) := by decide +kernel
theorem dX7_areCandidates_16 : decode cX7_areCandidates 16 = .ok (.ireturn, 1) := by decide +kernel
theorem dX7_areCandidates_17 : decode cX7_areCandidates 17 = .ok (.aload_n 0, 1) := by decide +kernel
theorem dX7_areCandidates_18 : decode cX7_areCandidates 18 = .ok (.iload_n 1, 1) := by decide +kernel
theorem dX7_areCandidates_19 : decode cX7_areCandidates 19 = .ok (.aload_n 0, 1) := by decide +kernel
theorem dX7_areCandidates_20 : decode cX7_areCandidates 20 = .ok (.getfield 20, 3) := by decide +kernel
theorem dX7_areCandidates_23 : decode cX7_areCandidates 23 = .ok (.iload_n 1, 1) := by decide +kernel
theorem dX7_areCandidates_24 : decode cX7_areCandidates 24 = .ok (.iaload, 1) := by decide +kernel
theorem dX7_areCandidates_25 : decode cX7_areCandidates 25 = .ok (.iload_n 2, 1) := by decide +kernel
theorem dX7_areCandidates_26 : decode cX7_areCandidates 26 = .ok (.aload_n 0, 1) := by decide +kernel
theorem dX7_areCandidates_27 : decode cX7_areCandidates 27 = .ok (.getfield 20, 3) := by decide +kernel
theorem dX7_areCandidates_30 : decode cX7_areCandidates 30 = .ok (.iload_n 2, 1) := by decide +kernel
theorem dX7_areCandidates_31 : decode cX7_areCandidates 31 = .ok (.iaload, 1) := by decide +kernel
theorem dX7_areCandidates_32 : decode cX7_areCandidates 32 = .ok (.invokevirtual 104, 3) := by decide +kernel
theorem dX7_areCandidates_35 : decode cX7_areCandidates 35 = .ok (.istore_n 3, 1) := by decide +kernel
theorem dX7_areCandidates_36 : decode cX7_areCandidates 36 = .ok (.iconst 1, 1) := by decide +kernel
theorem dX7_areCandidates_37 : decode cX7_areCandidates 37 = .ok (.istore 4, 2) := by decide +kernel
theorem dX7_areCandidates_39 : decode cX7_areCandidates 39 = .ok (.iload 4, 2) := by decide +kernel
theorem dX7_areCandidates_41 : decode cX7_areCandidates 41 = .ok (.iconst 3, 1) := by decide +kernel
theorem dX7_areCandidates_42 : decode cX7_areCandidates 42 = .ok (.if_icmp .ge 48, 3) := by decide +kernel
theorem dX7_areCandidates_45 : decode cX7_areCandidates 45 = .ok (.iload_n 3, 1) := by decide +kernel
theorem dX7_areCandidates_46 : decode cX7_areCandidates 46 = .ok (.aload_n 0, 1) := by decide +kernel
theorem dX7_areCandidates_47 : decode cX7_areCandidates 47 = .ok (.iload_n 1, 1) := by decide +kernel
theorem dX7_areCandidates_48 : decode cX7_areCandidates 48 = .ok (.iload 4, 2) := by decide +kernel
theorem dX7_areCandidates_50 : decode cX7_areCandidates 50 = .ok (.invokevirtual 97, 3) := by decide +kernel
theorem dX7_areCandidates_53 : decode cX7_areCandidates 53 = .ok (.ifCond .eq 28, 3) := by decide +kernel
theorem dX7_areCandidates_56 : decode cX7_areCandidates 56 = .ok (.aload_n 0, 1) := by decide +kernel
theorem dX7_areCandidates_57 : decode cX7_areCandidates 57 = .ok (.iload_n 2, 1) := by decide +kernel
theorem dX7_areCandidates_58 : decode cX7_areCandidates 58 = .ok (.iload 4, 2) := by decide +kernel
theorem dX7_areCandidates_60 : decode cX7_areCandidates 60 = .ok (.invokevirtual 97, 3) := by decide +kernel
theorem dX7_areCandidates_63 : decode cX7_areCandidates 63 = .ok (.ifCond .eq 18, 3) := by decide +kernel
theorem dX7_areCandidates_66 : decode cX7_areCandidates 66 = .ok (.aload_n 0, 1) := by decide +kernel
theorem dX7_areCandidates_67 : decode cX7_areCandidates 67 = .ok (.iload_n 1, 1) := by decide +kernel
theorem dX7_areCandidates_68 : decode cX7_areCandidates 68 = .ok (.iload_n 2, 1) := by decide +kernel
theorem dX7_areCandidates_69 : decode cX7_areCandidates 69 = .ok (.iload 4, 2) := by decide +kernel
theorem dX7_areCandidates_71 : decode cX7_areCandidates 71 = .ok (.invokevirtual 101, 3) := by decide +kernel
theorem dX7_areCandidates_74 : decode cX7_areCandidates 74 = .ok (.ifCond .eq 7, 3) := by decide +kernel
theorem dX7_areCandidates_77 : decode cX7_areCandidates 77 = .ok (.iconst 1, 1) := by decide +kernel
theorem dX7_areCandidates_78 : decode cX7_areCandidates 78 = .ok (.goto 4, 3) := by decide +kernel
theorem dX7_areCandidates_81 : decode cX7_areCandidates 81 = .ok (.iconst 0, 1) := by decide +kernel
theorem dX7_areCandidates_82 : decode cX7_areCandidates 82 = .ok (.ior, 1) := by decide +kernel
theorem dX7_areCandidates_83 : decode cX7_areCandidates 83 = .ok (.istore_n 3, 1) := by decide +kernel
theorem dX7_areCandidates_84 : decode cX7_areCandidates 84 = .ok (.iinc 4 1, 3) := by decide +kernel
theorem dX7_areCandidates_87 : decode cX7_areCandidates 87 = .ok (.goto (-48), 3) := by decide +kernel
theorem dX7_areCandidates_90 : decode cX7_areCandidates 90 = .ok (.iload_n 3, 1) := by decide +kernel
theorem dX7_areCandidates_91 : decode cX7_areCandidates 91 = .ok (.ifCond .eq 39, 3) := by decide +kernel
theorem dX7_areCandidates_94 : decode cX7_areCandidates 94 = .ok (.aload_n 0, 1) := by decide +kernel
theorem dX7_areCandidates_95 : decode cX7_areCandidates 95 = .ok (.iload_n 1, 1) := by decide +kernel
theorem dX7_areCandidates_96 : decode cX7_areCandidates 96 = .ok (.iload_n 2, 1) := by decide +kernel
theorem dX7_areCandidates_97 : decode cX7_areCandidates 97 = .ok (.invokevirtual 111, 3) := by decide +kernel
theorem dX7_areCandidates_100 : decode cX7_areCandidates 100 = .ok (.aload_n 0, 1) := by decide +kernel
theorem dX7_areCandidates_101 : decode cX7_areCandidates 101 = .ok (.getfield 7, 3) := by decide +kernel
theorem dX7_areCandidates_104 : decode cX7_areCandidates 104 = .ok (.if_icmp .lt 26, 3) := by decide +kernel
theorem dX7_areCandidates_107 : decode cX7_areCandidates 107 = .ok (.aload_n 0, 1) := by decide +kernel
theorem dX7_areCandidates_108 : decode cX7_areCandidates 108 = .ok (.aload_n 0, 1) := by decide +kernel
theorem dX7_areCandidates_109 : decode cX7_areCandidates 109 = .ok (.getfield 38, 3) := by decide +kernel
theorem dX7_areCandidates_112 : decode cX7_areCandidates 112 = .ok (.iload_n 1, 1) := by decide +kernel
theorem dX7_areCandidates_113 : decode cX7_areCandidates 113 = .ok (.iaload, 1) := by decide +kernel
theorem dX7_areCandidates_114 : decode cX7_areCandidates 114 = .ok (.aload_n 0, 1) := by decide +kernel
theorem dX7_areCandidates_115 : decode cX7_areCandidates 115 = .ok (.getfield 38, 3) := by decide +kernel
theorem dX7_areCandidates_118 : decode cX7_areCandidates 118 = .ok (.iload_n 2, 1) := by decide +kernel
theorem dX7_areCandidates_119 : decode cX7_areCandidates 119 = .ok (.iaload, 1) := by decide +kernel
theorem dX7_areCandidates_120 : decode cX7_areCandidates 120 = .ok (.invokevirtual 127, 3) := by decide +kernel
theorem dX7_areCandidates_123 : decode cX7_areCandidates 123 = .ok (.ifCond .ne 7, 3) := by decide +kernel
theorem dX7_areCandidates_126 : decode cX7_areCandidates 126 = .ok (.iconst 1, 1) := by decide +kernel
theorem dX7_areCandidates_127 : decode cX7_areCandidates 127 = .ok (.goto 4, 3) := by decide +kernel
theorem dX7_areCandidates_130 : decode cX7_areCandidates 130 = .ok (.iconst 0, 1) := by decide +kernel
theorem dX7_areCandidates_131 : decode cX7_areCandidates 131 = .ok (.ireturn, 1) := by decide +kernel
theorem dX7_candidates_0 : decode cX7_candidates 0 = .ok (.aload_n 0, 1) := by decide +kernel
theorem dX7_candidates_1 : decode cX7_candidates 1 = .ok (.invokevirtual 130, 3) := by decide +kernel
theorem dX7_candidates_4 : decode cX7_candidates 4 = .ok (.iconst 0, 1) := by decide +kernel
theorem dX7_candidates_5 : decode cX7_candidates 5 = .ok (.istore_n 1, 1) := by decide +kernel
theorem dX7_candidates_6 : decode cX7_candidates 6 = .ok (.iconst 0, 1) := by decide +kernel
theorem dX7_candidates_7 : decode cX7_candidates 7 = .ok (.istore_n 2, 1) := by decide +kernel
theorem dX7_candidates_8 : decode cX7_candidates 8 = .ok (.iload_n 2, 1) := by decide +kernel
theorem dX7_candidates_9 : decode cX7_candidates 9 = .ok (.aload_n 0, 1) := by decide +kernel
theorem dX7_candidates_10 : decode cX7_candidates 10 = .ok (.getfield 67, 3) := by decide +kernel
theorem dX7_candidates_13 : decode cX7_candidates 13 = .ok (.if_icmp .ge 44, 3) := by decide +kernel
theorem dX7_candidates_16 : decode cX7_candidates 16 = .ok (.iload_n 2, 1) := by decide +kernel
theorem dX7_candidates_17 : decode cX7_candidates 17 = .ok (.iconst 1, 1) := by decide +kernel
theorem dX7_candidates_18 : decode cX7_candidates 18 = .ok (.iadd, 1) := by decide +kernel
theorem dX7_candidates_19 : decode cX7_candidates 19 = .ok (.istore_n 3, 1) := by decide +kernel
theorem dX7_candidates_20 : decode cX7_candidates 20 = .ok (.iload_n 3, 1) := by decide +kernel
theorem dX7_candidates_21 : decode cX7_candidates 21 = .ok (.aload_n 0, 1) := by decide +kernel
theorem dX7_candidates_22 : decode cX7_candidates 22 = .ok (.getfield 67, 3) := by decide +kernel
theorem dX7_candidates_25 : decode cX7_candidates 25 = .ok (.if_icmp .ge 26, 3) := by decide +kernel
theorem dX7_candidates_28 : decode cX7_candidates 28 = .ok (.iload_n 1, 1) := by decide +kernel
theorem dX7_candidates_29 : decode cX7_candidates 29 = .ok (.aload_n 0, 1) := by decide +kernel
theorem dX7_candidates_30 : decode cX7_candidates 30 = .ok (.iload_n 2, 1) := by decide +kernel
theorem dX7_candidates_31 : decode cX7_candidates 31 = .ok (.iload_n 3, 1) := by decide +kernel
theorem dX7_candidates_32 : decode cX7_candidates 32 = .ok (.invokevirtual 133, 3) := by decide +kernel
theorem dX7_candidates_35 : decode cX7_candidates 35 = .ok (.ifCond .eq 7, 3) := by decide +kernel
theorem dX7_candidates_38 : decode cX7_candidates 38 = .ok (.iconst 1, 1) := by decide +kernel
theorem dX7_candidates_39 : decode cX7_candidates 39 = .ok (.goto 4, 3) := by decide +kernel
theorem dX7_candidates_42 : decode cX7_candidates 42 = .ok (.iconst 0, 1) := by decide +kernel
theorem dX7_candidates_43 : decode cX7_candidates 43 = .ok (.iadd, 1) := by decide +kernel
theorem dX7_candidates_44 : decode cX7_candidates 44 = .ok (.istore_n 1, 1) := by decide +kernel
theorem dX7_candidates_45 : decode cX7_candidates 45 = .ok (.iinc 3 1, 3) := by decide +kernel
theorem dX7_candidates_48 : decode cX7_candidates 48 = .ok (.goto (-28), 3) := by decide +kernel
theorem dX7_candidates_51 : decode cX7_candidates 51 = .ok (.iinc 2 1, 3) := by decide +kernel
theorem dX7_candidates_54 : decode cX7_candidates 54 = .ok (.goto (-46), 3) := by decide +kernel
theorem dX7_candidates_57 : decode cX7_candidates 57 = .ok (.iload_n 1, 1) := by decide +kernel
theorem dX7_candidates_58 : decode cX7_candidates 58 = .ok (.ireturn, 1) := by decide +kernel
theorem dX7_noBest_0 : decode cX7_noBest 0 = .ok (.aload_n 0, 1) := by decide +kernel
theorem dX7_noBest_1 : decode cX7_noBest 1 = .ok (.invokevirtual 130, 3) := by decide +kernel
theorem dX7_noBest_4 : decode cX7_noBest 4 = .ok (.iconst (-1), 1) := by decide +kernel
theorem dX7_noBest_5 : decode cX7_noBest 5 = .ok (.istore_n 1, 1) := by decide +kernel
theorem dX7_noBest_6 : decode cX7_noBest 6 = .ok (.iconst (-1), 1) := by decide +kernel
theorem dX7_noBest_7 : decode cX7_noBest 7 = .ok (.istore_n 2, 1) := by decide +kernel
theorem dX7_noBest_8 : decode cX7_noBest 8 = .ok (.iconst 0, 1) := by decide +kernel
theorem dX7_noBest_9 : decode cX7_noBest 9 = .ok (.istore_n 3, 1) := by decide +kernel
theorem dX7_noBest_10 : decode cX7_noBest 10 = .ok (.iload_n 3, 1) := by decide +kernel
theorem dX7_noBest_11 : decode cX7_noBest 11 = .ok (.aload_n 0, 1) := by decide +kernel
theorem dX7_noBest_12 : decode cX7_noBest 12 = .ok (.getfield 67, 3) := by decide +kernel
theorem dX7_noBest_15 : decode cX7_noBest 15 = .ok (.if_icmp .ge 67, 3) := by decide +kernel
theorem dX7_noBest_18 : decode cX7_noBest 18 = .ok (.iload_n 3, 1) := by decide +kernel
theorem dX7_noBest_19 : decode cX7_noBest 19 = .ok (.iconst 1, 1) := by decide +kernel
theorem dX7_noBest_20 : decode cX7_noBest 20 = .ok (.iadd, 1) := by decide +kernel
theorem dX7_noBest_21 : decode cX7_noBest 21 = .ok (.istore 4, 2) := by decide +kernel
theorem dX7_noBest_23 : decode cX7_noBest 23 = .ok (.iload 4, 2) := by decide +kernel
theorem dX7_noBest_25 : decode cX7_noBest 25 = .ok (.aload_n 0, 1) := by decide +kernel
theorem dX7_noBest_26 : decode cX7_noBest 26 = .ok (.getfield 67, 3) := by decide +kernel
theorem dX7_noBest_29 : decode cX7_noBest 29 = .ok (.if_icmp .ge 47, 3) := by decide +kernel
theorem dX7_noBest_32 : decode cX7_noBest 32 = .ok (.aload_n 0, 1) := by decide +kernel
theorem dX7_noBest_33 : decode cX7_noBest 33 = .ok (.iload_n 3, 1) := by decide +kernel
theorem dX7_noBest_34 : decode cX7_noBest 34 = .ok (.iload 4, 2) := by decide +kernel
theorem dX7_noBest_36 : decode cX7_noBest 36 = .ok (.invokevirtual 133, 3) := by decide +kernel
theorem dX7_noBest_39 : decode cX7_noBest 39 = .ok (.ifCond .eq 31, 3) := by decide +kernel
theorem dX7_noBest_42 : decode cX7_noBest 42 = .ok (.iload_n 1, 1) := by decide +kernel
theorem dX7_noBest_43 : decode cX7_noBest 43 = .ok (.ifCond .lt 22, 3) := by decide +kernel
theorem dX7_noBest_46 : decode cX7_noBest 46 = .ok (.aload_n 0, 1) := by decide +kernel
theorem dX7_noBest_47 : decode cX7_noBest 47 = .ok (.iload_n 3, 1) := by decide +kernel
theorem dX7_noBest_48 : decode cX7_noBest 48 = .ok (.iload 4, 2) := by decide +kernel
theorem dX7_noBest_50 : decode cX7_noBest 50 = .ok (.invokevirtual 111, 3) := by decide +kernel
theorem dX7_noBest_53 : decode cX7_noBest 53 = .ok (.aload_n 0, 1) := by decide +kernel
theorem dX7_noBest_54 : decode cX7_noBest 54 = .ok (.iload_n 1, 1) := by decide +kernel
theorem dX7_noBest_55 : decode cX7_noBest 55 = .ok (.iload_n 2, 1) := by decide +kernel
theorem dX7_noBest_56 : decode cX7_noBest 56 = .ok (.invokevirtual 111, 3) := by decide +kernel
theorem dX7_noBest_59 : decode cX7_noBest 59 = .ok (.if_icmp .gt 6, 3) := by decide +kernel
theorem dX7_noBest_62 : decode cX7_noBest 62 = .ok (.goto 8, 3) := by decide +kernel
theorem dX7_noBest_65 : decode cX7_noBest 65 = .ok (.iload_n 3, 1) := by decide +kernel
theorem dX7_noBest_66 : decode cX7_noBest 66 = .ok (.istore_n 1, 1) := by decide +kernel
theorem dX7_noBest_67 : decode cX7_noBest 67 = .ok (.iload 4, 2) := by decide +kernel
theorem dX7_noBest_69 : decode cX7_noBest 69 = .ok (.istore_n 2, 1) := by decide +kernel
theorem dX7_noBest_70 : decode cX7_noBest 70 = .ok (.iinc 4 1, 3) := by decide +kernel
theorem dX7_noBest_73 : decode cX7_noBest 73 = .ok (.goto (-50), 3) := by decide +kernel
theorem dX7_noBest_76 : decode cX7_noBest 76 = .ok (.iinc 3 1, 3) := by decide +kernel
theorem dX7_noBest_79 : decode cX7_noBest 79 = .ok (.goto (-69), 3) := by decide +kernel
theorem dX7_noBest_82 : decode cX7_noBest 82 = .ok (.aload_n 0, 1) := by decide +kernel
theorem dX7_noBest_83 : decode cX7_noBest 83 = .ok (.iload_n 1, 1) := by decide +kernel
theorem dX7_noBest_84 : decode cX7_noBest 84 = .ok (.putfield 121, 3) := by decide +kernel
theorem dX7_noBest_87 : decode cX7_noBest 87 = .ok (.aload_n 0, 1) := by decide +kernel
theorem dX7_noBest_88 : decode cX7_noBest 88 = .ok (.iload_n 2, 1) := by decide +kernel
theorem dX7_noBest_89 : decode cX7_noBest 89 = .ok (.putfield 124, 3) := by decide +kernel
theorem dX7_noBest_92 : decode cX7_noBest 92 = .ok (.aload_n 0, 1) := by decide +kernel
theorem dX7_noBest_93 : decode cX7_noBest 93 = .ok (.iload_n 1, 1) := by decide +kernel
theorem dX7_noBest_94 : decode cX7_noBest 94 = .ok (.ifCond .ge 7, 3) := by decide +kernel
theorem dX7_noBest_97 : decode cX7_noBest 97 = .ok (.iconst 1, 1) := by decide +kernel
theorem dX7_noBest_98 : decode cX7_noBest 98 = .ok (.goto 4, 3) := by decide +kernel
theorem dX7_noBest_101 : decode cX7_noBest 101 = .ok (.iconst 0, 1) := by decide +kernel
theorem dX7_noBest_102 : decode cX7_noBest 102 = .ok (.putfield 64, 3) := by decide +kernel
theorem dX7_noBest_105 : decode cX7_noBest 105 = .ok (.iload_n 1, 1) := by decide +kernel
theorem dX7_noBest_106 : decode cX7_noBest 106 = .ok (.ifCond .ge 7, 3) := by decide +kernel
theorem dX7_noBest_109 : decode cX7_noBest 109 = .ok (.iconst 1, 1) := by decide +kernel
theorem dX7_noBest_110 : decode cX7_noBest 110 = .ok (.goto 4, 3) := by decide +kernel
theorem dX7_noBest_113 : decode cX7_noBest 113 = .ok (.iconst 0, 1) := by decide +kernel
theorem dX7_noBest_114 : decode cX7_noBest 114 = .ok (.ireturn, 1) := by decide +kernel
theorem dX7_bestScore_0 : decode cX7_bestScore 0 = .ok (.aload_n 0, 1) := by decide +kernel
theorem dX7_bestScore_1 : decode cX7_bestScore 1 = .ok (.invokevirtual 136, 3) := by decide +kernel
theorem dX7_bestScore_4 : decode cX7_bestScore 4 = .ok (.ifCond .eq 7, 3) := by decide +kernel
theorem dX7_bestScore_7 : decode cX7_bestScore 7 = .ok (.iconst 0, 1) := by decide +kernel
theorem dX7_bestScore_8 : decode cX7_bestScore 8 = .ok (.goto 15, 3) := by decide +kernel
theorem dX7_bestScore_11 : decode cX7_bestScore 11 = .ok (.aload_n 0, 1) := by decide +kernel
theorem dX7_bestScore_12 : decode cX7_bestScore 12 = .ok (.aload_n 0, 1) := by decide +kernel
theorem dX7_bestScore_13 : decode cX7_bestScore 13 = .ok (.getfield 121, 3) := by decide +kernel
theorem dX7_bestScore_16 : decode cX7_bestScore 16 = .ok (.aload_n 0, 1) := by decide +kernel
theorem dX7_bestScore_17 : decode cX7_bestScore 17 = .ok (.getfield 124, 3) := by decide +kernel
theorem dX7_bestScore_20 : decode cX7_bestScore 20 = .ok (.invokevirtual 111, 3) := by decide +kernel
theorem dX7_bestScore_23 : decode cX7_bestScore 23 = .ok (.ireturn, 1) := by decide +kernel
theorem dX7_bestScoreByPairs_0 : decode cX7_bestScoreByPairs 0 = .ok (.aload_n 0, 1) := by decide +kernel
theorem dX7_bestScoreByPairs_1 : decode cX7_bestScoreByPairs 1 = .ok (.invokevirtual 140, 3) := by decide +kernel
theorem dX7_bestScoreByPairs_4 : decode cX7_bestScoreByPairs 4 = .ok (.ireturn, 1) := by decide +kernel
theorem dX7_bestOne_0 : decode cX7_bestOne 0 = .ok (.aload_n 0, 1) := by decide +kernel
theorem dX7_bestOne_1 : decode cX7_bestOne 1 = .ok (.invokevirtual 136, 3) := by decide +kernel
theorem dX7_bestOne_4 : decode cX7_bestOne 4 = .ok (.ifCond .eq 7, 3) := by decide +kernel
theorem dX7_bestOne_7 : decode cX7_bestOne 7 = .ok (.iconst 0, 1) := by decide +kernel
theorem dX7_bestOne_8 : decode cX7_bestOne 8 = .ok (.goto 7, 3) := by decide +kernel
theorem dX7_bestOne_11 : decode cX7_bestOne 11 = .ok (.aload_n 0, 1) := by decide +kernel
theorem dX7_bestOne_12 : decode cX7_bestOne 12 = .ok (.getfield 121, 3) := by decide +kernel
theorem dX7_bestOne_15 : decode cX7_bestOne 15 = .ok (.ireturn, 1) := by decide +kernel
theorem dX7_bestOther_0 : decode cX7_bestOther 0 = .ok (.aload_n 0, 1) := by decide +kernel
theorem dX7_bestOther_1 : decode cX7_bestOther 1 = .ok (.invokevirtual 136, 3) := by decide +kernel
theorem dX7_bestOther_4 : decode cX7_bestOther 4 = .ok (.ifCond .eq 7, 3) := by decide +kernel
theorem dX7_bestOther_7 : decode cX7_bestOther 7 = .ok (.iconst 0, 1) := by decide +kernel
theorem dX7_bestOther_8 : decode cX7_bestOther 8 = .ok (.goto 7, 3) := by decide +kernel
theorem dX7_bestOther_11 : decode cX7_bestOther 11 = .ok (.aload_n 0, 1) := by decide +kernel
theorem dX7_bestOther_12 : decode cX7_bestOther 12 = .ok (.getfield 124, 3) := by decide +kernel
theorem dX7_bestOther_15 : decode cX7_bestOther 15 = .ok (.ireturn, 1) := by decide +kernel
theorem dX7_forbid_0 : decode cX7_forbid 0 = .ok (.aload_n 0, 1) := by decide +kernel
theorem dX7_forbid_1 : decode cX7_forbid 1 = .ok (.iload_n 1, 1) := by decide +kernel
theorem dX7_forbid_2 : decode cX7_forbid 2 = .ok (.iload_n 2, 1) := by decide +kernel
theorem dX7_forbid_3 : decode cX7_forbid 3 = .ok (.invokevirtual 108, 3) := by decide +kernel
theorem dX7_forbid_6 : decode cX7_forbid 6 = .ok (.ifCond .eq 5, 3) := by decide +kernel
theorem dX7_forbid_9 : decode cX7_forbid 9 = .ok (.iconst 0, 1) := by decide +kernel
theorem dX7_forbid_10 : decode cX7_forbid 10 = .ok (.ireturn, 1) := by decide +kernel
theorem dX7_forbid_11 : decode cX7_forbid 11 = .ok (.iload_n 1, 1) := by decide +kernel
theorem dX7_forbid_12 : decode cX7_forbid 12 = .ok (.iload_n 2, 1) := by decide +kernel
theorem dX7_forbid_13 : decode cX7_forbid 13 = .ok (.if_icmp .ne 9, 3) := by decide +kernel
theorem dX7_forbid_16 : decode cX7_forbid 16 = .ok (.aload_n 0, 1) := by decide +kernel
theorem dX7_forbid_17 : decode cX7_forbid 17 = .ok (.iconst 2, 1) := by decide +kernel
theorem dX7_forbid_18 : decode cX7_forbid 18 = .ok (.invokevirtual 78, 3) := by decide +kernel
theorem dX7_forbid_21 : decode cX7_forbid 21 = .ok (.ireturn, 1) := by decide +kernel
theorem dX7_forbid_22 : decode cX7_forbid 22 = .ok (.aload_n 0, 1) := by decide +kernel
theorem dX7_forbid_23 : decode cX7_forbid 23 = .ok (.invokevirtual 130, 3) := by decide +kernel
theorem dX7_forbid_26 : decode cX7_forbid 26 = .ok (.aload_n 0, 1) := by decide +kernel
theorem dX7_forbid_27 : decode cX7_forbid 27 = .ok (.getfield 38, 3) := by decide +kernel
theorem dX7_forbid_30 : decode cX7_forbid 30 = .ok (.iload_n 1, 1) := by decide +kernel
theorem dX7_forbid_31 : decode cX7_forbid 31 = .ok (.iaload, 1) := by decide +kernel
theorem dX7_forbid_32 : decode cX7_forbid 32 = .ok (.aload_n 0, 1) := by decide +kernel
theorem dX7_forbid_33 : decode cX7_forbid 33 = .ok (.getfield 38, 3) := by decide +kernel
theorem dX7_forbid_36 : decode cX7_forbid 36 = .ok (.iload_n 2, 1) := by decide +kernel
theorem dX7_forbid_37 : decode cX7_forbid 37 = .ok (.iaload, 1) := by decide +kernel
theorem dX7_forbid_38 : decode cX7_forbid 38 = .ok (.if_icmp .ne 9, 3) := by decide +kernel
theorem dX7_forbid_41 : decode cX7_forbid 41 = .ok (.aload_n 0, 1) := by decide +kernel
theorem dX7_forbid_42 : decode cX7_forbid 42 = .ok (.iconst 3, 1) := by decide +kernel
theorem dX7_forbid_43 : decode cX7_forbid 43 = .ok (.invokevirtual 78, 3) := by decide +kernel
theorem dX7_forbid_46 : decode cX7_forbid 46 = .ok (.ireturn, 1) := by decide +kernel
theorem dX7_forbid_47 : decode cX7_forbid 47 = .ok (.aload_n 0, 1) := by decide +kernel
theorem dX7_forbid_48 : decode cX7_forbid 48 = .ok (.iload_n 1, 1) := by decide +kernel
theorem dX7_forbid_49 : decode cX7_forbid 49 = .ok (.iload_n 2, 1) := by decide +kernel
theorem dX7_forbid_50 : decode cX7_forbid 50 = .ok (.invokevirtual 118, 3) := by decide +kernel
theorem dX7_forbid_53 : decode cX7_forbid 53 = .ok (.ifCond .ne 12, 3) := by decide +kernel
theorem dX7_forbid_56 : decode cX7_forbid 56 = .ok (.aload_n 0, 1) := by decide +kernel
theorem dX7_forbid_57 : decode cX7_forbid 57 = .ok (.getfield 144, 3) := by decide +kernel
theorem dX7_forbid_60 : decode cX7_forbid 60 = .ok (.bipush 12, 2) := by decide +kernel
theorem dX7_forbid_62 : decode cX7_forbid 62 = .ok (.if_icmp .ne 9, 3) := by decide +kernel
theorem dX7_forbid_65 : decode cX7_forbid 65 = .ok (.aload_n 0, 1) := by decide +kernel
theorem dX7_forbid_66 : decode cX7_forbid 66 = .ok (.iconst 4, 1) := by decide +kernel
theorem dX7_forbid_67 : decode cX7_forbid 67 = .ok (.invokevirtual 78, 3) := by decide +kernel
theorem dX7_forbid_70 : decode cX7_forbid 70 = .ok (.ireturn, 1) := by decide +kernel
theorem dX7_forbid_71 : decode cX7_forbid 71 = .ok (.aload_n 0, 1) := by decide +kernel
theorem dX7_forbid_72 : decode cX7_forbid 72 = .ok (.getfield 58, 3) := by decide +kernel
theorem dX7_forbid_75 : decode cX7_forbid 75 = .ok (.bipush 16, 2) := by decide +kernel
theorem dX7_forbid_77 : decode cX7_forbid 77 = .ok (.iload_n 1, 1) := by decide +kernel
theorem dX7_forbid_78 : decode cX7_forbid 78 = .ok (.imul, 1) := by decide +kernel
theorem dX7_forbid_79 : decode cX7_forbid 79 = .ok (.iload_n 2, 1) := by decide +kernel
theorem dX7_forbid_80 : decode cX7_forbid 80 = .ok (.iadd, 1) := by decide +kernel
theorem dX7_forbid_81 : decode cX7_forbid 81 = .ok (.iconst 1, 1) := by decide +kernel
theorem dX7_forbid_82 : decode cX7_forbid 82 = .ok (.bastore, 1) := by decide +kernel
theorem dX7_forbid_83 : decode cX7_forbid 83 = .ok (.aload_n 0, 1) := by decide +kernel
theorem dX7_forbid_84 : decode cX7_forbid 84 = .ok (.getfield 58, 3) := by decide +kernel
theorem dX7_forbid_87 : decode cX7_forbid 87 = .ok (.bipush 16, 2) := by decide +kernel
theorem dX7_forbid_89 : decode cX7_forbid 89 = .ok (.iload_n 2, 1) := by decide +kernel
theorem dX7_forbid_90 : decode cX7_forbid 90 = .ok (.imul, 1) := by decide +kernel
theorem dX7_forbid_91 : decode cX7_forbid 91 = .ok (.iload_n 1, 1) := by decide +kernel
theorem dX7_forbid_92 : decode cX7_forbid 92 = .ok (.iadd, 1) := by decide +kernel
theorem dX7_forbid_93 : decode cX7_forbid 93 = .ok (.iconst 1, 1) := by decide +kernel
theorem dX7_forbid_94 : decode cX7_forbid 94 = .ok (.bastore, 1) := by decide +kernel
theorem dX7_forbid_95 : decode cX7_forbid 95 = .ok (.aload_n 0, 1) := by decide +kernel
theorem dX7_forbid_96 : decode cX7_forbid 96 = .ok (.dup, 1) := by decide +kernel
theorem dX7_forbid_97 : decode cX7_forbid 97 = .ok (.getfield 144, 3) := by decide +kernel
theorem dX7_forbid_100 : decode cX7_forbid 100 = .ok (.iconst 1, 1) := by decide +kernel
theorem dX7_forbid_101 : decode cX7_forbid 101 = .ok (.iadd, 1) := by decide +kernel
theorem dX7_forbid_102 : decode cX7_forbid 102 = .ok (.dup_x1, 1) := by decide +kernel
theorem dX7_forbid_103 : decode cX7_forbid 103 = .ok (.putfield 144, 3) := by decide +kernel
theorem dX7_forbid_106 : decode cX7_forbid 106 = .ok (.ireturn, 1) := by decide +kernel
theorem dX7_allow_0 : decode cX7_allow 0 = .ok (.aload_n 0, 1) := by decide +kernel
theorem dX7_allow_1 : decode cX7_allow 1 = .ok (.iload_n 1, 1) := by decide +kernel
theorem dX7_allow_2 : decode cX7_allow 2 = .ok (.iload_n 2, 1) := by decide +kernel
theorem dX7_allow_3 : decode cX7_allow 3 = .ok (.invokevirtual 108, 3) := by decide +kernel
theorem dX7_allow_6 : decode cX7_allow 6 = .ok (.ifCond .eq 5, 3) := by decide +kernel
theorem dX7_allow_9 : decode cX7_allow 9 = .ok (.iconst 0, 1) := by decide +kernel
theorem dX7_allow_10 : decode cX7_allow 10 = .ok (.ireturn, 1) := by decide +kernel
theorem dX7_allow_11 : decode cX7_allow 11 = .ok (.aload_n 0, 1) := by decide +kernel
theorem dX7_allow_12 : decode cX7_allow 12 = .ok (.iload_n 1, 1) := by decide +kernel
theorem dX7_allow_13 : decode cX7_allow 13 = .ok (.iload_n 2, 1) := by decide +kernel
theorem dX7_allow_14 : decode cX7_allow 14 = .ok (.invokevirtual 118, 3) := by decide +kernel
theorem dX7_allow_17 : decode cX7_allow 17 = .ok (.ifCond .ne 9, 3) := by decide +kernel
theorem dX7_allow_20 : decode cX7_allow 20 = .ok (.aload_n 0, 1) := by decide +kernel
theorem dX7_allow_21 : decode cX7_allow 21 = .ok (.iconst 2, 1) := by decide +kernel
theorem dX7_allow_22 : decode cX7_allow 22 = .ok (.invokevirtual 78, 3) := by decide +kernel
theorem dX7_allow_25 : decode cX7_allow 25 = .ok (.ireturn, 1) := by decide +kernel
theorem dX7_allow_26 : decode cX7_allow 26 = .ok (.aload_n 0, 1) := by decide +kernel
theorem dX7_allow_27 : decode cX7_allow 27 = .ok (.getfield 58, 3) := by decide +kernel
theorem dX7_allow_30 : decode cX7_allow 30 = .ok (.bipush 16, 2) := by decide +kernel
theorem dX7_allow_32 : decode cX7_allow 32 = .ok (.iload_n 1, 1) := by decide +kernel
theorem dX7_allow_33 : decode cX7_allow 33 = .ok (.imul, 1) := by decide +kernel
theorem dX7_allow_34 : decode cX7_allow 34 = .ok (.iload_n 2, 1) := by decide +kernel
theorem dX7_allow_35 : decode cX7_allow 35 = .ok (.iadd, 1) := by decide +kernel
theorem dX7_allow_36 : decode cX7_allow 36 = .ok (.iconst 0, 1) := by decide +kernel
theorem dX7_allow_37 : decode cX7_allow 37 = .ok (.bastore, 1) := by decide +kernel
theorem dX7_allow_38 : decode cX7_allow 38 = .ok (.aload_n 0, 1) := by decide +kernel
theorem dX7_allow_39 : decode cX7_allow 39 = .ok (.getfield 58, 3) := by decide +kernel
theorem dX7_allow_42 : decode cX7_allow 42 = .ok (.bipush 16, 2) := by decide +kernel
theorem dX7_allow_44 : decode cX7_allow 44 = .ok (.iload_n 2, 1) := by decide +kernel
theorem dX7_allow_45 : decode cX7_allow 45 = .ok (.imul, 1) := by decide +kernel
theorem dX7_allow_46 : decode cX7_allow 46 = .ok (.iload_n 1, 1) := by decide +kernel
theorem dX7_allow_47 : decode cX7_allow 47 = .ok (.iadd, 1) := by decide +kernel
theorem dX7_allow_48 : decode cX7_allow 48 = .ok (.iconst 0, 1) := by decide +kernel
theorem dX7_allow_49 : decode cX7_allow 49 = .ok (.bastore, 1) := by decide +kernel
theorem dX7_allow_50 : decode cX7_allow 50 = .ok (.aload_n 0, 1) := by decide +kernel
theorem dX7_allow_51 : decode cX7_allow 51 = .ok (.dup, 1) := by decide +kernel
theorem dX7_allow_52 : decode cX7_allow 52 = .ok (.getfield 144, 3) := by decide +kernel
theorem dX7_allow_55 : decode cX7_allow 55 = .ok (.iconst 1, 1) := by decide +kernel
theorem dX7_allow_56 : decode cX7_allow 56 = .ok (.isub, 1) := by decide +kernel
theorem dX7_allow_57 : decode cX7_allow 57 = .ok (.dup_x1, 1) := by decide +kernel
theorem dX7_allow_58 : decode cX7_allow 58 = .ok (.putfield 144, 3) := by decide +kernel
theorem dX7_allow_61 : decode cX7_allow 61 = .ok (.ireturn, 1) := by decide +kernel
theorem dX7_why_0 : decode cX7_why 0 = .ok (.aload_n 0, 1) := by decide +kernel
theorem dX7_why_1 : decode cX7_why 1 = .ok (.iload_n 1, 1) := by decide +kernel
theorem dX7_why_2 : decode cX7_why 2 = .ok (.iload_n 2, 1) := by decide +kernel
theorem dX7_why_3 : decode cX7_why 3 = .ok (.invokevirtual 108, 3) := by decide +kernel
theorem dX7_why_6 : decode cX7_why 6 = .ok (.ifCond .eq 6, 3) := by decide +kernel
theorem dX7_why_9 : decode cX7_why 9 = .ok (.bipush 116, 2) := by decide +kernel
theorem dX7_why_11 : decode cX7_why 11 = .ok (.ireturn, 1) := by decide +kernel
theorem dX7_why_12 : decode cX7_why 12 = .ok (.aload_n 0, 1) := by decide +kernel
theorem dX7_why_13 : decode cX7_why 13 = .ok (.invokevirtual 130, 3) := by decide +kernel
theorem dX7_why_16 : decode cX7_why 16 = .ok (.aload_n 0, 1) := by decide +kernel
theorem dX7_why_17 : decode cX7_why 17 = .ok (.getfield 38, 3) := by decide +kernel
theorem dX7_why_20 : decode cX7_why 20 = .ok (.iload_n 1, 1) := by decide +kernel
theorem dX7_why_21 : decode cX7_why 21 = .ok (.iaload, 1) := by decide +kernel
theorem dX7_why_22 : decode cX7_why 22 = .ok (.aload_n 0, 1) := by decide +kernel
theorem dX7_why_23 : decode cX7_why 23 = .ok (.getfield 38, 3) := by decide +kernel
theorem dX7_why_26 : decode cX7_why 26 = .ok (.iload_n 2, 1) := by decide +kernel
theorem dX7_why_27 : decode cX7_why 27 = .ok (.iaload, 1) := by decide +kernel
theorem dX7_why_28 : decode cX7_why 28 = .ok (.if_icmp .ne 6, 3) := by decide +kernel
theorem dX7_why_31 : decode cX7_why 31 = .ok (.bipush 116, 2) := by decide +kernel
theorem dX7_why_33 : decode cX7_why 33 = .ok (.ireturn, 1) := by decide +kernel
theorem dX7_why_34 : decode cX7_why 34 = .ok (.aload_n 0, 1) := by decide +kernel
theorem dX7_why_35 : decode cX7_why 35 = .ok (.iload_n 1, 1) := by decide +kernel
theorem dX7_why_36 : decode cX7_why 36 = .ok (.iload_n 2, 1) := by decide +kernel
theorem dX7_why_37 : decode cX7_why 37 = .ok (.invokevirtual 118, 3) := by decide +kernel
theorem dX7_why_40 : decode cX7_why 40 = .ok (.ifCond .eq 8, 3) := by decide +kernel
theorem dX7_why_43 : decode cX7_why 43 = .ok (.bipush 100, 2) := by decide +kernel
theorem dX7_why_45 : decode cX7_why 45 = .ok (.goto 29, 3) := by decide +kernel
theorem dX7_why_48 : decode cX7_why 48 = .ok (.aload_n 0, 1) := by decide +kernel
theorem dX7_why_49 : decode cX7_why 49 = .ok (.aload_n 0, 1) := by decide +kernel
theorem dX7_why_50 : decode cX7_why 50 = .ok (.getfield 38, 3) := by decide +kernel
theorem dX7_why_53 : decode cX7_why 53 = .ok (.iload_n 1, 1) := by decide +kernel
theorem dX7_why_54 : decode cX7_why 54 = .ok (.iaload, 1) := by decide +kernel
theorem dX7_why_55 : decode cX7_why 55 = .ok (.aload_n 0, 1) := by decide +kernel
theorem dX7_why_56 : decode cX7_why 56 = .ok (.getfield 38, 3) := by decide +kernel
theorem dX7_why_59 : decode cX7_why 59 = .ok (.iload_n 2, 1) := by decide +kernel
theorem dX7_why_60 : decode cX7_why 60 = .ok (.iaload, 1) := by decide +kernel
theorem dX7_why_61 : decode cX7_why 61 = .ok (.invokevirtual 127, 3) := by decide +kernel
theorem dX7_why_64 : decode cX7_why 64 = .ok (.ifCond .eq 8, 3) := by decide +kernel
theorem dX7_why_67 : decode cX7_why 67 = .ok (.bipush 105, 2) := by decide +kernel
theorem dX7_why_69 : decode cX7_why 69 = .ok (.goto 5, 3) := by decide +kernel
theorem dX7_why_72 : decode cX7_why 72 = .ok (.bipush 45, 2) := by decide +kernel
theorem dX7_why_74 : decode cX7_why 74 = .ok (.ireturn, 1) := by decide +kernel
theorem dX7_noBar_0 : decode cX7_noBar 0 = .ok (.aload_n 0, 1) := by decide +kernel
theorem dX7_noBar_1 : decode cX7_noBar 1 = .ok (.iload_n 1, 1) := by decide +kernel
theorem dX7_noBar_2 : decode cX7_noBar 2 = .ok (.iload_n 2, 1) := by decide +kernel
theorem dX7_noBar_3 : decode cX7_noBar 3 = .ok (.invokevirtual 108, 3) := by decide +kernel
theorem dX7_noBar_6 : decode cX7_noBar 6 = .ok (.ifCond .eq 5, 3) := by decide +kernel
theorem dX7_noBar_9 : decode cX7_noBar 9 = .ok (.iconst 1, 1) := by decide +kernel
theorem dX7_noBar_10 : decode cX7_noBar 10 = .ok (.ireturn, 1) := by decide +kernel
theorem dX7_noBar_11 : decode cX7_noBar 11 = .ok (.aload_n 0, 1) := by decide +kernel
theorem dX7_noBar_12 : decode cX7_noBar 12 = .ok (.invokevirtual 130, 3) := by decide +kernel
theorem dX7_noBar_15 : decode cX7_noBar 15 = .ok (.aload_n 0, 1) := by decide +kernel
theorem dX7_noBar_16 : decode cX7_noBar 16 = .ok (.aload_n 0, 1) := by decide +kernel
theorem dX7_noBar_17 : decode cX7_noBar 17 = .ok (.getfield 38, 3) := by decide +kernel
theorem dX7_noBar_20 : decode cX7_noBar 20 = .ok (.iload_n 1, 1) := by decide +kernel
theorem dX7_noBar_21 : decode cX7_noBar 21 = .ok (.iaload, 1) := by decide +kernel
theorem dX7_noBar_22 : decode cX7_noBar 22 = .ok (.aload_n 0, 1) := by decide +kernel
theorem dX7_noBar_23 : decode cX7_noBar 23 = .ok (.getfield 38, 3) := by decide +kernel
theorem dX7_noBar_26 : decode cX7_noBar 26 = .ok (.iload_n 2, 1) := by decide +kernel
theorem dX7_noBar_27 : decode cX7_noBar 27 = .ok (.iaload, 1) := by decide +kernel
theorem dX7_noBar_28 : decode cX7_noBar 28 = .ok (.if_icmp .eq 26, 3) := by decide +kernel
theorem dX7_noBar_31 : decode cX7_noBar 31 = .ok (.aload_n 0, 1) := by decide +kernel
theorem dX7_noBar_32 : decode cX7_noBar 32 = .ok (.aload_n 0, 1) := by decide +kernel
theorem dX7_noBar_33 : decode cX7_noBar 33 = .ok (.getfield 38, 3) := by decide +kernel
theorem dX7_noBar_36 : decode cX7_noBar 36 = .ok (.iload_n 1, 1) := by decide +kernel
theorem dX7_noBar_37 : decode cX7_noBar 37 = .ok (.iaload, 1) := by decide +kernel
theorem dX7_noBar_38 : decode cX7_noBar 38 = .ok (.aload_n 0, 1) := by decide +kernel
theorem dX7_noBar_39 : decode cX7_noBar 39 = .ok (.getfield 38, 3) := by decide +kernel
theorem dX7_noBar_42 : decode cX7_noBar 42 = .ok (.iload_n 2, 1) := by decide +kernel
theorem dX7_noBar_43 : decode cX7_noBar 43 = .ok (.iaload, 1) := by decide +kernel
theorem dX7_noBar_44 : decode cX7_noBar 44 = .ok (.invokevirtual 127, 3) := by decide +kernel
theorem dX7_noBar_47 : decode cX7_noBar 47 = .ok (.ifCond .eq 7, 3) := by decide +kernel
theorem dX7_noBar_50 : decode cX7_noBar 50 = .ok (.iconst 0, 1) := by decide +kernel
theorem dX7_noBar_51 : decode cX7_noBar 51 = .ok (.goto 4, 3) := by decide +kernel
theorem dX7_noBar_54 : decode cX7_noBar 54 = .ok (.iconst 2, 1) := by decide +kernel
theorem dX7_noBar_55 : decode cX7_noBar 55 = .ok (.putfield 64, 3) := by decide +kernel
theorem dX7_noBar_58 : decode cX7_noBar 58 = .ok (.aload_n 0, 1) := by decide +kernel
theorem dX7_noBar_59 : decode cX7_noBar 59 = .ok (.getfield 64, 3) := by decide +kernel
theorem dX7_noBar_62 : decode cX7_noBar 62 = .ok (.ifCond .eq 7, 3) := by decide +kernel
theorem dX7_noBar_65 : decode cX7_noBar 65 = .ok (.iconst 1, 1) := by decide +kernel
theorem dX7_noBar_66 : decode cX7_noBar 66 = .ok (.goto 4, 3) := by decide +kernel
theorem dX7_noBar_69 : decode cX7_noBar 69 = .ok (.iconst 0, 1) := by decide +kernel
theorem dX7_noBar_70 : decode cX7_noBar 70 = .ok (.ireturn, 1) := by decide +kernel
theorem dX7_barOne_0 : decode cX7_barOne 0 = .ok (.aload_n 0, 1) := by decide +kernel
theorem dX7_barOne_1 : decode cX7_barOne 1 = .ok (.iload_n 1, 1) := by decide +kernel
theorem dX7_barOne_2 : decode cX7_barOne 2 = .ok (.iload_n 2, 1) := by decide +kernel
theorem dX7_barOne_3 : decode cX7_barOne 3 = .ok (.invokevirtual 147, 3) := by decide +kernel
theorem dX7_barOne_6 : decode cX7_barOne 6 = .ok (.ifCond .eq 7, 3) := by decide +kernel
theorem dX7_barOne_9 : decode cX7_barOne 9 = .ok (.iconst 0, 1) := by decide +kernel
theorem dX7_barOne_10 : decode cX7_barOne 10 = .ok (.goto 7, 3) := by decide +kernel
theorem dX7_barOne_13 : decode cX7_barOne 13 = .ok (.aload_n 0, 1) := by decide +kernel
theorem dX7_barOne_14 : decode cX7_barOne 14 = .ok (.getfield 121, 3) := by decide +kernel
theorem dX7_barOne_17 : decode cX7_barOne 17 = .ok (.ireturn, 1) := by decide +kernel
theorem dX7_barOther_0 : decode cX7_barOther 0 = .ok (.aload_n 0, 1) := by decide +kernel
theorem dX7_barOther_1 : decode cX7_barOther 1 = .ok (.iload_n 1, 1) := by decide +kernel
theorem dX7_barOther_2 : decode cX7_barOther 2 = .ok (.iload_n 2, 1) := by decide +kernel
theorem dX7_barOther_3 : decode cX7_barOther 3 = .ok (.invokevirtual 147, 3) := by decide +kernel
theorem dX7_barOther_6 : decode cX7_barOther 6 = .ok (.ifCond .eq 7, 3) := by decide +kernel
theorem dX7_barOther_9 : decode cX7_barOther 9 = .ok (.iconst 0, 1) := by decide +kernel
theorem dX7_barOther_10 : decode cX7_barOther 10 = .ok (.goto 7, 3) := by decide +kernel
theorem dX7_barOther_13 : decode cX7_barOther 13 = .ok (.aload_n 0, 1) := by decide +kernel
theorem dX7_barOther_14 : decode cX7_barOther 14 = .ok (.getfield 124, 3) := by decide +kernel
theorem dX7_barOther_17 : decode cX7_barOther 17 = .ok (.ireturn, 1) := by decide +kernel
theorem dX7_makes_0 : decode cX7_makes 0 = .ok (.aload_n 0, 1) := by decide +kernel
theorem dX7_makes_1 : decode cX7_makes 1 = .ok (.getfield 32, 3) := by decide +kernel
theorem dX7_makes_4 : decode cX7_makes 4 = .ok (.aload_n 0, 1) := by decide +kernel
theorem dX7_makes_5 : decode cX7_makes 5 = .ok (.getfield 115, 3) := by decide +kernel
theorem dX7_makes_8 : decode cX7_makes 8 = .ok (.iload_n 1, 1) := by decide +kernel
theorem dX7_makes_9 : decode cX7_makes 9 = .ok (.iastore, 1) := by decide +kernel
theorem dX7_makes_10 : decode cX7_makes 10 = .ok (.aload_n 0, 1) := by decide +kernel
theorem dX7_makes_11 : decode cX7_makes 11 = .ok (.getfield 35, 3) := by decide +kernel
theorem dX7_makes_14 : decode cX7_makes 14 = .ok (.aload_n 0, 1) := by decide +kernel
theorem dX7_makes_15 : decode cX7_makes 15 = .ok (.getfield 115, 3) := by decide +kernel
theorem dX7_makes_18 : decode cX7_makes 18 = .ok (.iload_n 2, 1) := by decide +kernel
theorem dX7_makes_19 : decode cX7_makes 19 = .ok (.iastore, 1) := by decide +kernel
theorem dX7_makes_20 : decode cX7_makes 20 = .ok (.aload_n 0, 1) := by decide +kernel
theorem dX7_makes_21 : decode cX7_makes 21 = .ok (.getfield 54, 3) := by decide +kernel
theorem dX7_makes_24 : decode cX7_makes 24 = .ok (.aload_n 0, 1) := by decide +kernel
theorem dX7_makes_25 : decode cX7_makes 25 = .ok (.getfield 115, 3) := by decide +kernel
theorem dX7_makes_28 : decode cX7_makes 28 = .ok (.iconst 1, 1) := by decide +kernel
theorem dX7_makes_29 : decode cX7_makes 29 = .ok (.bastore, 1) := by decide +kernel
theorem dX7_makes_30 : decode cX7_makes 30 = .ok (.aload_n 0, 1) := by decide +kernel
theorem dX7_makes_31 : decode cX7_makes 31 = .ok (.dup, 1) := by decide +kernel
theorem dX7_makes_32 : decode cX7_makes 32 = .ok (.getfield 115, 3) := by decide +kernel
theorem dX7_makes_35 : decode cX7_makes 35 = .ok (.dup_x1, 1) := by decide +kernel
theorem dX7_makes_36 : decode cX7_makes 36 = .ok (.iconst 1, 1) := by decide +kernel
theorem dX7_makes_37 : decode cX7_makes 37 = .ok (.iadd, 1) := by decide +kernel
theorem dX7_makes_38 : decode cX7_makes 38 = .ok (.putfield 115, 3) := by decide +kernel
theorem dX7_makes_41 : decode cX7_makes 41 = .ok (.ireturn, 1) := by decide +kernel
theorem dX7_merge_0 : decode cX7_merge 0 = .ok (.aload_n 0, 1) := by decide +kernel
theorem dX7_merge_1 : decode cX7_merge 1 = .ok (.iload_n 1, 1) := by decide +kernel
theorem dX7_merge_2 : decode cX7_merge 2 = .ok (.iload_n 2, 1) := by decide +kernel
theorem dX7_merge_3 : decode cX7_merge 3 = .ok (.invokevirtual 108, 3) := by decide +kernel
theorem dX7_merge_6 : decode cX7_merge 6 = .ok (.ifCond .eq 5, 3) := by decide +kernel
theorem dX7_merge_9 : decode cX7_merge 9 = .ok (.iconst 0, 1) := by decide +kernel
theorem dX7_merge_10 : decode cX7_merge 10 = .ok (.ireturn, 1) := by decide +kernel
theorem dX7_merge_11 : decode cX7_merge 11 = .ok (.aload_n 0, 1) := by decide +kernel
theorem dX7_merge_12 : decode cX7_merge 12 = .ok (.invokevirtual 130, 3) := by decide +kernel
theorem dX7_merge_15 : decode cX7_merge 15 = .ok (.aload_n 0, 1) := by decide +kernel
theorem dX7_merge_16 : decode cX7_merge 16 = .ok (.getfield 38, 3) := by decide +kernel
theorem dX7_merge_19 : decode cX7_merge 19 = .ok (.iload_n 1, 1) := by decide +kernel
theorem dX7_merge_20 : decode cX7_merge 20 = .ok (.iaload, 1) := by decide +kernel
theorem dX7_merge_21 : decode cX7_merge 21 = .ok (.aload_n 0, 1) := by decide +kernel
theorem dX7_merge_22 : decode cX7_merge 22 = .ok (.getfield 38, 3) := by decide +kernel
theorem dX7_merge_25 : decode cX7_merge 25 = .ok (.iload_n 2, 1) := by decide +kernel
theorem dX7_merge_26 : decode cX7_merge 26 = .ok (.iaload, 1) := by decide +kernel
theorem dX7_merge_27 : decode cX7_merge 27 = .ok (.if_icmp .eq 28, 3) := by decide +kernel
theorem dX7_merge_30 : decode cX7_merge 30 = .ok (.aload_n 0, 1) := by decide +kernel
theorem dX7_merge_31 : decode cX7_merge 31 = .ok (.aload_n 0, 1) := by decide +kernel
theorem dX7_merge_32 : decode cX7_merge 32 = .ok (.getfield 38, 3) := by decide +kernel
theorem dX7_merge_35 : decode cX7_merge 35 = .ok (.iload_n 1, 1) := by decide +kernel
theorem dX7_merge_36 : decode cX7_merge 36 = .ok (.iaload, 1) := by decide +kernel
theorem dX7_merge_37 : decode cX7_merge 37 = .ok (.aload_n 0, 1) := by decide +kernel
theorem dX7_merge_38 : decode cX7_merge 38 = .ok (.getfield 38, 3) := by decide +kernel
theorem dX7_merge_41 : decode cX7_merge 41 = .ok (.iload_n 2, 1) := by decide +kernel
theorem dX7_merge_42 : decode cX7_merge 42 = .ok (.iaload, 1) := by decide +kernel
theorem dX7_merge_43 : decode cX7_merge 43 = .ok (.invokevirtual 127, 3) := by decide +kernel
theorem dX7_merge_46 : decode cX7_merge 46 = .ok (.ifCond .eq 9, 3) := by decide +kernel
theorem dX7_merge_49 : decode cX7_merge 49 = .ok (.aload_n 0, 1) := by decide +kernel
theorem dX7_merge_50 : decode cX7_merge 50 = .ok (.iconst 2, 1) := by decide +kernel
theorem dX7_merge_51 : decode cX7_merge 51 = .ok (.invokevirtual 78, 3) := by decide +kernel
theorem dX7_merge_54 : decode cX7_merge 54 = .ok (.ireturn, 1) := by decide +kernel
theorem dX7_merge_55 : decode cX7_merge 55 = .ok (.aload_n 0, 1) := by decide +kernel
theorem dX7_merge_56 : decode cX7_merge 56 = .ok (.getfield 38, 3) := by decide +kernel
theorem dX7_merge_59 : decode cX7_merge 59 = .ok (.iload_n 1, 1) := by decide +kernel
theorem dX7_merge_60 : decode cX7_merge 60 = .ok (.iaload, 1) := by decide +kernel
theorem dX7_merge_61 : decode cX7_merge 61 = .ok (.aload_n 0, 1) := by decide +kernel
theorem dX7_merge_62 : decode cX7_merge 62 = .ok (.getfield 38, 3) := by decide +kernel
theorem dX7_merge_65 : decode cX7_merge 65 = .ok (.iload_n 2, 1) := by decide +kernel
theorem dX7_merge_66 : decode cX7_merge 66 = .ok (.iaload, 1) := by decide +kernel
theorem dX7_merge_67 : decode cX7_merge 67 = .ok (.if_icmp .eq 12, 3) := by decide +kernel
theorem dX7_merge_70 : decode cX7_merge 70 = .ok (.aload_n 0, 1) := by decide +kernel
theorem dX7_merge_71 : decode cX7_merge 71 = .ok (.getfield 115, 3) := by decide +kernel
theorem dX7_merge_74 : decode cX7_merge 74 = .ok (.bipush 30, 2) := by decide +kernel
theorem dX7_merge_76 : decode cX7_merge 76 = .ok (.if_icmp .ne 9, 3) := by decide +kernel
theorem dX7_merge_79 : decode cX7_merge 79 = .ok (.aload_n 0, 1) := by decide +kernel
theorem dX7_merge_80 : decode cX7_merge 80 = .ok (.iconst 3, 1) := by decide +kernel
theorem dX7_merge_81 : decode cX7_merge 81 = .ok (.invokevirtual 78, 3) := by decide +kernel
theorem dX7_merge_84 : decode cX7_merge 84 = .ok (.ireturn, 1) := by decide +kernel
theorem dX7_merge_85 : decode cX7_merge 85 = .ok (.aload_n 0, 1) := by decide +kernel
theorem dX7_merge_86 : decode cX7_merge 86 = .ok (.iload_n 1, 1) := by decide +kernel
theorem dX7_merge_87 : decode cX7_merge 87 = .ok (.iload_n 2, 1) := by decide +kernel
theorem dX7_merge_88 : decode cX7_merge 88 = .ok (.invokevirtual 150, 3) := by decide +kernel
theorem dX7_merge_91 : decode cX7_merge 91 = .ok (.ireturn, 1) := by decide +kernel
theorem dX7_mergeBest_0 : decode cX7_mergeBest 0 = .ok (.aload_n 0, 1) := by decide +kernel
theorem dX7_mergeBest_1 : decode cX7_mergeBest 1 = .ok (.invokevirtual 136, 3) := by decide +kernel
theorem dX7_mergeBest_4 : decode cX7_mergeBest 4 = .ok (.ifCond .eq 5, 3) := by decide +kernel
theorem dX7_mergeBest_7 : decode cX7_mergeBest 7 = .ok (.iconst 0, 1) := by decide +kernel
theorem dX7_mergeBest_8 : decode cX7_mergeBest 8 = .ok (.ireturn, 1) := by decide +kernel
theorem dX7_mergeBest_9 : decode cX7_mergeBest 9 = .ok (.aload_n 0, 1) := by decide +kernel
theorem dX7_mergeBest_10 : decode cX7_mergeBest 10 = .ok (.getfield 115, 3) := by decide +kernel
theorem dX7_mergeBest_13 : decode cX7_mergeBest 13 = .ok (.bipush 30, 2) := by decide +kernel
theorem dX7_mergeBest_15 : decode cX7_mergeBest 15 = .ok (.if_icmp .ne 9, 3) := by decide +kernel
theorem dX7_mergeBest_18 : decode cX7_mergeBest 18 = .ok (.aload_n 0, 1) := by decide +kernel
theorem dX7_mergeBest_19 : decode cX7_mergeBest 19 = .ok (.iconst 2, 1) := by decide +kernel
theorem dX7_mergeBest_20 : decode cX7_mergeBest 20 = .ok (.invokevirtual 78, 3) := by decide +kernel
theorem dX7_mergeBest_23 : decode cX7_mergeBest 23 = .ok (.ireturn, 1) := by decide +kernel
theorem dX7_mergeBest_24 : decode cX7_mergeBest 24 = .ok (.aload_n 0, 1) := by decide +kernel
theorem dX7_mergeBest_25 : decode cX7_mergeBest 25 = .ok (.aload_n 0, 1) := by decide +kernel
theorem dX7_mergeBest_26 : decode cX7_mergeBest 26 = .ok (.getfield 121, 3) := by decide +kernel
theorem dX7_mergeBest_29 : decode cX7_mergeBest 29 = .ok (.aload_n 0, 1) := by decide +kernel
theorem dX7_mergeBest_30 : decode cX7_mergeBest 30 = .ok (.getfield 124, 3) := by decide +kernel
theorem dX7_mergeBest_33 : decode cX7_mergeBest 33 = .ok (.invokevirtual 150, 3) := by decide +kernel
theorem dX7_mergeBest_36 : decode cX7_mergeBest 36 = .ok (.ireturn, 1) := by decide +kernel
theorem dX7_noMerge_0 : decode cX7_noMerge 0 = .ok (.aload_n 0, 1) := by decide +kernel
theorem dX7_noMerge_1 : decode cX7_noMerge 1 = .ok (.iload_n 1, 1) := by decide +kernel
theorem dX7_noMerge_2 : decode cX7_noMerge 2 = .ok (.iconst 0, 1) := by decide +kernel
theorem dX7_noMerge_3 : decode cX7_noMerge 3 = .ok (.aload_n 0, 1) := by decide +kernel
theorem dX7_noMerge_4 : decode cX7_noMerge 4 = .ok (.getfield 115, 3) := by decide +kernel
theorem dX7_noMerge_7 : decode cX7_noMerge 7 = .ok (.iconst 1, 1) := by decide +kernel
theorem dX7_noMerge_8 : decode cX7_noMerge 8 = .ok (.isub, 1) := by decide +kernel
theorem dX7_noMerge_9 : decode cX7_noMerge 9 = .ok (.invokestatic 70, 3) := by decide +kernel
theorem dX7_noMerge_12 : decode cX7_noMerge 12 = .ok (.ifCond .eq 7, 3) := by decide +kernel
theorem dX7_noMerge_15 : decode cX7_noMerge 15 = .ok (.iconst 0, 1) := by decide +kernel
theorem dX7_noMerge_16 : decode cX7_noMerge 16 = .ok (.goto 4, 3) := by decide +kernel
theorem dX7_noMerge_19 : decode cX7_noMerge 19 = .ok (.iconst 1, 1) := by decide +kernel
theorem dX7_noMerge_20 : decode cX7_noMerge 20 = .ok (.putfield 64, 3) := by decide +kernel
theorem dX7_noMerge_23 : decode cX7_noMerge 23 = .ok (.aload_n 0, 1) := by decide +kernel
theorem dX7_noMerge_24 : decode cX7_noMerge 24 = .ok (.getfield 64, 3) := by decide +kernel
theorem dX7_noMerge_27 : decode cX7_noMerge 27 = .ok (.ifCond .eq 7, 3) := by decide +kernel
theorem dX7_noMerge_30 : decode cX7_noMerge 30 = .ok (.iconst 1, 1) := by decide +kernel
theorem dX7_noMerge_31 : decode cX7_noMerge 31 = .ok (.goto 4, 3) := by decide +kernel
theorem dX7_noMerge_34 : decode cX7_noMerge 34 = .ok (.iconst 0, 1) := by decide +kernel
theorem dX7_noMerge_35 : decode cX7_noMerge 35 = .ok (.ireturn, 1) := by decide +kernel
theorem dX7_undo_0 : decode cX7_undo 0 = .ok (.aload_n 0, 1) := by decide +kernel
theorem dX7_undo_1 : decode cX7_undo 1 = .ok (.iload_n 1, 1) := by decide +kernel
theorem dX7_undo_2 : decode cX7_undo 2 = .ok (.invokevirtual 153, 3) := by decide +kernel
theorem dX7_undo_5 : decode cX7_undo 5 = .ok (.ifCond .eq 5, 3) := by decide +kernel
theorem dX7_undo_8 : decode cX7_undo 8 = .ok (.iconst 0, 1) := by decide +kernel
theorem dX7_undo_9 : decode cX7_undo 9 = .ok (.ireturn, 1) := by decide +kernel
theorem dX7_undo_10 : decode cX7_undo 10 = .ok (.aload_n 0, 1) := by decide +kernel
theorem dX7_undo_11 : decode cX7_undo 11 = .ok (.getfield 54, 3) := by decide +kernel
theorem dX7_undo_14 : decode cX7_undo 14 = .ok (.iload_n 1, 1) := by decide +kernel
theorem dX7_undo_15 : decode cX7_undo 15 = .ok (.baload, 1) := by decide +kernel
theorem dX7_undo_16 : decode cX7_undo 16 = .ok (.ifCond .ne 9, 3) := by decide +kernel
theorem dX7_undo_19 : decode cX7_undo 19 = .ok (.aload_n 0, 1) := by decide +kernel
theorem dX7_undo_20 : decode cX7_undo 20 = .ok (.iconst 2, 1) := by decide +kernel
theorem dX7_undo_21 : decode cX7_undo 21 = .ok (.invokevirtual 78, 3) := by decide +kernel
theorem dX7_undo_24 : decode cX7_undo 24 = .ok (.ireturn, 1) := by decide +kernel
theorem dX7_undo_25 : decode cX7_undo 25 = .ok (.aload_n 0, 1) := by decide +kernel
theorem dX7_undo_26 : decode cX7_undo 26 = .ok (.getfield 54, 3) := by decide +kernel
theorem dX7_undo_29 : decode cX7_undo 29 = .ok (.iload_n 1, 1) := by decide +kernel
theorem dX7_undo_30 : decode cX7_undo 30 = .ok (.iconst 0, 1) := by decide +kernel
theorem dX7_undo_31 : decode cX7_undo 31 = .ok (.bastore, 1) := by decide +kernel
theorem dX7_undo_32 : decode cX7_undo 32 = .ok (.aload_n 0, 1) := by decide +kernel
theorem dX7_undo_33 : decode cX7_undo 33 = .ok (.invokevirtual 156, 3) := by decide +kernel
theorem dX7_undo_36 : decode cX7_undo 36 = .ok (.ireturn, 1) := by decide +kernel
theorem dX7_stands_0 : decode cX7_stands 0 = .ok (.aload_n 0, 1) := by decide +kernel
theorem dX7_stands_1 : decode cX7_stands 1 = .ok (.iload_n 1, 1) := by decide +kernel
theorem dX7_stands_2 : decode cX7_stands 2 = .ok (.invokevirtual 153, 3) := by decide +kernel
theorem dX7_stands_5 : decode cX7_stands 5 = .ok (.ifCond .ne 16, 3) := by decide +kernel
theorem dX7_stands_8 : decode cX7_stands 8 = .ok (.aload_n 0, 1) := by decide +kernel
theorem dX7_stands_9 : decode cX7_stands 9 = .ok (.getfield 54, 3) := by decide +kernel
theorem dX7_stands_12 : decode cX7_stands 12 = .ok (.iload_n 1, 1) := by decide +kernel
theorem dX7_stands_13 : decode cX7_stands 13 = .ok (.baload, 1) := by decide +kernel
theorem dX7_stands_14 : decode cX7_stands 14 = .ok (.ifCond .eq 7, 3) := by decide +kernel
theorem dX7_stands_17 : decode cX7_stands 17 = .ok (.iconst 1, 1) := by decide +kernel
theorem dX7_stands_18 : decode cX7_stands 18 = .ok (.goto 4, 3) := by decide +kernel
theorem dX7_stands_21 : decode cX7_stands 21 = .ok (.iconst 0, 1) := by decide +kernel
theorem dX7_stands_22 : decode cX7_stands 22 = .ok (.ireturn, 1) := by decide +kernel
theorem dX7_steps_0 : decode cX7_steps 0 = .ok (.aload_n 0, 1) := by decide +kernel
theorem dX7_steps_1 : decode cX7_steps 1 = .ok (.iload_n 1, 1) := by decide +kernel
theorem dX7_steps_2 : decode cX7_steps 2 = .ok (.iload_n 2, 1) := by decide +kernel
theorem dX7_steps_3 : decode cX7_steps 3 = .ok (.invokevirtual 108, 3) := by decide +kernel
theorem dX7_steps_6 : decode cX7_steps 6 = .ok (.ifCond .eq 5, 3) := by decide +kernel
theorem dX7_steps_9 : decode cX7_steps 9 = .ok (.iconst 0, 1) := by decide +kernel
theorem dX7_steps_10 : decode cX7_steps 10 = .ok (.ireturn, 1) := by decide +kernel
theorem dX7_steps_11 : decode cX7_steps 11 = .ok (.iconst 0, 1) := by decide +kernel
theorem dX7_steps_12 : decode cX7_steps 12 = .ok (.istore_n 3, 1) := by decide +kernel
theorem dX7_steps_13 : decode cX7_steps 13 = .ok (.iload_n 3, 1) := by decide +kernel
theorem dX7_steps_14 : decode cX7_steps 14 = .ok (.aload_n 0, 1) := by decide +kernel
theorem dX7_steps_15 : decode cX7_steps 15 = .ok (.getfield 67, 3) := by decide +kernel
theorem dX7_steps_18 : decode cX7_steps 18 = .ok (.if_icmp .ge 16, 3) := by decide +kernel
theorem dX7_steps_21 : decode cX7_steps 21 = .ok (.aload_n 0, 1) := by decide +kernel
theorem dX7_steps_22 : decode cX7_steps 22 = .ok (.getfield 41, 3) := by decide +kernel
theorem dX7_steps_25 : decode cX7_steps 25 = .ok (.iload_n 3, 1) := by decide +kernel
theorem dX7_steps_26 : decode cX7_steps 26 = .ok (.iconst (-1), 1) := by decide +kernel
theorem dX7_steps_27 : decode cX7_steps 27 = .ok (.iastore, 1) := by decide +kernel
theorem dX7_steps_28 : decode cX7_steps 28 = .ok (.iinc 3 1, 3) := by decide +kernel
theorem dX7_steps_31 : decode cX7_steps 31 = .ok (.goto (-18), 3) := by decide +kernel
theorem dX7_steps_34 : decode cX7_steps 34 = .ok (.aload_n 0, 1) := by decide +kernel
theorem dX7_steps_35 : decode cX7_steps 35 = .ok (.getfield 41, 3) := by decide +kernel
theorem dX7_steps_38 : decode cX7_steps 38 = .ok (.iload_n 1, 1) := by decide +kernel
theorem dX7_steps_39 : decode cX7_steps 39 = .ok (.iconst 0, 1) := by decide +kernel
theorem dX7_steps_40 : decode cX7_steps 40 = .ok (.iastore, 1) := by decide +kernel
theorem dX7_steps_41 : decode cX7_steps 41 = .ok (.iconst 1, 1) := by decide +kernel
theorem dX7_steps_42 : decode cX7_steps 42 = .ok (.istore_n 3, 1) := by decide +kernel
theorem dX7_steps_43 : decode cX7_steps 43 = .ok (.iconst 0, 1) := by decide +kernel
theorem dX7_steps_44 : decode cX7_steps 44 = .ok (.istore 4, 2) := by decide +kernel
theorem dX7_steps_46 : decode cX7_steps 46 = .ok (.iload_n 3, 1) := by decide +kernel
theorem dX7_steps_47 : decode cX7_steps 47 = .ok (.ifCond .eq 151, 3) := by decide +kernel
theorem dX7_steps_50 : decode cX7_steps 50 = .ok (.aload_n 0, 1) := by decide +kernel
theorem dX7_steps_51 : decode cX7_steps 51 = .ok (.getfield 41, 3) := by decide +kernel
theorem dX7_steps_54 : decode cX7_steps 54 = .ok (.iload_n 2, 1) := by decide +kernel
theorem dX7_steps_55 : decode cX7_steps 55 = .ok (.iaload, 1) := by decide +kernel
theorem dX7_steps_56 : decode cX7_steps 56 = .ok (.ifCond .ge 142, 3) := by decide +kernel
theorem dX7_steps_59 : decode cX7_steps 59 = .ok (.iconst 0, 1) := by decide +kernel
theorem dX7_steps_60 : decode cX7_steps 60 = .ok (.istore_n 3, 1) := by decide +kernel
theorem dX7_steps_61 : decode cX7_steps 61 = .ok (.iconst 0, 1) := by decide +kernel
theorem dX7_steps_62 : decode cX7_steps 62 = .ok (.istore 5, 2) := by decide +kernel
theorem dX7_steps_64 : decode cX7_steps 64 = .ok (.iload 5, 2) := by decide +kernel
theorem dX7_steps_66 : decode cX7_steps 66 = .ok (.aload_n 0, 1) := by decide +kernel
theorem dX7_steps_67 : decode cX7_steps 67 = .ok (.getfield 115, 3) := by decide +kernel
theorem dX7_steps_70 : decode cX7_steps 70 = .ok (.if_icmp .ge 122, 3) := by decide +kernel
theorem dX7_steps_73 : decode cX7_steps 73 = .ok (.aload_n 0, 1) := by decide +kernel
theorem dX7_steps_74 : decode cX7_steps 74 = .ok (.getfield 54, 3) := by decide +kernel
theorem dX7_steps_77 : decode cX7_steps 77 = .ok (.iload 5, 2) := by decide +kernel
theorem dX7_steps_79 : decode cX7_steps 79 = .ok (.baload, 1) := by decide +kernel
theorem dX7_steps_80 : decode cX7_steps 80 = .ok (.ifCond .ne 6, 3) := by decide +kernel
theorem dX7_steps_83 : decode cX7_steps 83 = .ok (.goto 103, 3) := by decide +kernel
theorem dX7_steps_86 : decode cX7_steps 86 = .ok (.aload_n 0, 1) := by decide +kernel
theorem dX7_steps_87 : decode cX7_steps 87 = .ok (.getfield 41, 3) := by decide +kernel
theorem dX7_steps_90 : decode cX7_steps 90 = .ok (.aload_n 0, 1) := by decide +kernel
theorem dX7_steps_91 : decode cX7_steps 91 = .ok (.getfield 32, 3) := by decide +kernel
theorem dX7_steps_94 : decode cX7_steps 94 = .ok (.iload 5, 2) := by decide +kernel
theorem dX7_steps_96 : decode cX7_steps 96 = .ok (.iaload, 1) := by decide +kernel
theorem dX7_steps_97 : decode cX7_steps 97 = .ok (.iaload, 1) := by decide +kernel
theorem dX7_steps_98 : decode cX7_steps 98 = .ok (.iload 4, 2) := by decide +kernel
theorem dX7_steps_100 : decode cX7_steps 100 = .ok (.if_icmp .ne 36, 3) := by decide +kernel
theorem dX7_steps_103 : decode cX7_steps 103 = .ok (.aload_n 0, 1) := by decide +kernel
theorem dX7_steps_104 : decode cX7_steps 104 = .ok (.getfield 41, 3) := by decide +kernel
theorem dX7_steps_107 : decode cX7_steps 107 = .ok (.aload_n 0, 1) := by decide +kernel
theorem dX7_steps_108 : decode cX7_steps 108 = .ok (.getfield 35, 3) := by decide +kernel
theorem dX7_steps_111 : decode cX7_steps 111 = .ok (.iload 5, 2) := by decide +kernel
theorem dX7_steps_113 : decode cX7_steps 113 = .ok (.iaload, 1) := by decide +kernel
theorem dX7_steps_114 : decode cX7_steps 114 = .ok (.iaload, 1) := by decide +kernel
theorem dX7_steps_115 : decode cX7_steps 115 = .ok (.ifCond .ge 21, 3) := by decide +kernel
theorem dX7_steps_118 : decode cX7_steps 118 = .ok (.aload_n 0, 1) := by decide +kernel
theorem dX7_steps_119 : decode cX7_steps 119 = .ok (.getfield 41, 3) := by decide +kernel
theorem dX7_steps_122 : decode cX7_steps 122 = .ok (.aload_n 0, 1) := by decide +kernel
theorem dX7_steps_123 : decode cX7_steps 123 = .ok (.getfield 35, 3) := by decide +kernel
theorem dX7_steps_126 : decode cX7_steps 126 = .ok (.iload 5, 2) := by decide +kernel
theorem dX7_steps_128 : decode cX7_steps 128 = .ok (.iaload, 1) := by decide +kernel
theorem dX7_steps_129 : decode cX7_steps 129 = .ok (.iload 4, 2) := by decide +kernel
theorem dX7_steps_131 : decode cX7_steps 131 = .ok (.iconst 1, 1) := by decide +kernel
theorem dX7_steps_132 : decode cX7_steps 132 = .ok (.iadd, 1) := by decide +kernel
theorem dX7_steps_133 : decode cX7_steps 133 = .ok (.iastore, 1) := by decide +kernel
theorem dX7_steps_134 : decode cX7_steps 134 = .ok (.iconst 1, 1) := by decide +kernel
theorem dX7_steps_135 : decode cX7_steps 135 = .ok (.istore_n 3, 1) := by decide +kernel
theorem dX7_steps_136 : decode cX7_steps 136 = .ok (.aload_n 0, 1) := by decide +kernel
theorem dX7_steps_137 : decode cX7_steps 137 = .ok (.getfield 41, 3) := by decide +kernel
theorem dX7_steps_140 : decode cX7_steps 140 = .ok (.aload_n 0, 1) := by decide +kernel
theorem dX7_steps_141 : decode cX7_steps 141 = .ok (.getfield 35, 3) := by decide +kernel
theorem dX7_steps_144 : decode cX7_steps 144 = .ok (.iload 5, 2) := by decide +kernel
theorem dX7_steps_146 : decode cX7_steps 146 = .ok (.iaload, 1) := by decide +kernel
theorem dX7_steps_147 : decode cX7_steps 147 = .ok (.iaload, 1) := by decide +kernel
theorem dX7_steps_148 : decode cX7_steps 148 = .ok (.iload 4, 2) := by decide +kernel
theorem dX7_steps_150 : decode cX7_steps 150 = .ok (.if_icmp .ne 36, 3) := by decide +kernel
theorem dX7_steps_153 : decode cX7_steps 153 = .ok (.aload_n 0, 1) := by decide +kernel
theorem dX7_steps_154 : decode cX7_steps 154 = .ok (.getfield 41, 3) := by decide +kernel
theorem dX7_steps_157 : decode cX7_steps 157 = .ok (.aload_n 0, 1) := by decide +kernel
theorem dX7_steps_158 : decode cX7_steps 158 = .ok (.getfield 32, 3) := by decide +kernel
theorem dX7_steps_161 : decode cX7_steps 161 = .ok (.iload 5, 2) := by decide +kernel
theorem dX7_steps_163 : decode cX7_steps 163 = .ok (.iaload, 1) := by decide +kernel
theorem dX7_steps_164 : decode cX7_steps 164 = .ok (.iaload, 1) := by decide +kernel
theorem dX7_steps_165 : decode cX7_steps 165 = .ok (.ifCond .ge 21, 3) := by decide +kernel
theorem dX7_steps_168 : decode cX7_steps 168 = .ok (.aload_n 0, 1) := by decide +kernel
theorem dX7_steps_169 : decode cX7_steps 169 = .ok (.getfield 41, 3) := by decide +kernel
theorem dX7_steps_172 : decode cX7_steps 172 = .ok (.aload_n 0, 1) := by decide +kernel
theorem dX7_steps_173 : decode cX7_steps 173 = .ok (.getfield 32, 3) := by decide +kernel
theorem dX7_steps_176 : decode cX7_steps 176 = .ok (.iload 5, 2) := by decide +kernel
theorem dX7_steps_178 : decode cX7_steps 178 = .ok (.iaload, 1) := by decide +kernel
theorem dX7_steps_179 : decode cX7_steps 179 = .ok (.iload 4, 2) := by decide +kernel
theorem dX7_steps_181 : decode cX7_steps 181 = .ok (.iconst 1, 1) := by decide +kernel
theorem dX7_steps_182 : decode cX7_steps 182 = .ok (.iadd, 1) := by decide +kernel
theorem dX7_steps_183 : decode cX7_steps 183 = .ok (.iastore, 1) := by decide +kernel
theorem dX7_steps_184 : decode cX7_steps 184 = .ok (.iconst 1, 1) := by decide +kernel
theorem dX7_steps_185 : decode cX7_steps 185 = .ok (.istore_n 3, 1) := by decide +kernel
theorem dX7_steps_186 : decode cX7_steps 186 = .ok (.iinc 5 1, 3) := by decide +kernel
theorem dX7_steps_189 : decode cX7_steps 189 = .ok (.goto (-125), 3) := by decide +kernel
theorem dX7_steps_192 : decode cX7_steps 192 = .ok (.iinc 4 1, 3) := by decide +kernel
theorem dX7_steps_195 : decode cX7_steps 195 = .ok (.goto (-149), 3) := by decide +kernel
theorem dX7_steps_198 : decode cX7_steps 198 = .ok (.aload_n 0, 1) := by decide +kernel
theorem dX7_steps_199 : decode cX7_steps 199 = .ok (.getfield 41, 3) := by decide +kernel
theorem dX7_steps_202 : decode cX7_steps 202 = .ok (.iload_n 2, 1) := by decide +kernel
theorem dX7_steps_203 : decode cX7_steps 203 = .ok (.iaload, 1) := by decide +kernel
theorem dX7_steps_204 : decode cX7_steps 204 = .ok (.ifCond .ge 9, 3) := by decide +kernel
theorem dX7_steps_207 : decode cX7_steps 207 = .ok (.aload_n 0, 1) := by decide +kernel
theorem dX7_steps_208 : decode cX7_steps 208 = .ok (.iconst 2, 1) := by decide +kernel
theorem dX7_steps_209 : decode cX7_steps 209 = .ok (.invokevirtual 78, 3) := by decide +kernel
theorem dX7_steps_212 : decode cX7_steps 212 = .ok (.ireturn, 1) := by decide +kernel
theorem dX7_steps_213 : decode cX7_steps 213 = .ok (.aload_n 0, 1) := by decide +kernel
theorem dX7_steps_214 : decode cX7_steps 214 = .ok (.getfield 41, 3) := by decide +kernel
theorem dX7_steps_217 : decode cX7_steps 217 = .ok (.iload_n 2, 1) := by decide +kernel
theorem dX7_steps_218 : decode cX7_steps 218 = .ok (.iaload, 1) := by decide +kernel
theorem dX7_steps_219 : decode cX7_steps 219 = .ok (.ireturn, 1) := by decide +kernel
theorem dX7_person_0 : decode cX7_person 0 = .ok (.aload_n 0, 1) := by decide +kernel
theorem dX7_person_1 : decode cX7_person 1 = .ok (.iload_n 1, 1) := by decide +kernel
theorem dX7_person_2 : decode cX7_person 2 = .ok (.invokevirtual 74, 3) := by decide +kernel
theorem dX7_person_5 : decode cX7_person 5 = .ok (.ifCond .eq 5, 3) := by decide +kernel
theorem dX7_person_8 : decode cX7_person 8 = .ok (.iconst 0, 1) := by decide +kernel
theorem dX7_person_9 : decode cX7_person 9 = .ok (.ireturn, 1) := by decide +kernel
theorem dX7_person_10 : decode cX7_person 10 = .ok (.aload_n 0, 1) := by decide +kernel
theorem dX7_person_11 : decode cX7_person 11 = .ok (.invokevirtual 130, 3) := by decide +kernel
theorem dX7_person_14 : decode cX7_person 14 = .ok (.aload_n 0, 1) := by decide +kernel
theorem dX7_person_15 : decode cX7_person 15 = .ok (.getfield 38, 3) := by decide +kernel
theorem dX7_person_18 : decode cX7_person 18 = .ok (.iload_n 1, 1) := by decide +kernel
theorem dX7_person_19 : decode cX7_person 19 = .ok (.iaload, 1) := by decide +kernel
theorem dX7_person_20 : decode cX7_person 20 = .ok (.ireturn, 1) := by decide +kernel
theorem dX7_personByRounds_0 : decode cX7_personByRounds 0 = .ok (.aload_n 0, 1) := by decide +kernel
theorem dX7_personByRounds_1 : decode cX7_personByRounds 1 = .ok (.iload_n 1, 1) := by decide +kernel
theorem dX7_personByRounds_2 : decode cX7_personByRounds 2 = .ok (.invokevirtual 159, 3) := by decide +kernel
theorem dX7_personByRounds_5 : decode cX7_personByRounds 5 = .ok (.ireturn, 1) := by decide +kernel
theorem dX7_persons_0 : decode cX7_persons 0 = .ok (.aload_n 0, 1) := by decide +kernel
theorem dX7_persons_1 : decode cX7_persons 1 = .ok (.invokevirtual 130, 3) := by decide +kernel
theorem dX7_persons_4 : decode cX7_persons 4 = .ok (.iconst 0, 1) := by decide +kernel
theorem dX7_persons_5 : decode cX7_persons 5 = .ok (.istore_n 1, 1) := by decide +kernel
theorem dX7_persons_6 : decode cX7_persons 6 = .ok (.iconst 0, 1) := by decide +kernel
theorem dX7_persons_7 : decode cX7_persons 7 = .ok (.istore_n 2, 1) := by decide +kernel
theorem dX7_persons_8 : decode cX7_persons 8 = .ok (.iload_n 2, 1) := by decide +kernel
theorem dX7_persons_9 : decode cX7_persons 9 = .ok (.aload_n 0, 1) := by decide +kernel
theorem dX7_persons_10 : decode cX7_persons 10 = .ok (.getfield 67, 3) := by decide +kernel
theorem dX7_persons_13 : decode cX7_persons 13 = .ok (.if_icmp .ge 27, 3) := by decide +kernel
theorem dX7_persons_16 : decode cX7_persons 16 = .ok (.iload_n 1, 1) := by decide +kernel
theorem dX7_persons_17 : decode cX7_persons 17 = .ok (.aload_n 0, 1) := by decide +kernel
theorem dX7_persons_18 : decode cX7_persons 18 = .ok (.getfield 38, 3) := by decide +kernel
theorem dX7_persons_21 : decode cX7_persons 21 = .ok (.iload_n 2, 1) := by decide +kernel
theorem dX7_persons_22 : decode cX7_persons 22 = .ok (.iaload, 1) := by decide +kernel
theorem dX7_persons_23 : decode cX7_persons 23 = .ok (.iload_n 2, 1) := by decide +kernel
theorem dX7_persons_24 : decode cX7_persons 24 = .ok (.if_icmp .ne 7, 3) := by decide +kernel
theorem dX7_persons_27 : decode cX7_persons 27 = .ok (.iconst 1, 1) := by decide +kernel
theorem dX7_persons_28 : decode cX7_persons 28 = .ok (.goto 4, 3) := by decide +kernel
theorem dX7_persons_31 : decode cX7_persons 31 = .ok (.iconst 0, 1) := by decide +kernel
theorem dX7_persons_32 : decode cX7_persons 32 = .ok (.iadd, 1) := by decide +kernel
theorem dX7_persons_33 : decode cX7_persons 33 = .ok (.istore_n 1, 1) := by decide +kernel
theorem dX7_persons_34 : decode cX7_persons 34 = .ok (.iinc 2 1, 3) := by decide +kernel
theorem dX7_persons_37 : decode cX7_persons 37 = .ok (.goto (-29), 3) := by decide +kernel
theorem dX7_persons_40 : decode cX7_persons 40 = .ok (.iload_n 1, 1) := by decide +kernel
theorem dX7_persons_41 : decode cX7_persons 41 = .ok (.ireturn, 1) := by decide +kernel
theorem dX7_sizeOf_0 : decode cX7_sizeOf 0 = .ok (.iconst 0, 1) := by decide +kernel
theorem dX7_sizeOf_1 : decode cX7_sizeOf 1 = .ok (.istore_n 2, 1) := by decide +kernel
theorem dX7_sizeOf_2 : decode cX7_sizeOf 2 = .ok (.iconst 0, 1) := by decide +kernel
theorem dX7_sizeOf_3 : decode cX7_sizeOf 3 = .ok (.istore_n 3, 1) := by decide +kernel
theorem dX7_sizeOf_4 : decode cX7_sizeOf 4 = .ok (.iload_n 3, 1) := by decide +kernel
theorem dX7_sizeOf_5 : decode cX7_sizeOf 5 = .ok (.aload_n 0, 1) := by decide +kernel
theorem dX7_sizeOf_6 : decode cX7_sizeOf 6 = .ok (.getfield 67, 3) := by decide +kernel
theorem dX7_sizeOf_9 : decode cX7_sizeOf 9 = .ok (.if_icmp .ge 27, 3) := by decide +kernel
theorem dX7_sizeOf_12 : decode cX7_sizeOf 12 = .ok (.iload_n 2, 1) := by decide +kernel
theorem dX7_sizeOf_13 : decode cX7_sizeOf 13 = .ok (.aload_n 0, 1) := by decide +kernel
theorem dX7_sizeOf_14 : decode cX7_sizeOf 14 = .ok (.getfield 38, 3) := by decide +kernel
theorem dX7_sizeOf_17 : decode cX7_sizeOf 17 = .ok (.iload_n 3, 1) := by decide +kernel
theorem dX7_sizeOf_18 : decode cX7_sizeOf 18 = .ok (.iaload, 1) := by decide +kernel
theorem dX7_sizeOf_19 : decode cX7_sizeOf 19 = .ok (.iload_n 1, 1) := by decide +kernel
theorem dX7_sizeOf_20 : decode cX7_sizeOf 20 = .ok (.if_icmp .ne 7, 3) := by decide +kernel
theorem dX7_sizeOf_23 : decode cX7_sizeOf 23 = .ok (.iconst 1, 1) := by decide +kernel
theorem dX7_sizeOf_24 : decode cX7_sizeOf 24 = .ok (.goto 4, 3) := by decide +kernel
theorem dX7_sizeOf_27 : decode cX7_sizeOf 27 = .ok (.iconst 0, 1) := by decide +kernel
theorem dX7_sizeOf_28 : decode cX7_sizeOf 28 = .ok (.iadd, 1) := by decide +kernel
theorem dX7_sizeOf_29 : decode cX7_sizeOf 29 = .ok (.istore_n 2, 1) := by decide +kernel
theorem dX7_sizeOf_30 : decode cX7_sizeOf 30 = .ok (.iinc 3 1, 3) := by decide +kernel
theorem dX7_sizeOf_33 : decode cX7_sizeOf 33 = .ok (.goto (-29), 3) := by decide +kernel
theorem dX7_sizeOf_36 : decode cX7_sizeOf 36 = .ok (.iload_n 2, 1) := by decide +kernel
theorem dX7_sizeOf_37 : decode cX7_sizeOf 37 = .ok (.ireturn, 1) := by decide +kernel
theorem dX7_size_0 : decode cX7_size 0 = .ok (.aload_n 0, 1) := by decide +kernel
theorem dX7_size_1 : decode cX7_size 1 = .ok (.iload_n 1, 1) := by decide +kernel
theorem dX7_size_2 : decode cX7_size 2 = .ok (.invokevirtual 74, 3) := by decide +kernel
theorem dX7_size_5 : decode cX7_size 5 = .ok (.ifCond .eq 5, 3) := by decide +kernel
theorem dX7_size_8 : decode cX7_size 8 = .ok (.iconst 0, 1) := by decide +kernel
theorem dX7_size_9 : decode cX7_size 9 = .ok (.ireturn, 1) := by decide +kernel
theorem dX7_size_10 : decode cX7_size 10 = .ok (.aload_n 0, 1) := by decide +kernel
theorem dX7_size_11 : decode cX7_size 11 = .ok (.invokevirtual 130, 3) := by decide +kernel
theorem dX7_size_14 : decode cX7_size 14 = .ok (.aload_n 0, 1) := by decide +kernel
theorem dX7_size_15 : decode cX7_size 15 = .ok (.aload_n 0, 1) := by decide +kernel
theorem dX7_size_16 : decode cX7_size 16 = .ok (.getfield 38, 3) := by decide +kernel
theorem dX7_size_19 : decode cX7_size 19 = .ok (.iload_n 1, 1) := by decide +kernel
theorem dX7_size_20 : decode cX7_size 20 = .ok (.iaload, 1) := by decide +kernel
theorem dX7_size_21 : decode cX7_size 21 = .ok (.invokevirtual 162, 3) := by decide +kernel
theorem dX7_size_24 : decode cX7_size 24 = .ok (.ireturn, 1) := by decide +kernel
theorem dX7_fieldFrom_0 : decode cX7_fieldFrom 0 = .ok (.aload_n 0, 1) := by decide +kernel
theorem dX7_fieldFrom_1 : decode cX7_fieldFrom 1 = .ok (.iload_n 1, 1) := by decide +kernel
theorem dX7_fieldFrom_2 : decode cX7_fieldFrom 2 = .ok (.invokevirtual 74, 3) := by decide +kernel
theorem dX7_fieldFrom_5 : decode cX7_fieldFrom 5 = .ok (.ifCond .eq 5, 3) := by decide +kernel
theorem dX7_fieldFrom_8 : decode cX7_fieldFrom 8 = .ok (.iconst 0, 1) := by decide +kernel
theorem dX7_fieldFrom_9 : decode cX7_fieldFrom 9 = .ok (.ireturn, 1) := by decide +kernel
theorem dX7_fieldFrom_10 : decode cX7_fieldFrom 10 = .ok (.iload_n 2, 1) := by decide +kernel
theorem dX7_fieldFrom_11 : decode cX7_fieldFrom 11 = .ok (.iconst 0, 1) := by decide +kernel
theorem dX7_fieldFrom_12 : decode cX7_fieldFrom 12 = .ok (.iconst 3, 1) := by decide +kernel
theorem dX7_fieldFrom_13 : decode cX7_fieldFrom 13 = .ok (.invokestatic 70, 3) := by decide +kernel
theorem dX7_fieldFrom_16 : decode cX7_fieldFrom 16 = .ok (.ifCond .ne 9, 3) := by decide +kernel
theorem dX7_fieldFrom_19 : decode cX7_fieldFrom 19 = .ok (.aload_n 0, 1) := by decide +kernel
theorem dX7_fieldFrom_20 : decode cX7_fieldFrom 20 = .ok (.iconst 2, 1) := by decide +kernel
theorem dX7_fieldFrom_21 : decode cX7_fieldFrom 21 = .ok (.invokevirtual 78, 3) := by decide +kernel
theorem dX7_fieldFrom_24 : decode cX7_fieldFrom 24 = .ok (.ireturn, 1) := by decide +kernel
theorem dX7_fieldFrom_25 : decode cX7_fieldFrom 25 = .ok (.aload_n 0, 1) := by decide +kernel
theorem dX7_fieldFrom_26 : decode cX7_fieldFrom 26 = .ok (.invokevirtual 130, 3) := by decide +kernel
theorem dX7_fieldFrom_29 : decode cX7_fieldFrom 29 = .ok (.iconst (-1), 1) := by decide +kernel
theorem dX7_fieldFrom_30 : decode cX7_fieldFrom 30 = .ok (.istore_n 3, 1) := by decide +kernel
theorem dX7_fieldFrom_31 : decode cX7_fieldFrom 31 = .ok (.iconst 0, 1) := by decide +kernel
theorem dX7_fieldFrom_32 : decode cX7_fieldFrom 32 = .ok (.istore 4, 2) := by decide +kernel
theorem dX7_fieldFrom_34 : decode cX7_fieldFrom 34 = .ok (.iload 4, 2) := by decide +kernel
theorem dX7_fieldFrom_36 : decode cX7_fieldFrom 36 = .ok (.aload_n 0, 1) := by decide +kernel
theorem dX7_fieldFrom_37 : decode cX7_fieldFrom 37 = .ok (.getfield 67, 3) := by decide +kernel
theorem dX7_fieldFrom_40 : decode cX7_fieldFrom 40 = .ok (.if_icmp .ge 68, 3) := by decide +kernel
theorem dX7_fieldFrom_43 : decode cX7_fieldFrom 43 = .ok (.aload_n 0, 1) := by decide +kernel
theorem dX7_fieldFrom_44 : decode cX7_fieldFrom 44 = .ok (.getfield 38, 3) := by decide +kernel
theorem dX7_fieldFrom_47 : decode cX7_fieldFrom 47 = .ok (.iload 4, 2) := by decide +kernel
theorem dX7_fieldFrom_49 : decode cX7_fieldFrom 49 = .ok (.iaload, 1) := by decide +kernel
theorem dX7_fieldFrom_50 : decode cX7_fieldFrom 50 = .ok (.aload_n 0, 1) := by decide +kernel
theorem dX7_fieldFrom_51 : decode cX7_fieldFrom 51 = .ok (.getfield 38, 3) := by decide +kernel
theorem dX7_fieldFrom_54 : decode cX7_fieldFrom 54 = .ok (.iload_n 1, 1) := by decide +kernel
theorem dX7_fieldFrom_55 : decode cX7_fieldFrom 55 = .ok (.iaload, 1) := by decide +kernel
theorem dX7_fieldFrom_56 : decode cX7_fieldFrom 56 = .ok (.if_icmp .ne 46, 3) := by decide +kernel
theorem dX7_fieldFrom_59 : decode cX7_fieldFrom 59 = .ok (.aload_n 0, 1) := by decide +kernel
theorem dX7_fieldFrom_60 : decode cX7_fieldFrom 60 = .ok (.iload 4, 2) := by decide +kernel
theorem dX7_fieldFrom_62 : decode cX7_fieldFrom 62 = .ok (.iload_n 2, 1) := by decide +kernel
theorem dX7_fieldFrom_63 : decode cX7_fieldFrom 63 = .ok (.invokevirtual 97, 3) := by decide +kernel
theorem dX7_fieldFrom_66 : decode cX7_fieldFrom 66 = .ok (.ifCond .eq 36, 3) := by decide +kernel
theorem dX7_fieldFrom_69 : decode cX7_fieldFrom 69 = .ok (.iload_n 3, 1) := by decide +kernel
theorem dX7_fieldFrom_70 : decode cX7_fieldFrom 70 = .ok (.ifCond .lt 29, 3) := by decide +kernel
theorem dX7_fieldFrom_73 : decode cX7_fieldFrom 73 = .ok (.aload_n 0, 1) := by decide +kernel
theorem dX7_fieldFrom_74 : decode cX7_fieldFrom 74 = .ok (.getfield 13, 3) := by decide +kernel
theorem dX7_fieldFrom_77 : decode cX7_fieldFrom 77 = .ok (.aload_n 0, 1) := by decide +kernel
theorem dX7_fieldFrom_78 : decode cX7_fieldFrom 78 = .ok (.getfield 17, 3) := by decide +kernel
theorem dX7_fieldFrom_81 : decode cX7_fieldFrom 81 = .ok (.iload 4, 2) := by decide +kernel
theorem dX7_fieldFrom_83 : decode cX7_fieldFrom 83 = .ok (.iaload, 1) := by decide +kernel
theorem dX7_fieldFrom_84 : decode cX7_fieldFrom 84 = .ok (.iaload, 1) := by decide +kernel
theorem dX7_fieldFrom_85 : decode cX7_fieldFrom 85 = .ok (.aload_n 0, 1) := by decide +kernel
theorem dX7_fieldFrom_86 : decode cX7_fieldFrom 86 = .ok (.getfield 13, 3) := by decide +kernel
theorem dX7_fieldFrom_89 : decode cX7_fieldFrom 89 = .ok (.aload_n 0, 1) := by decide +kernel
theorem dX7_fieldFrom_90 : decode cX7_fieldFrom 90 = .ok (.getfield 17, 3) := by decide +kernel
theorem dX7_fieldFrom_93 : decode cX7_fieldFrom 93 = .ok (.iload_n 3, 1) := by decide +kernel
theorem dX7_fieldFrom_94 : decode cX7_fieldFrom 94 = .ok (.iaload, 1) := by decide +kernel
theorem dX7_fieldFrom_95 : decode cX7_fieldFrom 95 = .ok (.iaload, 1) := by decide +kernel
theorem dX7_fieldFrom_96 : decode cX7_fieldFrom 96 = .ok (.if_icmp .le 6, 3) := by decide +kernel
theorem dX7_fieldFrom_99 : decode cX7_fieldFrom 99 = .ok (.iload 4, 2) := by decide +kernel
theorem dX7_fieldFrom_101 : decode cX7_fieldFrom 101 = .ok (.istore_n 3, 1) := by decide +kernel
theorem dX7_fieldFrom_102 : decode cX7_fieldFrom 102 = .ok (.iinc 4 1, 3) := by decide +kernel
theorem dX7_fieldFrom_105 : decode cX7_fieldFrom 105 = .ok (.goto (-71), 3) := by decide +kernel
theorem dX7_fieldFrom_108 : decode cX7_fieldFrom 108 = .ok (.iload_n 3, 1) := by decide +kernel
theorem dX7_fieldFrom_109 : decode cX7_fieldFrom 109 = .ok (.ifCond .ge 9, 3) := by decide +kernel
theorem dX7_fieldFrom_112 : decode cX7_fieldFrom 112 = .ok (.aload_n 0, 1) := by decide +kernel
theorem dX7_fieldFrom_113 : decode cX7_fieldFrom 113 = .ok (.iconst 3, 1) := by decide +kernel
theorem dX7_fieldFrom_114 : decode cX7_fieldFrom 114 = .ok (.invokevirtual 78, 3) := by decide +kernel
theorem dX7_fieldFrom_117 : decode cX7_fieldFrom 117 = .ok (.ireturn, 1) := by decide +kernel
theorem dX7_fieldFrom_118 : decode cX7_fieldFrom 118 = .ok (.iload_n 3, 1) := by decide +kernel
theorem dX7_fieldFrom_119 : decode cX7_fieldFrom 119 = .ok (.ireturn, 1) := by decide +kernel
theorem dX7_conflicts_0 : decode cX7_conflicts 0 = .ok (.aload_n 0, 1) := by decide +kernel
theorem dX7_conflicts_1 : decode cX7_conflicts 1 = .ok (.iload_n 1, 1) := by decide +kernel
theorem dX7_conflicts_2 : decode cX7_conflicts 2 = .ok (.invokevirtual 74, 3) := by decide +kernel
theorem dX7_conflicts_5 : decode cX7_conflicts 5 = .ok (.ifCond .eq 5, 3) := by decide +kernel
theorem dX7_conflicts_8 : decode cX7_conflicts 8 = .ok (.iconst 0, 1) := by decide +kernel
theorem dX7_conflicts_9 : decode cX7_conflicts 9 = .ok (.ireturn, 1) := by decide +kernel
theorem dX7_conflicts_10 : decode cX7_conflicts 10 = .ok (.aload_n 0, 1) := by decide +kernel
theorem dX7_conflicts_11 : decode cX7_conflicts 11 = .ok (.invokevirtual 130, 3) := by decide +kernel
theorem dX7_conflicts_14 : decode cX7_conflicts 14 = .ok (.iconst 0, 1) := by decide +kernel
theorem dX7_conflicts_15 : decode cX7_conflicts 15 = .ok (.istore_n 2, 1) := by decide +kernel
theorem dX7_conflicts_16 : decode cX7_conflicts 16 = .ok (.iconst 0, 1) := by decide +kernel
theorem dX7_conflicts_17 : decode cX7_conflicts 17 = .ok (.istore_n 3, 1) := by decide +kernel
theorem dX7_conflicts_18 : decode cX7_conflicts 18 = .ok (.iload_n 3, 1) := by decide +kernel
theorem dX7_conflicts_19 : decode cX7_conflicts 19 = .ok (.iconst 4, 1) := by decide +kernel
theorem dX7_conflicts_20 : decode cX7_conflicts 20 = .ok (.if_icmp .ge 31, 3) := by decide +kernel
theorem dX7_conflicts_23 : decode cX7_conflicts 23 = .ok (.iload_n 2, 1) := by decide +kernel
theorem dX7_conflicts_24 : decode cX7_conflicts 24 = .ok (.aload_n 0, 1) := by decide +kernel
theorem dX7_conflicts_25 : decode cX7_conflicts 25 = .ok (.aload_n 0, 1) := by decide +kernel
theorem dX7_conflicts_26 : decode cX7_conflicts 26 = .ok (.getfield 38, 3) := by decide +kernel
theorem dX7_conflicts_29 : decode cX7_conflicts 29 = .ok (.iload_n 1, 1) := by decide +kernel
theorem dX7_conflicts_30 : decode cX7_conflicts 30 = .ok (.iaload, 1) := by decide +kernel
theorem dX7_conflicts_31 : decode cX7_conflicts 31 = .ok (.iload_n 3, 1) := by decide +kernel
theorem dX7_conflicts_32 : decode cX7_conflicts 32 = .ok (.invokevirtual 165, 3) := by decide +kernel
theorem dX7_conflicts_35 : decode cX7_conflicts 35 = .ok (.ifCond .eq 7, 3) := by decide +kernel
theorem dX7_conflicts_38 : decode cX7_conflicts 38 = .ok (.iconst 1, 1) := by decide +kernel
theorem dX7_conflicts_39 : decode cX7_conflicts 39 = .ok (.goto 4, 3) := by decide +kernel
theorem dX7_conflicts_42 : decode cX7_conflicts 42 = .ok (.iconst 0, 1) := by decide +kernel
theorem dX7_conflicts_43 : decode cX7_conflicts 43 = .ok (.iadd, 1) := by decide +kernel
theorem dX7_conflicts_44 : decode cX7_conflicts 44 = .ok (.istore_n 2, 1) := by decide +kernel
theorem dX7_conflicts_45 : decode cX7_conflicts 45 = .ok (.iinc 3 1, 3) := by decide +kernel
theorem dX7_conflicts_48 : decode cX7_conflicts 48 = .ok (.goto (-30), 3) := by decide +kernel
theorem dX7_conflicts_51 : decode cX7_conflicts 51 = .ok (.iload_n 2, 1) := by decide +kernel
theorem dX7_conflicts_52 : decode cX7_conflicts 52 = .ok (.ireturn, 1) := by decide +kernel
theorem dX7_isDisputed_0 : decode cX7_isDisputed 0 = .ok (.iconst 0, 1) := by decide +kernel
theorem dX7_isDisputed_1 : decode cX7_isDisputed 1 = .ok (.istore_n 3, 1) := by decide +kernel
theorem dX7_isDisputed_2 : decode cX7_isDisputed 2 = .ok (.iload_n 3, 1) := by decide +kernel
theorem dX7_isDisputed_3 : decode cX7_isDisputed 3 = .ok (.aload_n 0, 1) := by decide +kernel
theorem dX7_isDisputed_4 : decode cX7_isDisputed 4 = .ok (.getfield 67, 3) := by decide +kernel
theorem dX7_isDisputed_7 : decode cX7_isDisputed 7 = .ok (.if_icmp .ge 77, 3) := by decide +kernel
theorem dX7_isDisputed_10 : decode cX7_isDisputed 10 = .ok (.iconst 0, 1) := by decide +kernel
theorem dX7_isDisputed_11 : decode cX7_isDisputed 11 = .ok (.istore 4, 2) := by decide +kernel
theorem dX7_isDisputed_13 : decode cX7_isDisputed 13 = .ok (.iload 4, 2) := by decide +kernel
theorem dX7_isDisputed_15 : decode cX7_isDisputed 15 = .ok (.iload_n 3, 1) := by decide +kernel
theorem dX7_isDisputed_16 : decode cX7_isDisputed 16 = .ok (.if_icmp .ge 62, 3) := by decide +kernel
theorem dX7_isDisputed_19 : decode cX7_isDisputed 19 = .ok (.aload_n 0, 1) := by decide +kernel
theorem dX7_isDisputed_20 : decode cX7_isDisputed 20 = .ok (.getfield 38, 3) := by decide +kernel
theorem dX7_isDisputed_23 : decode cX7_isDisputed 23 = .ok (.iload_n 3, 1) := by decide +kernel
theorem dX7_isDisputed_24 : decode cX7_isDisputed 24 = .ok (.iaload, 1) := by decide +kernel
theorem dX7_isDisputed_25 : decode cX7_isDisputed 25 = .ok (.iload_n 1, 1) := by decide +kernel
theorem dX7_isDisputed_26 : decode cX7_isDisputed 26 = .ok (.if_icmp .ne 46, 3) := by decide +kernel
theorem dX7_isDisputed_29 : decode cX7_isDisputed 29 = .ok (.aload_n 0, 1) := by decide +kernel
theorem dX7_isDisputed_30 : decode cX7_isDisputed 30 = .ok (.getfield 38, 3) := by decide +kernel
theorem dX7_isDisputed_33 : decode cX7_isDisputed 33 = .ok (.iload 4, 2) := by decide +kernel
theorem dX7_isDisputed_35 : decode cX7_isDisputed 35 = .ok (.iaload, 1) := by decide +kernel
theorem dX7_isDisputed_36 : decode cX7_isDisputed 36 = .ok (.iload_n 1, 1) := by decide +kernel
theorem dX7_isDisputed_37 : decode cX7_isDisputed 37 = .ok (.if_icmp .ne 35, 3) := by decide +kernel
theorem dX7_isDisputed_40 : decode cX7_isDisputed 40 = .ok (.aload_n 0, 1) := by decide +kernel
theorem dX7_isDisputed_41 : decode cX7_isDisputed 41 = .ok (.iload_n 3, 1) := by decide +kernel
theorem dX7_isDisputed_42 : decode cX7_isDisputed 42 = .ok (.iload_n 2, 1) := by decide +kernel
theorem dX7_isDisputed_43 : decode cX7_isDisputed 43 = .ok (.invokevirtual 97, 3) := by decide +kernel
theorem dX7_isDisputed_46 : decode cX7_isDisputed 46 = .ok (.ifCond .eq 26, 3) := by decide +kernel
theorem dX7_isDisputed_49 : decode cX7_isDisputed 49 = .ok (.aload_n 0, 1) := by decide +kernel
theorem dX7_isDisputed_50 : decode cX7_isDisputed 50 = .ok (.iload 4, 2) := by decide +kernel
theorem dX7_isDisputed_52 : decode cX7_isDisputed 52 = .ok (.iload_n 2, 1) := by decide +kernel
theorem dX7_isDisputed_53 : decode cX7_isDisputed 53 = .ok (.invokevirtual 97, 3) := by decide +kernel
theorem dX7_isDisputed_56 : decode cX7_isDisputed 56 = .ok (.ifCond .eq 16, 3) := by decide +kernel
theorem dX7_isDisputed_59 : decode cX7_isDisputed 59 = .ok (.aload_n 0, 1) := by decide +kernel
theorem dX7_isDisputed_60 : decode cX7_isDisputed 60 = .ok (.iload_n 3, 1) := by decide +kernel
theorem dX7_isDisputed_61 : decode cX7_isDisputed 61 = .ok (.iload 4, 2) := by decide +kernel
theorem dX7_isDisputed_63 : decode cX7_isDisputed 63 = .ok (.iload_n 2, 1) := by decide +kernel
theorem dX7_isDisputed_64 : decode cX7_isDisputed 64 = .ok (.invokevirtual 101, 3) := by decide +kernel
theorem dX7_isDisputed_67 : decode cX7_isDisputed 67 = .ok (.ifCond .ne 5, 3) := by decide +kernel
theorem dX7_isDisputed_70 : decode cX7_isDisputed 70 = .ok (.iconst 1, 1) := by decide +kernel
theorem dX7_isDisputed_71 : decode cX7_isDisputed 71 = .ok (.ireturn, 1) := by decide +kernel
theorem dX7_isDisputed_72 : decode cX7_isDisputed 72 = .ok (.iinc 4 1, 3) := by decide +kernel
theorem dX7_isDisputed_75 : decode cX7_isDisputed 75 = .ok (.goto (-62), 3) := by decide +kernel
theorem dX7_isDisputed_78 : decode cX7_isDisputed 78 = .ok (.iinc 3 1, 3) := by decide +kernel
theorem dX7_isDisputed_81 : decode cX7_isDisputed 81 = .ok (.goto (-79), 3) := by decide +kernel
theorem dX7_isDisputed_84 : decode cX7_isDisputed 84 = .ok (.iconst 0, 1) := by decide +kernel
theorem dX7_isDisputed_85 : decode cX7_isDisputed 85 = .ok (.ireturn, 1) := by decide +kernel
theorem dX7_noGroup_0 : decode cX7_noGroup 0 = .ok (.aload_n 0, 1) := by decide +kernel
theorem dX7_noGroup_1 : decode cX7_noGroup 1 = .ok (.iload_n 1, 1) := by decide +kernel
theorem dX7_noGroup_2 : decode cX7_noGroup 2 = .ok (.iconst 0, 1) := by decide +kernel
theorem dX7_noGroup_3 : decode cX7_noGroup 3 = .ok (.iconst 3, 1) := by decide +kernel
theorem dX7_noGroup_4 : decode cX7_noGroup 4 = .ok (.invokestatic 70, 3) := by decide +kernel
theorem dX7_noGroup_7 : decode cX7_noGroup 7 = .ok (.ifCond .eq 21, 3) := by decide +kernel
theorem dX7_noGroup_10 : decode cX7_noGroup 10 = .ok (.iload_n 2, 1) := by decide +kernel
theorem dX7_noGroup_11 : decode cX7_noGroup 11 = .ok (.iconst 0, 1) := by decide +kernel
theorem dX7_noGroup_12 : decode cX7_noGroup 12 = .ok (.aload_n 0, 1) := by decide +kernel
theorem dX7_noGroup_13 : decode cX7_noGroup 13 = .ok (.getfield 67, 3) := by decide +kernel
theorem dX7_noGroup_16 : decode cX7_noGroup 16 = .ok (.iconst 1, 1) := by decide +kernel
theorem dX7_noGroup_17 : decode cX7_noGroup 17 = .ok (.isub, 1) := by decide +kernel
theorem dX7_noGroup_18 : decode cX7_noGroup 18 = .ok (.invokestatic 70, 3) := by decide +kernel
theorem dX7_noGroup_21 : decode cX7_noGroup 21 = .ok (.ifCond .eq 7, 3) := by decide +kernel
theorem dX7_noGroup_24 : decode cX7_noGroup 24 = .ok (.iconst 0, 1) := by decide +kernel
theorem dX7_noGroup_25 : decode cX7_noGroup 25 = .ok (.goto 4, 3) := by decide +kernel
theorem dX7_noGroup_28 : decode cX7_noGroup 28 = .ok (.iconst 1, 1) := by decide +kernel
theorem dX7_noGroup_29 : decode cX7_noGroup 29 = .ok (.putfield 64, 3) := by decide +kernel
theorem dX7_noGroup_32 : decode cX7_noGroup 32 = .ok (.aload_n 0, 1) := by decide +kernel
theorem dX7_noGroup_33 : decode cX7_noGroup 33 = .ok (.getfield 64, 3) := by decide +kernel
theorem dX7_noGroup_36 : decode cX7_noGroup 36 = .ok (.ifCond .eq 7, 3) := by decide +kernel
theorem dX7_noGroup_39 : decode cX7_noGroup 39 = .ok (.iconst 1, 1) := by decide +kernel
theorem dX7_noGroup_40 : decode cX7_noGroup 40 = .ok (.goto 4, 3) := by decide +kernel
theorem dX7_noGroup_43 : decode cX7_noGroup 43 = .ok (.iconst 0, 1) := by decide +kernel
theorem dX7_noGroup_44 : decode cX7_noGroup 44 = .ok (.ireturn, 1) := by decide +kernel
theorem dX7_cardsIn_0 : decode cX7_cardsIn 0 = .ok (.iconst 0, 1) := by decide +kernel
theorem dX7_cardsIn_1 : decode cX7_cardsIn 1 = .ok (.istore_n 2, 1) := by decide +kernel
theorem dX7_cardsIn_2 : decode cX7_cardsIn 2 = .ok (.iconst 0, 1) := by decide +kernel
theorem dX7_cardsIn_3 : decode cX7_cardsIn 3 = .ok (.istore_n 3, 1) := by decide +kernel
theorem dX7_cardsIn_4 : decode cX7_cardsIn 4 = .ok (.iload_n 3, 1) := by decide +kernel
theorem dX7_cardsIn_5 : decode cX7_cardsIn 5 = .ok (.aload_n 0, 1) := by decide +kernel
theorem dX7_cardsIn_6 : decode cX7_cardsIn 6 = .ok (.getfield 67, 3) := by decide +kernel
theorem dX7_cardsIn_9 : decode cX7_cardsIn 9 = .ok (.if_icmp .ge 31, 3) := by decide +kernel
theorem dX7_cardsIn_12 : decode cX7_cardsIn 12 = .ok (.iload_n 2, 1) := by decide +kernel
theorem dX7_cardsIn_13 : decode cX7_cardsIn 13 = .ok (.aload_n 0, 1) := by decide +kernel
theorem dX7_cardsIn_14 : decode cX7_cardsIn 14 = .ok (.getfield 61, 3) := by decide +kernel
theorem dX7_cardsIn_17 : decode cX7_cardsIn 17 = .ok (.bipush 16, 2) := by decide +kernel
theorem dX7_cardsIn_19 : decode cX7_cardsIn 19 = .ok (.iload_n 1, 1) := by decide +kernel
theorem dX7_cardsIn_20 : decode cX7_cardsIn 20 = .ok (.imul, 1) := by decide +kernel
theorem dX7_cardsIn_21 : decode cX7_cardsIn 21 = .ok (.iload_n 3, 1) := by decide +kernel
theorem dX7_cardsIn_22 : decode cX7_cardsIn 22 = .ok (.iadd, 1) := by decide +kernel
theorem dX7_cardsIn_23 : decode cX7_cardsIn 23 = .ok (.baload, 1) := by decide +kernel
theorem dX7_cardsIn_24 : decode cX7_cardsIn 24 = .ok (.ifCond .eq 7, 3) := by decide +kernel
theorem dX7_cardsIn_27 : decode cX7_cardsIn 27 = .ok (.iconst 1, 1) := by decide +kernel
theorem dX7_cardsIn_28 : decode cX7_cardsIn 28 = .ok (.goto 4, 3) := by decide +kernel
theorem dX7_cardsIn_31 : decode cX7_cardsIn 31 = .ok (.iconst 0, 1) := by decide +kernel
theorem dX7_cardsIn_32 : decode cX7_cardsIn 32 = .ok (.iadd, 1) := by decide +kernel
theorem dX7_cardsIn_33 : decode cX7_cardsIn 33 = .ok (.istore_n 2, 1) := by decide +kernel
theorem dX7_cardsIn_34 : decode cX7_cardsIn 34 = .ok (.iinc 3 1, 3) := by decide +kernel
theorem dX7_cardsIn_37 : decode cX7_cardsIn 37 = .ok (.goto (-33), 3) := by decide +kernel
theorem dX7_cardsIn_40 : decode cX7_cardsIn 40 = .ok (.iload_n 2, 1) := by decide +kernel
theorem dX7_cardsIn_41 : decode cX7_cardsIn 41 = .ok (.ireturn, 1) := by decide +kernel
theorem dX7_join_0 : decode cX7_join 0 = .ok (.aload_n 0, 1) := by decide +kernel
theorem dX7_join_1 : decode cX7_join 1 = .ok (.iload_n 1, 1) := by decide +kernel
theorem dX7_join_2 : decode cX7_join 2 = .ok (.iload_n 2, 1) := by decide +kernel
theorem dX7_join_3 : decode cX7_join 3 = .ok (.invokevirtual 168, 3) := by decide +kernel
theorem dX7_join_6 : decode cX7_join 6 = .ok (.ifCond .eq 5, 3) := by decide +kernel
theorem dX7_join_9 : decode cX7_join 9 = .ok (.iconst 0, 1) := by decide +kernel
theorem dX7_join_10 : decode cX7_join 10 = .ok (.ireturn, 1) := by decide +kernel
theorem dX7_join_11 : decode cX7_join 11 = .ok (.aload_n 0, 1) := by decide +kernel
theorem dX7_join_12 : decode cX7_join 12 = .ok (.getfield 61, 3) := by decide +kernel
theorem dX7_join_15 : decode cX7_join 15 = .ok (.bipush 16, 2) := by decide +kernel
theorem dX7_join_17 : decode cX7_join 17 = .ok (.iload_n 1, 1) := by decide +kernel
theorem dX7_join_18 : decode cX7_join 18 = .ok (.imul, 1) := by decide +kernel
theorem dX7_join_19 : decode cX7_join 19 = .ok (.iload_n 2, 1) := by decide +kernel
theorem dX7_join_20 : decode cX7_join 20 = .ok (.iadd, 1) := by decide +kernel
theorem dX7_join_21 : decode cX7_join 21 = .ok (.baload, 1) := by decide +kernel
theorem dX7_join_22 : decode cX7_join 22 = .ok (.ifCond .eq 9, 3) := by decide +kernel
theorem dX7_join_25 : decode cX7_join 25 = .ok (.aload_n 0, 1) := by decide +kernel
theorem dX7_join_26 : decode cX7_join 26 = .ok (.iconst 2, 1) := by decide +kernel
theorem dX7_join_27 : decode cX7_join 27 = .ok (.invokevirtual 78, 3) := by decide +kernel
theorem dX7_join_30 : decode cX7_join 30 = .ok (.ireturn, 1) := by decide +kernel
theorem dX7_join_31 : decode cX7_join 31 = .ok (.aload_n 0, 1) := by decide +kernel
theorem dX7_join_32 : decode cX7_join 32 = .ok (.getfield 61, 3) := by decide +kernel
theorem dX7_join_35 : decode cX7_join 35 = .ok (.bipush 16, 2) := by decide +kernel
theorem dX7_join_37 : decode cX7_join 37 = .ok (.iload_n 1, 1) := by decide +kernel
theorem dX7_join_38 : decode cX7_join 38 = .ok (.imul, 1) := by decide +kernel
theorem dX7_join_39 : decode cX7_join 39 = .ok (.iload_n 2, 1) := by decide +kernel
theorem dX7_join_40 : decode cX7_join 40 = .ok (.iadd, 1) := by decide +kernel
theorem dX7_join_41 : decode cX7_join 41 = .ok (.iconst 1, 1) := by decide +kernel
theorem dX7_join_42 : decode cX7_join 42 = .ok (.bastore, 1) := by decide +kernel
theorem dX7_join_43 : decode cX7_join 43 = .ok (.aload_n 0, 1) := by decide +kernel
theorem dX7_join_44 : decode cX7_join 44 = .ok (.iload_n 1, 1) := by decide +kernel
theorem dX7_join_45 : decode cX7_join 45 = .ok (.invokevirtual 171, 3) := by decide +kernel
theorem dX7_join_48 : decode cX7_join 48 = .ok (.ireturn, 1) := by decide +kernel
theorem dX7_leave_0 : decode cX7_leave 0 = .ok (.aload_n 0, 1) := by decide +kernel
theorem dX7_leave_1 : decode cX7_leave 1 = .ok (.iload_n 1, 1) := by decide +kernel
theorem dX7_leave_2 : decode cX7_leave 2 = .ok (.iload_n 2, 1) := by decide +kernel
theorem dX7_leave_3 : decode cX7_leave 3 = .ok (.invokevirtual 168, 3) := by decide +kernel
theorem dX7_leave_6 : decode cX7_leave 6 = .ok (.ifCond .eq 5, 3) := by decide +kernel
theorem dX7_leave_9 : decode cX7_leave 9 = .ok (.iconst 0, 1) := by decide +kernel
theorem dX7_leave_10 : decode cX7_leave 10 = .ok (.ireturn, 1) := by decide +kernel
theorem dX7_leave_11 : decode cX7_leave 11 = .ok (.aload_n 0, 1) := by decide +kernel
theorem dX7_leave_12 : decode cX7_leave 12 = .ok (.getfield 61, 3) := by decide +kernel
theorem dX7_leave_15 : decode cX7_leave 15 = .ok (.bipush 16, 2) := by decide +kernel
theorem dX7_leave_17 : decode cX7_leave 17 = .ok (.iload_n 1, 1) := by decide +kernel
theorem dX7_leave_18 : decode cX7_leave 18 = .ok (.imul, 1) := by decide +kernel
theorem dX7_leave_19 : decode cX7_leave 19 = .ok (.iload_n 2, 1) := by decide +kernel
theorem dX7_leave_20 : decode cX7_leave 20 = .ok (.iadd, 1) := by decide +kernel
theorem dX7_leave_21 : decode cX7_leave 21 = .ok (.baload, 1) := by decide +kernel
theorem dX7_leave_22 : decode cX7_leave 22 = .ok (.ifCond .ne 9, 3) := by decide +kernel
theorem dX7_leave_25 : decode cX7_leave 25 = .ok (.aload_n 0, 1) := by decide +kernel
theorem dX7_leave_26 : decode cX7_leave 26 = .ok (.iconst 2, 1) := by decide +kernel
theorem dX7_leave_27 : decode cX7_leave 27 = .ok (.invokevirtual 78, 3) := by decide +kernel
theorem dX7_leave_30 : decode cX7_leave 30 = .ok (.ireturn, 1) := by decide +kernel
theorem dX7_leave_31 : decode cX7_leave 31 = .ok (.aload_n 0, 1) := by decide +kernel
theorem dX7_leave_32 : decode cX7_leave 32 = .ok (.getfield 61, 3) := by decide +kernel
theorem dX7_leave_35 : decode cX7_leave 35 = .ok (.bipush 16, 2) := by decide +kernel
theorem dX7_leave_37 : decode cX7_leave 37 = .ok (.iload_n 1, 1) := by decide +kernel
theorem dX7_leave_38 : decode cX7_leave 38 = .ok (.imul, 1) := by decide +kernel
theorem dX7_leave_39 : decode cX7_leave 39 = .ok (.iload_n 2, 1) := by decide +kernel
theorem dX7_leave_40 : decode cX7_leave 40 = .ok (.iadd, 1) := by decide +kernel
theorem dX7_leave_41 : decode cX7_leave 41 = .ok (.iconst 0, 1) := by decide +kernel
theorem dX7_leave_42 : decode cX7_leave 42 = .ok (.bastore, 1) := by decide +kernel
theorem dX7_leave_43 : decode cX7_leave 43 = .ok (.aload_n 0, 1) := by decide +kernel
theorem dX7_leave_44 : decode cX7_leave 44 = .ok (.iload_n 1, 1) := by decide +kernel
theorem dX7_leave_45 : decode cX7_leave 45 = .ok (.invokevirtual 171, 3) := by decide +kernel
theorem dX7_leave_48 : decode cX7_leave 48 = .ok (.ireturn, 1) := by decide +kernel
theorem dX7_hasCard_0 : decode cX7_hasCard 0 = .ok (.iconst 0, 1) := by decide +kernel
theorem dX7_hasCard_1 : decode cX7_hasCard 1 = .ok (.istore_n 3, 1) := by decide +kernel
theorem dX7_hasCard_2 : decode cX7_hasCard 2 = .ok (.iload_n 3, 1) := by decide +kernel
theorem dX7_hasCard_3 : decode cX7_hasCard 3 = .ok (.aload_n 0, 1) := by decide +kernel
theorem dX7_hasCard_4 : decode cX7_hasCard 4 = .ok (.getfield 67, 3) := by decide +kernel
theorem dX7_hasCard_7 : decode cX7_hasCard 7 = .ok (.if_icmp .ge 35, 3) := by decide +kernel
theorem dX7_hasCard_10 : decode cX7_hasCard 10 = .ok (.aload_n 0, 1) := by decide +kernel
theorem dX7_hasCard_11 : decode cX7_hasCard 11 = .ok (.getfield 38, 3) := by decide +kernel
theorem dX7_hasCard_14 : decode cX7_hasCard 14 = .ok (.iload_n 3, 1) := by decide +kernel
theorem dX7_hasCard_15 : decode cX7_hasCard 15 = .ok (.iaload, 1) := by decide +kernel
theorem dX7_hasCard_16 : decode cX7_hasCard 16 = .ok (.iload_n 2, 1) := by decide +kernel
theorem dX7_hasCard_17 : decode cX7_hasCard 17 = .ok (.if_icmp .ne 19, 3) := by decide +kernel
theorem dX7_hasCard_20 : decode cX7_hasCard 20 = .ok (.aload_n 0, 1) := by decide +kernel
theorem dX7_hasCard_21 : decode cX7_hasCard 21 = .ok (.getfield 61, 3) := by decide +kernel
theorem dX7_hasCard_24 : decode cX7_hasCard 24 = .ok (.bipush 16, 2) := by decide +kernel
theorem dX7_hasCard_26 : decode cX7_hasCard 26 = .ok (.iload_n 1, 1) := by decide +kernel
theorem dX7_hasCard_27 : decode cX7_hasCard 27 = .ok (.imul, 1) := by decide +kernel
theorem dX7_hasCard_28 : decode cX7_hasCard 28 = .ok (.iload_n 3, 1) := by decide +kernel
theorem dX7_hasCard_29 : decode cX7_hasCard 29 = .ok (.iadd, 1) := by decide +kernel
theorem dX7_hasCard_30 : decode cX7_hasCard 30 = .ok (.baload, 1) := by decide +kernel
theorem dX7_hasCard_31 : decode cX7_hasCard 31 = .ok (.ifCond .eq 5, 3) := by decide +kernel
theorem dX7_hasCard_34 : decode cX7_hasCard 34 = .ok (.iconst 1, 1) := by decide +kernel
theorem dX7_hasCard_35 : decode cX7_hasCard 35 = .ok (.ireturn, 1) := by decide +kernel
theorem dX7_hasCard_36 : decode cX7_hasCard 36 = .ok (.iinc 3 1, 3) := by decide +kernel
theorem dX7_hasCard_39 : decode cX7_hasCard 39 = .ok (.goto (-37), 3) := by decide +kernel
theorem dX7_hasCard_42 : decode cX7_hasCard 42 = .ok (.iconst 0, 1) := by decide +kernel
theorem dX7_hasCard_43 : decode cX7_hasCard 43 = .ok (.ireturn, 1) := by decide +kernel
theorem dX7_isIn_0 : decode cX7_isIn 0 = .ok (.aload_n 0, 1) := by decide +kernel
theorem dX7_isIn_1 : decode cX7_isIn 1 = .ok (.iload_n 1, 1) := by decide +kernel
theorem dX7_isIn_2 : decode cX7_isIn 2 = .ok (.iload_n 2, 1) := by decide +kernel
theorem dX7_isIn_3 : decode cX7_isIn 3 = .ok (.invokevirtual 168, 3) := by decide +kernel
theorem dX7_isIn_6 : decode cX7_isIn 6 = .ok (.ifCond .eq 5, 3) := by decide +kernel
theorem dX7_isIn_9 : decode cX7_isIn 9 = .ok (.iconst 0, 1) := by decide +kernel
theorem dX7_isIn_10 : decode cX7_isIn 10 = .ok (.ireturn, 1) := by decide +kernel
theorem dX7_isIn_11 : decode cX7_isIn 11 = .ok (.aload_n 0, 1) := by decide +kernel
theorem dX7_isIn_12 : decode cX7_isIn 12 = .ok (.invokevirtual 130, 3) := by decide +kernel
theorem dX7_isIn_15 : decode cX7_isIn 15 = .ok (.aload_n 0, 1) := by decide +kernel
theorem dX7_isIn_16 : decode cX7_isIn 16 = .ok (.iload_n 1, 1) := by decide +kernel
theorem dX7_isIn_17 : decode cX7_isIn 17 = .ok (.aload_n 0, 1) := by decide +kernel
theorem dX7_isIn_18 : decode cX7_isIn 18 = .ok (.getfield 38, 3) := by decide +kernel
theorem dX7_isIn_21 : decode cX7_isIn 21 = .ok (.iload_n 2, 1) := by decide +kernel
theorem dX7_isIn_22 : decode cX7_isIn 22 = .ok (.iaload, 1) := by decide +kernel
theorem dX7_isIn_23 : decode cX7_isIn 23 = .ok (.invokevirtual 174, 3) := by decide +kernel
theorem dX7_isIn_26 : decode cX7_isIn 26 = .ok (.ireturn, 1) := by decide +kernel
theorem dX7_personsIn_0 : decode cX7_personsIn 0 = .ok (.iload_n 1, 1) := by decide +kernel
theorem dX7_personsIn_1 : decode cX7_personsIn 1 = .ok (.iconst 0, 1) := by decide +kernel
theorem dX7_personsIn_2 : decode cX7_personsIn 2 = .ok (.iconst 3, 1) := by decide +kernel
theorem dX7_personsIn_3 : decode cX7_personsIn 3 = .ok (.invokestatic 70, 3) := by decide +kernel
theorem dX7_personsIn_6 : decode cX7_personsIn 6 = .ok (.ifCond .ne 9, 3) := by decide +kernel
theorem dX7_personsIn_9 : decode cX7_personsIn 9 = .ok (.aload_n 0, 1) := by decide +kernel
theorem dX7_personsIn_10 : decode cX7_personsIn 10 = .ok (.iconst 1, 1) := by decide +kernel
theorem dX7_personsIn_11 : decode cX7_personsIn 11 = .ok (.invokevirtual 78, 3) := by decide +kernel
theorem dX7_personsIn_14 : decode cX7_personsIn 14 = .ok (.ireturn, 1) := by decide +kernel
theorem dX7_personsIn_15 : decode cX7_personsIn 15 = .ok (.aload_n 0, 1) := by decide +kernel
theorem dX7_personsIn_16 : decode cX7_personsIn 16 = .ok (.iconst 0, 1) := by decide +kernel
theorem dX7_personsIn_17 : decode cX7_personsIn 17 = .ok (.putfield 64, 3) := by decide +kernel
theorem dX7_personsIn_20 : decode cX7_personsIn 20 = .ok (.aload_n 0, 1) := by decide +kernel
theorem dX7_personsIn_21 : decode cX7_personsIn 21 = .ok (.invokevirtual 130, 3) := by decide +kernel
theorem dX7_personsIn_24 : decode cX7_personsIn 24 = .ok (.iconst 0, 1) := by decide +kernel
theorem dX7_personsIn_25 : decode cX7_personsIn 25 = .ok (.istore_n 2, 1) := by decide +kernel
theorem dX7_personsIn_26 : decode cX7_personsIn 26 = .ok (.iconst 0, 1) := by decide +kernel
theorem dX7_personsIn_27 : decode cX7_personsIn 27 = .ok (.istore_n 3, 1) := by decide +kernel
theorem dX7_personsIn_28 : decode cX7_personsIn 28 = .ok (.iload_n 3, 1) := by decide +kernel
theorem dX7_personsIn_29 : decode cX7_personsIn 29 = .ok (.aload_n 0, 1) := by decide +kernel
theorem dX7_personsIn_30 : decode cX7_personsIn 30 = .ok (.getfield 67, 3) := by decide +kernel
theorem dX7_personsIn_33 : decode cX7_personsIn 33 = .ok (.if_icmp .ge 36, 3) := by decide +kernel
theorem dX7_personsIn_36 : decode cX7_personsIn 36 = .ok (.iload_n 2, 1) := by decide +kernel
theorem dX7_personsIn_37 : decode cX7_personsIn 37 = .ok (.aload_n 0, 1) := by decide +kernel
theorem dX7_personsIn_38 : decode cX7_personsIn 38 = .ok (.getfield 38, 3) := by decide +kernel
theorem dX7_personsIn_41 : decode cX7_personsIn 41 = .ok (.iload_n 3, 1) := by decide +kernel
theorem dX7_personsIn_42 : decode cX7_personsIn 42 = .ok (.iaload, 1) := by decide +kernel
theorem dX7_personsIn_43 : decode cX7_personsIn 43 = .ok (.iload_n 3, 1) := by decide +kernel
theorem dX7_personsIn_44 : decode cX7_personsIn 44 = .ok (.if_icmp .ne 16, 3) := by decide +kernel
theorem dX7_personsIn_47 : decode cX7_personsIn 47 = .ok (.aload_n 0, 1) := by decide +kernel
theorem dX7_personsIn_48 : decode cX7_personsIn 48 = .ok (.iload_n 1, 1) := by decide +kernel
theorem dX7_personsIn_49 : decode cX7_personsIn 49 = .ok (.iload_n 3, 1) := by decide +kernel
theorem dX7_personsIn_50 : decode cX7_personsIn 50 = .ok (.invokevirtual 174, 3) := by decide +kernel
theorem dX7_personsIn_53 : decode cX7_personsIn 53 = .ok (.ifCond .eq 7, 3) := by decide +kernel
theorem dX7_personsIn_56 : decode cX7_personsIn 56 = .ok (.iconst 1, 1) := by decide +kernel
theorem dX7_personsIn_57 : decode cX7_personsIn 57 = .ok (.goto 4, 3) := by decide +kernel
theorem dX7_personsIn_60 : decode cX7_personsIn 60 = .ok (.iconst 0, 1) := by decide +kernel
theorem dX7_personsIn_61 : decode cX7_personsIn 61 = .ok (.iadd, 1) := by decide +kernel
theorem dX7_personsIn_62 : decode cX7_personsIn 62 = .ok (.istore_n 2, 1) := by decide +kernel
theorem dX7_personsIn_63 : decode cX7_personsIn 63 = .ok (.iinc 3 1, 3) := by decide +kernel
theorem dX7_personsIn_66 : decode cX7_personsIn 66 = .ok (.goto (-38), 3) := by decide +kernel
theorem dX7_personsIn_69 : decode cX7_personsIn 69 = .ok (.iload_n 2, 1) := by decide +kernel
theorem dX7_personsIn_70 : decode cX7_personsIn 70 = .ok (.ireturn, 1) := by decide +kernel
theorem dX7_type_0 : decode cX7_type 0 = .ok (.iload_n 1, 1) := by decide +kernel
theorem dX7_type_1 : decode cX7_type 1 = .ok (.invokestatic 85, 3) := by decide +kernel
theorem dX7_type_4 : decode cX7_type 4 = .ok (.ifCond .ne 9, 3) := by decide +kernel
theorem dX7_type_7 : decode cX7_type 7 = .ok (.aload_n 0, 1) := by decide +kernel
theorem dX7_type_8 : decode cX7_type 8 = .ok (.iconst 1, 1) := by decide +kernel
theorem dX7_type_9 : decode cX7_type 9 = .ok (.invokevirtual 78, 3) := by decide +kernel
theorem dX7_type_12 : decode cX7_type 12 = .ok (.ireturn, 1) := by decide +kernel
theorem dX7_type_13 : decode cX7_type 13 = .ok (.aload_n 0, 1) := by decide +kernel
theorem dX7_type_14 : decode cX7_type 14 = .ok (.getfield 177, 3) := by decide +kernel
theorem dX7_type_17 : decode cX7_type 17 = .ok (.bipush 10, 2) := by decide +kernel
theorem dX7_type_19 : decode cX7_type 19 = .ok (.if_icmp .ne 9, 3) := by decide +kernel
theorem dX7_type_22 : decode cX7_type 22 = .ok (.aload_n 0, 1) := by decide +kernel
theorem dX7_type_23 : decode cX7_type 23 = .ok (.iconst 2, 1) := by decide +kernel
theorem dX7_type_24 : decode cX7_type 24 = .ok (.invokevirtual 78, 3) := by decide +kernel
theorem dX7_type_27 : decode cX7_type 27 = .ok (.ireturn, 1) := by decide +kernel
theorem dX7_type_28 : decode cX7_type 28 = .ok (.aload_n 0, 1) := by decide +kernel
theorem dX7_type_29 : decode cX7_type 29 = .ok (.iconst 0, 1) := by decide +kernel
theorem dX7_type_30 : decode cX7_type 30 = .ok (.putfield 64, 3) := by decide +kernel
theorem dX7_type_33 : decode cX7_type 33 = .ok (.aload_n 0, 1) := by decide +kernel
theorem dX7_type_34 : decode cX7_type 34 = .ok (.getfield 50, 3) := by decide +kernel
theorem dX7_type_37 : decode cX7_type 37 = .ok (.sipush 160, 3) := by decide +kernel
theorem dX7_type_40 : decode cX7_type 40 = .ok (.aload_n 0, 1) := by decide +kernel
theorem dX7_type_41 : decode cX7_type 41 = .ok (.getfield 177, 3) := by decide +kernel
theorem dX7_type_44 : decode cX7_type 44 = .ok (.iadd, 1) := by decide +kernel
theorem dX7_type_45 : decode cX7_type 45 = .ok (.iload_n 1, 1) := by decide +kernel
theorem dX7_type_46 : decode cX7_type 46 = .ok (.castore, 1) := by decide +kernel
theorem dX7_type_47 : decode cX7_type 47 = .ok (.aload_n 0, 1) := by decide +kernel
theorem dX7_type_48 : decode cX7_type 48 = .ok (.dup, 1) := by decide +kernel
theorem dX7_type_49 : decode cX7_type 49 = .ok (.getfield 177, 3) := by decide +kernel
theorem dX7_type_52 : decode cX7_type 52 = .ok (.iconst 1, 1) := by decide +kernel
theorem dX7_type_53 : decode cX7_type 53 = .ok (.iadd, 1) := by decide +kernel
theorem dX7_type_54 : decode cX7_type 54 = .ok (.dup_x1, 1) := by decide +kernel
theorem dX7_type_55 : decode cX7_type 55 = .ok (.putfield 177, 3) := by decide +kernel
theorem dX7_type_58 : decode cX7_type 58 = .ok (.ireturn, 1) := by decide +kernel
theorem dX7_clearQuery_0 : decode cX7_clearQuery 0 = .ok (.aload_n 0, 1) := by decide +kernel
theorem dX7_clearQuery_1 : decode cX7_clearQuery 1 = .ok (.getfield 177, 3) := by decide +kernel
theorem dX7_clearQuery_4 : decode cX7_clearQuery 4 = .ok (.istore_n 1, 1) := by decide +kernel
theorem dX7_clearQuery_5 : decode cX7_clearQuery 5 = .ok (.aload_n 0, 1) := by decide +kernel
theorem dX7_clearQuery_6 : decode cX7_clearQuery 6 = .ok (.iconst 0, 1) := by decide +kernel
theorem dX7_clearQuery_7 : decode cX7_clearQuery 7 = .ok (.putfield 177, 3) := by decide +kernel
theorem dX7_clearQuery_10 : decode cX7_clearQuery 10 = .ok (.iload_n 1, 1) := by decide +kernel
theorem dX7_clearQuery_11 : decode cX7_clearQuery 11 = .ok (.ireturn, 1) := by decide +kernel
theorem dX7_isFound_0 : decode cX7_isFound 0 = .ok (.iload_n 2, 1) := by decide +kernel
theorem dX7_isFound_1 : decode cX7_isFound 1 = .ok (.ifCond .eq 21, 3) := by decide +kernel
theorem dX7_isFound_4 : decode cX7_isFound 4 = .ok (.aload_n 0, 1) := by decide +kernel
theorem dX7_isFound_5 : decode cX7_isFound 5 = .ok (.iload_n 1, 1) := by decide +kernel
theorem dX7_isFound_6 : decode cX7_isFound 6 = .ok (.aload_n 0, 1) := by decide +kernel
theorem dX7_isFound_7 : decode cX7_isFound 7 = .ok (.getfield 20, 3) := by decide +kernel
theorem dX7_isFound_10 : decode cX7_isFound 10 = .ok (.iload_n 1, 1) := by decide +kernel
theorem dX7_isFound_11 : decode cX7_isFound 11 = .ok (.iaload, 1) := by decide +kernel
theorem dX7_isFound_12 : decode cX7_isFound 12 = .ok (.bipush 16, 2) := by decide +kernel
theorem dX7_isFound_14 : decode cX7_isFound 14 = .ok (.aload_n 0, 1) := by decide +kernel
theorem dX7_isFound_15 : decode cX7_isFound 15 = .ok (.getfield 177, 3) := by decide +kernel
theorem dX7_isFound_18 : decode cX7_isFound 18 = .ok (.invokevirtual 104, 3) := by decide +kernel
theorem dX7_isFound_21 : decode cX7_isFound 21 = .ok (.ireturn, 1) := by decide +kernel
theorem dX7_isFound_22 : decode cX7_isFound 22 = .ok (.aload_n 0, 1) := by decide +kernel
theorem dX7_isFound_23 : decode cX7_isFound 23 = .ok (.getfield 20, 3) := by decide +kernel
theorem dX7_isFound_26 : decode cX7_isFound 26 = .ok (.iload_n 1, 1) := by decide +kernel
theorem dX7_isFound_27 : decode cX7_isFound 27 = .ok (.iaload, 1) := by decide +kernel
theorem dX7_isFound_28 : decode cX7_isFound 28 = .ok (.ifCond .eq 16, 3) := by decide +kernel
theorem dX7_isFound_31 : decode cX7_isFound 31 = .ok (.aload_n 0, 1) := by decide +kernel
theorem dX7_isFound_32 : decode cX7_isFound 32 = .ok (.getfield 20, 3) := by decide +kernel
theorem dX7_isFound_35 : decode cX7_isFound 35 = .ok (.iload_n 1, 1) := by decide +kernel
theorem dX7_isFound_36 : decode cX7_isFound 36 = .ok (.iaload, 1) := by decide +kernel
theorem dX7_isFound_37 : decode cX7_isFound 37 = .ok (.aload_n 0, 1) := by decide +kernel
theorem dX7_isFound_38 : decode cX7_isFound 38 = .ok (.getfield 177, 3) := by decide +kernel
theorem dX7_isFound_41 : decode cX7_isFound 41 = .ok (.if_icmp .ge 5, 3) := by decide +kernel
theorem dX7_isFound_44 : decode cX7_isFound 44 = .ok (.iconst 0, 1) := by decide +kernel
theorem dX7_isFound_45 : decode cX7_isFound 45 = .ok (.ireturn, 1) := by decide +kernel
theorem dX7_isFound_46 : decode cX7_isFound 46 = .ok (.iconst 0, 1) := by decide +kernel
theorem dX7_isFound_47 : decode cX7_isFound 47 = .ok (.istore_n 3, 1) := by decide +kernel
theorem dX7_isFound_48 : decode cX7_isFound 48 = .ok (.iload_n 3, 1) := by decide +kernel
theorem dX7_isFound_49 : decode cX7_isFound 49 = .ok (.aload_n 0, 1) := by decide +kernel
theorem dX7_isFound_50 : decode cX7_isFound 50 = .ok (.getfield 177, 3) := by decide +kernel
theorem dX7_isFound_53 : decode cX7_isFound 53 = .ok (.if_icmp .ge 35, 3) := by decide +kernel
theorem dX7_isFound_56 : decode cX7_isFound 56 = .ok (.aload_n 0, 1) := by decide +kernel
theorem dX7_isFound_57 : decode cX7_isFound 57 = .ok (.getfield 50, 3) := by decide +kernel
theorem dX7_isFound_60 : decode cX7_isFound 60 = .ok (.bipush 10, 2) := by decide +kernel
theorem dX7_isFound_62 : decode cX7_isFound 62 = .ok (.iload_n 1, 1) := by decide +kernel
theorem dX7_isFound_63 : decode cX7_isFound 63 = .ok (.imul, 1) := by decide +kernel
theorem dX7_isFound_64 : decode cX7_isFound 64 = .ok (.iload_n 3, 1) := by decide +kernel
theorem dX7_isFound_65 : decode cX7_isFound 65 = .ok (.iadd, 1) := by decide +kernel
theorem dX7_isFound_66 : decode cX7_isFound 66 = .ok (.caload, 1) := by decide +kernel
theorem dX7_isFound_67 : decode cX7_isFound 67 = .ok (.aload_n 0, 1) := by decide +kernel
theorem dX7_isFound_68 : decode cX7_isFound 68 = .ok (.getfield 50, 3) := by decide +kernel
theorem dX7_isFound_71 : decode cX7_isFound 71 = .ok (.sipush 160, 3) := by decide +kernel
theorem dX7_isFound_74 : decode cX7_isFound 74 = .ok (.iload_n 3, 1) := by decide +kernel
theorem dX7_isFound_75 : decode cX7_isFound 75 = .ok (.iadd, 1) := by decide +kernel
theorem dX7_isFound_76 : decode cX7_isFound 76 = .ok (.caload, 1) := by decide +kernel
theorem dX7_isFound_77 : decode cX7_isFound 77 = .ok (.if_icmp .eq 5, 3) := by decide +kernel
theorem dX7_isFound_80 : decode cX7_isFound 80 = .ok (.iconst 0, 1) := by decide +kernel
theorem dX7_isFound_81 : decode cX7_isFound 81 = .ok (.ireturn, 1) := by decide +kernel
theorem dX7_isFound_82 : decode cX7_isFound 82 = .ok (.iinc 3 1, 3) := by decide +kernel
theorem dX7_isFound_85 : decode cX7_isFound 85 = .ok (.goto (-37), 3) := by decide +kernel
theorem dX7_isFound_88 : decode cX7_isFound 88 = .ok (.iconst 1, 1) := by decide +kernel
theorem dX7_isFound_89 : decode cX7_isFound 89 = .ok (.ireturn, 1) := by decide +kernel
theorem dX7_finds_0 : decode cX7_finds 0 = .ok (.aload_n 0, 1) := by decide +kernel
theorem dX7_finds_1 : decode cX7_finds 1 = .ok (.invokevirtual 130, 3) := by decide +kernel
theorem dX7_finds_4 : decode cX7_finds 4 = .ok (.iconst 0, 1) := by decide +kernel
theorem dX7_finds_5 : decode cX7_finds 5 = .ok (.istore_n 3, 1) := by decide +kernel
theorem dX7_finds_6 : decode cX7_finds 6 = .ok (.iconst 0, 1) := by decide +kernel
theorem dX7_finds_7 : decode cX7_finds 7 = .ok (.istore 4, 2) := by decide +kernel
theorem dX7_finds_9 : decode cX7_finds 9 = .ok (.iload 4, 2) := by decide +kernel
theorem dX7_finds_11 : decode cX7_finds 11 = .ok (.aload_n 0, 1) := by decide +kernel
theorem dX7_finds_12 : decode cX7_finds 12 = .ok (.getfield 67, 3) := by decide +kernel
theorem dX7_finds_15 : decode cX7_finds 15 = .ok (.if_icmp .ge 82, 3) := by decide +kernel
theorem dX7_finds_18 : decode cX7_finds 18 = .ok (.iconst 0, 1) := by decide +kernel
theorem dX7_finds_19 : decode cX7_finds 19 = .ok (.istore 5, 2) := by decide +kernel
theorem dX7_finds_21 : decode cX7_finds 21 = .ok (.iload 4, 2) := by decide +kernel
theorem dX7_finds_23 : decode cX7_finds 23 = .ok (.istore 6, 2) := by decide +kernel
theorem dX7_finds_25 : decode cX7_finds 25 = .ok (.iload 6, 2) := by decide +kernel
theorem dX7_finds_27 : decode cX7_finds 27 = .ok (.aload_n 0, 1) := by decide +kernel
theorem dX7_finds_28 : decode cX7_finds 28 = .ok (.getfield 67, 3) := by decide +kernel
theorem dX7_finds_31 : decode cX7_finds 31 = .ok (.if_icmp .ge 41, 3) := by decide +kernel
theorem dX7_finds_34 : decode cX7_finds 34 = .ok (.iload 5, 2) := by decide +kernel
theorem dX7_finds_36 : decode cX7_finds 36 = .ok (.aload_n 0, 1) := by decide +kernel
theorem dX7_finds_37 : decode cX7_finds 37 = .ok (.getfield 38, 3) := by decide +kernel
theorem dX7_finds_40 : decode cX7_finds 40 = .ok (.iload 6, 2) := by decide +kernel
theorem dX7_finds_42 : decode cX7_finds 42 = .ok (.iaload, 1) := by decide +kernel
theorem dX7_finds_43 : decode cX7_finds 43 = .ok (.iload 4, 2) := by decide +kernel
theorem dX7_finds_45 : decode cX7_finds 45 = .ok (.if_icmp .ne 17, 3) := by decide +kernel
theorem dX7_finds_48 : decode cX7_finds 48 = .ok (.aload_n 0, 1) := by decide +kernel
theorem dX7_finds_49 : decode cX7_finds 49 = .ok (.iload 6, 2) := by decide +kernel
theorem dX7_finds_51 : decode cX7_finds 51 = .ok (.iload_n 1, 1) := by decide +kernel
theorem dX7_finds_52 : decode cX7_finds 52 = .ok (.invokevirtual 180, 3) := by decide +kernel
theorem dX7_finds_55 : decode cX7_finds 55 = .ok (.ifCond .eq 7, 3) := by decide +kernel
theorem dX7_finds_58 : decode cX7_finds 58 = .ok (.iconst 1, 1) := by decide +kernel
theorem dX7_finds_59 : decode cX7_finds 59 = .ok (.goto 4, 3) := by decide +kernel
theorem dX7_finds_62 : decode cX7_finds 62 = .ok (.iconst 0, 1) := by decide +kernel
theorem dX7_finds_63 : decode cX7_finds 63 = .ok (.ior, 1) := by decide +kernel
theorem dX7_finds_64 : decode cX7_finds 64 = .ok (.istore 5, 2) := by decide +kernel
theorem dX7_finds_66 : decode cX7_finds 66 = .ok (.iinc 6 1, 3) := by decide +kernel
theorem dX7_finds_69 : decode cX7_finds 69 = .ok (.goto (-44), 3) := by decide +kernel
theorem dX7_finds_72 : decode cX7_finds 72 = .ok (.iload 5, 2) := by decide +kernel
theorem dX7_finds_74 : decode cX7_finds 74 = .ok (.ifCond .ne 6, 3) := by decide +kernel
theorem dX7_finds_77 : decode cX7_finds 77 = .ok (.goto 14, 3) := by decide +kernel
theorem dX7_finds_80 : decode cX7_finds 80 = .ok (.iload_n 3, 1) := by decide +kernel
theorem dX7_finds_81 : decode cX7_finds 81 = .ok (.iload_n 2, 1) := by decide +kernel
theorem dX7_finds_82 : decode cX7_finds 82 = .ok (.if_icmp .ne 6, 3) := by decide +kernel
theorem dX7_finds_85 : decode cX7_finds 85 = .ok (.iload 4, 2) := by decide +kernel
theorem dX7_finds_87 : decode cX7_finds 87 = .ok (.ireturn, 1) := by decide +kernel
theorem dX7_finds_88 : decode cX7_finds 88 = .ok (.iinc 3 1, 3) := by decide +kernel
theorem dX7_finds_91 : decode cX7_finds 91 = .ok (.iinc 4 1, 3) := by decide +kernel
theorem dX7_finds_94 : decode cX7_finds 94 = .ok (.goto (-85), 3) := by decide +kernel
theorem dX7_finds_97 : decode cX7_finds 97 = .ok (.iconst (-1), 1) := by decide +kernel
theorem dX7_finds_98 : decode cX7_finds 98 = .ok (.iload_n 3, 1) := by decide +kernel
theorem dX7_finds_99 : decode cX7_finds 99 = .ok (.isub, 1) := by decide +kernel
theorem dX7_finds_100 : decode cX7_finds 100 = .ok (.ireturn, 1) := by decide +kernel
theorem dX7_found_0 : decode cX7_found 0 = .ok (.iconst (-1), 1) := by decide +kernel
theorem dX7_found_1 : decode cX7_found 1 = .ok (.aload_n 0, 1) := by decide +kernel
theorem dX7_found_2 : decode cX7_found 2 = .ok (.iload_n 1, 1) := by decide +kernel
theorem dX7_found_3 : decode cX7_found 3 = .ok (.iconst (-1), 1) := by decide +kernel
theorem dX7_found_4 : decode cX7_found 4 = .ok (.invokevirtual 184, 3) := by decide +kernel
theorem dX7_found_7 : decode cX7_found 7 = .ok (.isub, 1) := by decide +kernel
theorem dX7_found_8 : decode cX7_found 8 = .ok (.ireturn, 1) := by decide +kernel
theorem dX7_foundAt_0 : decode cX7_foundAt 0 = .ok (.aload_n 0, 1) := by decide +kernel
theorem dX7_foundAt_1 : decode cX7_foundAt 1 = .ok (.iload_n 1, 1) := by decide +kernel
theorem dX7_foundAt_2 : decode cX7_foundAt 2 = .ok (.iload_n 2, 1) := by decide +kernel
theorem dX7_foundAt_3 : decode cX7_foundAt 3 = .ok (.invokevirtual 184, 3) := by decide +kernel
theorem dX7_foundAt_6 : decode cX7_foundAt 6 = .ok (.istore_n 3, 1) := by decide +kernel
theorem dX7_foundAt_7 : decode cX7_foundAt 7 = .ok (.iload_n 3, 1) := by decide +kernel
theorem dX7_foundAt_8 : decode cX7_foundAt 8 = .ok (.ifCond .ge 9, 3) := by decide +kernel
theorem dX7_foundAt_11 : decode cX7_foundAt 11 = .ok (.aload_n 0, 1) := by decide +kernel
theorem dX7_foundAt_12 : decode cX7_foundAt 12 = .ok (.iconst 1, 1) := by decide +kernel
theorem dX7_foundAt_13 : decode cX7_foundAt 13 = .ok (.invokevirtual 78, 3) := by decide +kernel
theorem dX7_foundAt_16 : decode cX7_foundAt 16 = .ok (.ireturn, 1) := by decide +kernel
theorem dX7_foundAt_17 : decode cX7_foundAt 17 = .ok (.aload_n 0, 1) := by decide +kernel
theorem dX7_foundAt_18 : decode cX7_foundAt 18 = .ok (.iconst 0, 1) := by decide +kernel
theorem dX7_foundAt_19 : decode cX7_foundAt 19 = .ok (.putfield 64, 3) := by decide +kernel
theorem dX7_foundAt_22 : decode cX7_foundAt 22 = .ok (.iload_n 3, 1) := by decide +kernel
theorem dX7_foundAt_23 : decode cX7_foundAt 23 = .ok (.ireturn, 1) := by decide +kernel
theorem dX7_mergedShare_0 : decode cX7_mergedShare 0 = .ok (.aload_n 0, 1) := by decide +kernel
theorem dX7_mergedShare_1 : decode cX7_mergedShare 1 = .ok (.aload_n 0, 1) := by decide +kernel
theorem dX7_mergedShare_2 : decode cX7_mergedShare 2 = .ok (.getfield 67, 3) := by decide +kernel
theorem dX7_mergedShare_5 : decode cX7_mergedShare 5 = .ok (.ifCond .ne 7, 3) := by decide +kernel
theorem dX7_mergedShare_8 : decode cX7_mergedShare 8 = .ok (.iconst 1, 1) := by decide +kernel
theorem dX7_mergedShare_9 : decode cX7_mergedShare 9 = .ok (.goto 4, 3) := by decide +kernel
theorem dX7_mergedShare_12 : decode cX7_mergedShare 12 = .ok (.iconst 0, 1) := by decide +kernel
theorem dX7_mergedShare_13 : decode cX7_mergedShare 13 = .ok (.putfield 64, 3) := by decide +kernel
theorem dX7_mergedShare_16 : decode cX7_mergedShare 16 = .ok (.aload_n 0, 1) := by decide +kernel
theorem dX7_mergedShare_17 : decode cX7_mergedShare 17 = .ok (.getfield 67, 3) := by decide +kernel
theorem dX7_mergedShare_20 : decode cX7_mergedShare 20 = .ok (.ifCond .ne 5, 3) := by decide +kernel
theorem dX7_mergedShare_23 : decode cX7_mergedShare 23 = .ok (.fconst 0, 1) := by decide +kernel
theorem dX7_mergedShare_24 : decode cX7_mergedShare 24 = .ok (.freturn, 1) := by decide +kernel
theorem dX7_mergedShare_25 : decode cX7_mergedShare 25 = .ok (.aload_n 0, 1) := by decide +kernel
theorem dX7_mergedShare_26 : decode cX7_mergedShare 26 = .ok (.invokevirtual 130, 3) := by decide +kernel
theorem dX7_mergedShare_29 : decode cX7_mergedShare 29 = .ok (.iconst 0, 1) := by decide +kernel
theorem dX7_mergedShare_30 : decode cX7_mergedShare 30 = .ok (.istore_n 1, 1) := by decide +kernel
theorem dX7_mergedShare_31 : decode cX7_mergedShare 31 = .ok (.iconst 0, 1) := by decide +kernel
theorem dX7_mergedShare_32 : decode cX7_mergedShare 32 = .ok (.istore_n 2, 1) := by decide +kernel
theorem dX7_mergedShare_33 : decode cX7_mergedShare 33 = .ok (.iload_n 2, 1) := by decide +kernel
theorem dX7_mergedShare_34 : decode cX7_mergedShare 34 = .ok (.aload_n 0, 1) := by decide +kernel
theorem dX7_mergedShare_35 : decode cX7_mergedShare 35 = .ok (.getfield 67, 3) := by decide +kernel
theorem dX7_mergedShare_38 : decode cX7_mergedShare 38 = .ok (.if_icmp .ge 31, 3) := by decide +kernel
theorem dX7_mergedShare_41 : decode cX7_mergedShare 41 = .ok (.iload_n 1, 1) := by decide +kernel
theorem dX7_mergedShare_42 : decode cX7_mergedShare 42 = .ok (.aload_n 0, 1) := by decide +kernel
theorem dX7_mergedShare_43 : decode cX7_mergedShare 43 = .ok (.aload_n 0, 1) := by decide +kernel
theorem dX7_mergedShare_44 : decode cX7_mergedShare 44 = .ok (.getfield 38, 3) := by decide +kernel
theorem dX7_mergedShare_47 : decode cX7_mergedShare 47 = .ok (.iload_n 2, 1) := by decide +kernel
theorem dX7_mergedShare_48 : decode cX7_mergedShare 48 = .ok (.iaload, 1) := by decide +kernel
theorem dX7_mergedShare_49 : decode cX7_mergedShare 49 = .ok (.invokevirtual 162, 3) := by decide +kernel
theorem dX7_mergedShare_52 : decode cX7_mergedShare 52 = .ok (.iconst 1, 1) := by decide +kernel
theorem dX7_mergedShare_53 : decode cX7_mergedShare 53 = .ok (.if_icmp .le 7, 3) := by decide +kernel
theorem dX7_mergedShare_56 : decode cX7_mergedShare 56 = .ok (.iconst 1, 1) := by decide +kernel
theorem dX7_mergedShare_57 : decode cX7_mergedShare 57 = .ok (.goto 4, 3) := by decide +kernel
theorem dX7_mergedShare_60 : decode cX7_mergedShare 60 = .ok (.iconst 0, 1) := by decide +kernel
theorem dX7_mergedShare_61 : decode cX7_mergedShare 61 = .ok (.iadd, 1) := by decide +kernel
theorem dX7_mergedShare_62 : decode cX7_mergedShare 62 = .ok (.istore_n 1, 1) := by decide +kernel
theorem dX7_mergedShare_63 : decode cX7_mergedShare 63 = .ok (.iinc 2 1, 3) := by decide +kernel
theorem dX7_mergedShare_66 : decode cX7_mergedShare 66 = .ok (.goto (-33), 3) := by decide +kernel
theorem dX7_mergedShare_69 : decode cX7_mergedShare 69 = .ok (.iload_n 1, 1) := by decide +kernel
theorem dX7_mergedShare_70 : decode cX7_mergedShare 70 = .ok (.i2f, 1) := by decide +kernel
theorem dX7_mergedShare_71 : decode cX7_mergedShare 71 = .ok (.aload_n 0, 1) := by decide +kernel
theorem dX7_mergedShare_72 : decode cX7_mergedShare 72 = .ok (.getfield 67, 3) := by decide +kernel
theorem dX7_mergedShare_75 : decode cX7_mergedShare 75 = .ok (.i2f, 1) := by decide +kernel
theorem dX7_mergedShare_76 : decode cX7_mergedShare 76 = .ok (.fdiv, 1) := by decide +kernel
theorem dX7_mergedShare_77 : decode cX7_mergedShare 77 = .ok (.freturn, 1) := by decide +kernel
theorem dJ6_bitCount_0f7a4_0 : decode cJ6_bitCount_0f7a4 0 = .ok (.iload_n 0, 1) := by decide +kernel
theorem dJ6_bitCount_0f7a4_1 : decode cJ6_bitCount_0f7a4 1 = .ok (.iload_n 0, 1) := by decide +kernel
theorem dJ6_bitCount_0f7a4_2 : decode cJ6_bitCount_0f7a4 2 = .ok (.iconst 1, 1) := by decide +kernel
theorem dJ6_bitCount_0f7a4_3 : decode cJ6_bitCount_0f7a4 3 = .ok (.iushr, 1) := by decide +kernel
theorem dJ6_bitCount_0f7a4_4 : decode cJ6_bitCount_0f7a4 4 = .ok (.ldc_w 265, 3) := by decide +kernel
theorem dJ6_bitCount_0f7a4_7 : decode cJ6_bitCount_0f7a4 7 = .ok (.iand, 1) := by decide +kernel
theorem dJ6_bitCount_0f7a4_8 : decode cJ6_bitCount_0f7a4 8 = .ok (.isub, 1) := by decide +kernel
theorem dJ6_bitCount_0f7a4_9 : decode cJ6_bitCount_0f7a4 9 = .ok (.istore_n 0, 1) := by decide +kernel
theorem dJ6_bitCount_0f7a4_10 : decode cJ6_bitCount_0f7a4 10 = .ok (.iload_n 0, 1) := by decide +kernel
theorem dJ6_bitCount_0f7a4_11 : decode cJ6_bitCount_0f7a4 11 = .ok (.ldc_w 266, 3) := by decide +kernel
theorem dJ6_bitCount_0f7a4_14 : decode cJ6_bitCount_0f7a4 14 = .ok (.iand, 1) := by decide +kernel
theorem dJ6_bitCount_0f7a4_15 : decode cJ6_bitCount_0f7a4 15 = .ok (.iload_n 0, 1) := by decide +kernel
theorem dJ6_bitCount_0f7a4_16 : decode cJ6_bitCount_0f7a4 16 = .ok (.iconst 2, 1) := by decide +kernel
theorem dJ6_bitCount_0f7a4_17 : decode cJ6_bitCount_0f7a4 17 = .ok (.iushr, 1) := by decide +kernel
theorem dJ6_bitCount_0f7a4_18 : decode cJ6_bitCount_0f7a4 18 = .ok (.ldc_w 266, 3) := by decide +kernel
theorem dJ6_bitCount_0f7a4_21 : decode cJ6_bitCount_0f7a4 21 = .ok (.iand, 1) := by decide +kernel
theorem dJ6_bitCount_0f7a4_22 : decode cJ6_bitCount_0f7a4 22 = .ok (.iadd, 1) := by decide +kernel
theorem dJ6_bitCount_0f7a4_23 : decode cJ6_bitCount_0f7a4 23 = .ok (.istore_n 0, 1) := by decide +kernel
theorem dJ6_bitCount_0f7a4_24 : decode cJ6_bitCount_0f7a4 24 = .ok (.iload_n 0, 1) := by decide +kernel
theorem dJ6_bitCount_0f7a4_25 : decode cJ6_bitCount_0f7a4 25 = .ok (.iload_n 0, 1) := by decide +kernel
theorem dJ6_bitCount_0f7a4_26 : decode cJ6_bitCount_0f7a4 26 = .ok (.iconst 4, 1) := by decide +kernel
theorem dJ6_bitCount_0f7a4_27 : decode cJ6_bitCount_0f7a4 27 = .ok (.iushr, 1) := by decide +kernel
theorem dJ6_bitCount_0f7a4_28 : decode cJ6_bitCount_0f7a4 28 = .ok (.iadd, 1) := by decide +kernel
theorem dJ6_bitCount_0f7a4_29 : decode cJ6_bitCount_0f7a4 29 = .ok (.ldc_w 267, 3) := by decide +kernel
theorem dJ6_bitCount_0f7a4_32 : decode cJ6_bitCount_0f7a4 32 = .ok (.iand, 1) := by decide +kernel
theorem dJ6_bitCount_0f7a4_33 : decode cJ6_bitCount_0f7a4 33 = .ok (.istore_n 0, 1) := by decide +kernel
theorem dJ6_bitCount_0f7a4_34 : decode cJ6_bitCount_0f7a4 34 = .ok (.iload_n 0, 1) := by decide +kernel
theorem dJ6_bitCount_0f7a4_35 : decode cJ6_bitCount_0f7a4 35 = .ok (.iload_n 0, 1) := by decide +kernel
theorem dJ6_bitCount_0f7a4_36 : decode cJ6_bitCount_0f7a4 36 = .ok (.bipush 8, 2) := by decide +kernel
theorem dJ6_bitCount_0f7a4_38 : decode cJ6_bitCount_0f7a4 38 = .ok (.iushr, 1) := by decide +kernel
theorem dJ6_bitCount_0f7a4_39 : decode cJ6_bitCount_0f7a4 39 = .ok (.iadd, 1) := by decide +kernel
theorem dJ6_bitCount_0f7a4_40 : decode cJ6_bitCount_0f7a4 40 = .ok (.istore_n 0, 1) := by decide +kernel
theorem dJ6_bitCount_0f7a4_41 : decode cJ6_bitCount_0f7a4 41 = .ok (.iload_n 0, 1) := by decide +kernel
theorem dJ6_bitCount_0f7a4_42 : decode cJ6_bitCount_0f7a4 42 = .ok (.iload_n 0, 1) := by decide +kernel
theorem dJ6_bitCount_0f7a4_43 : decode cJ6_bitCount_0f7a4 43 = .ok (.bipush 16, 2) := by decide +kernel
theorem dJ6_bitCount_0f7a4_45 : decode cJ6_bitCount_0f7a4 45 = .ok (.iushr, 1) := by decide +kernel
theorem dJ6_bitCount_0f7a4_46 : decode cJ6_bitCount_0f7a4 46 = .ok (.iadd, 1) := by decide +kernel
theorem dJ6_bitCount_0f7a4_47 : decode cJ6_bitCount_0f7a4 47 = .ok (.istore_n 0, 1) := by decide +kernel
theorem dJ6_bitCount_0f7a4_48 : decode cJ6_bitCount_0f7a4 48 = .ok (.iload_n 0, 1) := by decide +kernel
theorem dJ6_bitCount_0f7a4_49 : decode cJ6_bitCount_0f7a4 49 = .ok (.bipush 63, 2) := by decide +kernel
theorem dJ6_bitCount_0f7a4_51 : decode cJ6_bitCount_0f7a4 51 = .ok (.iand, 1) := by decide +kernel
theorem dJ6_bitCount_0f7a4_52 : decode cJ6_bitCount_0f7a4 52 = .ok (.ireturn, 1) := by decide +kernel
theorem dJ9_floorDiv_7cf53_0 : decode cJ9_floorDiv_7cf53 0 = .ok (.iload_n 0, 1) := by decide +kernel
theorem dJ9_floorDiv_7cf53_1 : decode cJ9_floorDiv_7cf53 1 = .ok (.iload_n 1, 1) := by decide +kernel
theorem dJ9_floorDiv_7cf53_2 : decode cJ9_floorDiv_7cf53 2 = .ok (.idiv, 1) := by decide +kernel
theorem dJ9_floorDiv_7cf53_3 : decode cJ9_floorDiv_7cf53 3 = .ok (.istore_n 2, 1) := by decide +kernel
theorem dJ9_floorDiv_7cf53_4 : decode cJ9_floorDiv_7cf53 4 = .ok (.iload_n 0, 1) := by decide +kernel
theorem dJ9_floorDiv_7cf53_5 : decode cJ9_floorDiv_7cf53 5 = .ok (.iload_n 1, 1) := by decide +kernel
theorem dJ9_floorDiv_7cf53_6 : decode cJ9_floorDiv_7cf53 6 = .ok (.ixor, 1) := by decide +kernel
theorem dJ9_floorDiv_7cf53_7 : decode cJ9_floorDiv_7cf53 7 = .ok (.ifCond .ge 14, 3) := by decide +kernel
theorem dJ9_floorDiv_7cf53_10 : decode cJ9_floorDiv_7cf53 10 = .ok (.iload_n 2, 1) := by decide +kernel
theorem dJ9_floorDiv_7cf53_11 : decode cJ9_floorDiv_7cf53 11 = .ok (.iload_n 1, 1) := by decide +kernel
theorem dJ9_floorDiv_7cf53_12 : decode cJ9_floorDiv_7cf53 12 = .ok (.imul, 1) := by decide +kernel
theorem dJ9_floorDiv_7cf53_13 : decode cJ9_floorDiv_7cf53 13 = .ok (.iload_n 0, 1) := by decide +kernel
theorem dJ9_floorDiv_7cf53_14 : decode cJ9_floorDiv_7cf53 14 = .ok (.if_icmp .eq 7, 3) := by decide +kernel
theorem dJ9_floorDiv_7cf53_17 : decode cJ9_floorDiv_7cf53 17 = .ok (.iload_n 2, 1) := by decide +kernel
theorem dJ9_floorDiv_7cf53_18 : decode cJ9_floorDiv_7cf53 18 = .ok (.iconst 1, 1) := by decide +kernel
theorem dJ9_floorDiv_7cf53_19 : decode cJ9_floorDiv_7cf53 19 = .ok (.isub, 1) := by decide +kernel
theorem dJ9_floorDiv_7cf53_20 : decode cJ9_floorDiv_7cf53 20 = .ok (.ireturn, 1) := by decide +kernel
theorem dJ9_floorDiv_7cf53_21 : decode cJ9_floorDiv_7cf53 21 = .ok (.iload_n 2, 1) := by decide +kernel
theorem dJ9_floorDiv_7cf53_22 : decode cJ9_floorDiv_7cf53 22 = .ok (.ireturn, 1) := by decide +kernel
theorem dJ9_min_7cf53_0 : decode cJ9_min_7cf53 0 = .ok (.iload_n 0, 1) := by decide +kernel
theorem dJ9_min_7cf53_1 : decode cJ9_min_7cf53 1 = .ok (.iload_n 1, 1) := by decide +kernel
theorem dJ9_min_7cf53_2 : decode cJ9_min_7cf53 2 = .ok (.if_icmp .gt 7, 3) := by decide +kernel
theorem dJ9_min_7cf53_5 : decode cJ9_min_7cf53 5 = .ok (.iload_n 0, 1) := by decide +kernel
theorem dJ9_min_7cf53_6 : decode cJ9_min_7cf53 6 = .ok (.goto 4, 3) := by decide +kernel
theorem dJ9_min_7cf53_9 : decode cJ9_min_7cf53 9 = .ok (.iload_n 1, 1) := by decide +kernel
theorem dJ9_min_7cf53_10 : decode cJ9_min_7cf53 10 = .ok (.ireturn, 1) := by decide +kernel
theorem dL_addSource_0 : decode cL_addSource 0 = .ok (.aload_n 2, 1) := by decide +kernel
theorem dL_addSource_1 : decode cL_addSource 1 = .ok (.iconst 0, 1) := by decide +kernel
theorem dL_addSource_2 : decode cL_addSource 2 = .ok (.aload_n 0, 1) := by decide +kernel
theorem dL_addSource_3 : decode cL_addSource 3 = .ok (.iload_n 1, 1) := by decide +kernel
theorem dL_addSource_4 : decode cL_addSource 4 = .ok (.invokevirtual 7, 3) := by decide +kernel
theorem dL_addSource_7 : decode cL_addSource 7 = .ok (.i2l, 1) := by decide +kernel
theorem dL_addSource_8 : decode cL_addSource 8 = .ok (.lastore, 1) := by decide +kernel
theorem dL_addSource_9 : decode cL_addSource 9 = .ok (.goto 9, 3) := by decide +kernel
theorem dL_addSource_12 : decode cL_addSource 12 = .ok (.astore_n 3, 1) := by decide +kernel
theorem dL_addSource_13 : decode cL_addSource 13 = .ok (.iconst 1, 1) := by decide +kernel
theorem dL_addSource_14 : decode cL_addSource 14 = .ok (.ireturn, 1) := by decide +kernel
theorem dL_addSource_15 : decode cL_addSource 15 = .ok (.astore_n 3, 1) := by decide +kernel
theorem dL_addSource_16 : decode cL_addSource 16 = .ok (.iconst 2, 1) := by decide +kernel
theorem dL_addSource_17 : decode cL_addSource 17 = .ok (.ireturn, 1) := by decide +kernel
theorem dL_addSource_18 : decode cL_addSource 18 = .ok (.iconst 0, 1) := by decide +kernel
theorem dL_addSource_19 : decode cL_addSource 19 = .ok (.ireturn, 1) := by decide +kernel
theorem dL_setRank_0 : decode cL_setRank 0 = .ok (.aload_n 3, 1) := by decide +kernel
theorem dL_setRank_1 : decode cL_setRank 1 = .ok (.iconst 0, 1) := by decide +kernel
theorem dL_setRank_2 : decode cL_setRank 2 = .ok (.aload_n 0, 1) := by decide +kernel
theorem dL_setRank_3 : decode cL_setRank 3 = .ok (.iload_n 1, 1) := by decide +kernel
theorem dL_setRank_4 : decode cL_setRank 4 = .ok (.iload_n 2, 1) := by decide +kernel
theorem dL_setRank_5 : decode cL_setRank 5 = .ok (.invokevirtual 17, 3) := by decide +kernel
theorem dL_setRank_8 : decode cL_setRank 8 = .ok (.i2l, 1) := by decide +kernel
theorem dL_setRank_9 : decode cL_setRank 9 = .ok (.lastore, 1) := by decide +kernel
theorem dL_setRank_10 : decode cL_setRank 10 = .ok (.goto 11, 3) := by decide +kernel
theorem dL_setRank_13 : decode cL_setRank 13 = .ok (.astore 4, 2) := by decide +kernel
theorem dL_setRank_15 : decode cL_setRank 15 = .ok (.iconst 1, 1) := by decide +kernel
theorem dL_setRank_16 : decode cL_setRank 16 = .ok (.ireturn, 1) := by decide +kernel
theorem dL_setRank_17 : decode cL_setRank 17 = .ok (.astore 4, 2) := by decide +kernel
theorem dL_setRank_19 : decode cL_setRank 19 = .ok (.iconst 2, 1) := by decide +kernel
theorem dL_setRank_20 : decode cL_setRank 20 = .ok (.ireturn, 1) := by decide +kernel
theorem dL_setRank_21 : decode cL_setRank 21 = .ok (.iconst 0, 1) := by decide +kernel
theorem dL_setRank_22 : decode cL_setRank 22 = .ok (.ireturn, 1) := by decide +kernel
theorem dL_addCard_0 : decode cL_addCard 0 = .ok (.aload_n 2, 1) := by decide +kernel
theorem dL_addCard_1 : decode cL_addCard 1 = .ok (.iconst 0, 1) := by decide +kernel
theorem dL_addCard_2 : decode cL_addCard 2 = .ok (.aload_n 0, 1) := by decide +kernel
theorem dL_addCard_3 : decode cL_addCard 3 = .ok (.iload_n 1, 1) := by decide +kernel
theorem dL_addCard_4 : decode cL_addCard 4 = .ok (.invokevirtual 23, 3) := by decide +kernel
theorem dL_addCard_7 : decode cL_addCard 7 = .ok (.i2l, 1) := by decide +kernel
theorem dL_addCard_8 : decode cL_addCard 8 = .ok (.lastore, 1) := by decide +kernel
theorem dL_addCard_9 : decode cL_addCard 9 = .ok (.goto 9, 3) := by decide +kernel
theorem dL_addCard_12 : decode cL_addCard 12 = .ok (.astore_n 3, 1) := by decide +kernel
theorem dL_addCard_13 : decode cL_addCard 13 = .ok (.iconst 1, 1) := by decide +kernel
theorem dL_addCard_14 : decode cL_addCard 14 = .ok (.ireturn, 1) := by decide +kernel
theorem dL_addCard_15 : decode cL_addCard 15 = .ok (.astore_n 3, 1) := by decide +kernel
theorem dL_addCard_16 : decode cL_addCard 16 = .ok (.iconst 2, 1) := by decide +kernel
theorem dL_addCard_17 : decode cL_addCard 17 = .ok (.ireturn, 1) := by decide +kernel
theorem dL_addCard_18 : decode cL_addCard 18 = .ok (.iconst 0, 1) := by decide +kernel
theorem dL_addCard_19 : decode cL_addCard 19 = .ok (.ireturn, 1) := by decide +kernel
theorem dL_letter_0 : decode cL_letter 0 = .ok (.aload_n 3, 1) := by decide +kernel
theorem dL_letter_1 : decode cL_letter 1 = .ok (.iconst 0, 1) := by decide +kernel
theorem dL_letter_2 : decode cL_letter 2 = .ok (.aload_n 0, 1) := by decide +kernel
theorem dL_letter_3 : decode cL_letter 3 = .ok (.iload_n 1, 1) := by decide +kernel
theorem dL_letter_4 : decode cL_letter 4 = .ok (.iload_n 2, 1) := by decide +kernel
theorem dL_letter_5 : decode cL_letter 5 = .ok (.invokevirtual 26, 3) := by decide +kernel
theorem dL_letter_8 : decode cL_letter 8 = .ok (.i2l, 1) := by decide +kernel
theorem dL_letter_9 : decode cL_letter 9 = .ok (.lastore, 1) := by decide +kernel
theorem dL_letter_10 : decode cL_letter 10 = .ok (.goto 15, 3) := by decide +kernel
theorem dL_letter_13 : decode cL_letter 13 = .ok (.astore 4, 2) := by decide +kernel
theorem dL_letter_15 : decode cL_letter 15 = .ok (.iconst 1, 1) := by decide +kernel
theorem dL_letter_16 : decode cL_letter 16 = .ok (.ireturn, 1) := by decide +kernel
theorem dL_letter_17 : decode cL_letter 17 = .ok (.astore 4, 2) := by decide +kernel
theorem dL_letter_19 : decode cL_letter 19 = .ok (.iconst 2, 1) := by decide +kernel
theorem dL_letter_20 : decode cL_letter 20 = .ok (.ireturn, 1) := by decide +kernel
theorem dL_letter_21 : decode cL_letter 21 = .ok (.astore 4, 2) := by decide +kernel
theorem dL_letter_23 : decode cL_letter 23 = .ok (.iconst 3, 1) := by decide +kernel
theorem dL_letter_24 : decode cL_letter 24 = .ok (.ireturn, 1) := by decide +kernel
theorem dL_letter_25 : decode cL_letter 25 = .ok (.iconst 0, 1) := by decide +kernel
theorem dL_letter_26 : decode cL_letter 26 = .ok (.ireturn, 1) := by decide +kernel
theorem dL_clearName_0 : decode cL_clearName 0 = .ok (.aload_n 2, 1) := by decide +kernel
theorem dL_clearName_1 : decode cL_clearName 1 = .ok (.iconst 0, 1) := by decide +kernel
theorem dL_clearName_2 : decode cL_clearName 2 = .ok (.aload_n 0, 1) := by decide +kernel
theorem dL_clearName_3 : decode cL_clearName 3 = .ok (.iload_n 1, 1) := by decide +kernel
theorem dL_clearName_4 : decode cL_clearName 4 = .ok (.invokevirtual 30, 3) := by decide +kernel
theorem dL_clearName_7 : decode cL_clearName 7 = .ok (.i2l, 1) := by decide +kernel
theorem dL_clearName_8 : decode cL_clearName 8 = .ok (.lastore, 1) := by decide +kernel
theorem dL_clearName_9 : decode cL_clearName 9 = .ok (.goto 6, 3) := by decide +kernel
theorem dL_clearName_12 : decode cL_clearName 12 = .ok (.astore_n 3, 1) := by decide +kernel
theorem dL_clearName_13 : decode cL_clearName 13 = .ok (.iconst 1, 1) := by decide +kernel
theorem dL_clearName_14 : decode cL_clearName 14 = .ok (.ireturn, 1) := by decide +kernel
theorem dL_clearName_15 : decode cL_clearName 15 = .ok (.iconst 0, 1) := by decide +kernel
theorem dL_clearName_16 : decode cL_clearName 16 = .ok (.ireturn, 1) := by decide +kernel
theorem dL_setNumber_0 : decode cL_setNumber 0 = .ok (.aload 4, 2) := by decide +kernel
theorem dL_setNumber_2 : decode cL_setNumber 2 = .ok (.iconst 0, 1) := by decide +kernel
theorem dL_setNumber_3 : decode cL_setNumber 3 = .ok (.aload_n 0, 1) := by decide +kernel
theorem dL_setNumber_4 : decode cL_setNumber 4 = .ok (.iload_n 1, 1) := by decide +kernel
theorem dL_setNumber_5 : decode cL_setNumber 5 = .ok (.iload_n 2, 1) := by decide +kernel
theorem dL_setNumber_6 : decode cL_setNumber 6 = .ok (.iload_n 3, 1) := by decide +kernel
theorem dL_setNumber_7 : decode cL_setNumber 7 = .ok (.invokevirtual 33, 3) := by decide +kernel
theorem dL_setNumber_10 : decode cL_setNumber 10 = .ok (.i2l, 1) := by decide +kernel
theorem dL_setNumber_11 : decode cL_setNumber 11 = .ok (.lastore, 1) := by decide +kernel
theorem dL_setNumber_12 : decode cL_setNumber 12 = .ok (.goto 11, 3) := by decide +kernel
theorem dL_setNumber_15 : decode cL_setNumber 15 = .ok (.astore 5, 2) := by decide +kernel
theorem dL_setNumber_17 : decode cL_setNumber 17 = .ok (.iconst 1, 1) := by decide +kernel
theorem dL_setNumber_18 : decode cL_setNumber 18 = .ok (.ireturn, 1) := by decide +kernel
theorem dL_setNumber_19 : decode cL_setNumber 19 = .ok (.astore 5, 2) := by decide +kernel
theorem dL_setNumber_21 : decode cL_setNumber 21 = .ok (.iconst 2, 1) := by decide +kernel
theorem dL_setNumber_22 : decode cL_setNumber 22 = .ok (.ireturn, 1) := by decide +kernel
theorem dL_setNumber_23 : decode cL_setNumber 23 = .ok (.iconst 0, 1) := by decide +kernel
theorem dL_setNumber_24 : decode cL_setNumber 24 = .ok (.ireturn, 1) := by decide +kernel
theorem dL_nameLength_0 : decode cL_nameLength 0 = .ok (.aload_n 2, 1) := by decide +kernel
theorem dL_nameLength_1 : decode cL_nameLength 1 = .ok (.iconst 0, 1) := by decide +kernel
theorem dL_nameLength_2 : decode cL_nameLength 2 = .ok (.aload_n 0, 1) := by decide +kernel
theorem dL_nameLength_3 : decode cL_nameLength 3 = .ok (.iload_n 1, 1) := by decide +kernel
theorem dL_nameLength_4 : decode cL_nameLength 4 = .ok (.invokevirtual 37, 3) := by decide +kernel
theorem dL_nameLength_7 : decode cL_nameLength 7 = .ok (.i2l, 1) := by decide +kernel
theorem dL_nameLength_8 : decode cL_nameLength 8 = .ok (.lastore, 1) := by decide +kernel
theorem dL_nameLength_9 : decode cL_nameLength 9 = .ok (.goto 6, 3) := by decide +kernel
theorem dL_nameLength_12 : decode cL_nameLength 12 = .ok (.astore_n 3, 1) := by decide +kernel
theorem dL_nameLength_13 : decode cL_nameLength 13 = .ok (.iconst 1, 1) := by decide +kernel
theorem dL_nameLength_14 : decode cL_nameLength 14 = .ok (.ireturn, 1) := by decide +kernel
theorem dL_nameLength_15 : decode cL_nameLength 15 = .ok (.iconst 0, 1) := by decide +kernel
theorem dL_nameLength_16 : decode cL_nameLength 16 = .ok (.ireturn, 1) := by decide +kernel
theorem dL_nameAt_0 : decode cL_nameAt 0 = .ok (.aload_n 3, 1) := by decide +kernel
theorem dL_nameAt_1 : decode cL_nameAt 1 = .ok (.iconst 0, 1) := by decide +kernel
theorem dL_nameAt_2 : decode cL_nameAt 2 = .ok (.aload_n 0, 1) := by decide +kernel
theorem dL_nameAt_3 : decode cL_nameAt 3 = .ok (.iload_n 1, 1) := by decide +kernel
theorem dL_nameAt_4 : decode cL_nameAt 4 = .ok (.iload_n 2, 1) := by decide +kernel
theorem dL_nameAt_5 : decode cL_nameAt 5 = .ok (.invokevirtual 40, 3) := by decide +kernel
theorem dL_nameAt_8 : decode cL_nameAt 8 = .ok (.i2l, 1) := by decide +kernel
theorem dL_nameAt_9 : decode cL_nameAt 9 = .ok (.lastore, 1) := by decide +kernel
theorem dL_nameAt_10 : decode cL_nameAt 10 = .ok (.goto 11, 3) := by decide +kernel
theorem dL_nameAt_13 : decode cL_nameAt 13 = .ok (.astore 4, 2) := by decide +kernel
theorem dL_nameAt_15 : decode cL_nameAt 15 = .ok (.iconst 1, 1) := by decide +kernel
theorem dL_nameAt_16 : decode cL_nameAt 16 = .ok (.ireturn, 1) := by decide +kernel
theorem dL_nameAt_17 : decode cL_nameAt 17 = .ok (.astore 4, 2) := by decide +kernel
theorem dL_nameAt_19 : decode cL_nameAt 19 = .ok (.iconst 2, 1) := by decide +kernel
theorem dL_nameAt_20 : decode cL_nameAt 20 = .ok (.ireturn, 1) := by decide +kernel
theorem dL_nameAt_21 : decode cL_nameAt 21 = .ok (.iconst 0, 1) := by decide +kernel
theorem dL_nameAt_22 : decode cL_nameAt 22 = .ok (.ireturn, 1) := by decide +kernel
theorem dL_soundAt_0 : decode cL_soundAt 0 = .ok (.aload_n 3, 1) := by decide +kernel
theorem dL_soundAt_1 : decode cL_soundAt 1 = .ok (.iconst 0, 1) := by decide +kernel
theorem dL_soundAt_2 : decode cL_soundAt 2 = .ok (.aload_n 0, 1) := by decide +kernel
theorem dL_soundAt_3 : decode cL_soundAt 3 = .ok (.iload_n 1, 1) := by decide +kernel
theorem dL_soundAt_4 : decode cL_soundAt 4 = .ok (.iload_n 2, 1) := by decide +kernel
theorem dL_soundAt_5 : decode cL_soundAt 5 = .ok (.invokevirtual 46, 3) := by decide +kernel
theorem dL_soundAt_8 : decode cL_soundAt 8 = .ok (.i2l, 1) := by decide +kernel
theorem dL_soundAt_9 : decode cL_soundAt 9 = .ok (.lastore, 1) := by decide +kernel
theorem dL_soundAt_10 : decode cL_soundAt 10 = .ok (.goto 11, 3) := by decide +kernel
theorem dL_soundAt_13 : decode cL_soundAt 13 = .ok (.astore 4, 2) := by decide +kernel
theorem dL_soundAt_15 : decode cL_soundAt 15 = .ok (.iconst 1, 1) := by decide +kernel
theorem dL_soundAt_16 : decode cL_soundAt 16 = .ok (.ireturn, 1) := by decide +kernel
theorem dL_soundAt_17 : decode cL_soundAt 17 = .ok (.astore 4, 2) := by decide +kernel
theorem dL_soundAt_19 : decode cL_soundAt 19 = .ok (.iconst 2, 1) := by decide +kernel
theorem dL_soundAt_20 : decode cL_soundAt 20 = .ok (.ireturn, 1) := by decide +kernel
theorem dL_soundAt_21 : decode cL_soundAt 21 = .ok (.iconst 0, 1) := by decide +kernel
theorem dL_soundAt_22 : decode cL_soundAt 22 = .ok (.ireturn, 1) := by decide +kernel
theorem dL_number_0 : decode cL_number 0 = .ok (.aload_n 3, 1) := by decide +kernel
theorem dL_number_1 : decode cL_number 1 = .ok (.iconst 0, 1) := by decide +kernel
theorem dL_number_2 : decode cL_number 2 = .ok (.aload_n 0, 1) := by decide +kernel
theorem dL_number_3 : decode cL_number 3 = .ok (.iload_n 1, 1) := by decide +kernel
theorem dL_number_4 : decode cL_number 4 = .ok (.iload_n 2, 1) := by decide +kernel
theorem dL_number_5 : decode cL_number 5 = .ok (.invokevirtual 49, 3) := by decide +kernel
theorem dL_number_8 : decode cL_number 8 = .ok (.i2l, 1) := by decide +kernel
theorem dL_number_9 : decode cL_number 9 = .ok (.lastore, 1) := by decide +kernel
theorem dL_number_10 : decode cL_number 10 = .ok (.goto 11, 3) := by decide +kernel
theorem dL_number_13 : decode cL_number 13 = .ok (.astore 4, 2) := by decide +kernel
theorem dL_number_15 : decode cL_number 15 = .ok (.iconst 1, 1) := by decide +kernel
theorem dL_number_16 : decode cL_number 16 = .ok (.ireturn, 1) := by decide +kernel
theorem dL_number_17 : decode cL_number 17 = .ok (.astore 4, 2) := by decide +kernel
theorem dL_number_19 : decode cL_number 19 = .ok (.iconst 2, 1) := by decide +kernel
theorem dL_number_20 : decode cL_number 20 = .ok (.ireturn, 1) := by decide +kernel
theorem dL_number_21 : decode cL_number 21 = .ok (.iconst 0, 1) := by decide +kernel
theorem dL_number_22 : decode cL_number 22 = .ok (.ireturn, 1) := by decide +kernel
theorem dL_setWeights_0 : decode cL_setWeights 0 = .ok (.aload 4, 2) := by decide +kernel
theorem dL_setWeights_2 : decode cL_setWeights 2 = .ok (.iconst 0, 1) := by decide +kernel
theorem dL_setWeights_3 : decode cL_setWeights 3 = .ok (.aload_n 0, 1) := by decide +kernel
theorem dL_setWeights_4 : decode cL_setWeights 4 = .ok (.iload_n 1, 1) := by decide +kernel
theorem dL_setWeights_5 : decode cL_setWeights 5 = .ok (.iload_n 2, 1) := by decide +kernel
theorem dL_setWeights_6 : decode cL_setWeights 6 = .ok (.iload_n 3, 1) := by decide +kernel
theorem dL_setWeights_7 : decode cL_setWeights 7 = .ok (.invokevirtual 52, 3) := by decide +kernel
theorem dL_setWeights_10 : decode cL_setWeights 10 = .ok (.i2l, 1) := by decide +kernel
theorem dL_setWeights_11 : decode cL_setWeights 11 = .ok (.lastore, 1) := by decide +kernel
theorem dL_setWeights_12 : decode cL_setWeights 12 = .ok (.goto 7, 3) := by decide +kernel
theorem dL_setWeights_15 : decode cL_setWeights 15 = .ok (.astore 5, 2) := by decide +kernel
theorem dL_setWeights_17 : decode cL_setWeights 17 = .ok (.iconst 1, 1) := by decide +kernel
theorem dL_setWeights_18 : decode cL_setWeights 18 = .ok (.ireturn, 1) := by decide +kernel
theorem dL_setWeights_19 : decode cL_setWeights 19 = .ok (.iconst 0, 1) := by decide +kernel
theorem dL_setWeights_20 : decode cL_setWeights 20 = .ok (.ireturn, 1) := by decide +kernel
theorem dL_setThreshold_0 : decode cL_setThreshold 0 = .ok (.aload_n 2, 1) := by decide +kernel
theorem dL_setThreshold_1 : decode cL_setThreshold 1 = .ok (.iconst 0, 1) := by decide +kernel
theorem dL_setThreshold_2 : decode cL_setThreshold 2 = .ok (.aload_n 0, 1) := by decide +kernel
theorem dL_setThreshold_3 : decode cL_setThreshold 3 = .ok (.iload_n 1, 1) := by decide +kernel
theorem dL_setThreshold_4 : decode cL_setThreshold 4 = .ok (.invokevirtual 55, 3) := by decide +kernel
theorem dL_setThreshold_7 : decode cL_setThreshold 7 = .ok (.i2l, 1) := by decide +kernel
theorem dL_setThreshold_8 : decode cL_setThreshold 8 = .ok (.lastore, 1) := by decide +kernel
theorem dL_setThreshold_9 : decode cL_setThreshold 9 = .ok (.goto 6, 3) := by decide +kernel
theorem dL_setThreshold_12 : decode cL_setThreshold 12 = .ok (.astore_n 3, 1) := by decide +kernel
theorem dL_setThreshold_13 : decode cL_setThreshold 13 = .ok (.iconst 1, 1) := by decide +kernel
theorem dL_setThreshold_14 : decode cL_setThreshold 14 = .ok (.ireturn, 1) := by decide +kernel
theorem dL_setThreshold_15 : decode cL_setThreshold 15 = .ok (.iconst 0, 1) := by decide +kernel
theorem dL_setThreshold_16 : decode cL_setThreshold 16 = .ok (.ireturn, 1) := by decide +kernel
theorem dL_score_0 : decode cL_score 0 = .ok (.aload_n 3, 1) := by decide +kernel
theorem dL_score_1 : decode cL_score 1 = .ok (.iconst 0, 1) := by decide +kernel
theorem dL_score_2 : decode cL_score 2 = .ok (.aload_n 0, 1) := by decide +kernel
theorem dL_score_3 : decode cL_score 3 = .ok (.iload_n 1, 1) := by decide +kernel
theorem dL_score_4 : decode cL_score 4 = .ok (.iload_n 2, 1) := by decide +kernel
theorem dL_score_5 : decode cL_score 5 = .ok (.invokevirtual 58, 3) := by decide +kernel
theorem dL_score_8 : decode cL_score 8 = .ok (.i2l, 1) := by decide +kernel
theorem dL_score_9 : decode cL_score 9 = .ok (.lastore, 1) := by decide +kernel
theorem dL_score_10 : decode cL_score 10 = .ok (.goto 11, 3) := by decide +kernel
theorem dL_score_13 : decode cL_score 13 = .ok (.astore 4, 2) := by decide +kernel
theorem dL_score_15 : decode cL_score 15 = .ok (.iconst 1, 1) := by decide +kernel
theorem dL_score_16 : decode cL_score 16 = .ok (.ireturn, 1) := by decide +kernel
theorem dL_score_17 : decode cL_score 17 = .ok (.astore 4, 2) := by decide +kernel
theorem dL_score_19 : decode cL_score 19 = .ok (.iconst 2, 1) := by decide +kernel
theorem dL_score_20 : decode cL_score 20 = .ok (.ireturn, 1) := by decide +kernel
theorem dL_score_21 : decode cL_score 21 = .ok (.iconst 0, 1) := by decide +kernel
theorem dL_score_22 : decode cL_score 22 = .ok (.ireturn, 1) := by decide +kernel
theorem dL_bestScore_0 : decode cL_bestScore 0 = .ok (.aload_n 1, 1) := by decide +kernel
theorem dL_bestScore_1 : decode cL_bestScore 1 = .ok (.iconst 0, 1) := by decide +kernel
theorem dL_bestScore_2 : decode cL_bestScore 2 = .ok (.aload_n 0, 1) := by decide +kernel
theorem dL_bestScore_3 : decode cL_bestScore 3 = .ok (.invokevirtual 61, 3) := by decide +kernel
theorem dL_bestScore_6 : decode cL_bestScore 6 = .ok (.i2l, 1) := by decide +kernel
theorem dL_bestScore_7 : decode cL_bestScore 7 = .ok (.lastore, 1) := by decide +kernel
theorem dL_bestScore_8 : decode cL_bestScore 8 = .ok (.goto 6, 3) := by decide +kernel
theorem dL_bestScore_11 : decode cL_bestScore 11 = .ok (.astore_n 2, 1) := by decide +kernel
theorem dL_bestScore_12 : decode cL_bestScore 12 = .ok (.iconst 1, 1) := by decide +kernel
theorem dL_bestScore_13 : decode cL_bestScore 13 = .ok (.ireturn, 1) := by decide +kernel
theorem dL_bestScore_14 : decode cL_bestScore 14 = .ok (.iconst 0, 1) := by decide +kernel
theorem dL_bestScore_15 : decode cL_bestScore 15 = .ok (.ireturn, 1) := by decide +kernel
theorem dL_bestScoreByPairs_0 : decode cL_bestScoreByPairs 0 = .ok (.aload_n 1, 1) := by decide +kernel
theorem dL_bestScoreByPairs_1 : decode cL_bestScoreByPairs 1 = .ok (.iconst 0, 1) := by decide +kernel
theorem dL_bestScoreByPairs_2 : decode cL_bestScoreByPairs 2 = .ok (.aload_n 0, 1) := by decide +kernel
theorem dL_bestScoreByPairs_3 : decode cL_bestScoreByPairs 3 = .ok (.invokevirtual 65, 3) := by decide +kernel
theorem dL_bestScoreByPairs_6 : decode cL_bestScoreByPairs 6 = .ok (.i2l, 1) := by decide +kernel
theorem dL_bestScoreByPairs_7 : decode cL_bestScoreByPairs 7 = .ok (.lastore, 1) := by decide +kernel
theorem dL_bestScoreByPairs_8 : decode cL_bestScoreByPairs 8 = .ok (.goto 6, 3) := by decide +kernel
theorem dL_bestScoreByPairs_11 : decode cL_bestScoreByPairs 11 = .ok (.astore_n 2, 1) := by decide +kernel
theorem dL_bestScoreByPairs_12 : decode cL_bestScoreByPairs 12 = .ok (.iconst 1, 1) := by decide +kernel
theorem dL_bestScoreByPairs_13 : decode cL_bestScoreByPairs 13 = .ok (.ireturn, 1) := by decide +kernel
theorem dL_bestScoreByPairs_14 : decode cL_bestScoreByPairs 14 = .ok (.iconst 0, 1) := by decide +kernel
theorem dL_bestScoreByPairs_15 : decode cL_bestScoreByPairs 15 = .ok (.ireturn, 1) := by decide +kernel
theorem dL_bestOne_0 : decode cL_bestOne 0 = .ok (.aload_n 1, 1) := by decide +kernel
theorem dL_bestOne_1 : decode cL_bestOne 1 = .ok (.iconst 0, 1) := by decide +kernel
theorem dL_bestOne_2 : decode cL_bestOne 2 = .ok (.aload_n 0, 1) := by decide +kernel
theorem dL_bestOne_3 : decode cL_bestOne 3 = .ok (.invokevirtual 68, 3) := by decide +kernel
theorem dL_bestOne_6 : decode cL_bestOne 6 = .ok (.i2l, 1) := by decide +kernel
theorem dL_bestOne_7 : decode cL_bestOne 7 = .ok (.lastore, 1) := by decide +kernel
theorem dL_bestOne_8 : decode cL_bestOne 8 = .ok (.goto 6, 3) := by decide +kernel
theorem dL_bestOne_11 : decode cL_bestOne 11 = .ok (.astore_n 2, 1) := by decide +kernel
theorem dL_bestOne_12 : decode cL_bestOne 12 = .ok (.iconst 1, 1) := by decide +kernel
theorem dL_bestOne_13 : decode cL_bestOne 13 = .ok (.ireturn, 1) := by decide +kernel
theorem dL_bestOne_14 : decode cL_bestOne 14 = .ok (.iconst 0, 1) := by decide +kernel
theorem dL_bestOne_15 : decode cL_bestOne 15 = .ok (.ireturn, 1) := by decide +kernel
theorem dL_bestOther_0 : decode cL_bestOther 0 = .ok (.aload_n 1, 1) := by decide +kernel
theorem dL_bestOther_1 : decode cL_bestOther 1 = .ok (.iconst 0, 1) := by decide +kernel
theorem dL_bestOther_2 : decode cL_bestOther 2 = .ok (.aload_n 0, 1) := by decide +kernel
theorem dL_bestOther_3 : decode cL_bestOther 3 = .ok (.invokevirtual 71, 3) := by decide +kernel
theorem dL_bestOther_6 : decode cL_bestOther 6 = .ok (.i2l, 1) := by decide +kernel
theorem dL_bestOther_7 : decode cL_bestOther 7 = .ok (.lastore, 1) := by decide +kernel
theorem dL_bestOther_8 : decode cL_bestOther 8 = .ok (.goto 6, 3) := by decide +kernel
theorem dL_bestOther_11 : decode cL_bestOther 11 = .ok (.astore_n 2, 1) := by decide +kernel
theorem dL_bestOther_12 : decode cL_bestOther 12 = .ok (.iconst 1, 1) := by decide +kernel
theorem dL_bestOther_13 : decode cL_bestOther 13 = .ok (.ireturn, 1) := by decide +kernel
theorem dL_bestOther_14 : decode cL_bestOther 14 = .ok (.iconst 0, 1) := by decide +kernel
theorem dL_bestOther_15 : decode cL_bestOther 15 = .ok (.ireturn, 1) := by decide +kernel
theorem dL_forbid_0 : decode cL_forbid 0 = .ok (.aload_n 3, 1) := by decide +kernel
theorem dL_forbid_1 : decode cL_forbid 1 = .ok (.iconst 0, 1) := by decide +kernel
theorem dL_forbid_2 : decode cL_forbid 2 = .ok (.aload_n 0, 1) := by decide +kernel
theorem dL_forbid_3 : decode cL_forbid 3 = .ok (.iload_n 1, 1) := by decide +kernel
theorem dL_forbid_4 : decode cL_forbid 4 = .ok (.iload_n 2, 1) := by decide +kernel
theorem dL_forbid_5 : decode cL_forbid 5 = .ok (.invokevirtual 74, 3) := by decide +kernel
theorem dL_forbid_8 : decode cL_forbid 8 = .ok (.i2l, 1) := by decide +kernel
theorem dL_forbid_9 : decode cL_forbid 9 = .ok (.lastore, 1) := by decide +kernel
theorem dL_forbid_10 : decode cL_forbid 10 = .ok (.goto 19, 3) := by decide +kernel
theorem dL_forbid_13 : decode cL_forbid 13 = .ok (.astore 4, 2) := by decide +kernel
theorem dL_forbid_15 : decode cL_forbid 15 = .ok (.iconst 1, 1) := by decide +kernel
theorem dL_forbid_16 : decode cL_forbid 16 = .ok (.ireturn, 1) := by decide +kernel
theorem dL_forbid_17 : decode cL_forbid 17 = .ok (.astore 4, 2) := by decide +kernel
theorem dL_forbid_19 : decode cL_forbid 19 = .ok (.iconst 2, 1) := by decide +kernel
theorem dL_forbid_20 : decode cL_forbid 20 = .ok (.ireturn, 1) := by decide +kernel
theorem dL_forbid_21 : decode cL_forbid 21 = .ok (.astore 4, 2) := by decide +kernel
theorem dL_forbid_23 : decode cL_forbid 23 = .ok (.iconst 3, 1) := by decide +kernel
theorem dL_forbid_24 : decode cL_forbid 24 = .ok (.ireturn, 1) := by decide +kernel
theorem dL_forbid_25 : decode cL_forbid 25 = .ok (.astore 4, 2) := by decide +kernel
theorem dL_forbid_27 : decode cL_forbid 27 = .ok (.iconst 4, 1) := by decide +kernel
theorem dL_forbid_28 : decode cL_forbid 28 = .ok (.ireturn, 1) := by decide +kernel
theorem dL_forbid_29 : decode cL_forbid 29 = .ok (.iconst 0, 1) := by decide +kernel
theorem dL_forbid_30 : decode cL_forbid 30 = .ok (.ireturn, 1) := by decide +kernel
theorem dL_allow_0 : decode cL_allow 0 = .ok (.aload_n 3, 1) := by decide +kernel
theorem dL_allow_1 : decode cL_allow 1 = .ok (.iconst 0, 1) := by decide +kernel
theorem dL_allow_2 : decode cL_allow 2 = .ok (.aload_n 0, 1) := by decide +kernel
theorem dL_allow_3 : decode cL_allow 3 = .ok (.iload_n 1, 1) := by decide +kernel
theorem dL_allow_4 : decode cL_allow 4 = .ok (.iload_n 2, 1) := by decide +kernel
theorem dL_allow_5 : decode cL_allow 5 = .ok (.invokevirtual 79, 3) := by decide +kernel
theorem dL_allow_8 : decode cL_allow 8 = .ok (.i2l, 1) := by decide +kernel
theorem dL_allow_9 : decode cL_allow 9 = .ok (.lastore, 1) := by decide +kernel
theorem dL_allow_10 : decode cL_allow 10 = .ok (.goto 11, 3) := by decide +kernel
theorem dL_allow_13 : decode cL_allow 13 = .ok (.astore 4, 2) := by decide +kernel
theorem dL_allow_15 : decode cL_allow 15 = .ok (.iconst 1, 1) := by decide +kernel
theorem dL_allow_16 : decode cL_allow 16 = .ok (.ireturn, 1) := by decide +kernel
theorem dL_allow_17 : decode cL_allow 17 = .ok (.astore 4, 2) := by decide +kernel
theorem dL_allow_19 : decode cL_allow 19 = .ok (.iconst 2, 1) := by decide +kernel
theorem dL_allow_20 : decode cL_allow 20 = .ok (.ireturn, 1) := by decide +kernel
theorem dL_allow_21 : decode cL_allow 21 = .ok (.iconst 0, 1) := by decide +kernel
theorem dL_allow_22 : decode cL_allow 22 = .ok (.ireturn, 1) := by decide +kernel
theorem dL_why_0 : decode cL_why 0 = .ok (.aload_n 3, 1) := by decide +kernel
theorem dL_why_1 : decode cL_why 1 = .ok (.iconst 0, 1) := by decide +kernel
theorem dL_why_2 : decode cL_why 2 = .ok (.aload_n 0, 1) := by decide +kernel
theorem dL_why_3 : decode cL_why 3 = .ok (.iload_n 1, 1) := by decide +kernel
theorem dL_why_4 : decode cL_why 4 = .ok (.iload_n 2, 1) := by decide +kernel
theorem dL_why_5 : decode cL_why 5 = .ok (.invokevirtual 82, 3) := by decide +kernel
theorem dL_why_8 : decode cL_why 8 = .ok (.i2l, 1) := by decide +kernel
theorem dL_why_9 : decode cL_why 9 = .ok (.lastore, 1) := by decide +kernel
theorem dL_why_10 : decode cL_why 10 = .ok (.goto 7, 3) := by decide +kernel
theorem dL_why_13 : decode cL_why 13 = .ok (.astore 4, 2) := by decide +kernel
theorem dL_why_15 : decode cL_why 15 = .ok (.iconst 1, 1) := by decide +kernel
theorem dL_why_16 : decode cL_why 16 = .ok (.ireturn, 1) := by decide +kernel
theorem dL_why_17 : decode cL_why 17 = .ok (.iconst 0, 1) := by decide +kernel
theorem dL_why_18 : decode cL_why 18 = .ok (.ireturn, 1) := by decide +kernel
theorem dL_barOne_0 : decode cL_barOne 0 = .ok (.aload_n 3, 1) := by decide +kernel
theorem dL_barOne_1 : decode cL_barOne 1 = .ok (.iconst 0, 1) := by decide +kernel
theorem dL_barOne_2 : decode cL_barOne 2 = .ok (.aload_n 0, 1) := by decide +kernel
theorem dL_barOne_3 : decode cL_barOne 3 = .ok (.iload_n 1, 1) := by decide +kernel
theorem dL_barOne_4 : decode cL_barOne 4 = .ok (.iload_n 2, 1) := by decide +kernel
theorem dL_barOne_5 : decode cL_barOne 5 = .ok (.invokevirtual 85, 3) := by decide +kernel
theorem dL_barOne_8 : decode cL_barOne 8 = .ok (.i2l, 1) := by decide +kernel
theorem dL_barOne_9 : decode cL_barOne 9 = .ok (.lastore, 1) := by decide +kernel
theorem dL_barOne_10 : decode cL_barOne 10 = .ok (.goto 11, 3) := by decide +kernel
theorem dL_barOne_13 : decode cL_barOne 13 = .ok (.astore 4, 2) := by decide +kernel
theorem dL_barOne_15 : decode cL_barOne 15 = .ok (.iconst 1, 1) := by decide +kernel
theorem dL_barOne_16 : decode cL_barOne 16 = .ok (.ireturn, 1) := by decide +kernel
theorem dL_barOne_17 : decode cL_barOne 17 = .ok (.astore 4, 2) := by decide +kernel
theorem dL_barOne_19 : decode cL_barOne 19 = .ok (.iconst 2, 1) := by decide +kernel
theorem dL_barOne_20 : decode cL_barOne 20 = .ok (.ireturn, 1) := by decide +kernel
theorem dL_barOne_21 : decode cL_barOne 21 = .ok (.iconst 0, 1) := by decide +kernel
theorem dL_barOne_22 : decode cL_barOne 22 = .ok (.ireturn, 1) := by decide +kernel
theorem dL_barOther_0 : decode cL_barOther 0 = .ok (.aload_n 3, 1) := by decide +kernel
theorem dL_barOther_1 : decode cL_barOther 1 = .ok (.iconst 0, 1) := by decide +kernel
theorem dL_barOther_2 : decode cL_barOther 2 = .ok (.aload_n 0, 1) := by decide +kernel
theorem dL_barOther_3 : decode cL_barOther 3 = .ok (.iload_n 1, 1) := by decide +kernel
theorem dL_barOther_4 : decode cL_barOther 4 = .ok (.iload_n 2, 1) := by decide +kernel
theorem dL_barOther_5 : decode cL_barOther 5 = .ok (.invokevirtual 88, 3) := by decide +kernel
theorem dL_barOther_8 : decode cL_barOther 8 = .ok (.i2l, 1) := by decide +kernel
theorem dL_barOther_9 : decode cL_barOther 9 = .ok (.lastore, 1) := by decide +kernel
theorem dL_barOther_10 : decode cL_barOther 10 = .ok (.goto 11, 3) := by decide +kernel
theorem dL_barOther_13 : decode cL_barOther 13 = .ok (.astore 4, 2) := by decide +kernel
theorem dL_barOther_15 : decode cL_barOther 15 = .ok (.iconst 1, 1) := by decide +kernel
theorem dL_barOther_16 : decode cL_barOther 16 = .ok (.ireturn, 1) := by decide +kernel
theorem dL_barOther_17 : decode cL_barOther 17 = .ok (.astore 4, 2) := by decide +kernel
theorem dL_barOther_19 : decode cL_barOther 19 = .ok (.iconst 2, 1) := by decide +kernel
theorem dL_barOther_20 : decode cL_barOther 20 = .ok (.ireturn, 1) := by decide +kernel
theorem dL_barOther_21 : decode cL_barOther 21 = .ok (.iconst 0, 1) := by decide +kernel
theorem dL_barOther_22 : decode cL_barOther 22 = .ok (.ireturn, 1) := by decide +kernel
theorem dL_merge_0 : decode cL_merge 0 = .ok (.aload_n 3, 1) := by decide +kernel
theorem dL_merge_1 : decode cL_merge 1 = .ok (.iconst 0, 1) := by decide +kernel
theorem dL_merge_2 : decode cL_merge 2 = .ok (.aload_n 0, 1) := by decide +kernel
theorem dL_merge_3 : decode cL_merge 3 = .ok (.iload_n 1, 1) := by decide +kernel
theorem dL_merge_4 : decode cL_merge 4 = .ok (.iload_n 2, 1) := by decide +kernel
theorem dL_merge_5 : decode cL_merge 5 = .ok (.invokevirtual 91, 3) := by decide +kernel
theorem dL_merge_8 : decode cL_merge 8 = .ok (.i2l, 1) := by decide +kernel
theorem dL_merge_9 : decode cL_merge 9 = .ok (.lastore, 1) := by decide +kernel
theorem dL_merge_10 : decode cL_merge 10 = .ok (.goto 15, 3) := by decide +kernel
theorem dL_merge_13 : decode cL_merge 13 = .ok (.astore 4, 2) := by decide +kernel
theorem dL_merge_15 : decode cL_merge 15 = .ok (.iconst 1, 1) := by decide +kernel
theorem dL_merge_16 : decode cL_merge 16 = .ok (.ireturn, 1) := by decide +kernel
theorem dL_merge_17 : decode cL_merge 17 = .ok (.astore 4, 2) := by decide +kernel
theorem dL_merge_19 : decode cL_merge 19 = .ok (.iconst 2, 1) := by decide +kernel
theorem dL_merge_20 : decode cL_merge 20 = .ok (.ireturn, 1) := by decide +kernel
theorem dL_merge_21 : decode cL_merge 21 = .ok (.astore 4, 2) := by decide +kernel
theorem dL_merge_23 : decode cL_merge 23 = .ok (.iconst 3, 1) := by decide +kernel
theorem dL_merge_24 : decode cL_merge 24 = .ok (.ireturn, 1) := by decide +kernel
theorem dL_merge_25 : decode cL_merge 25 = .ok (.iconst 0, 1) := by decide +kernel
theorem dL_merge_26 : decode cL_merge 26 = .ok (.ireturn, 1) := by decide +kernel
theorem dL_mergeBest_0 : decode cL_mergeBest 0 = .ok (.aload_n 1, 1) := by decide +kernel
theorem dL_mergeBest_1 : decode cL_mergeBest 1 = .ok (.iconst 0, 1) := by decide +kernel
theorem dL_mergeBest_2 : decode cL_mergeBest 2 = .ok (.aload_n 0, 1) := by decide +kernel
theorem dL_mergeBest_3 : decode cL_mergeBest 3 = .ok (.invokevirtual 94, 3) := by decide +kernel
theorem dL_mergeBest_6 : decode cL_mergeBest 6 = .ok (.i2l, 1) := by decide +kernel
theorem dL_mergeBest_7 : decode cL_mergeBest 7 = .ok (.lastore, 1) := by decide +kernel
theorem dL_mergeBest_8 : decode cL_mergeBest 8 = .ok (.goto 9, 3) := by decide +kernel
theorem dL_mergeBest_11 : decode cL_mergeBest 11 = .ok (.astore_n 2, 1) := by decide +kernel
theorem dL_mergeBest_12 : decode cL_mergeBest 12 = .ok (.iconst 1, 1) := by decide +kernel
theorem dL_mergeBest_13 : decode cL_mergeBest 13 = .ok (.ireturn, 1) := by decide +kernel
theorem dL_mergeBest_14 : decode cL_mergeBest 14 = .ok (.astore_n 2, 1) := by decide +kernel
theorem dL_mergeBest_15 : decode cL_mergeBest 15 = .ok (.iconst 2, 1) := by decide +kernel
theorem dL_mergeBest_16 : decode cL_mergeBest 16 = .ok (.ireturn, 1) := by decide +kernel
theorem dL_mergeBest_17 : decode cL_mergeBest 17 = .ok (.iconst 0, 1) := by decide +kernel
theorem dL_mergeBest_18 : decode cL_mergeBest 18 = .ok (.ireturn, 1) := by decide +kernel
theorem dL_undo_0 : decode cL_undo 0 = .ok (.aload_n 2, 1) := by decide +kernel
theorem dL_undo_1 : decode cL_undo 1 = .ok (.iconst 0, 1) := by decide +kernel
theorem dL_undo_2 : decode cL_undo 2 = .ok (.aload_n 0, 1) := by decide +kernel
theorem dL_undo_3 : decode cL_undo 3 = .ok (.iload_n 1, 1) := by decide +kernel
theorem dL_undo_4 : decode cL_undo 4 = .ok (.invokevirtual 97, 3) := by decide +kernel
theorem dL_undo_7 : decode cL_undo 7 = .ok (.i2l, 1) := by decide +kernel
theorem dL_undo_8 : decode cL_undo 8 = .ok (.lastore, 1) := by decide +kernel
theorem dL_undo_9 : decode cL_undo 9 = .ok (.goto 9, 3) := by decide +kernel
theorem dL_undo_12 : decode cL_undo 12 = .ok (.astore_n 3, 1) := by decide +kernel
theorem dL_undo_13 : decode cL_undo 13 = .ok (.iconst 1, 1) := by decide +kernel
theorem dL_undo_14 : decode cL_undo 14 = .ok (.ireturn, 1) := by decide +kernel
theorem dL_undo_15 : decode cL_undo 15 = .ok (.astore_n 3, 1) := by decide +kernel
theorem dL_undo_16 : decode cL_undo 16 = .ok (.iconst 2, 1) := by decide +kernel
theorem dL_undo_17 : decode cL_undo 17 = .ok (.ireturn, 1) := by decide +kernel
theorem dL_undo_18 : decode cL_undo 18 = .ok (.iconst 0, 1) := by decide +kernel
theorem dL_undo_19 : decode cL_undo 19 = .ok (.ireturn, 1) := by decide +kernel
theorem dL_stands_0 : decode cL_stands 0 = .ok (.aload_n 2, 1) := by decide +kernel
theorem dL_stands_1 : decode cL_stands 1 = .ok (.iconst 0, 1) := by decide +kernel
theorem dL_stands_2 : decode cL_stands 2 = .ok (.aload_n 0, 1) := by decide +kernel
theorem dL_stands_3 : decode cL_stands 3 = .ok (.iload_n 1, 1) := by decide +kernel
theorem dL_stands_4 : decode cL_stands 4 = .ok (.invokevirtual 100, 3) := by decide +kernel
theorem dL_stands_7 : decode cL_stands 7 = .ok (.ifCond .eq 7, 3) := by decide +kernel
theorem dL_stands_10 : decode cL_stands 10 = .ok (.lconst 1, 1) := by decide +kernel
theorem dL_stands_11 : decode cL_stands 11 = .ok (.goto 4, 3) := by decide +kernel
theorem dL_stands_14 : decode cL_stands 14 = .ok (.lconst 0, 1) := by decide +kernel
theorem dL_stands_15 : decode cL_stands 15 = .ok (.lastore, 1) := by decide +kernel
theorem dL_stands_16 : decode cL_stands 16 = .ok (.goto 6, 3) := by decide +kernel
theorem dL_stands_19 : decode cL_stands 19 = .ok (.astore_n 3, 1) := by decide +kernel
theorem dL_stands_20 : decode cL_stands 20 = .ok (.iconst 1, 1) := by decide +kernel
theorem dL_stands_21 : decode cL_stands 21 = .ok (.ireturn, 1) := by decide +kernel
theorem dL_stands_22 : decode cL_stands 22 = .ok (.iconst 0, 1) := by decide +kernel
theorem dL_stands_23 : decode cL_stands 23 = .ok (.ireturn, 1) := by decide +kernel
theorem dL_steps_0 : decode cL_steps 0 = .ok (.aload_n 3, 1) := by decide +kernel
theorem dL_steps_1 : decode cL_steps 1 = .ok (.iconst 0, 1) := by decide +kernel
theorem dL_steps_2 : decode cL_steps 2 = .ok (.aload_n 0, 1) := by decide +kernel
theorem dL_steps_3 : decode cL_steps 3 = .ok (.iload_n 1, 1) := by decide +kernel
theorem dL_steps_4 : decode cL_steps 4 = .ok (.iload_n 2, 1) := by decide +kernel
theorem dL_steps_5 : decode cL_steps 5 = .ok (.invokevirtual 104, 3) := by decide +kernel
theorem dL_steps_8 : decode cL_steps 8 = .ok (.i2l, 1) := by decide +kernel
theorem dL_steps_9 : decode cL_steps 9 = .ok (.lastore, 1) := by decide +kernel
theorem dL_steps_10 : decode cL_steps 10 = .ok (.goto 11, 3) := by decide +kernel
theorem dL_steps_13 : decode cL_steps 13 = .ok (.astore 4, 2) := by decide +kernel
theorem dL_steps_15 : decode cL_steps 15 = .ok (.iconst 1, 1) := by decide +kernel
theorem dL_steps_16 : decode cL_steps 16 = .ok (.ireturn, 1) := by decide +kernel
theorem dL_steps_17 : decode cL_steps 17 = .ok (.astore 4, 2) := by decide +kernel
theorem dL_steps_19 : decode cL_steps 19 = .ok (.iconst 2, 1) := by decide +kernel
theorem dL_steps_20 : decode cL_steps 20 = .ok (.ireturn, 1) := by decide +kernel
theorem dL_steps_21 : decode cL_steps 21 = .ok (.iconst 0, 1) := by decide +kernel
theorem dL_steps_22 : decode cL_steps 22 = .ok (.ireturn, 1) := by decide +kernel
theorem dL_person_0 : decode cL_person 0 = .ok (.aload_n 2, 1) := by decide +kernel
theorem dL_person_1 : decode cL_person 1 = .ok (.iconst 0, 1) := by decide +kernel
theorem dL_person_2 : decode cL_person 2 = .ok (.aload_n 0, 1) := by decide +kernel
theorem dL_person_3 : decode cL_person 3 = .ok (.iload_n 1, 1) := by decide +kernel
theorem dL_person_4 : decode cL_person 4 = .ok (.invokevirtual 107, 3) := by decide +kernel
theorem dL_person_7 : decode cL_person 7 = .ok (.i2l, 1) := by decide +kernel
theorem dL_person_8 : decode cL_person 8 = .ok (.lastore, 1) := by decide +kernel
theorem dL_person_9 : decode cL_person 9 = .ok (.goto 6, 3) := by decide +kernel
theorem dL_person_12 : decode cL_person 12 = .ok (.astore_n 3, 1) := by decide +kernel
theorem dL_person_13 : decode cL_person 13 = .ok (.iconst 1, 1) := by decide +kernel
theorem dL_person_14 : decode cL_person 14 = .ok (.ireturn, 1) := by decide +kernel
theorem dL_person_15 : decode cL_person 15 = .ok (.iconst 0, 1) := by decide +kernel
theorem dL_person_16 : decode cL_person 16 = .ok (.ireturn, 1) := by decide +kernel
theorem dL_personByRounds_0 : decode cL_personByRounds 0 = .ok (.aload_n 2, 1) := by decide +kernel
theorem dL_personByRounds_1 : decode cL_personByRounds 1 = .ok (.iconst 0, 1) := by decide +kernel
theorem dL_personByRounds_2 : decode cL_personByRounds 2 = .ok (.aload_n 0, 1) := by decide +kernel
theorem dL_personByRounds_3 : decode cL_personByRounds 3 = .ok (.iload_n 1, 1) := by decide +kernel
theorem dL_personByRounds_4 : decode cL_personByRounds 4 = .ok (.invokevirtual 110, 3) := by decide +kernel
theorem dL_personByRounds_7 : decode cL_personByRounds 7 = .ok (.i2l, 1) := by decide +kernel
theorem dL_personByRounds_8 : decode cL_personByRounds 8 = .ok (.lastore, 1) := by decide +kernel
theorem dL_personByRounds_9 : decode cL_personByRounds 9 = .ok (.goto 6, 3) := by decide +kernel
theorem dL_personByRounds_12 : decode cL_personByRounds 12 = .ok (.astore_n 3, 1) := by decide +kernel
theorem dL_personByRounds_13 : decode cL_personByRounds 13 = .ok (.iconst 1, 1) := by decide +kernel
theorem dL_personByRounds_14 : decode cL_personByRounds 14 = .ok (.ireturn, 1) := by decide +kernel
theorem dL_personByRounds_15 : decode cL_personByRounds 15 = .ok (.iconst 0, 1) := by decide +kernel
theorem dL_personByRounds_16 : decode cL_personByRounds 16 = .ok (.ireturn, 1) := by decide +kernel
theorem dL_size_0 : decode cL_size 0 = .ok (.aload_n 2, 1) := by decide +kernel
theorem dL_size_1 : decode cL_size 1 = .ok (.iconst 0, 1) := by decide +kernel
theorem dL_size_2 : decode cL_size 2 = .ok (.aload_n 0, 1) := by decide +kernel
theorem dL_size_3 : decode cL_size 3 = .ok (.iload_n 1, 1) := by decide +kernel
theorem dL_size_4 : decode cL_size 4 = .ok (.invokevirtual 113, 3) := by decide +kernel
theorem dL_size_7 : decode cL_size 7 = .ok (.i2l, 1) := by decide +kernel
theorem dL_size_8 : decode cL_size 8 = .ok (.lastore, 1) := by decide +kernel
theorem dL_size_9 : decode cL_size 9 = .ok (.goto 6, 3) := by decide +kernel
theorem dL_size_12 : decode cL_size 12 = .ok (.astore_n 3, 1) := by decide +kernel
theorem dL_size_13 : decode cL_size 13 = .ok (.iconst 1, 1) := by decide +kernel
theorem dL_size_14 : decode cL_size 14 = .ok (.ireturn, 1) := by decide +kernel
theorem dL_size_15 : decode cL_size 15 = .ok (.iconst 0, 1) := by decide +kernel
theorem dL_size_16 : decode cL_size 16 = .ok (.ireturn, 1) := by decide +kernel
theorem dL_fieldFrom_0 : decode cL_fieldFrom 0 = .ok (.aload_n 3, 1) := by decide +kernel
theorem dL_fieldFrom_1 : decode cL_fieldFrom 1 = .ok (.iconst 0, 1) := by decide +kernel
theorem dL_fieldFrom_2 : decode cL_fieldFrom 2 = .ok (.aload_n 0, 1) := by decide +kernel
theorem dL_fieldFrom_3 : decode cL_fieldFrom 3 = .ok (.iload_n 1, 1) := by decide +kernel
theorem dL_fieldFrom_4 : decode cL_fieldFrom 4 = .ok (.iload_n 2, 1) := by decide +kernel
theorem dL_fieldFrom_5 : decode cL_fieldFrom 5 = .ok (.invokevirtual 116, 3) := by decide +kernel
theorem dL_fieldFrom_8 : decode cL_fieldFrom 8 = .ok (.i2l, 1) := by decide +kernel
theorem dL_fieldFrom_9 : decode cL_fieldFrom 9 = .ok (.lastore, 1) := by decide +kernel
theorem dL_fieldFrom_10 : decode cL_fieldFrom 10 = .ok (.goto 15, 3) := by decide +kernel
theorem dL_fieldFrom_13 : decode cL_fieldFrom 13 = .ok (.astore 4, 2) := by decide +kernel
theorem dL_fieldFrom_15 : decode cL_fieldFrom 15 = .ok (.iconst 1, 1) := by decide +kernel
theorem dL_fieldFrom_16 : decode cL_fieldFrom 16 = .ok (.ireturn, 1) := by decide +kernel
theorem dL_fieldFrom_17 : decode cL_fieldFrom 17 = .ok (.astore 4, 2) := by decide +kernel
theorem dL_fieldFrom_19 : decode cL_fieldFrom 19 = .ok (.iconst 2, 1) := by decide +kernel
theorem dL_fieldFrom_20 : decode cL_fieldFrom 20 = .ok (.ireturn, 1) := by decide +kernel
theorem dL_fieldFrom_21 : decode cL_fieldFrom 21 = .ok (.astore 4, 2) := by decide +kernel
theorem dL_fieldFrom_23 : decode cL_fieldFrom 23 = .ok (.iconst 3, 1) := by decide +kernel
theorem dL_fieldFrom_24 : decode cL_fieldFrom 24 = .ok (.ireturn, 1) := by decide +kernel
theorem dL_fieldFrom_25 : decode cL_fieldFrom 25 = .ok (.iconst 0, 1) := by decide +kernel
theorem dL_fieldFrom_26 : decode cL_fieldFrom 26 = .ok (.ireturn, 1) := by decide +kernel
theorem dL_conflicts_0 : decode cL_conflicts 0 = .ok (.aload_n 2, 1) := by decide +kernel
theorem dL_conflicts_1 : decode cL_conflicts 1 = .ok (.iconst 0, 1) := by decide +kernel
theorem dL_conflicts_2 : decode cL_conflicts 2 = .ok (.aload_n 0, 1) := by decide +kernel
theorem dL_conflicts_3 : decode cL_conflicts 3 = .ok (.iload_n 1, 1) := by decide +kernel
theorem dL_conflicts_4 : decode cL_conflicts 4 = .ok (.invokevirtual 119, 3) := by decide +kernel
theorem dL_conflicts_7 : decode cL_conflicts 7 = .ok (.i2l, 1) := by decide +kernel
theorem dL_conflicts_8 : decode cL_conflicts 8 = .ok (.lastore, 1) := by decide +kernel
theorem dL_conflicts_9 : decode cL_conflicts 9 = .ok (.goto 6, 3) := by decide +kernel
theorem dL_conflicts_12 : decode cL_conflicts 12 = .ok (.astore_n 3, 1) := by decide +kernel
theorem dL_conflicts_13 : decode cL_conflicts 13 = .ok (.iconst 1, 1) := by decide +kernel
theorem dL_conflicts_14 : decode cL_conflicts 14 = .ok (.ireturn, 1) := by decide +kernel
theorem dL_conflicts_15 : decode cL_conflicts 15 = .ok (.iconst 0, 1) := by decide +kernel
theorem dL_conflicts_16 : decode cL_conflicts 16 = .ok (.ireturn, 1) := by decide +kernel
theorem dL_join_0 : decode cL_join 0 = .ok (.aload_n 3, 1) := by decide +kernel
theorem dL_join_1 : decode cL_join 1 = .ok (.iconst 0, 1) := by decide +kernel
theorem dL_join_2 : decode cL_join 2 = .ok (.aload_n 0, 1) := by decide +kernel
theorem dL_join_3 : decode cL_join 3 = .ok (.iload_n 1, 1) := by decide +kernel
theorem dL_join_4 : decode cL_join 4 = .ok (.iload_n 2, 1) := by decide +kernel
theorem dL_join_5 : decode cL_join 5 = .ok (.invokevirtual 122, 3) := by decide +kernel
theorem dL_join_8 : decode cL_join 8 = .ok (.i2l, 1) := by decide +kernel
theorem dL_join_9 : decode cL_join 9 = .ok (.lastore, 1) := by decide +kernel
theorem dL_join_10 : decode cL_join 10 = .ok (.goto 11, 3) := by decide +kernel
theorem dL_join_13 : decode cL_join 13 = .ok (.astore 4, 2) := by decide +kernel
theorem dL_join_15 : decode cL_join 15 = .ok (.iconst 1, 1) := by decide +kernel
theorem dL_join_16 : decode cL_join 16 = .ok (.ireturn, 1) := by decide +kernel
theorem dL_join_17 : decode cL_join 17 = .ok (.astore 4, 2) := by decide +kernel
theorem dL_join_19 : decode cL_join 19 = .ok (.iconst 2, 1) := by decide +kernel
theorem dL_join_20 : decode cL_join 20 = .ok (.ireturn, 1) := by decide +kernel
theorem dL_join_21 : decode cL_join 21 = .ok (.iconst 0, 1) := by decide +kernel
theorem dL_join_22 : decode cL_join 22 = .ok (.ireturn, 1) := by decide +kernel
theorem dL_leave_0 : decode cL_leave 0 = .ok (.aload_n 3, 1) := by decide +kernel
theorem dL_leave_1 : decode cL_leave 1 = .ok (.iconst 0, 1) := by decide +kernel
theorem dL_leave_2 : decode cL_leave 2 = .ok (.aload_n 0, 1) := by decide +kernel
theorem dL_leave_3 : decode cL_leave 3 = .ok (.iload_n 1, 1) := by decide +kernel
theorem dL_leave_4 : decode cL_leave 4 = .ok (.iload_n 2, 1) := by decide +kernel
theorem dL_leave_5 : decode cL_leave 5 = .ok (.invokevirtual 125, 3) := by decide +kernel
theorem dL_leave_8 : decode cL_leave 8 = .ok (.i2l, 1) := by decide +kernel
theorem dL_leave_9 : decode cL_leave 9 = .ok (.lastore, 1) := by decide +kernel
theorem dL_leave_10 : decode cL_leave 10 = .ok (.goto 11, 3) := by decide +kernel
theorem dL_leave_13 : decode cL_leave 13 = .ok (.astore 4, 2) := by decide +kernel
theorem dL_leave_15 : decode cL_leave 15 = .ok (.iconst 1, 1) := by decide +kernel
theorem dL_leave_16 : decode cL_leave 16 = .ok (.ireturn, 1) := by decide +kernel
theorem dL_leave_17 : decode cL_leave 17 = .ok (.astore 4, 2) := by decide +kernel
theorem dL_leave_19 : decode cL_leave 19 = .ok (.iconst 2, 1) := by decide +kernel
theorem dL_leave_20 : decode cL_leave 20 = .ok (.ireturn, 1) := by decide +kernel
theorem dL_leave_21 : decode cL_leave 21 = .ok (.iconst 0, 1) := by decide +kernel
theorem dL_leave_22 : decode cL_leave 22 = .ok (.ireturn, 1) := by decide +kernel
theorem dL_isIn_0 : decode cL_isIn 0 = .ok (.aload_n 3, 1) := by decide +kernel
theorem dL_isIn_1 : decode cL_isIn 1 = .ok (.iconst 0, 1) := by decide +kernel
theorem dL_isIn_2 : decode cL_isIn 2 = .ok (.aload_n 0, 1) := by decide +kernel
theorem dL_isIn_3 : decode cL_isIn 3 = .ok (.iload_n 1, 1) := by decide +kernel
theorem dL_isIn_4 : decode cL_isIn 4 = .ok (.iload_n 2, 1) := by decide +kernel
theorem dL_isIn_5 : decode cL_isIn 5 = .ok (.invokevirtual 128, 3) := by decide +kernel
theorem dL_isIn_8 : decode cL_isIn 8 = .ok (.ifCond .eq 7, 3) := by decide +kernel
theorem dL_isIn_11 : decode cL_isIn 11 = .ok (.lconst 1, 1) := by decide +kernel
theorem dL_isIn_12 : decode cL_isIn 12 = .ok (.goto 4, 3) := by decide +kernel
theorem dL_isIn_15 : decode cL_isIn 15 = .ok (.lconst 0, 1) := by decide +kernel
theorem dL_isIn_16 : decode cL_isIn 16 = .ok (.lastore, 1) := by decide +kernel
theorem dL_isIn_17 : decode cL_isIn 17 = .ok (.goto 7, 3) := by decide +kernel
theorem dL_isIn_20 : decode cL_isIn 20 = .ok (.astore 4, 2) := by decide +kernel
theorem dL_isIn_22 : decode cL_isIn 22 = .ok (.iconst 1, 1) := by decide +kernel
theorem dL_isIn_23 : decode cL_isIn 23 = .ok (.ireturn, 1) := by decide +kernel
theorem dL_isIn_24 : decode cL_isIn 24 = .ok (.iconst 0, 1) := by decide +kernel
theorem dL_isIn_25 : decode cL_isIn 25 = .ok (.ireturn, 1) := by decide +kernel
theorem dL_personsIn_0 : decode cL_personsIn 0 = .ok (.aload_n 2, 1) := by decide +kernel
theorem dL_personsIn_1 : decode cL_personsIn 1 = .ok (.iconst 0, 1) := by decide +kernel
theorem dL_personsIn_2 : decode cL_personsIn 2 = .ok (.aload_n 0, 1) := by decide +kernel
theorem dL_personsIn_3 : decode cL_personsIn 3 = .ok (.iload_n 1, 1) := by decide +kernel
theorem dL_personsIn_4 : decode cL_personsIn 4 = .ok (.invokevirtual 132, 3) := by decide +kernel
theorem dL_personsIn_7 : decode cL_personsIn 7 = .ok (.i2l, 1) := by decide +kernel
theorem dL_personsIn_8 : decode cL_personsIn 8 = .ok (.lastore, 1) := by decide +kernel
theorem dL_personsIn_9 : decode cL_personsIn 9 = .ok (.goto 6, 3) := by decide +kernel
theorem dL_personsIn_12 : decode cL_personsIn 12 = .ok (.astore_n 3, 1) := by decide +kernel
theorem dL_personsIn_13 : decode cL_personsIn 13 = .ok (.iconst 1, 1) := by decide +kernel
theorem dL_personsIn_14 : decode cL_personsIn 14 = .ok (.ireturn, 1) := by decide +kernel
theorem dL_personsIn_15 : decode cL_personsIn 15 = .ok (.iconst 0, 1) := by decide +kernel
theorem dL_personsIn_16 : decode cL_personsIn 16 = .ok (.ireturn, 1) := by decide +kernel
theorem dL_type_0 : decode cL_type 0 = .ok (.aload_n 2, 1) := by decide +kernel
theorem dL_type_1 : decode cL_type 1 = .ok (.iconst 0, 1) := by decide +kernel
theorem dL_type_2 : decode cL_type 2 = .ok (.aload_n 0, 1) := by decide +kernel
theorem dL_type_3 : decode cL_type 3 = .ok (.iload_n 1, 1) := by decide +kernel
theorem dL_type_4 : decode cL_type 4 = .ok (.invokevirtual 135, 3) := by decide +kernel
theorem dL_type_7 : decode cL_type 7 = .ok (.i2l, 1) := by decide +kernel
theorem dL_type_8 : decode cL_type 8 = .ok (.lastore, 1) := by decide +kernel
theorem dL_type_9 : decode cL_type 9 = .ok (.goto 9, 3) := by decide +kernel
theorem dL_type_12 : decode cL_type 12 = .ok (.astore_n 3, 1) := by decide +kernel
theorem dL_type_13 : decode cL_type 13 = .ok (.iconst 1, 1) := by decide +kernel
theorem dL_type_14 : decode cL_type 14 = .ok (.ireturn, 1) := by decide +kernel
theorem dL_type_15 : decode cL_type 15 = .ok (.astore_n 3, 1) := by decide +kernel
theorem dL_type_16 : decode cL_type 16 = .ok (.iconst 2, 1) := by decide +kernel
theorem dL_type_17 : decode cL_type 17 = .ok (.ireturn, 1) := by decide +kernel
theorem dL_type_18 : decode cL_type 18 = .ok (.iconst 0, 1) := by decide +kernel
theorem dL_type_19 : decode cL_type 19 = .ok (.ireturn, 1) := by decide +kernel
theorem dL_foundAt_0 : decode cL_foundAt 0 = .ok (.aload_n 3, 1) := by decide +kernel
theorem dL_foundAt_1 : decode cL_foundAt 1 = .ok (.iconst 0, 1) := by decide +kernel
theorem dL_foundAt_2 : decode cL_foundAt 2 = .ok (.aload_n 0, 1) := by decide +kernel
theorem dL_foundAt_3 : decode cL_foundAt 3 = .ok (.iload_n 1, 1) := by decide +kernel
theorem dL_foundAt_4 : decode cL_foundAt 4 = .ok (.iload_n 2, 1) := by decide +kernel
theorem dL_foundAt_5 : decode cL_foundAt 5 = .ok (.invokevirtual 139, 3) := by decide +kernel
theorem dL_foundAt_8 : decode cL_foundAt 8 = .ok (.i2l, 1) := by decide +kernel
theorem dL_foundAt_9 : decode cL_foundAt 9 = .ok (.lastore, 1) := by decide +kernel
theorem dL_foundAt_10 : decode cL_foundAt 10 = .ok (.goto 7, 3) := by decide +kernel
theorem dL_foundAt_13 : decode cL_foundAt 13 = .ok (.astore 4, 2) := by decide +kernel
theorem dL_foundAt_15 : decode cL_foundAt 15 = .ok (.iconst 1, 1) := by decide +kernel
theorem dL_foundAt_16 : decode cL_foundAt 16 = .ok (.ireturn, 1) := by decide +kernel
theorem dL_foundAt_17 : decode cL_foundAt 17 = .ok (.iconst 0, 1) := by decide +kernel
theorem dL_foundAt_18 : decode cL_foundAt 18 = .ok (.ireturn, 1) := by decide +kernel
theorem dL_mergedShare_0 : decode cL_mergedShare 0 = .ok (.aload_n 1, 1) := by decide +kernel
theorem dL_mergedShare_1 : decode cL_mergedShare 1 = .ok (.iconst 0, 1) := by decide +kernel
theorem dL_mergedShare_2 : decode cL_mergedShare 2 = .ok (.aload_n 0, 1) := by decide +kernel
theorem dL_mergedShare_3 : decode cL_mergedShare 3 = .ok (.invokevirtual 143, 3) := by decide +kernel
theorem dL_mergedShare_6 : decode cL_mergedShare 6 = .ok (.f2d, 1) := by decide +kernel
theorem dL_mergedShare_7 : decode cL_mergedShare 7 = .ok (.dastore, 1) := by decide +kernel
theorem dL_mergedShare_8 : decode cL_mergedShare 8 = .ok (.goto 6, 3) := by decide +kernel
theorem dL_mergedShare_11 : decode cL_mergedShare 11 = .ok (.astore_n 2, 1) := by decide +kernel
theorem dL_mergedShare_12 : decode cL_mergedShare 12 = .ok (.iconst 1, 1) := by decide +kernel
theorem dL_mergedShare_13 : decode cL_mergedShare 13 = .ok (.ireturn, 1) := by decide +kernel
theorem dL_mergedShare_14 : decode cL_mergedShare 14 = .ok (.iconst 0, 1) := by decide +kernel
theorem dL_mergedShare_15 : decode cL_mergedShare 15 = .ok (.ireturn, 1) := by decide +kernel
