theorem dJ6_compare_7cf53_0 : decode cJ6_compare_7cf53 0 = .ok (.iload_n 0, 1) := by decide +kernel
theorem dJ6_compare_7cf53_1 : decode cJ6_compare_7cf53 1 = .ok (.iload_n 1, 1) := by decide +kernel
theorem dJ6_compare_7cf53_2 : decode cJ6_compare_7cf53 2 = .ok (.if_icmp .ge 7, 3) := by decide +kernel
theorem dJ6_compare_7cf53_5 : decode cJ6_compare_7cf53 5 = .ok (.iconst (-1), 1) := by decide +kernel
theorem dJ6_compare_7cf53_6 : decode cJ6_compare_7cf53 6 = .ok (.goto 13, 3) := by decide +kernel
theorem dJ6_compare_7cf53_9 : decode cJ6_compare_7cf53 9 = .ok (.iload_n 0, 1) := by decide +kernel
theorem dJ6_compare_7cf53_10 : decode cJ6_compare_7cf53 10 = .ok (.iload_n 1, 1) := by decide +kernel
theorem dJ6_compare_7cf53_11 : decode cJ6_compare_7cf53 11 = .ok (.if_icmp .ne 7, 3) := by decide +kernel
theorem dJ6_compare_7cf53_14 : decode cJ6_compare_7cf53 14 = .ok (.iconst 0, 1) := by decide +kernel
theorem dJ6_compare_7cf53_15 : decode cJ6_compare_7cf53 15 = .ok (.goto 4, 3) := by decide +kernel
theorem dJ6_compare_7cf53_18 : decode cJ6_compare_7cf53 18 = .ok (.iconst 1, 1) := by decide +kernel
theorem dJ6_compare_7cf53_19 : decode cJ6_compare_7cf53 19 = .ok (.ireturn, 1) := by decide +kernel
theorem dJ6_bitCount_0f7a4_0 : decode cJ6_bitCount_0f7a4 0 = .ok (.iload_n 0, 1) := by decide +kernel
theorem dJ6_bitCount_0f7a4_1 : decode cJ6_bitCount_0f7a4 1 = .ok (.iload_n 0, 1) := by decide +kernel
theorem dJ6_bitCount_0f7a4_2 : decode cJ6_bitCount_0f7a4 2 = .ok (.iconst 1, 1) := by decide +kernel
theorem dJ6_bitCount_0f7a4_3 : decode cJ6_bitCount_0f7a4 3 = .ok (.iushr, 1) := by decide +kernel
theorem dJ6_bitCount_0f7a4_4 : decode cJ6_bitCount_0f7a4 4 = .ok (.ldc_w 265, 3) := by decide +kernel
theorem dJ6_bitCount_0f7a4_7 : decode cJ6_bitCount_0f7a4 7 = .ok (.iand, 1) := by decide +kernel
theorem dJ6_bitCount_0f7a4_8 : decode cJ6_bitCount_0f7a4 8 = .ok (.isub, 1) := by decide +kernel
theorem dJ6_bitCount_0f7a4_9 : decode cJ6_bitCount_0f7a4 9 = .ok (.istore_n 0, 1) := by decide +kernel
theorem dJ6_bitCount_0f7a4_10 : decode cJ6_bitCount_0f7a4 10 = .ok (.iload_n 0, 1) := by decide +kernel
theorem dJ6_bitCount_0f7a4_11 : decode cJ6_bitCount_0f7a4 11 = .ok (.ldc_w 266, 3) := by decide +kernel
theorem dJ6_bitCount_0f7a4_14 : decode cJ6_bitCount_0f7a4 14 = .ok (.iand, 1) := by decide +kernel
theorem dJ6_bitCount_0f7a4_15 : decode cJ6_bitCount_0f7a4 15 = .ok (.iload_n 0, 1) := by decide +kernel
theorem dJ6_bitCount_0f7a4_16 : decode cJ6_bitCount_0f7a4 16 = .ok (.iconst 2, 1) := by decide +kernel
theorem dJ6_bitCount_0f7a4_17 : decode cJ6_bitCount_0f7a4 17 = .ok (.iushr, 1) := by decide +kernel
theorem dJ6_bitCount_0f7a4_18 : decode cJ6_bitCount_0f7a4 18 = .ok (.ldc_w 266, 3) := by decide +kernel
theorem dJ6_bitCount_0f7a4_21 : decode cJ6_bitCount_0f7a4 21 = .ok (.iand, 1) := by decide +kernel
theorem dJ6_bitCount_0f7a4_22 : decode cJ6_bitCount_0f7a4 22 = .ok (.iadd, 1) := by decide +kernel
theorem dJ6_bitCount_0f7a4_23 : decode cJ6_bitCount_0f7a4 23 = .ok (.istore_n 0, 1) := by decide +kernel
theorem dJ6_bitCount_0f7a4_24 : decode cJ6_bitCount_0f7a4 24 = .ok (.iload_n 0, 1) := by decide +kernel
theorem dJ6_bitCount_0f7a4_25 : decode cJ6_bitCount_0f7a4 25 = .ok (.iload_n 0, 1) := by decide +kernel
theorem dJ6_bitCount_0f7a4_26 : decode cJ6_bitCount_0f7a4 26 = .ok (.iconst 4, 1) := by decide +kernel
theorem dJ6_bitCount_0f7a4_27 : decode cJ6_bitCount_0f7a4 27 = .ok (.iushr, 1) := by decide +kernel
theorem dJ6_bitCount_0f7a4_28 : decode cJ6_bitCount_0f7a4 28 = .ok (.iadd, 1) := by decide +kernel
theorem dJ6_bitCount_0f7a4_29 : decode cJ6_bitCount_0f7a4 29 = .ok (.ldc_w 267, 3) := by decide +kernel
theorem dJ6_bitCount_0f7a4_32 : decode cJ6_bitCount_0f7a4 32 = .ok (.iand, 1) := by decide +kernel
theorem dJ6_bitCount_0f7a4_33 : decode cJ6_bitCount_0f7a4 33 = .ok (.istore_n 0, 1) := by decide +kernel
theorem dJ6_bitCount_0f7a4_34 : decode cJ6_bitCount_0f7a4 34 = .ok (.iload_n 0, 1) := by decide +kernel
theorem dJ6_bitCount_0f7a4_35 : decode cJ6_bitCount_0f7a4 35 = .ok (.iload_n 0, 1) := by decide +kernel
theorem dJ6_bitCount_0f7a4_36 : decode cJ6_bitCount_0f7a4 36 = .ok (.bipush 8, 2) := by decide +kernel
theorem dJ6_bitCount_0f7a4_38 : decode cJ6_bitCount_0f7a4 38 = .ok (.iushr, 1) := by decide +kernel
theorem dJ6_bitCount_0f7a4_39 : decode cJ6_bitCount_0f7a4 39 = .ok (.iadd, 1) := by decide +kernel
theorem dJ6_bitCount_0f7a4_40 : decode cJ6_bitCount_0f7a4 40 = .ok (.istore_n 0, 1) := by decide +kernel
theorem dJ6_bitCount_0f7a4_41 : decode cJ6_bitCount_0f7a4 41 = .ok (.iload_n 0, 1) := by decide +kernel
theorem dJ6_bitCount_0f7a4_42 : decode cJ6_bitCount_0f7a4 42 = .ok (.iload_n 0, 1) := by decide +kernel
theorem dJ6_bitCount_0f7a4_43 : decode cJ6_bitCount_0f7a4 43 = .ok (.bipush 16, 2) := by decide +kernel
theorem dJ6_bitCount_0f7a4_45 : decode cJ6_bitCount_0f7a4 45 = .ok (.iushr, 1) := by decide +kernel
theorem dJ6_bitCount_0f7a4_46 : decode cJ6_bitCount_0f7a4 46 = .ok (.iadd, 1) := by decide +kernel
theorem dJ6_bitCount_0f7a4_47 : decode cJ6_bitCount_0f7a4 47 = .ok (.istore_n 0, 1) := by decide +kernel
theorem dJ6_bitCount_0f7a4_48 : decode cJ6_bitCount_0f7a4 48 = .ok (.iload_n 0, 1) := by decide +kernel
theorem dJ6_bitCount_0f7a4_49 : decode cJ6_bitCount_0f7a4 49 = .ok (.bipush 63, 2) := by decide +kernel
theorem dJ6_bitCount_0f7a4_51 : decode cJ6_bitCount_0f7a4 51 = .ok (.iand, 1) := by decide +kernel
theorem dJ6_bitCount_0f7a4_52 : decode cJ6_bitCount_0f7a4 52 = .ok (.ireturn, 1) := by decide +kernel
theorem dJ9_max_7cf53_0 : decode cJ9_max_7cf53 0 = .ok (.iload_n 0, 1) := by decide +kernel
theorem dJ9_max_7cf53_1 : decode cJ9_max_7cf53 1 = .ok (.iload_n 1, 1) := by decide +kernel
theorem dJ9_max_7cf53_2 : decode cJ9_max_7cf53 2 = .ok (.if_icmp .lt 7, 3) := by decide +kernel
theorem dJ9_max_7cf53_5 : decode cJ9_max_7cf53 5 = .ok (.iload_n 0, 1) := by decide +kernel
theorem dJ9_max_7cf53_6 : decode cJ9_max_7cf53 6 = .ok (.goto 4, 3) := by decide +kernel
theorem dJ9_max_7cf53_9 : decode cJ9_max_7cf53 9 = .ok (.iload_n 1, 1) := by decide +kernel
theorem dJ9_max_7cf53_10 : decode cJ9_max_7cf53 10 = .ok (.ireturn, 1) := by decide +kernel
theorem dJ9_min_7cf53_0 : decode cJ9_min_7cf53 0 = .ok (.iload_n 0, 1) := by decide +kernel
theorem dJ9_min_7cf53_1 : decode cJ9_min_7cf53 1 = .ok (.iload_n 1, 1) := by decide +kernel
theorem dJ9_min_7cf53_2 : decode cJ9_min_7cf53 2 = .ok (.if_icmp .gt 7, 3) := by decide +kernel
theorem dJ9_min_7cf53_5 : decode cJ9_min_7cf53 5 = .ok (.iload_n 0, 1) := by decide +kernel
theorem dJ9_min_7cf53_6 : decode cJ9_min_7cf53 6 = .ok (.goto 4, 3) := by decide +kernel
theorem dJ9_min_7cf53_9 : decode cJ9_min_7cf53 9 = .ok (.iload_n 1, 1) := by decide +kernel
theorem dJ9_min_7cf53_10 : decode cJ9_min_7cf53 10 = .ok (.ireturn, 1) := by decide +kernel
theorem dJ7_fill_53178_0 : decode cJ7_fill_53178 0 = .ok (.iconst 0, 1) := by decide +kernel
theorem dJ7_fill_53178_1 : decode cJ7_fill_53178 1 = .ok (.istore_n 2, 1) := by decide +kernel
theorem dJ7_fill_53178_2 : decode cJ7_fill_53178 2 = .ok (.aload_n 0, 1) := by decide +kernel
theorem dJ7_fill_53178_3 : decode cJ7_fill_53178 3 = .ok (.arraylength, 1) := by decide +kernel
theorem dJ7_fill_53178_4 : decode cJ7_fill_53178 4 = .ok (.istore_n 3, 1) := by decide +kernel
theorem dJ7_fill_53178_5 : decode cJ7_fill_53178 5 = .ok (.iload_n 2, 1) := by decide +kernel
theorem dJ7_fill_53178_6 : decode cJ7_fill_53178 6 = .ok (.iload_n 3, 1) := by decide +kernel
theorem dJ7_fill_53178_7 : decode cJ7_fill_53178 7 = .ok (.if_icmp .ge 13, 3) := by decide +kernel
theorem dJ7_fill_53178_10 : decode cJ7_fill_53178 10 = .ok (.aload_n 0, 1) := by decide +kernel
theorem dJ7_fill_53178_11 : decode cJ7_fill_53178 11 = .ok (.iload_n 2, 1) := by decide +kernel
theorem dJ7_fill_53178_12 : decode cJ7_fill_53178 12 = .ok (.iload_n 1, 1) := by decide +kernel
theorem dJ7_fill_53178_13 : decode cJ7_fill_53178 13 = .ok (.iastore, 1) := by decide +kernel
theorem dJ7_fill_53178_14 : decode cJ7_fill_53178 14 = .ok (.iinc 2 1, 3) := by decide +kernel
theorem dJ7_fill_53178_17 : decode cJ7_fill_53178 17 = .ok (.goto (-12), 3) := by decide +kernel
theorem dJ7_fill_53178_20 : decode cJ7_fill_53178 20 = .ok (.return_, 1) := by decide +kernel
theorem dX0_init_0 : decode cX0_init 0 = .ok (.aload_n 0, 1) := by decide +kernel
theorem dX0_init_1 : decode cX0_init 1 = .ok (.invokespecial 1, 3) := by decide +kernel
theorem dX0_init_4 : decode cX0_init 4 = .ok (.aload_n 0, 1) := by decide +kernel
theorem dX0_init_5 : decode cX0_init 5 = .ok (.bipush 24, 2) := by decide +kernel
theorem dX0_init_7 : decode cX0_init 7 = .ok (.newarray .int, 2) := by decide +kernel
theorem dX0_init_9 : decode cX0_init 9 = .ok (.putfield 9, 3) := by decide +kernel
theorem dX0_init_12 : decode cX0_init 12 = .ok (.aload_n 0, 1) := by decide +kernel
theorem dX0_init_13 : decode cX0_init 13 = .ok (.bipush 24, 2) := by decide +kernel
theorem dX0_init_15 : decode cX0_init 15 = .ok (.newarray .int, 2) := by decide +kernel
theorem dX0_init_17 : decode cX0_init 17 = .ok (.putfield 13, 3) := by decide +kernel
theorem dX0_init_20 : decode cX0_init 20 = .ok (.aload_n 0, 1) := by decide +kernel
theorem dX0_init_21 : decode cX0_init 21 = .ok (.bipush 24, 2) := by decide +kernel
theorem dX0_init_23 : decode cX0_init 23 = .ok (.newarray .int, 2) := by decide +kernel
theorem dX0_init_25 : decode cX0_init 25 = .ok (.putfield 16, 3) := by decide +kernel
theorem dX0_init_28 : decode cX0_init 28 = .ok (.aload_n 0, 1) := by decide +kernel
theorem dX0_init_29 : decode cX0_init 29 = .ok (.bipush 24, 2) := by decide +kernel
theorem dX0_init_31 : decode cX0_init 31 = .ok (.newarray .int, 2) := by decide +kernel
theorem dX0_init_33 : decode cX0_init 33 = .ok (.putfield 19, 3) := by decide +kernel
theorem dX0_init_36 : decode cX0_init 36 = .ok (.aload_n 0, 1) := by decide +kernel
theorem dX0_init_37 : decode cX0_init 37 = .ok (.bipush 24, 2) := by decide +kernel
theorem dX0_init_39 : decode cX0_init 39 = .ok (.newarray .int, 2) := by decide +kernel
theorem dX0_init_41 : decode cX0_init 41 = .ok (.putfield 22, 3) := by decide +kernel
theorem dX0_init_44 : decode cX0_init 44 = .ok (.return_, 1) := by decide +kernel
theorem dX0_forget_0 : decode cX0_forget 0 = .ok (.aload_n 0, 1) := by decide +kernel
theorem dX0_forget_1 : decode cX0_forget 1 = .ok (.iconst 0, 1) := by decide +kernel
theorem dX0_forget_2 : decode cX0_forget 2 = .ok (.putfield 25, 3) := by decide +kernel
theorem dX0_forget_5 : decode cX0_forget 5 = .ok (.return_, 1) := by decide +kernel
theorem dX0_keep_0 : decode cX0_keep 0 = .ok (.aload_n 0, 1) := by decide +kernel
theorem dX0_keep_1 : decode cX0_keep 1 = .ok (.getfield 9, 3) := by decide +kernel
theorem dX0_keep_4 : decode cX0_keep 4 = .ok (.aload_n 0, 1) := by decide +kernel
theorem dX0_keep_5 : decode cX0_keep 5 = .ok (.getfield 29, 3) := by decide +kernel
theorem dX0_keep_8 : decode cX0_keep 8 = .ok (.iload_n 1, 1) := by decide +kernel
theorem dX0_keep_9 : decode cX0_keep 9 = .ok (.iastore, 1) := by decide +kernel
theorem dX0_keep_10 : decode cX0_keep 10 = .ok (.aload_n 0, 1) := by decide +kernel
theorem dX0_keep_11 : decode cX0_keep 11 = .ok (.getfield 13, 3) := by decide +kernel
theorem dX0_keep_14 : decode cX0_keep 14 = .ok (.aload_n 0, 1) := by decide +kernel
theorem dX0_keep_15 : decode cX0_keep 15 = .ok (.getfield 29, 3) := by decide +kernel
theorem dX0_keep_18 : decode cX0_keep 18 = .ok (.iload_n 2, 1) := by decide +kernel
theorem dX0_keep_19 : decode cX0_keep 19 = .ok (.iastore, 1) := by decide +kernel
theorem dX0_keep_20 : decode cX0_keep 20 = .ok (.aload_n 0, 1) := by decide +kernel
theorem dX0_keep_21 : decode cX0_keep 21 = .ok (.getfield 16, 3) := by decide +kernel
theorem dX0_keep_24 : decode cX0_keep 24 = .ok (.aload_n 0, 1) := by decide +kernel
theorem dX0_keep_25 : decode cX0_keep 25 = .ok (.getfield 29, 3) := by decide +kernel
theorem dX0_keep_28 : decode cX0_keep 28 = .ok (.iload_n 3, 1) := by decide +kernel
theorem dX0_keep_29 : decode cX0_keep 29 = .ok (.iastore, 1) := by decide +kernel
theorem dX0_keep_30 : decode cX0_keep 30 = .ok (.aload_n 0, 1) := by decide +kernel
theorem dX0_keep_31 : decode cX0_keep 31 = .ok (.aload_n 0, 1) := by decide +kernel
theorem dX0_keep_32 : decode cX0_keep 32 = .ok (.getfield 29, 3) := by decide +kernel
theorem dX0_keep_35 : decode cX0_keep 35 = .ok (.iconst 1, 1) := by decide +kernel
theorem dX0_keep_36 : decode cX0_keep 36 = .ok (.iadd, 1) := by decide +kernel
theorem dX0_keep_37 : decode cX0_keep 37 = .ok (.bipush 24, 2) := by decide +kernel
theorem dX0_keep_39 : decode cX0_keep 39 = .ok (.irem, 1) := by decide +kernel
theorem dX0_keep_40 : decode cX0_keep 40 = .ok (.putfield 29, 3) := by decide +kernel
theorem dX0_keep_43 : decode cX0_keep 43 = .ok (.aload_n 0, 1) := by decide +kernel
theorem dX0_keep_44 : decode cX0_keep 44 = .ok (.aload_n 0, 1) := by decide +kernel
theorem dX0_keep_45 : decode cX0_keep 45 = .ok (.getfield 25, 3) := by decide +kernel
theorem dX0_keep_48 : decode cX0_keep 48 = .ok (.iconst 1, 1) := by decide +kernel
theorem dX0_keep_49 : decode cX0_keep 49 = .ok (.iadd, 1) := by decide +kernel
theorem dX0_keep_50 : decode cX0_keep 50 = .ok (.bipush 24, 2) := by decide +kernel
theorem dX0_keep_52 : decode cX0_keep 52 = .ok (.invokestatic 32, 3) := by decide +kernel
theorem dX0_keep_55 : decode cX0_keep 55 = .ok (.putfield 25, 3) := by decide +kernel
theorem dX0_keep_58 : decode cX0_keep 58 = .ok (.return_, 1) := by decide +kernel
theorem dX0_remember_0 : decode cX0_remember 0 = .ok (.aload_n 0, 1) := by decide +kernel
theorem dX0_remember_1 : decode cX0_remember 1 = .ok (.getfield 29, 3) := by decide +kernel
theorem dX0_remember_4 : decode cX0_remember 4 = .ok (.bipush 24, 2) := by decide +kernel
theorem dX0_remember_6 : decode cX0_remember 6 = .ok (.iadd, 1) := by decide +kernel
theorem dX0_remember_7 : decode cX0_remember 7 = .ok (.iconst 1, 1) := by decide +kernel
theorem dX0_remember_8 : decode cX0_remember 8 = .ok (.isub, 1) := by decide +kernel
theorem dX0_remember_9 : decode cX0_remember 9 = .ok (.bipush 24, 2) := by decide +kernel
theorem dX0_remember_11 : decode cX0_remember 11 = .ok (.irem, 1) := by decide +kernel
theorem dX0_remember_12 : decode cX0_remember 12 = .ok (.istore 4, 2) := by decide +kernel
theorem dX0_remember_14 : decode cX0_remember 14 = .ok (.iload_n 2, 1) := by decide +kernel
theorem dX0_remember_15 : decode cX0_remember 15 = .ok (.iload_n 3, 1) := by decide +kernel
theorem dX0_remember_16 : decode cX0_remember 16 = .ok (.invokestatic 38, 3) := by decide +kernel
theorem dX0_remember_19 : decode cX0_remember 19 = .ok (.istore 5, 2) := by decide +kernel
theorem dX0_remember_21 : decode cX0_remember 21 = .ok (.aload_n 0, 1) := by decide +kernel
theorem dX0_remember_22 : decode cX0_remember 22 = .ok (.getfield 19, 3) := by decide +kernel
theorem dX0_remember_25 : decode cX0_remember 25 = .ok (.iload 4, 2) := by decide +kernel
theorem dX0_remember_27 : decode cX0_remember 27 = .ok (.aload_n 1, 1) := by decide +kernel
theorem dX0_remember_28 : decode cX0_remember 28 = .ok (.getfield 43, 3) := by decide +kernel
theorem dX0_remember_31 : decode cX0_remember 31 = .ok (.iload 5, 2) := by decide +kernel
theorem dX0_remember_33 : decode cX0_remember 33 = .ok (.iaload, 1) := by decide +kernel
theorem dX0_remember_34 : decode cX0_remember 34 = .ok (.iastore, 1) := by decide +kernel
theorem dX0_remember_35 : decode cX0_remember 35 = .ok (.aload_n 0, 1) := by decide +kernel
theorem dX0_remember_36 : decode cX0_remember 36 = .ok (.getfield 22, 3) := by decide +kernel
theorem dX0_remember_39 : decode cX0_remember 39 = .ok (.iload 4, 2) := by decide +kernel
theorem dX0_remember_41 : decode cX0_remember 41 = .ok (.aload_n 1, 1) := by decide +kernel
theorem dX0_remember_42 : decode cX0_remember 42 = .ok (.getfield 46, 3) := by decide +kernel
theorem dX0_remember_45 : decode cX0_remember 45 = .ok (.iload 5, 2) := by decide +kernel
theorem dX0_remember_47 : decode cX0_remember 47 = .ok (.iaload, 1) := by decide +kernel
theorem dX0_remember_48 : decode cX0_remember 48 = .ok (.iastore, 1) := by decide +kernel
theorem dX0_remember_49 : decode cX0_remember 49 = .ok (.return_, 1) := by decide +kernel
theorem dX0_takeBack_0 : decode cX0_takeBack 0 = .ok (.aload_n 0, 1) := by decide +kernel
theorem dX0_takeBack_1 : decode cX0_takeBack 1 = .ok (.aload_n 0, 1) := by decide +kernel
theorem dX0_takeBack_2 : decode cX0_takeBack 2 = .ok (.getfield 29, 3) := by decide +kernel
theorem dX0_takeBack_5 : decode cX0_takeBack 5 = .ok (.bipush 24, 2) := by decide +kernel
theorem dX0_takeBack_7 : decode cX0_takeBack 7 = .ok (.iadd, 1) := by decide +kernel
theorem dX0_takeBack_8 : decode cX0_takeBack 8 = .ok (.iconst 1, 1) := by decide +kernel
theorem dX0_takeBack_9 : decode cX0_takeBack 9 = .ok (.isub, 1) := by decide +kernel
theorem dX0_takeBack_10 : decode cX0_takeBack 10 = .ok (.bipush 24, 2) := by decide +kernel
theorem dX0_takeBack_12 : decode cX0_takeBack 12 = .ok (.irem, 1) := by decide +kernel
theorem dX0_takeBack_13 : decode cX0_takeBack 13 = .ok (.putfield 29, 3) := by decide +kernel
theorem dX0_takeBack_16 : decode cX0_takeBack 16 = .ok (.aload_n 0, 1) := by decide +kernel
theorem dX0_takeBack_17 : decode cX0_takeBack 17 = .ok (.dup, 1) := by decide +kernel
theorem dX0_takeBack_18 : decode cX0_takeBack 18 = .ok (.getfield 25, 3) := by decide +kernel
theorem dX0_takeBack_21 : decode cX0_takeBack 21 = .ok (.iconst 1, 1) := by decide +kernel
theorem dX0_takeBack_22 : decode cX0_takeBack 22 = .ok (.isub, 1) := by decide +kernel
theorem dX0_takeBack_23 : decode cX0_takeBack 23 = .ok (.putfield 25, 3) := by decide +kernel
theorem dX0_takeBack_26 : decode cX0_takeBack 26 = .ok (.aload_n 0, 1) := by decide +kernel
theorem dX0_takeBack_27 : decode cX0_takeBack 27 = .ok (.getfield 9, 3) := by decide +kernel
theorem dX0_takeBack_30 : decode cX0_takeBack 30 = .ok (.aload_n 0, 1) := by decide +kernel
theorem dX0_takeBack_31 : decode cX0_takeBack 31 = .ok (.getfield 29, 3) := by decide +kernel
theorem dX0_takeBack_34 : decode cX0_takeBack 34 = .ok (.iaload, 1) := by decide +kernel
theorem dX0_takeBack_35 : decode cX0_takeBack 35 = .ok (.tableswitch 127 1 5 #[33, 59, 72, 93, 114], 33) := by decide +kernel
theorem dX0_takeBack_68 : decode cX0_takeBack 68 = .ok (.aload_n 0, 1) := by decide +kernel
theorem dX0_takeBack_69 : decode cX0_takeBack 69 = .ok (.aload_n 1, 1) := by decide +kernel
theorem dX0_takeBack_70 : decode cX0_takeBack 70 = .ok (.aload_n 0, 1) := by decide +kernel
theorem dX0_takeBack_71 : decode cX0_takeBack 71 = .ok (.getfield 13, 3) := by decide +kernel
theorem dX0_takeBack_74 : decode cX0_takeBack 74 = .ok (.aload_n 0, 1) := by decide +kernel
theorem dX0_takeBack_75 : decode cX0_takeBack 75 = .ok (.getfield 29, 3) := by decide +kernel
theorem dX0_takeBack_78 : decode cX0_takeBack 78 = .ok (.iaload, 1) := by decide +kernel
theorem dX0_takeBack_79 : decode cX0_takeBack 79 = .ok (.aload_n 0, 1) := by decide +kernel
theorem dX0_takeBack_80 : decode cX0_takeBack 80 = .ok (.getfield 16, 3) := by decide +kernel
theorem dX0_takeBack_83 : decode cX0_takeBack 83 = .ok (.aload_n 0, 1) := by decide +kernel
theorem dX0_takeBack_84 : decode cX0_takeBack 84 = .ok (.getfield 29, 3) := by decide +kernel
theorem dX0_takeBack_87 : decode cX0_takeBack 87 = .ok (.iaload, 1) := by decide +kernel
theorem dX0_takeBack_88 : decode cX0_takeBack 88 = .ok (.invokevirtual 49, 3) := by decide +kernel
theorem dX0_takeBack_91 : decode cX0_takeBack 91 = .ok (.goto 71, 3) := by decide +kernel
theorem dX0_takeBack_94 : decode cX0_takeBack 94 = .ok (.aload_n 1, 1) := by decide +kernel
theorem dX0_takeBack_95 : decode cX0_takeBack 95 = .ok (.dup, 1) := by decide +kernel
theorem dX0_takeBack_96 : decode cX0_takeBack 96 = .ok (.getfield 53, 3) := by decide +kernel
theorem dX0_takeBack_99 : decode cX0_takeBack 99 = .ok (.iconst 1, 1) := by decide +kernel
theorem dX0_takeBack_100 : decode cX0_takeBack 100 = .ok (.isub, 1) := by decide +kernel
theorem dX0_takeBack_101 : decode cX0_takeBack 101 = .ok (.putfield 53, 3) := by decide +kernel
theorem dX0_takeBack_104 : decode cX0_takeBack 104 = .ok (.goto 58, 3) := by decide +kernel
theorem dX0_takeBack_107 : decode cX0_takeBack 107 = .ok (.aload_n 1, 1) := by decide +kernel
theorem dX0_takeBack_108 : decode cX0_takeBack 108 = .ok (.getfield 56, 3) := by decide +kernel
theorem dX0_takeBack_111 : decode cX0_takeBack 111 = .ok (.aload_n 0, 1) := by decide +kernel
theorem dX0_takeBack_112 : decode cX0_takeBack 112 = .ok (.getfield 13, 3) := by decide +kernel
theorem dX0_takeBack_115 : decode cX0_takeBack 115 = .ok (.aload_n 0, 1) := by decide +kernel
theorem dX0_takeBack_116 : decode cX0_takeBack 116 = .ok (.getfield 29, 3) := by decide +kernel
theorem dX0_takeBack_119 : decode cX0_takeBack 119 = .ok (.iaload, 1) := by decide +kernel
theorem dX0_takeBack_120 : decode cX0_takeBack 120 = .ok (.dup2, 1) := by decide +kernel
theorem dX0_takeBack_121 : decode cX0_takeBack 121 = .ok (.iaload, 1) := by decide +kernel
theorem dX0_takeBack_122 : decode cX0_takeBack 122 = .ok (.iconst 1, 1) := by decide +kernel
theorem dX0_takeBack_123 : decode cX0_takeBack 123 = .ok (.isub, 1) := by decide +kernel
theorem dX0_takeBack_124 : decode cX0_takeBack 124 = .ok (.iastore, 1) := by decide +kernel
theorem dX0_takeBack_125 : decode cX0_takeBack 125 = .ok (.goto 37, 3) := by decide +kernel
theorem dX0_takeBack_128 : decode cX0_takeBack 128 = .ok (.aload_n 1, 1) := by decide +kernel
theorem dX0_takeBack_129 : decode cX0_takeBack 129 = .ok (.getfield 56, 3) := by decide +kernel
theorem dX0_takeBack_132 : decode cX0_takeBack 132 = .ok (.aload_n 0, 1) := by decide +kernel
theorem dX0_takeBack_133 : decode cX0_takeBack 133 = .ok (.getfield 13, 3) := by decide +kernel
theorem dX0_takeBack_136 : decode cX0_takeBack 136 = .ok (.aload_n 0, 1) := by decide +kernel
theorem dX0_takeBack_137 : decode cX0_takeBack 137 = .ok (.getfield 29, 3) := by decide +kernel
theorem dX0_takeBack_140 : decode cX0_takeBack 140 = .ok (.iaload, 1) := by decide +kernel
theorem dX0_takeBack_141 : decode cX0_takeBack 141 = .ok (.dup2, 1) := by decide +kernel
theorem dX0_takeBack_142 : decode cX0_takeBack 142 = .ok (.iaload, 1) := by decide +kernel
theorem dX0_takeBack_143 : decode cX0_takeBack 143 = .ok (.iconst 1, 1) := by decide +kernel
theorem dX0_takeBack_144 : decode cX0_takeBack 144 = .ok (.iadd, 1) := by decide +kernel
theorem dX0_takeBack_145 : decode cX0_takeBack 145 = .ok (.iastore, 1) := by decide +kernel
theorem dX0_takeBack_146 : decode cX0_takeBack 146 = .ok (.goto 16, 3) := by decide +kernel
theorem dX0_takeBack_149 : decode cX0_takeBack 149 = .ok (.aload_n 1, 1) := by decide +kernel
theorem dX0_takeBack_150 : decode cX0_takeBack 150 = .ok (.dup, 1) := by decide +kernel
theorem dX0_takeBack_151 : decode cX0_takeBack 151 = .ok (.getfield 59, 3) := by decide +kernel
theorem dX0_takeBack_154 : decode cX0_takeBack 154 = .ok (.iconst 1, 1) := by decide +kernel
theorem dX0_takeBack_155 : decode cX0_takeBack 155 = .ok (.isub, 1) := by decide +kernel
theorem dX0_takeBack_156 : decode cX0_takeBack 156 = .ok (.putfield 59, 3) := by decide +kernel
theorem dX0_takeBack_159 : decode cX0_takeBack 159 = .ok (.goto 3, 3) := by decide +kernel
theorem dX0_takeBack_162 : decode cX0_takeBack 162 = .ok (.return_, 1) := by decide +kernel
theorem dX0_stepBack_0 : decode cX0_stepBack 0 = .ok (.iload_n 2, 1) := by decide +kernel
theorem dX0_stepBack_1 : decode cX0_stepBack 1 = .ok (.iload_n 3, 1) := by decide +kernel
theorem dX0_stepBack_2 : decode cX0_stepBack 2 = .ok (.invokestatic 38, 3) := by decide +kernel
theorem dX0_stepBack_5 : decode cX0_stepBack 5 = .ok (.istore 4, 2) := by decide +kernel
theorem dX0_stepBack_7 : decode cX0_stepBack 7 = .ok (.aload_n 1, 1) := by decide +kernel
theorem dX0_stepBack_8 : decode cX0_stepBack 8 = .ok (.iload_n 2, 1) := by decide +kernel
theorem dX0_stepBack_9 : decode cX0_stepBack 9 = .ok (.iload_n 3, 1) := by decide +kernel
theorem dX0_stepBack_10 : decode cX0_stepBack 10 = .ok (.invokevirtual 62, 3) := by decide +kernel
theorem dX0_stepBack_13 : decode cX0_stepBack 13 = .ok (.aload_n 1, 1) := by decide +kernel
theorem dX0_stepBack_14 : decode cX0_stepBack 14 = .ok (.getfield 43, 3) := by decide +kernel
theorem dX0_stepBack_17 : decode cX0_stepBack 17 = .ok (.iload 4, 2) := by decide +kernel
theorem dX0_stepBack_19 : decode cX0_stepBack 19 = .ok (.aload_n 0, 1) := by decide +kernel
theorem dX0_stepBack_20 : decode cX0_stepBack 20 = .ok (.getfield 19, 3) := by decide +kernel
theorem dX0_stepBack_23 : decode cX0_stepBack 23 = .ok (.aload_n 0, 1) := by decide +kernel
theorem dX0_stepBack_24 : decode cX0_stepBack 24 = .ok (.getfield 29, 3) := by decide +kernel
theorem dX0_stepBack_27 : decode cX0_stepBack 27 = .ok (.iaload, 1) := by decide +kernel
theorem dX0_stepBack_28 : decode cX0_stepBack 28 = .ok (.iastore, 1) := by decide +kernel
theorem dX0_stepBack_29 : decode cX0_stepBack 29 = .ok (.aload_n 1, 1) := by decide +kernel
theorem dX0_stepBack_30 : decode cX0_stepBack 30 = .ok (.getfield 46, 3) := by decide +kernel
theorem dX0_stepBack_33 : decode cX0_stepBack 33 = .ok (.iload 4, 2) := by decide +kernel
theorem dX0_stepBack_35 : decode cX0_stepBack 35 = .ok (.aload_n 0, 1) := by decide +kernel
theorem dX0_stepBack_36 : decode cX0_stepBack 36 = .ok (.getfield 22, 3) := by decide +kernel
theorem dX0_stepBack_39 : decode cX0_stepBack 39 = .ok (.aload_n 0, 1) := by decide +kernel
theorem dX0_stepBack_40 : decode cX0_stepBack 40 = .ok (.getfield 29, 3) := by decide +kernel
theorem dX0_stepBack_43 : decode cX0_stepBack 43 = .ok (.iaload, 1) := by decide +kernel
theorem dX0_stepBack_44 : decode cX0_stepBack 44 = .ok (.iastore, 1) := by decide +kernel
theorem dX0_stepBack_45 : decode cX0_stepBack 45 = .ok (.return_, 1) := by decide +kernel
theorem dX1_init_0 : decode cX1_init 0 = .ok (.aload_n 0, 1) := by decide +kernel
theorem dX1_init_1 : decode cX1_init 1 = .ok (.invokespecial 3, 3) := by decide +kernel
theorem dX1_init_4 : decode cX1_init 4 = .ok (.aload_n 0, 1) := by decide +kernel
theorem dX1_init_5 : decode cX1_init 5 = .ok (.bipush 16, 2) := by decide +kernel
theorem dX1_init_7 : decode cX1_init 7 = .ok (.newarray .int, 2) := by decide +kernel
theorem dX1_init_9 : decode cX1_init 9 = .ok (.putfield 11, 3) := by decide +kernel
theorem dX1_init_12 : decode cX1_init 12 = .ok (.return_, 1) := by decide +kernel
theorem dX1_answer_0 : decode cX1_answer 0 = .ok (.aload_n 1, 1) := by decide +kernel
theorem dX1_answer_1 : decode cX1_answer 1 = .ok (.getfield 15, 3) := by decide +kernel
theorem dX1_answer_4 : decode cX1_answer 4 = .ok (.iload_n 2, 1) := by decide +kernel
theorem dX1_answer_5 : decode cX1_answer 5 = .ok (.iaload, 1) := by decide +kernel
theorem dX1_answer_6 : decode cX1_answer 6 = .ok (.istore 5, 2) := by decide +kernel
theorem dX1_answer_8 : decode cX1_answer 8 = .ok (.iconst 0, 1) := by decide +kernel
theorem dX1_answer_9 : decode cX1_answer 9 = .ok (.istore 6, 2) := by decide +kernel
theorem dX1_answer_11 : decode cX1_answer 11 = .ok (.iload 6, 2) := by decide +kernel
theorem dX1_answer_13 : decode cX1_answer 13 = .ok (.bipush 6, 2) := by decide +kernel
theorem dX1_answer_15 : decode cX1_answer 15 = .ok (.if_icmp .ge 68, 3) := by decide +kernel
theorem dX1_answer_18 : decode cX1_answer 18 = .ok (.iload 5, 2) := by decide +kernel
theorem dX1_answer_20 : decode cX1_answer 20 = .ok (.bipush 6, 2) := by decide +kernel
theorem dX1_answer_22 : decode cX1_answer 22 = .ok (.invokestatic 20, 3) := by decide +kernel
theorem dX1_answer_25 : decode cX1_answer 25 = .ok (.ifCond .eq 58, 3) := by decide +kernel
theorem dX1_answer_28 : decode cX1_answer 28 = .ok (.iload_n 3, 1) := by decide +kernel
theorem dX1_answer_29 : decode cX1_answer 29 = .ok (.ifCond .ne 12, 3) := by decide +kernel
theorem dX1_answer_32 : decode cX1_answer 32 = .ok (.getstatic 24, 3) := by decide +kernel
theorem dX1_answer_35 : decode cX1_answer 35 = .ok (.iload 5, 2) := by decide +kernel
theorem dX1_answer_37 : decode cX1_answer 37 = .ok (.iaload, 1) := by decide +kernel
theorem dX1_answer_38 : decode cX1_answer 38 = .ok (.goto 9, 3) := by decide +kernel
theorem dX1_answer_41 : decode cX1_answer 41 = .ok (.getstatic 27, 3) := by decide +kernel
theorem dX1_answer_44 : decode cX1_answer 44 = .ok (.iload 5, 2) := by decide +kernel
theorem dX1_answer_46 : decode cX1_answer 46 = .ok (.iaload, 1) := by decide +kernel
theorem dX1_answer_47 : decode cX1_answer 47 = .ok (.istore 7, 2) := by decide +kernel
theorem dX1_answer_49 : decode cX1_answer 49 = .ok (.iload 7, 2) := by decide +kernel
theorem dX1_answer_51 : decode cX1_answer 51 = .ok (.ldc 30, 2) := by decide +kernel
theorem dX1_answer_53 : decode cX1_answer 53 = .ok (.if_icmp .eq 16, 3) := by decide +kernel
theorem dX1_answer_56 : decode cX1_answer 56 = .ok (.aload_n 0, 1) := by decide +kernel
theorem dX1_answer_57 : decode cX1_answer 57 = .ok (.aload_n 1, 1) := by decide +kernel
theorem dX1_answer_58 : decode cX1_answer 58 = .ok (.iload_n 2, 1) := by decide +kernel
theorem dX1_answer_59 : decode cX1_answer 59 = .ok (.iload 7, 2) := by decide +kernel
theorem dX1_answer_61 : decode cX1_answer 61 = .ok (.iload 4, 2) := by decide +kernel
theorem dX1_answer_63 : decode cX1_answer 63 = .ok (.iconst 1, 1) := by decide +kernel
theorem dX1_answer_64 : decode cX1_answer 64 = .ok (.iadd, 1) := by decide +kernel
theorem dX1_answer_65 : decode cX1_answer 65 = .ok (.invokevirtual 31, 3) := by decide +kernel
theorem dX1_answer_68 : decode cX1_answer 68 = .ok (.ireturn, 1) := by decide +kernel
theorem dX1_answer_69 : decode cX1_answer 69 = .ok (.getstatic 35, 3) := by decide +kernel
theorem dX1_answer_72 : decode cX1_answer 72 = .ok (.iload 5, 2) := by decide +kernel
theorem dX1_answer_74 : decode cX1_answer 74 = .ok (.iaload, 1) := by decide +kernel
theorem dX1_answer_75 : decode cX1_answer 75 = .ok (.istore 5, 2) := by decide +kernel
theorem dX1_answer_77 : decode cX1_answer 77 = .ok (.iinc 6 1, 3) := by decide +kernel
theorem dX1_answer_80 : decode cX1_answer 80 = .ok (.goto (-69), 3) := by decide +kernel
theorem dX1_answer_83 : decode cX1_answer 83 = .ok (.ldc 30, 2) := by decide +kernel
theorem dX1_answer_85 : decode cX1_answer 85 = .ok (.ireturn, 1) := by decide +kernel
theorem dX1_give_0 : decode cX1_give 0 = .ok (.iload 4, 2) := by decide +kernel
theorem dX1_give_2 : decode cX1_give 2 = .ok (.bipush 16, 2) := by decide +kernel
theorem dX1_give_4 : decode cX1_give 4 = .ok (.if_icmp .le 6, 3) := by decide +kernel
theorem dX1_give_7 : decode cX1_give 7 = .ok (.ldc 30, 2) := by decide +kernel
theorem dX1_give_9 : decode cX1_give 9 = .ok (.ireturn, 1) := by decide +kernel
theorem dX1_give_10 : decode cX1_give 10 = .ok (.aload_n 0, 1) := by decide +kernel
theorem dX1_give_11 : decode cX1_give 11 = .ok (.iload_n 3, 1) := by decide +kernel
theorem dX1_give_12 : decode cX1_give 12 = .ok (.invokevirtual 38, 3) := by decide +kernel
theorem dX1_give_15 : decode cX1_give 15 = .ok (.iload_n 3, 1) := by decide +kernel
theorem dX1_give_16 : decode cX1_give 16 = .ok (.tableswitch 232 10 24 #[76, 82, 107, 122, 138, 232, 232, 232, 232, 232, 153, 155, 175, 192, 217], 76) := by decide +kernel
theorem dX1_give_92 : decode cX1_give 92 = .ok (.aload_n 1, 1) := by decide +kernel
theorem dX1_give_93 : decode cX1_give 93 = .ok (.iload_n 2, 1) := by decide +kernel
theorem dX1_give_94 : decode cX1_give 94 = .ok (.invokevirtual 42, 3) := by decide +kernel
theorem dX1_give_97 : decode cX1_give 97 = .ok (.ireturn, 1) := by decide +kernel
theorem dX1_give_98 : decode cX1_give 98 = .ok (.aload_n 0, 1) := by decide +kernel
theorem dX1_give_99 : decode cX1_give 99 = .ok (.aload_n 1, 1) := by decide +kernel
theorem dX1_give_100 : decode cX1_give 100 = .ok (.iload_n 2, 1) := by decide +kernel
theorem dX1_give_101 : decode cX1_give 101 = .ok (.bipush 10, 2) := by decide +kernel
theorem dX1_give_103 : decode cX1_give 103 = .ok (.iload 4, 2) := by decide +kernel
theorem dX1_give_105 : decode cX1_give 105 = .ok (.iconst 1, 1) := by decide +kernel
theorem dX1_give_106 : decode cX1_give 106 = .ok (.iadd, 1) := by decide +kernel
theorem dX1_give_107 : decode cX1_give 107 = .ok (.invokevirtual 31, 3) := by decide +kernel
theorem dX1_give_110 : decode cX1_give 110 = .ok (.aload_n 0, 1) := by decide +kernel
theorem dX1_give_111 : decode cX1_give 111 = .ok (.aload_n 1, 1) := by decide +kernel
theorem dX1_give_112 : decode cX1_give 112 = .ok (.iload_n 2, 1) := by decide +kernel
theorem dX1_give_113 : decode cX1_give 113 = .ok (.iconst 1, 1) := by decide +kernel
theorem dX1_give_114 : decode cX1_give 114 = .ok (.iload 4, 2) := by decide +kernel
theorem dX1_give_116 : decode cX1_give 116 = .ok (.iconst 1, 1) := by decide +kernel
theorem dX1_give_117 : decode cX1_give 117 = .ok (.iadd, 1) := by decide +kernel
theorem dX1_give_118 : decode cX1_give 118 = .ok (.invokevirtual 46, 3) := by decide +kernel
theorem dX1_give_121 : decode cX1_give 121 = .ok (.iadd, 1) := by decide +kernel
theorem dX1_give_122 : decode cX1_give 122 = .ok (.ireturn, 1) := by decide +kernel
theorem dX1_give_123 : decode cX1_give 123 = .ok (.iconst 0, 1) := by decide +kernel
theorem dX1_give_124 : decode cX1_give 124 = .ok (.aload_n 0, 1) := by decide +kernel
theorem dX1_give_125 : decode cX1_give 125 = .ok (.aload_n 1, 1) := by decide +kernel
theorem dX1_give_126 : decode cX1_give 126 = .ok (.iload_n 2, 1) := by decide +kernel
theorem dX1_give_127 : decode cX1_give 127 = .ok (.bipush 11, 2) := by decide +kernel
theorem dX1_give_129 : decode cX1_give 129 = .ok (.iload 4, 2) := by decide +kernel
theorem dX1_give_131 : decode cX1_give 131 = .ok (.iconst 1, 1) := by decide +kernel
theorem dX1_give_132 : decode cX1_give 132 = .ok (.iadd, 1) := by decide +kernel
theorem dX1_give_133 : decode cX1_give 133 = .ok (.invokevirtual 31, 3) := by decide +kernel
theorem dX1_give_136 : decode cX1_give 136 = .ok (.isub, 1) := by decide +kernel
theorem dX1_give_137 : decode cX1_give 137 = .ok (.ireturn, 1) := by decide +kernel
theorem dX1_give_138 : decode cX1_give 138 = .ok (.aload_n 0, 1) := by decide +kernel
theorem dX1_give_139 : decode cX1_give 139 = .ok (.aload_n 1, 1) := by decide +kernel
theorem dX1_give_140 : decode cX1_give 140 = .ok (.iload_n 2, 1) := by decide +kernel
theorem dX1_give_141 : decode cX1_give 141 = .ok (.bipush 10, 2) := by decide +kernel
theorem dX1_give_143 : decode cX1_give 143 = .ok (.iload 4, 2) := by decide +kernel
theorem dX1_give_145 : decode cX1_give 145 = .ok (.iconst 1, 1) := by decide +kernel
theorem dX1_give_146 : decode cX1_give 146 = .ok (.iadd, 1) := by decide +kernel
theorem dX1_give_147 : decode cX1_give 147 = .ok (.invokevirtual 31, 3) := by decide +kernel
theorem dX1_give_150 : decode cX1_give 150 = .ok (.bipush 100, 2) := by decide +kernel
theorem dX1_give_152 : decode cX1_give 152 = .ok (.isub, 1) := by decide +kernel
theorem dX1_give_153 : decode cX1_give 153 = .ok (.ireturn, 1) := by decide +kernel
theorem dX1_give_154 : decode cX1_give 154 = .ok (.iconst 2, 1) := by decide +kernel
theorem dX1_give_155 : decode cX1_give 155 = .ok (.aload_n 0, 1) := by decide +kernel
theorem dX1_give_156 : decode cX1_give 156 = .ok (.aload_n 1, 1) := by decide +kernel
theorem dX1_give_157 : decode cX1_give 157 = .ok (.iload_n 2, 1) := by decide +kernel
theorem dX1_give_158 : decode cX1_give 158 = .ok (.bipush 13, 2) := by decide +kernel
theorem dX1_give_160 : decode cX1_give 160 = .ok (.iload 4, 2) := by decide +kernel
theorem dX1_give_162 : decode cX1_give 162 = .ok (.iconst 1, 1) := by decide +kernel
theorem dX1_give_163 : decode cX1_give 163 = .ok (.iadd, 1) := by decide +kernel
theorem dX1_give_164 : decode cX1_give 164 = .ok (.invokevirtual 31, 3) := by decide +kernel
theorem dX1_give_167 : decode cX1_give 167 = .ok (.imul, 1) := by decide +kernel
theorem dX1_give_168 : decode cX1_give 168 = .ok (.ireturn, 1) := by decide +kernel
theorem dX1_give_169 : decode cX1_give 169 = .ok (.iload_n 2, 1) := by decide +kernel
theorem dX1_give_170 : decode cX1_give 170 = .ok (.ireturn, 1) := by decide +kernel
theorem dX1_give_171 : decode cX1_give 171 = .ok (.aload_n 0, 1) := by decide +kernel
theorem dX1_give_172 : decode cX1_give 172 = .ok (.aload_n 1, 1) := by decide +kernel
theorem dX1_give_173 : decode cX1_give 173 = .ok (.iload_n 2, 1) := by decide +kernel
theorem dX1_give_174 : decode cX1_give 174 = .ok (.bipush 20, 2) := by decide +kernel
theorem dX1_give_176 : decode cX1_give 176 = .ok (.iload 4, 2) := by decide +kernel
theorem dX1_give_178 : decode cX1_give 178 = .ok (.iconst 1, 1) := by decide +kernel
theorem dX1_give_179 : decode cX1_give 179 = .ok (.iadd, 1) := by decide +kernel
theorem dX1_give_180 : decode cX1_give 180 = .ok (.invokevirtual 31, 3) := by decide +kernel
theorem dX1_give_183 : decode cX1_give 183 = .ok (.aload_n 1, 1) := by decide +kernel
theorem dX1_give_184 : decode cX1_give 184 = .ok (.getfield 49, 3) := by decide +kernel
theorem dX1_give_187 : decode cX1_give 187 = .ok (.iload_n 2, 1) := by decide +kernel
theorem dX1_give_188 : decode cX1_give 188 = .ok (.iaload, 1) := by decide +kernel
theorem dX1_give_189 : decode cX1_give 189 = .ok (.iadd, 1) := by decide +kernel
theorem dX1_give_190 : decode cX1_give 190 = .ok (.ireturn, 1) := by decide +kernel
theorem dX1_give_191 : decode cX1_give 191 = .ok (.aload_n 0, 1) := by decide +kernel
theorem dX1_give_192 : decode cX1_give 192 = .ok (.aload_n 1, 1) := by decide +kernel
theorem dX1_give_193 : decode cX1_give 193 = .ok (.iload_n 2, 1) := by decide +kernel
theorem dX1_give_194 : decode cX1_give 194 = .ok (.bipush 21, 2) := by decide +kernel
theorem dX1_give_196 : decode cX1_give 196 = .ok (.iload 4, 2) := by decide +kernel
theorem dX1_give_198 : decode cX1_give 198 = .ok (.iconst 1, 1) := by decide +kernel
theorem dX1_give_199 : decode cX1_give 199 = .ok (.iadd, 1) := by decide +kernel
theorem dX1_give_200 : decode cX1_give 200 = .ok (.invokevirtual 31, 3) := by decide +kernel
theorem dX1_give_203 : decode cX1_give 203 = .ok (.sipush 1000, 3) := by decide +kernel
theorem dX1_give_206 : decode cX1_give 206 = .ok (.isub, 1) := by decide +kernel
theorem dX1_give_207 : decode cX1_give 207 = .ok (.ireturn, 1) := by decide +kernel
theorem dX1_give_208 : decode cX1_give 208 = .ok (.aload_n 0, 1) := by decide +kernel
theorem dX1_give_209 : decode cX1_give 209 = .ok (.aload_n 1, 1) := by decide +kernel
theorem dX1_give_210 : decode cX1_give 210 = .ok (.iload_n 2, 1) := by decide +kernel
theorem dX1_give_211 : decode cX1_give 211 = .ok (.bipush 20, 2) := by decide +kernel
theorem dX1_give_213 : decode cX1_give 213 = .ok (.iload 4, 2) := by decide +kernel
theorem dX1_give_215 : decode cX1_give 215 = .ok (.iconst 1, 1) := by decide +kernel
theorem dX1_give_216 : decode cX1_give 216 = .ok (.iadd, 1) := by decide +kernel
theorem dX1_give_217 : decode cX1_give 217 = .ok (.invokevirtual 31, 3) := by decide +kernel
theorem dX1_give_220 : decode cX1_give 220 = .ok (.aload_n 0, 1) := by decide +kernel
theorem dX1_give_221 : decode cX1_give 221 = .ok (.aload_n 1, 1) := by decide +kernel
theorem dX1_give_222 : decode cX1_give 222 = .ok (.iload_n 2, 1) := by decide +kernel
theorem dX1_give_223 : decode cX1_give 223 = .ok (.iconst 0, 1) := by decide +kernel
theorem dX1_give_224 : decode cX1_give 224 = .ok (.iload 4, 2) := by decide +kernel
theorem dX1_give_226 : decode cX1_give 226 = .ok (.iconst 1, 1) := by decide +kernel
theorem dX1_give_227 : decode cX1_give 227 = .ok (.iadd, 1) := by decide +kernel
theorem dX1_give_228 : decode cX1_give 228 = .ok (.invokevirtual 46, 3) := by decide +kernel
theorem dX1_give_231 : decode cX1_give 231 = .ok (.isub, 1) := by decide +kernel
theorem dX1_give_232 : decode cX1_give 232 = .ok (.ireturn, 1) := by decide +kernel
theorem dX1_give_233 : decode cX1_give 233 = .ok (.iconst 2, 1) := by decide +kernel
theorem dX1_give_234 : decode cX1_give 234 = .ok (.aload_n 0, 1) := by decide +kernel
theorem dX1_give_235 : decode cX1_give 235 = .ok (.aload_n 1, 1) := by decide +kernel
theorem dX1_give_236 : decode cX1_give 236 = .ok (.iload_n 2, 1) := by decide +kernel
theorem dX1_give_237 : decode cX1_give 237 = .ok (.bipush 21, 2) := by decide +kernel
theorem dX1_give_239 : decode cX1_give 239 = .ok (.iload 4, 2) := by decide +kernel
theorem dX1_give_241 : decode cX1_give 241 = .ok (.iconst 1, 1) := by decide +kernel
theorem dX1_give_242 : decode cX1_give 242 = .ok (.iadd, 1) := by decide +kernel
theorem dX1_give_243 : decode cX1_give 243 = .ok (.invokevirtual 31, 3) := by decide +kernel
theorem dX1_give_246 : decode cX1_give 246 = .ok (.imul, 1) := by decide +kernel
theorem dX1_give_247 : decode cX1_give 247 = .ok (.ireturn, 1) := by decide +kernel
theorem dX1_give_248 : decode cX1_give 248 = .ok (.ldc 30, 2) := by decide +kernel
theorem dX1_give_250 : decode cX1_give 250 = .ok (.ireturn, 1) := by decide +kernel
theorem dX1_leave_0 : decode cX1_leave 0 = .ok (.aload_n 0, 1) := by decide +kernel
theorem dX1_leave_1 : decode cX1_leave 1 = .ok (.getfield 52, 3) := by decide +kernel
theorem dX1_leave_4 : decode cX1_leave 4 = .ok (.bipush 16, 2) := by decide +kernel
theorem dX1_leave_6 : decode cX1_leave 6 = .ok (.if_icmp .ge 23, 3) := by decide +kernel
theorem dX1_leave_9 : decode cX1_leave 9 = .ok (.aload_n 0, 1) := by decide +kernel
theorem dX1_leave_10 : decode cX1_leave 10 = .ok (.getfield 11, 3) := by decide +kernel
theorem dX1_leave_13 : decode cX1_leave 13 = .ok (.aload_n 0, 1) := by decide +kernel
theorem dX1_leave_14 : decode cX1_leave 14 = .ok (.getfield 52, 3) := by decide +kernel
theorem dX1_leave_17 : decode cX1_leave 17 = .ok (.iload_n 1, 1) := by decide +kernel
theorem dX1_leave_18 : decode cX1_leave 18 = .ok (.iastore, 1) := by decide +kernel
theorem dX1_leave_19 : decode cX1_leave 19 = .ok (.aload_n 0, 1) := by decide +kernel
theorem dX1_leave_20 : decode cX1_leave 20 = .ok (.dup, 1) := by decide +kernel
theorem dX1_leave_21 : decode cX1_leave 21 = .ok (.getfield 52, 3) := by decide +kernel
theorem dX1_leave_24 : decode cX1_leave 24 = .ok (.iconst 1, 1) := by decide +kernel
theorem dX1_leave_25 : decode cX1_leave 25 = .ok (.iadd, 1) := by decide +kernel
theorem dX1_leave_26 : decode cX1_leave 26 = .ok (.putfield 52, 3) := by decide +kernel
theorem dX1_leave_29 : decode cX1_leave 29 = .ok (.return_, 1) := by decide +kernel
theorem dX2_init_0 : decode cX2_init 0 = .ok (.aload_n 0, 1) := by decide +kernel
theorem dX2_init_1 : decode cX2_init 1 = .ok (.invokespecial 3, 3) := by decide +kernel
theorem dX2_init_4 : decode cX2_init 4 = .ok (.aload_n 0, 1) := by decide +kernel
theorem dX2_init_5 : decode cX2_init 5 = .ok (.bipush 6, 2) := by decide +kernel
theorem dX2_init_7 : decode cX2_init 7 = .ok (.newarray .int, 2) := by decide +kernel
theorem dX2_init_9 : decode cX2_init 9 = .ok (.putfield 9, 3) := by decide +kernel
theorem dX2_init_12 : decode cX2_init 12 = .ok (.aload_n 0, 1) := by decide +kernel
theorem dX2_init_13 : decode cX2_init 13 = .ok (.bipush 6, 2) := by decide +kernel
theorem dX2_init_15 : decode cX2_init 15 = .ok (.newarray .int, 2) := by decide +kernel
theorem dX2_init_17 : decode cX2_init 17 = .ok (.putfield 15, 3) := by decide +kernel
theorem dX2_init_20 : decode cX2_init 20 = .ok (.return_, 1) := by decide +kernel
theorem dX2_hold_0 : decode cX2_hold 0 = .ok (.aload_n 0, 1) := by decide +kernel
theorem dX2_hold_1 : decode cX2_hold 1 = .ok (.aload_n 1, 1) := by decide +kernel
theorem dX2_hold_2 : decode cX2_hold 2 = .ok (.getfield 18, 3) := by decide +kernel
theorem dX2_hold_5 : decode cX2_hold 5 = .ok (.putfield 24, 3) := by decide +kernel
theorem dX2_hold_8 : decode cX2_hold 8 = .ok (.iconst 0, 1) := by decide +kernel
theorem dX2_hold_9 : decode cX2_hold 9 = .ok (.istore 4, 2) := by decide +kernel
theorem dX2_hold_11 : decode cX2_hold 11 = .ok (.iload 4, 2) := by decide +kernel
theorem dX2_hold_13 : decode cX2_hold 13 = .ok (.aload_n 0, 1) := by decide +kernel
theorem dX2_hold_14 : decode cX2_hold 14 = .ok (.getfield 24, 3) := by decide +kernel
theorem dX2_hold_17 : decode cX2_hold 17 = .ok (.if_icmp .ge 61, 3) := by decide +kernel
theorem dX2_hold_20 : decode cX2_hold 20 = .ok (.aload_n 0, 1) := by decide +kernel
theorem dX2_hold_21 : decode cX2_hold 21 = .ok (.getfield 9, 3) := by decide +kernel
theorem dX2_hold_24 : decode cX2_hold 24 = .ok (.iload 4, 2) := by decide +kernel
theorem dX2_hold_26 : decode cX2_hold 26 = .ok (.iload 4, 2) := by decide +kernel
theorem dX2_hold_28 : decode cX2_hold 28 = .ok (.iload_n 2, 1) := by decide +kernel
theorem dX2_hold_29 : decode cX2_hold 29 = .ok (.if_icmp .ne 7, 3) := by decide +kernel
theorem dX2_hold_32 : decode cX2_hold 32 = .ok (.iconst 0, 1) := by decide +kernel
theorem dX2_hold_33 : decode cX2_hold 33 = .ok (.goto 10, 3) := by decide +kernel
theorem dX2_hold_36 : decode cX2_hold 36 = .ok (.aload_n 1, 1) := by decide +kernel
theorem dX2_hold_37 : decode cX2_hold 37 = .ok (.iload 4, 2) := by decide +kernel
theorem dX2_hold_39 : decode cX2_hold 39 = .ok (.iload_n 3, 1) := by decide +kernel
theorem dX2_hold_40 : decode cX2_hold 40 = .ok (.invokevirtual 27, 3) := by decide +kernel
theorem dX2_hold_43 : decode cX2_hold 43 = .ok (.iastore, 1) := by decide +kernel
theorem dX2_hold_44 : decode cX2_hold 44 = .ok (.aload_n 0, 1) := by decide +kernel
theorem dX2_hold_45 : decode cX2_hold 45 = .ok (.getfield 15, 3) := by decide +kernel
theorem dX2_hold_48 : decode cX2_hold 48 = .ok (.iload 4, 2) := by decide +kernel
theorem dX2_hold_50 : decode cX2_hold 50 = .ok (.iload 4, 2) := by decide +kernel
theorem dX2_hold_52 : decode cX2_hold 52 = .ok (.iload_n 2, 1) := by decide +kernel
theorem dX2_hold_53 : decode cX2_hold 53 = .ok (.if_icmp .ne 7, 3) := by decide +kernel
theorem dX2_hold_56 : decode cX2_hold 56 = .ok (.iconst 0, 1) := by decide +kernel
theorem dX2_hold_57 : decode cX2_hold 57 = .ok (.goto 14, 3) := by decide +kernel
theorem dX2_hold_60 : decode cX2_hold 60 = .ok (.aload_n 1, 1) := by decide +kernel
theorem dX2_hold_61 : decode cX2_hold 61 = .ok (.iload 4, 2) := by decide +kernel
theorem dX2_hold_63 : decode cX2_hold 63 = .ok (.iload_n 2, 1) := by decide +kernel
theorem dX2_hold_64 : decode cX2_hold 64 = .ok (.invokevirtual 31, 3) := by decide +kernel
theorem dX2_hold_67 : decode cX2_hold 67 = .ok (.iconst 0, 1) := by decide +kernel
theorem dX2_hold_68 : decode cX2_hold 68 = .ok (.invokestatic 34, 3) := by decide +kernel
theorem dX2_hold_71 : decode cX2_hold 71 = .ok (.iastore, 1) := by decide +kernel
theorem dX2_hold_72 : decode cX2_hold 72 = .ok (.iinc 4 1, 3) := by decide +kernel
theorem dX2_hold_75 : decode cX2_hold 75 = .ok (.goto (-64), 3) := by decide +kernel
theorem dX2_hold_78 : decode cX2_hold 78 = .ok (.return_, 1) := by decide +kernel
theorem dX2_weightsOf_0 : decode cX2_weightsOf 0 = .ok (.iconst 0, 1) := by decide +kernel
theorem dX2_weightsOf_1 : decode cX2_weightsOf 1 = .ok (.istore_n 2, 1) := by decide +kernel
theorem dX2_weightsOf_2 : decode cX2_weightsOf 2 = .ok (.iconst 0, 1) := by decide +kernel
theorem dX2_weightsOf_3 : decode cX2_weightsOf 3 = .ok (.istore_n 3, 1) := by decide +kernel
theorem dX2_weightsOf_4 : decode cX2_weightsOf 4 = .ok (.iload_n 3, 1) := by decide +kernel
theorem dX2_weightsOf_5 : decode cX2_weightsOf 5 = .ok (.aload_n 0, 1) := by decide +kernel
theorem dX2_weightsOf_6 : decode cX2_weightsOf 6 = .ok (.getfield 24, 3) := by decide +kernel
theorem dX2_weightsOf_9 : decode cX2_weightsOf 9 = .ok (.if_icmp .ge 32, 3) := by decide +kernel
theorem dX2_weightsOf_12 : decode cX2_weightsOf 12 = .ok (.iload_n 2, 1) := by decide +kernel
theorem dX2_weightsOf_13 : decode cX2_weightsOf 13 = .ok (.aload_n 0, 1) := by decide +kernel
theorem dX2_weightsOf_14 : decode cX2_weightsOf 14 = .ok (.getfield 15, 3) := by decide +kernel
theorem dX2_weightsOf_17 : decode cX2_weightsOf 17 = .ok (.iload_n 3, 1) := by decide +kernel
theorem dX2_weightsOf_18 : decode cX2_weightsOf 18 = .ok (.iaload, 1) := by decide +kernel
theorem dX2_weightsOf_19 : decode cX2_weightsOf 19 = .ok (.iload_n 1, 1) := by decide +kernel
theorem dX2_weightsOf_20 : decode cX2_weightsOf 20 = .ok (.if_icmp .ne 12, 3) := by decide +kernel
theorem dX2_weightsOf_23 : decode cX2_weightsOf 23 = .ok (.aload_n 0, 1) := by decide +kernel
theorem dX2_weightsOf_24 : decode cX2_weightsOf 24 = .ok (.getfield 9, 3) := by decide +kernel
theorem dX2_weightsOf_27 : decode cX2_weightsOf 27 = .ok (.iload_n 3, 1) := by decide +kernel
theorem dX2_weightsOf_28 : decode cX2_weightsOf 28 = .ok (.iaload, 1) := by decide +kernel
theorem dX2_weightsOf_29 : decode cX2_weightsOf 29 = .ok (.goto 4, 3) := by decide +kernel
theorem dX2_weightsOf_32 : decode cX2_weightsOf 32 = .ok (.iconst 0, 1) := by decide +kernel
theorem dX2_weightsOf_33 : decode cX2_weightsOf 33 = .ok (.iadd, 1) := by decide +kernel
theorem dX2_weightsOf_34 : decode cX2_weightsOf 34 = .ok (.istore_n 2, 1) := by decide +kernel
theorem dX2_weightsOf_35 : decode cX2_weightsOf 35 = .ok (.iinc 3 1, 3) := by decide +kernel
theorem dX2_weightsOf_38 : decode cX2_weightsOf 38 = .ok (.goto (-34), 3) := by decide +kernel
theorem dX2_weightsOf_41 : decode cX2_weightsOf 41 = .ok (.iload_n 2, 1) := by decide +kernel
theorem dX2_weightsOf_42 : decode cX2_weightsOf 42 = .ok (.ireturn, 1) := by decide +kernel
theorem dX2_margin_0 : decode cX2_margin 0 = .ok (.aload_n 0, 1) := by decide +kernel
theorem dX2_margin_1 : decode cX2_margin 1 = .ok (.iconst 1, 1) := by decide +kernel
theorem dX2_margin_2 : decode cX2_margin 2 = .ok (.invokevirtual 39, 3) := by decide +kernel
theorem dX2_margin_5 : decode cX2_margin 5 = .ok (.aload_n 0, 1) := by decide +kernel
theorem dX2_margin_6 : decode cX2_margin 6 = .ok (.iconst (-1), 1) := by decide +kernel
theorem dX2_margin_7 : decode cX2_margin 7 = .ok (.invokevirtual 39, 3) := by decide +kernel
theorem dX2_margin_10 : decode cX2_margin 10 = .ok (.isub, 1) := by decide +kernel
theorem dX2_margin_11 : decode cX2_margin 11 = .ok (.ireturn, 1) := by decide +kernel
theorem dX2_opens_0 : decode cX2_opens 0 = .ok (.aload_n 0, 1) := by decide +kernel
theorem dX2_opens_1 : decode cX2_opens 1 = .ok (.iconst 1, 1) := by decide +kernel
theorem dX2_opens_2 : decode cX2_opens 2 = .ok (.aload_n 0, 1) := by decide +kernel
theorem dX2_opens_3 : decode cX2_opens 3 = .ok (.getfield 24, 3) := by decide +kernel
theorem dX2_opens_6 : decode cX2_opens 6 = .ok (.ishl, 1) := by decide +kernel
theorem dX2_opens_7 : decode cX2_opens 7 = .ok (.iconst 1, 1) := by decide +kernel
theorem dX2_opens_8 : decode cX2_opens 8 = .ok (.isub, 1) := by decide +kernel
theorem dX2_opens_9 : decode cX2_opens 9 = .ok (.invokevirtual 43, 3) := by decide +kernel
theorem dX2_opens_12 : decode cX2_opens 12 = .ok (.ireturn, 1) := by decide +kernel
theorem dX2_opensAwake_0 : decode cX2_opensAwake 0 = .ok (.iconst 0, 1) := by decide +kernel
theorem dX2_opensAwake_1 : decode cX2_opensAwake 1 = .ok (.istore_n 2, 1) := by decide +kernel
theorem dX2_opensAwake_2 : decode cX2_opensAwake 2 = .ok (.iconst 0, 1) := by decide +kernel
theorem dX2_opensAwake_3 : decode cX2_opensAwake 3 = .ok (.istore_n 3, 1) := by decide +kernel
theorem dX2_opensAwake_4 : decode cX2_opensAwake 4 = .ok (.iconst 0, 1) := by decide +kernel
theorem dX2_opensAwake_5 : decode cX2_opensAwake 5 = .ok (.istore 4, 2) := by decide +kernel
theorem dX2_opensAwake_7 : decode cX2_opensAwake 7 = .ok (.iload 4, 2) := by decide +kernel
theorem dX2_opensAwake_9 : decode cX2_opensAwake 9 = .ok (.aload_n 0, 1) := by decide +kernel
theorem dX2_opensAwake_10 : decode cX2_opensAwake 10 = .ok (.getfield 24, 3) := by decide +kernel
theorem dX2_opensAwake_13 : decode cX2_opensAwake 13 = .ok (.if_icmp .ge 46, 3) := by decide +kernel
theorem dX2_opensAwake_16 : decode cX2_opensAwake 16 = .ok (.iload_n 1, 1) := by decide +kernel
theorem dX2_opensAwake_17 : decode cX2_opensAwake 17 = .ok (.iload 4, 2) := by decide +kernel
theorem dX2_opensAwake_19 : decode cX2_opensAwake 19 = .ok (.ishr, 1) := by decide +kernel
theorem dX2_opensAwake_20 : decode cX2_opensAwake 20 = .ok (.iconst 1, 1) := by decide +kernel
theorem dX2_opensAwake_21 : decode cX2_opensAwake 21 = .ok (.iand, 1) := by decide +kernel
theorem dX2_opensAwake_22 : decode cX2_opensAwake 22 = .ok (.ifCond .eq 31, 3) := by decide +kernel
theorem dX2_opensAwake_25 : decode cX2_opensAwake 25 = .ok (.iload_n 2, 1) := by decide +kernel
theorem dX2_opensAwake_26 : decode cX2_opensAwake 26 = .ok (.aload_n 0, 1) := by decide +kernel
theorem dX2_opensAwake_27 : decode cX2_opensAwake 27 = .ok (.getfield 15, 3) := by decide +kernel
theorem dX2_opensAwake_30 : decode cX2_opensAwake 30 = .ok (.iload 4, 2) := by decide +kernel
theorem dX2_opensAwake_32 : decode cX2_opensAwake 32 = .ok (.iaload, 1) := by decide +kernel
theorem dX2_opensAwake_33 : decode cX2_opensAwake 33 = .ok (.aload_n 0, 1) := by decide +kernel
theorem dX2_opensAwake_34 : decode cX2_opensAwake 34 = .ok (.getfield 9, 3) := by decide +kernel
theorem dX2_opensAwake_37 : decode cX2_opensAwake 37 = .ok (.iload 4, 2) := by decide +kernel
theorem dX2_opensAwake_39 : decode cX2_opensAwake 39 = .ok (.iaload, 1) := by decide +kernel
theorem dX2_opensAwake_40 : decode cX2_opensAwake 40 = .ok (.imul, 1) := by decide +kernel
theorem dX2_opensAwake_41 : decode cX2_opensAwake 41 = .ok (.iadd, 1) := by decide +kernel
theorem dX2_opensAwake_42 : decode cX2_opensAwake 42 = .ok (.istore_n 2, 1) := by decide +kernel
theorem dX2_opensAwake_43 : decode cX2_opensAwake 43 = .ok (.iload_n 3, 1) := by decide +kernel
theorem dX2_opensAwake_44 : decode cX2_opensAwake 44 = .ok (.aload_n 0, 1) := by decide +kernel
theorem dX2_opensAwake_45 : decode cX2_opensAwake 45 = .ok (.getfield 9, 3) := by decide +kernel
theorem dX2_opensAwake_48 : decode cX2_opensAwake 48 = .ok (.iload 4, 2) := by decide +kernel
theorem dX2_opensAwake_50 : decode cX2_opensAwake 50 = .ok (.iaload, 1) := by decide +kernel
theorem dX2_opensAwake_51 : decode cX2_opensAwake 51 = .ok (.iadd, 1) := by decide +kernel
theorem dX2_opensAwake_52 : decode cX2_opensAwake 52 = .ok (.istore_n 3, 1) := by decide +kernel
theorem dX2_opensAwake_53 : decode cX2_opensAwake 53 = .ok (.iinc 4 1, 3) := by decide +kernel
theorem dX2_opensAwake_56 : decode cX2_opensAwake 56 = .ok (.goto (-49), 3) := by decide +kernel
theorem dX2_opensAwake_59 : decode cX2_opensAwake 59 = .ok (.iload_n 2, 1) := by decide +kernel
theorem dX2_opensAwake_60 : decode cX2_opensAwake 60 = .ok (.ifCond .gt 7, 3) := by decide +kernel
theorem dX2_opensAwake_63 : decode cX2_opensAwake 63 = .ok (.iload_n 3, 1) := by decide +kernel
theorem dX2_opensAwake_64 : decode cX2_opensAwake 64 = .ok (.ifCond .ne 7, 3) := by decide +kernel
theorem dX2_opensAwake_67 : decode cX2_opensAwake 67 = .ok (.iconst 1, 1) := by decide +kernel
theorem dX2_opensAwake_68 : decode cX2_opensAwake 68 = .ok (.goto 4, 3) := by decide +kernel
theorem dX2_opensAwake_71 : decode cX2_opensAwake 71 = .ok (.iconst 0, 1) := by decide +kernel
theorem dX2_opensAwake_72 : decode cX2_opensAwake 72 = .ok (.ireturn, 1) := by decide +kernel
theorem dX2_opensBehind_0 : decode cX2_opensBehind 0 = .ok (.iconst 0, 1) := by decide +kernel
theorem dX2_opensBehind_1 : decode cX2_opensBehind 1 = .ok (.istore 4, 2) := by decide +kernel
theorem dX2_opensBehind_3 : decode cX2_opensBehind 3 = .ok (.iconst 0, 1) := by decide +kernel
theorem dX2_opensBehind_4 : decode cX2_opensBehind 4 = .ok (.istore 5, 2) := by decide +kernel
theorem dX2_opensBehind_6 : decode cX2_opensBehind 6 = .ok (.iconst 0, 1) := by decide +kernel
theorem dX2_opensBehind_7 : decode cX2_opensBehind 7 = .ok (.istore 6, 2) := by decide +kernel
theorem dX2_opensBehind_9 : decode cX2_opensBehind 9 = .ok (.iload 6, 2) := by decide +kernel
theorem dX2_opensBehind_11 : decode cX2_opensBehind 11 = .ok (.aload_n 0, 1) := by decide +kernel
theorem dX2_opensBehind_12 : decode cX2_opensBehind 12 = .ok (.getfield 24, 3) := by decide +kernel
theorem dX2_opensBehind_15 : decode cX2_opensBehind 15 = .ok (.if_icmp .ge 59, 3) := by decide +kernel
theorem dX2_opensBehind_18 : decode cX2_opensBehind 18 = .ok (.iload_n 1, 1) := by decide +kernel
theorem dX2_opensBehind_19 : decode cX2_opensBehind 19 = .ok (.iload 6, 2) := by decide +kernel
theorem dX2_opensBehind_21 : decode cX2_opensBehind 21 = .ok (.ishr, 1) := by decide +kernel
theorem dX2_opensBehind_22 : decode cX2_opensBehind 22 = .ok (.iconst 1, 1) := by decide +kernel
theorem dX2_opensBehind_23 : decode cX2_opensBehind 23 = .ok (.iand, 1) := by decide +kernel
theorem dX2_opensBehind_24 : decode cX2_opensBehind 24 = .ok (.ifCond .eq 13, 3) := by decide +kernel
theorem dX2_opensBehind_27 : decode cX2_opensBehind 27 = .ok (.aload_n 2, 1) := by decide +kernel
theorem dX2_opensBehind_28 : decode cX2_opensBehind 28 = .ok (.iload 6, 2) := by decide +kernel
theorem dX2_opensBehind_30 : decode cX2_opensBehind 30 = .ok (.iload_n 3, 1) := by decide +kernel
theorem dX2_opensBehind_31 : decode cX2_opensBehind 31 = .ok (.invokevirtual 27, 3) := by decide +kernel
theorem dX2_opensBehind_34 : decode cX2_opensBehind 34 = .ok (.goto 10, 3) := by decide +kernel
theorem dX2_opensBehind_37 : decode cX2_opensBehind 37 = .ok (.aload_n 0, 1) := by decide +kernel
theorem dX2_opensBehind_38 : decode cX2_opensBehind 38 = .ok (.getfield 9, 3) := by decide +kernel
theorem dX2_opensBehind_41 : decode cX2_opensBehind 41 = .ok (.iload 6, 2) := by decide +kernel
theorem dX2_opensBehind_43 : decode cX2_opensBehind 43 = .ok (.iaload, 1) := by decide +kernel
theorem dX2_opensBehind_44 : decode cX2_opensBehind 44 = .ok (.istore 7, 2) := by decide +kernel
theorem dX2_opensBehind_46 : decode cX2_opensBehind 46 = .ok (.iload 4, 2) := by decide +kernel
theorem dX2_opensBehind_48 : decode cX2_opensBehind 48 = .ok (.aload_n 0, 1) := by decide +kernel
theorem dX2_opensBehind_49 : decode cX2_opensBehind 49 = .ok (.getfield 15, 3) := by decide +kernel
theorem dX2_opensBehind_52 : decode cX2_opensBehind 52 = .ok (.iload 6, 2) := by decide +kernel
theorem dX2_opensBehind_54 : decode cX2_opensBehind 54 = .ok (.iaload, 1) := by decide +kernel
theorem dX2_opensBehind_55 : decode cX2_opensBehind 55 = .ok (.iload 7, 2) := by decide +kernel
theorem dX2_opensBehind_57 : decode cX2_opensBehind 57 = .ok (.imul, 1) := by decide +kernel
theorem dX2_opensBehind_58 : decode cX2_opensBehind 58 = .ok (.iadd, 1) := by decide +kernel
theorem dX2_opensBehind_59 : decode cX2_opensBehind 59 = .ok (.istore 4, 2) := by decide +kernel
theorem dX2_opensBehind_61 : decode cX2_opensBehind 61 = .ok (.iload 5, 2) := by decide +kernel
theorem dX2_opensBehind_63 : decode cX2_opensBehind 63 = .ok (.iload 7, 2) := by decide +kernel
theorem dX2_opensBehind_65 : decode cX2_opensBehind 65 = .ok (.iadd, 1) := by decide +kernel
theorem dX2_opensBehind_66 : decode cX2_opensBehind 66 = .ok (.istore 5, 2) := by decide +kernel
theorem dX2_opensBehind_68 : decode cX2_opensBehind 68 = .ok (.iinc 6 1, 3) := by decide +kernel
theorem dX2_opensBehind_71 : decode cX2_opensBehind 71 = .ok (.goto (-62), 3) := by decide +kernel
theorem dX2_opensBehind_74 : decode cX2_opensBehind 74 = .ok (.iload 4, 2) := by decide +kernel
theorem dX2_opensBehind_76 : decode cX2_opensBehind 76 = .ok (.ifCond .gt 8, 3) := by decide +kernel
theorem dX2_opensBehind_79 : decode cX2_opensBehind 79 = .ok (.iload 5, 2) := by decide +kernel
theorem dX2_opensBehind_81 : decode cX2_opensBehind 81 = .ok (.ifCond .ne 7, 3) := by decide +kernel
theorem dX2_opensBehind_84 : decode cX2_opensBehind 84 = .ok (.iconst 1, 1) := by decide +kernel
theorem dX2_opensBehind_85 : decode cX2_opensBehind 85 = .ok (.goto 4, 3) := by decide +kernel
theorem dX2_opensBehind_88 : decode cX2_opensBehind 88 = .ok (.iconst 0, 1) := by decide +kernel
theorem dX2_opensBehind_89 : decode cX2_opensBehind 89 = .ok (.ireturn, 1) := by decide +kernel
theorem dX4_init_0 : decode cX4_init 0 = .ok (.aload_n 0, 1) := by decide +kernel
theorem dX4_init_1 : decode cX4_init 1 = .ok (.invokespecial 3, 3) := by decide +kernel
theorem dX4_init_4 : decode cX4_init 4 = .ok (.aload_n 0, 1) := by decide +kernel
theorem dX4_init_5 : decode cX4_init 5 = .ok (.bipush 40, 2) := by decide +kernel
theorem dX4_init_7 : decode cX4_init 7 = .ok (.newarray .int, 2) := by decide +kernel
theorem dX4_init_9 : decode cX4_init 9 = .ok (.putfield 11, 3) := by decide +kernel
theorem dX4_init_12 : decode cX4_init 12 = .ok (.aload_n 0, 1) := by decide +kernel
theorem dX4_init_13 : decode cX4_init 13 = .ok (.iconst (-1), 1) := by decide +kernel
theorem dX4_init_14 : decode cX4_init 14 = .ok (.putfield 15, 3) := by decide +kernel
theorem dX4_init_17 : decode cX4_init 17 = .ok (.return_, 1) := by decide +kernel
theorem dX4_isMissing_0 : decode cX4_isMissing 0 = .ok (.aload_n 0, 1) := by decide +kernel
theorem dX4_isMissing_1 : decode cX4_isMissing 1 = .ok (.getfield 15, 3) := by decide +kernel
theorem dX4_isMissing_4 : decode cX4_isMissing 4 = .ok (.iconst (-1), 1) := by decide +kernel
theorem dX4_isMissing_5 : decode cX4_isMissing 5 = .ok (.if_icmp .ne 7, 3) := by decide +kernel
theorem dX4_isMissing_8 : decode cX4_isMissing 8 = .ok (.iconst 1, 1) := by decide +kernel
theorem dX4_isMissing_9 : decode cX4_isMissing 9 = .ok (.goto 4, 3) := by decide +kernel
theorem dX4_isMissing_12 : decode cX4_isMissing 12 = .ok (.iconst 0, 1) := by decide +kernel
theorem dX4_isMissing_13 : decode cX4_isMissing 13 = .ok (.ireturn, 1) := by decide +kernel
theorem dX4_begin_0 : decode cX4_begin 0 = .ok (.aload_n 0, 1) := by decide +kernel
theorem dX4_begin_1 : decode cX4_begin 1 = .ok (.iload_n 1, 1) := by decide +kernel
theorem dX4_begin_2 : decode cX4_begin 2 = .ok (.putfield 15, 3) := by decide +kernel
theorem dX4_begin_5 : decode cX4_begin 5 = .ok (.aload_n 0, 1) := by decide +kernel
theorem dX4_begin_6 : decode cX4_begin 6 = .ok (.iload_n 2, 1) := by decide +kernel
theorem dX4_begin_7 : decode cX4_begin 7 = .ok (.putfield 19, 3) := by decide +kernel
theorem dX4_begin_10 : decode cX4_begin 10 = .ok (.aload_n 0, 1) := by decide +kernel
theorem dX4_begin_11 : decode cX4_begin 11 = .ok (.getfield 11, 3) := by decide +kernel
theorem dX4_begin_14 : decode cX4_begin 14 = .ok (.iconst 0, 1) := by decide +kernel
theorem dX4_begin_15 : decode cX4_begin 15 = .ok (.invokestatic 22, 3) := by decide +kernel
theorem dX4_begin_18 : decode cX4_begin 18 = .ok (.return_, 1) := by decide +kernel
theorem dX4_end_0 : decode cX4_end 0 = .ok (.aload_n 0, 1) := by decide +kernel
theorem dX4_end_1 : decode cX4_end 1 = .ok (.iconst (-1), 1) := by decide +kernel
theorem dX4_end_2 : decode cX4_end 2 = .ok (.putfield 15, 3) := by decide +kernel
theorem dX4_end_5 : decode cX4_end 5 = .ok (.aload_n 0, 1) := by decide +kernel
theorem dX4_end_6 : decode cX4_end 6 = .ok (.getfield 19, 3) := by decide +kernel
theorem dX4_end_9 : decode cX4_end 9 = .ok (.ireturn, 1) := by decide +kernel
theorem dX4_findingOf_0 : decode cX4_findingOf 0 = .ok (.aload_n 0, 1) := by decide +kernel
theorem dX4_findingOf_1 : decode cX4_findingOf 1 = .ok (.invokevirtual 28, 3) := by decide +kernel
theorem dX4_findingOf_4 : decode cX4_findingOf 4 = .ok (.ifCond .eq 5, 3) := by decide +kernel
theorem dX4_findingOf_7 : decode cX4_findingOf 7 = .ok (.iconst 1, 1) := by decide +kernel
theorem dX4_findingOf_8 : decode cX4_findingOf 8 = .ok (.ireturn, 1) := by decide +kernel
theorem dX4_findingOf_9 : decode cX4_findingOf 9 = .ok (.iload_n 1, 1) := by decide +kernel
theorem dX4_findingOf_10 : decode cX4_findingOf 10 = .ok (.ifCond .lt 25, 3) := by decide +kernel
theorem dX4_findingOf_13 : decode cX4_findingOf 13 = .ok (.iload_n 2, 1) := by decide +kernel
theorem dX4_findingOf_14 : decode cX4_findingOf 14 = .ok (.ifCond .lt 21, 3) := by decide +kernel
theorem dX4_findingOf_17 : decode cX4_findingOf 17 = .ok (.iload_n 2, 1) := by decide +kernel
theorem dX4_findingOf_18 : decode cX4_findingOf 18 = .ok (.aload_n 0, 1) := by decide +kernel
theorem dX4_findingOf_19 : decode cX4_findingOf 19 = .ok (.getfield 19, 3) := by decide +kernel
theorem dX4_findingOf_22 : decode cX4_findingOf 22 = .ok (.if_icmp .gt 13, 3) := by decide +kernel
theorem dX4_findingOf_25 : decode cX4_findingOf 25 = .ok (.iload_n 1, 1) := by decide +kernel
theorem dX4_findingOf_26 : decode cX4_findingOf 26 = .ok (.aload_n 0, 1) := by decide +kernel
theorem dX4_findingOf_27 : decode cX4_findingOf 27 = .ok (.getfield 19, 3) := by decide +kernel
theorem dX4_findingOf_30 : decode cX4_findingOf 30 = .ok (.iload_n 2, 1) := by decide +kernel
theorem dX4_findingOf_31 : decode cX4_findingOf 31 = .ok (.isub, 1) := by decide +kernel
theorem dX4_findingOf_32 : decode cX4_findingOf 32 = .ok (.if_icmp .le 7, 3) := by decide +kernel
theorem dX4_findingOf_35 : decode cX4_findingOf 35 = .ok (.iconst 2, 1) := by decide +kernel
theorem dX4_findingOf_36 : decode cX4_findingOf 36 = .ok (.goto 4, 3) := by decide +kernel
theorem dX4_findingOf_39 : decode cX4_findingOf 39 = .ok (.iconst 0, 1) := by decide +kernel
theorem dX4_findingOf_40 : decode cX4_findingOf 40 = .ok (.ireturn, 1) := by decide +kernel
theorem dX4_put_0 : decode cX4_put 0 = .ok (.aload_n 0, 1) := by decide +kernel
theorem dX4_put_1 : decode cX4_put 1 = .ok (.getfield 11, 3) := by decide +kernel
theorem dX4_put_4 : decode cX4_put 4 = .ok (.iload_n 1, 1) := by decide +kernel
theorem dX4_put_5 : decode cX4_put 5 = .ok (.aload_n 0, 1) := by decide +kernel
theorem dX4_put_6 : decode cX4_put 6 = .ok (.getfield 15, 3) := by decide +kernel
theorem dX4_put_9 : decode cX4_put 9 = .ok (.ifCond .ne 8, 3) := by decide +kernel
theorem dX4_put_12 : decode cX4_put 12 = .ok (.iload_n 2, 1) := by decide +kernel
theorem dX4_put_13 : decode cX4_put 13 = .ok (.i2b, 1) := by decide +kernel
theorem dX4_put_14 : decode cX4_put 14 = .ok (.goto 17, 3) := by decide +kernel
theorem dX4_put_17 : decode cX4_put 17 = .ok (.aload_n 0, 1) := by decide +kernel
theorem dX4_put_18 : decode cX4_put 18 = .ok (.getfield 15, 3) := by decide +kernel
theorem dX4_put_21 : decode cX4_put 21 = .ok (.iconst 1, 1) := by decide +kernel
theorem dX4_put_22 : decode cX4_put 22 = .ok (.if_icmp .ne 8, 3) := by decide +kernel
theorem dX4_put_25 : decode cX4_put 25 = .ok (.iload_n 2, 1) := by decide +kernel
theorem dX4_put_26 : decode cX4_put 26 = .ok (.i2s, 1) := by decide +kernel
theorem dX4_put_27 : decode cX4_put 27 = .ok (.goto 4, 3) := by decide +kernel
theorem dX4_put_30 : decode cX4_put 30 = .ok (.iload_n 2, 1) := by decide +kernel
theorem dX4_put_31 : decode cX4_put 31 = .ok (.iastore, 1) := by decide +kernel
theorem dX4_put_32 : decode cX4_put 32 = .ok (.aload_n 0, 1) := by decide +kernel
theorem dX4_put_33 : decode cX4_put 33 = .ok (.getfield 11, 3) := by decide +kernel
theorem dX4_put_36 : decode cX4_put 36 = .ok (.iload_n 1, 1) := by decide +kernel
theorem dX4_put_37 : decode cX4_put 37 = .ok (.iaload, 1) := by decide +kernel
theorem dX4_put_38 : decode cX4_put 38 = .ok (.ireturn, 1) := by decide +kernel
theorem dX5_init_0 : decode cX5_init 0 = .ok (.aload_n 0, 1) := by decide +kernel
theorem dX5_init_1 : decode cX5_init 1 = .ok (.invokespecial 3, 3) := by decide +kernel
theorem dX5_init_4 : decode cX5_init 4 = .ok (.aload_n 0, 1) := by decide +kernel
theorem dX5_init_5 : decode cX5_init 5 = .ok (.bipush 6, 2) := by decide +kernel
theorem dX5_init_7 : decode cX5_init 7 = .ok (.newarray .int, 2) := by decide +kernel
theorem dX5_init_9 : decode cX5_init 9 = .ok (.putfield 9, 3) := by decide +kernel
theorem dX5_init_12 : decode cX5_init 12 = .ok (.aload_n 0, 1) := by decide +kernel
theorem dX5_init_13 : decode cX5_init 13 = .ok (.bipush 18, 2) := by decide +kernel
theorem dX5_init_15 : decode cX5_init 15 = .ok (.newarray .int, 2) := by decide +kernel
theorem dX5_init_17 : decode cX5_init 17 = .ok (.putfield 15, 3) := by decide +kernel
theorem dX5_init_20 : decode cX5_init 20 = .ok (.aload_n 0, 1) := by decide +kernel
theorem dX5_init_21 : decode cX5_init 21 = .ok (.bipush 18, 2) := by decide +kernel
theorem dX5_init_23 : decode cX5_init 23 = .ok (.newarray .int, 2) := by decide +kernel
theorem dX5_init_25 : decode cX5_init 25 = .ok (.putfield 18, 3) := by decide +kernel
theorem dX5_init_28 : decode cX5_init 28 = .ok (.return_, 1) := by decide +kernel
theorem dX5_gather_0 : decode cX5_gather 0 = .ok (.aload_n 0, 1) := by decide +kernel
theorem dX5_gather_1 : decode cX5_gather 1 = .ok (.iconst 0, 1) := by decide +kernel
theorem dX5_gather_2 : decode cX5_gather 2 = .ok (.putfield 21, 3) := by decide +kernel
theorem dX5_gather_5 : decode cX5_gather 5 = .ok (.iconst 0, 1) := by decide +kernel
theorem dX5_gather_6 : decode cX5_gather 6 = .ok (.istore 4, 2) := by decide +kernel
theorem dX5_gather_8 : decode cX5_gather 8 = .ok (.iload 4, 2) := by decide +kernel
theorem dX5_gather_10 : decode cX5_gather 10 = .ok (.aload_n 1, 1) := by decide +kernel
theorem dX5_gather_11 : decode cX5_gather 11 = .ok (.getfield 25, 3) := by decide +kernel
theorem dX5_gather_14 : decode cX5_gather 14 = .ok (.if_icmp .ge 62, 3) := by decide +kernel
theorem dX5_gather_17 : decode cX5_gather 17 = .ok (.iload 4, 2) := by decide +kernel
theorem dX5_gather_19 : decode cX5_gather 19 = .ok (.iload_n 3, 1) := by decide +kernel
theorem dX5_gather_20 : decode cX5_gather 20 = .ok (.if_icmp .eq 50, 3) := by decide +kernel
theorem dX5_gather_23 : decode cX5_gather 23 = .ok (.aload_n 2, 1) := by decide +kernel
theorem dX5_gather_24 : decode cX5_gather 24 = .ok (.getfield 30, 3) := by decide +kernel
theorem dX5_gather_27 : decode cX5_gather 27 = .ok (.iload 4, 2) := by decide +kernel
theorem dX5_gather_29 : decode cX5_gather 29 = .ok (.iaload, 1) := by decide +kernel
theorem dX5_gather_30 : decode cX5_gather 30 = .ok (.ifCond .le 40, 3) := by decide +kernel
theorem dX5_gather_33 : decode cX5_gather 33 = .ok (.aload_n 2, 1) := by decide +kernel
theorem dX5_gather_34 : decode cX5_gather 34 = .ok (.getfield 35, 3) := by decide +kernel
theorem dX5_gather_37 : decode cX5_gather 37 = .ok (.iload 4, 2) := by decide +kernel
theorem dX5_gather_39 : decode cX5_gather 39 = .ok (.iaload, 1) := by decide +kernel
theorem dX5_gather_40 : decode cX5_gather 40 = .ok (.ifCond .gt 30, 3) := by decide +kernel
theorem dX5_gather_43 : decode cX5_gather 43 = .ok (.aload_n 0, 1) := by decide +kernel
theorem dX5_gather_44 : decode cX5_gather 44 = .ok (.iload 4, 2) := by decide +kernel
theorem dX5_gather_46 : decode cX5_gather 46 = .ok (.aload_n 1, 1) := by decide +kernel
theorem dX5_gather_47 : decode cX5_gather 47 = .ok (.iload 4, 2) := by decide +kernel
theorem dX5_gather_49 : decode cX5_gather 49 = .ok (.iload_n 3, 1) := by decide +kernel
theorem dX5_gather_50 : decode cX5_gather 50 = .ok (.invokevirtual 38, 3) := by decide +kernel
theorem dX5_gather_53 : decode cX5_gather 53 = .ok (.aload_n 2, 1) := by decide +kernel
theorem dX5_gather_54 : decode cX5_gather 54 = .ok (.getfield 35, 3) := by decide +kernel
theorem dX5_gather_57 : decode cX5_gather 57 = .ok (.iload 4, 2) := by decide +kernel
theorem dX5_gather_59 : decode cX5_gather 59 = .ok (.iaload, 1) := by decide +kernel
theorem dX5_gather_60 : decode cX5_gather 60 = .ok (.aload_n 2, 1) := by decide +kernel
theorem dX5_gather_61 : decode cX5_gather 61 = .ok (.getfield 30, 3) := by decide +kernel
theorem dX5_gather_64 : decode cX5_gather 64 = .ok (.iload 4, 2) := by decide +kernel
theorem dX5_gather_66 : decode cX5_gather 66 = .ok (.iaload, 1) := by decide +kernel
theorem dX5_gather_67 : decode cX5_gather 67 = .ok (.invokevirtual 42, 3) := by decide +kernel
theorem dX5_gather_70 : decode cX5_gather 70 = .ok (.iinc 4 1, 3) := by decide +kernel
theorem dX5_gather_73 : decode cX5_gather 73 = .ok (.goto (-65), 3) := by decide +kernel
theorem dX5_gather_76 : decode cX5_gather 76 = .ok (.return_, 1) := by decide +kernel
theorem dX5_offer_0 : decode cX5_offer 0 = .ok (.aload_n 0, 1) := by decide +kernel
theorem dX5_offer_1 : decode cX5_offer 1 = .ok (.getfield 21, 3) := by decide +kernel
theorem dX5_offer_4 : decode cX5_offer 4 = .ok (.iconst 3, 1) := by decide +kernel
theorem dX5_offer_5 : decode cX5_offer 5 = .ok (.imul, 1) := by decide +kernel
theorem dX5_offer_6 : decode cX5_offer 6 = .ok (.istore 5, 2) := by decide +kernel
theorem dX5_offer_8 : decode cX5_offer 8 = .ok (.aload_n 0, 1) := by decide +kernel
theorem dX5_offer_9 : decode cX5_offer 9 = .ok (.getfield 9, 3) := by decide +kernel
theorem dX5_offer_12 : decode cX5_offer 12 = .ok (.aload_n 0, 1) := by decide +kernel
theorem dX5_offer_13 : decode cX5_offer 13 = .ok (.getfield 21, 3) := by decide +kernel
theorem dX5_offer_16 : decode cX5_offer 16 = .ok (.iload_n 1, 1) := by decide +kernel
theorem dX5_offer_17 : decode cX5_offer 17 = .ok (.iastore, 1) := by decide +kernel
theorem dX5_offer_18 : decode cX5_offer 18 = .ok (.aload_n 0, 1) := by decide +kernel
theorem dX5_offer_19 : decode cX5_offer 19 = .ok (.getfield 15, 3) := by decide +kernel
theorem dX5_offer_22 : decode cX5_offer 22 = .ok (.iload 5, 2) := by decide +kernel
theorem dX5_offer_24 : decode cX5_offer 24 = .ok (.iconst 0, 1) := by decide +kernel
theorem dX5_offer_25 : decode cX5_offer 25 = .ok (.iastore, 1) := by decide +kernel
theorem dX5_offer_26 : decode cX5_offer 26 = .ok (.aload_n 0, 1) := by decide +kernel
theorem dX5_offer_27 : decode cX5_offer 27 = .ok (.getfield 18, 3) := by decide +kernel
theorem dX5_offer_30 : decode cX5_offer 30 = .ok (.iload 5, 2) := by decide +kernel
theorem dX5_offer_32 : decode cX5_offer 32 = .ok (.iconst 0, 1) := by decide +kernel
theorem dX5_offer_33 : decode cX5_offer 33 = .ok (.iastore, 1) := by decide +kernel
theorem dX5_offer_34 : decode cX5_offer 34 = .ok (.aload_n 0, 1) := by decide +kernel
theorem dX5_offer_35 : decode cX5_offer 35 = .ok (.getfield 15, 3) := by decide +kernel
theorem dX5_offer_38 : decode cX5_offer 38 = .ok (.iload 5, 2) := by decide +kernel
theorem dX5_offer_40 : decode cX5_offer 40 = .ok (.iconst 1, 1) := by decide +kernel
theorem dX5_offer_41 : decode cX5_offer 41 = .ok (.iadd, 1) := by decide +kernel
theorem dX5_offer_42 : decode cX5_offer 42 = .ok (.iload_n 3, 1) := by decide +kernel
theorem dX5_offer_43 : decode cX5_offer 43 = .ok (.ifCond .ge 8, 3) := by decide +kernel
theorem dX5_offer_46 : decode cX5_offer 46 = .ok (.iload_n 2, 1) := by decide +kernel
theorem dX5_offer_47 : decode cX5_offer 47 = .ok (.ineg, 1) := by decide +kernel
theorem dX5_offer_48 : decode cX5_offer 48 = .ok (.goto 5, 3) := by decide +kernel
theorem dX5_offer_51 : decode cX5_offer 51 = .ok (.bipush 21, 2) := by decide +kernel
theorem dX5_offer_53 : decode cX5_offer 53 = .ok (.iastore, 1) := by decide +kernel
theorem dX5_offer_54 : decode cX5_offer 54 = .ok (.aload_n 0, 1) := by decide +kernel
theorem dX5_offer_55 : decode cX5_offer 55 = .ok (.getfield 18, 3) := by decide +kernel
theorem dX5_offer_58 : decode cX5_offer 58 = .ok (.iload 5, 2) := by decide +kernel
theorem dX5_offer_60 : decode cX5_offer 60 = .ok (.iconst 1, 1) := by decide +kernel
theorem dX5_offer_61 : decode cX5_offer 61 = .ok (.iadd, 1) := by decide +kernel
theorem dX5_offer_62 : decode cX5_offer 62 = .ok (.iload 4, 2) := by decide +kernel
theorem dX5_offer_64 : decode cX5_offer 64 = .ok (.iastore, 1) := by decide +kernel
theorem dX5_offer_65 : decode cX5_offer 65 = .ok (.aload_n 0, 1) := by decide +kernel
theorem dX5_offer_66 : decode cX5_offer 66 = .ok (.getfield 15, 3) := by decide +kernel
theorem dX5_offer_69 : decode cX5_offer 69 = .ok (.iload 5, 2) := by decide +kernel
theorem dX5_offer_71 : decode cX5_offer 71 = .ok (.iconst 2, 1) := by decide +kernel
theorem dX5_offer_72 : decode cX5_offer 72 = .ok (.iadd, 1) := by decide +kernel
theorem dX5_offer_73 : decode cX5_offer 73 = .ok (.iconst 1, 1) := by decide +kernel
theorem dX5_offer_74 : decode cX5_offer 74 = .ok (.iload_n 2, 1) := by decide +kernel
theorem dX5_offer_75 : decode cX5_offer 75 = .ok (.isub, 1) := by decide +kernel
theorem dX5_offer_76 : decode cX5_offer 76 = .ok (.iastore, 1) := by decide +kernel
theorem dX5_offer_77 : decode cX5_offer 77 = .ok (.aload_n 0, 1) := by decide +kernel
theorem dX5_offer_78 : decode cX5_offer 78 = .ok (.getfield 18, 3) := by decide +kernel
theorem dX5_offer_81 : decode cX5_offer 81 = .ok (.iload 5, 2) := by decide +kernel
theorem dX5_offer_83 : decode cX5_offer 83 = .ok (.iconst 2, 1) := by decide +kernel
theorem dX5_offer_84 : decode cX5_offer 84 = .ok (.iadd, 1) := by decide +kernel
theorem dX5_offer_85 : decode cX5_offer 85 = .ok (.iload_n 3, 1) := by decide +kernel
theorem dX5_offer_86 : decode cX5_offer 86 = .ok (.ifCond .ge 10, 3) := by decide +kernel
theorem dX5_offer_89 : decode cX5_offer 89 = .ok (.iconst 2, 1) := by decide +kernel
theorem dX5_offer_90 : decode cX5_offer 90 = .ok (.iload 4, 2) := by decide +kernel
theorem dX5_offer_92 : decode cX5_offer 92 = .ok (.imul, 1) := by decide +kernel
theorem dX5_offer_93 : decode cX5_offer 93 = .ok (.goto 5, 3) := by decide +kernel
theorem dX5_offer_96 : decode cX5_offer 96 = .ok (.iload 4, 2) := by decide +kernel
theorem dX5_offer_98 : decode cX5_offer 98 = .ok (.iastore, 1) := by decide +kernel
theorem dX5_offer_99 : decode cX5_offer 99 = .ok (.aload_n 0, 1) := by decide +kernel
theorem dX5_offer_100 : decode cX5_offer 100 = .ok (.dup, 1) := by decide +kernel
theorem dX5_offer_101 : decode cX5_offer 101 = .ok (.getfield 21, 3) := by decide +kernel
theorem dX5_offer_104 : decode cX5_offer 104 = .ok (.iconst 1, 1) := by decide +kernel
theorem dX5_offer_105 : decode cX5_offer 105 = .ok (.iadd, 1) := by decide +kernel
theorem dX5_offer_106 : decode cX5_offer 106 = .ok (.putfield 21, 3) := by decide +kernel
theorem dX5_offer_109 : decode cX5_offer 109 = .ok (.return_, 1) := by decide +kernel
theorem dX5_seek_0 : decode cX5_seek 0 = .ok (.aload_n 0, 1) := by decide +kernel
theorem dX5_seek_1 : decode cX5_seek 1 = .ok (.aload_n 1, 1) := by decide +kernel
theorem dX5_seek_2 : decode cX5_seek 2 = .ok (.invokevirtual 46, 3) := by decide +kernel
theorem dX5_seek_5 : decode cX5_seek 5 = .ok (.ifCond .eq 7, 3) := by decide +kernel
theorem dX5_seek_8 : decode cX5_seek 8 = .ok (.iconst 0, 1) := by decide +kernel
theorem dX5_seek_9 : decode cX5_seek 9 = .ok (.goto 5, 3) := by decide +kernel
theorem dX5_seek_12 : decode cX5_seek 12 = .ok (.ldc 50, 2) := by decide +kernel
theorem dX5_seek_14 : decode cX5_seek 14 = .ok (.putfield 51, 3) := by decide +kernel
theorem dX5_seek_17 : decode cX5_seek 17 = .ok (.aload_n 0, 1) := by decide +kernel
theorem dX5_seek_18 : decode cX5_seek 18 = .ok (.aload_n 0, 1) := by decide +kernel
theorem dX5_seek_19 : decode cX5_seek 19 = .ok (.getfield 51, 3) := by decide +kernel
theorem dX5_seek_22 : decode cX5_seek 22 = .ok (.putfield 54, 3) := by decide +kernel
theorem dX5_seek_25 : decode cX5_seek 25 = .ok (.iconst 1, 1) := by decide +kernel
theorem dX5_seek_26 : decode cX5_seek 26 = .ok (.aload_n 1, 1) := by decide +kernel
theorem dX5_seek_27 : decode cX5_seek 27 = .ok (.invokevirtual 55, 3) := by decide +kernel
theorem dX5_seek_30 : decode cX5_seek 30 = .ok (.isub, 1) := by decide +kernel
theorem dX5_seek_31 : decode cX5_seek 31 = .ok (.istore_n 2, 1) := by decide +kernel
theorem dX5_seek_32 : decode cX5_seek 32 = .ok (.iconst 1, 1) := by decide +kernel
theorem dX5_seek_33 : decode cX5_seek 33 = .ok (.istore_n 3, 1) := by decide +kernel
theorem dX5_seek_34 : decode cX5_seek 34 = .ok (.iconst 0, 1) := by decide +kernel
theorem dX5_seek_35 : decode cX5_seek 35 = .ok (.istore 4, 2) := by decide +kernel
theorem dX5_seek_37 : decode cX5_seek 37 = .ok (.iload 4, 2) := by decide +kernel
theorem dX5_seek_39 : decode cX5_seek 39 = .ok (.aload_n 0, 1) := by decide +kernel
theorem dX5_seek_40 : decode cX5_seek 40 = .ok (.getfield 21, 3) := by decide +kernel
theorem dX5_seek_43 : decode cX5_seek 43 = .ok (.if_icmp .ge 13, 3) := by decide +kernel
theorem dX5_seek_46 : decode cX5_seek 46 = .ok (.iload_n 3, 1) := by decide +kernel
theorem dX5_seek_47 : decode cX5_seek 47 = .ok (.iconst 3, 1) := by decide +kernel
theorem dX5_seek_48 : decode cX5_seek 48 = .ok (.imul, 1) := by decide +kernel
theorem dX5_seek_49 : decode cX5_seek 49 = .ok (.istore_n 3, 1) := by decide +kernel
theorem dX5_seek_50 : decode cX5_seek 50 = .ok (.iinc 4 1, 3) := by decide +kernel
theorem dX5_seek_53 : decode cX5_seek 53 = .ok (.goto (-16), 3) := by decide +kernel
theorem dX5_seek_56 : decode cX5_seek 56 = .ok (.iconst 1, 1) := by decide +kernel
theorem dX5_seek_57 : decode cX5_seek 57 = .ok (.istore 4, 2) := by decide +kernel
theorem dX5_seek_59 : decode cX5_seek 59 = .ok (.iload 4, 2) := by decide +kernel
theorem dX5_seek_61 : decode cX5_seek 61 = .ok (.iload_n 3, 1) := by decide +kernel
theorem dX5_seek_62 : decode cX5_seek 62 = .ok (.if_icmp .ge 23, 3) := by decide +kernel
theorem dX5_seek_65 : decode cX5_seek 65 = .ok (.aload_n 0, 1) := by decide +kernel
theorem dX5_seek_66 : decode cX5_seek 66 = .ok (.getfield 51, 3) := by decide +kernel
theorem dX5_seek_69 : decode cX5_seek 69 = .ok (.ifCond .eq 16, 3) := by decide +kernel
theorem dX5_seek_72 : decode cX5_seek 72 = .ok (.aload_n 0, 1) := by decide +kernel
theorem dX5_seek_73 : decode cX5_seek 73 = .ok (.iload 4, 2) := by decide +kernel
theorem dX5_seek_75 : decode cX5_seek 75 = .ok (.iload_n 2, 1) := by decide +kernel
theorem dX5_seek_76 : decode cX5_seek 76 = .ok (.invokevirtual 59, 3) := by decide +kernel
theorem dX5_seek_79 : decode cX5_seek 79 = .ok (.iinc 4 1, 3) := by decide +kernel
theorem dX5_seek_82 : decode cX5_seek 82 = .ok (.goto (-23), 3) := by decide +kernel
theorem dX5_seek_85 : decode cX5_seek 85 = .ok (.return_, 1) := by decide +kernel
theorem dX5_weigh_0 : decode cX5_weigh 0 = .ok (.iload_n 1, 1) := by decide +kernel
theorem dX5_weigh_1 : decode cX5_weigh 1 = .ok (.istore_n 3, 1) := by decide +kernel
theorem dX5_weigh_2 : decode cX5_weigh 2 = .ok (.iconst 0, 1) := by decide +kernel
theorem dX5_weigh_3 : decode cX5_weigh 3 = .ok (.istore 4, 2) := by decide +kernel
theorem dX5_weigh_5 : decode cX5_weigh 5 = .ok (.iconst 0, 1) := by decide +kernel
theorem dX5_weigh_6 : decode cX5_weigh 6 = .ok (.istore 5, 2) := by decide +kernel
theorem dX5_weigh_8 : decode cX5_weigh 8 = .ok (.iconst 0, 1) := by decide +kernel
theorem dX5_weigh_9 : decode cX5_weigh 9 = .ok (.istore 6, 2) := by decide +kernel
theorem dX5_weigh_11 : decode cX5_weigh 11 = .ok (.iconst 0, 1) := by decide +kernel
theorem dX5_weigh_12 : decode cX5_weigh 12 = .ok (.istore 7, 2) := by decide +kernel
theorem dX5_weigh_14 : decode cX5_weigh 14 = .ok (.iload 7, 2) := by decide +kernel
theorem dX5_weigh_16 : decode cX5_weigh 16 = .ok (.aload_n 0, 1) := by decide +kernel
theorem dX5_weigh_17 : decode cX5_weigh 17 = .ok (.getfield 21, 3) := by decide +kernel
theorem dX5_weigh_20 : decode cX5_weigh 20 = .ok (.if_icmp .ge 88, 3) := by decide +kernel
theorem dX5_weigh_23 : decode cX5_weigh 23 = .ok (.iload 7, 2) := by decide +kernel
theorem dX5_weigh_25 : decode cX5_weigh 25 = .ok (.iconst 3, 1) := by decide +kernel
theorem dX5_weigh_26 : decode cX5_weigh 26 = .ok (.imul, 1) := by decide +kernel
theorem dX5_weigh_27 : decode cX5_weigh 27 = .ok (.iload_n 3, 1) := by decide +kernel
theorem dX5_weigh_28 : decode cX5_weigh 28 = .ok (.iconst 3, 1) := by decide +kernel
theorem dX5_weigh_29 : decode cX5_weigh 29 = .ok (.irem, 1) := by decide +kernel
theorem dX5_weigh_30 : decode cX5_weigh 30 = .ok (.iadd, 1) := by decide +kernel
theorem dX5_weigh_31 : decode cX5_weigh 31 = .ok (.istore 8, 2) := by decide +kernel
theorem dX5_weigh_33 : decode cX5_weigh 33 = .ok (.iload_n 3, 1) := by decide +kernel
theorem dX5_weigh_34 : decode cX5_weigh 34 = .ok (.iconst 3, 1) := by decide +kernel
theorem dX5_weigh_35 : decode cX5_weigh 35 = .ok (.idiv, 1) := by decide +kernel
theorem dX5_weigh_36 : decode cX5_weigh 36 = .ok (.istore_n 3, 1) := by decide +kernel
theorem dX5_weigh_37 : decode cX5_weigh 37 = .ok (.aload_n 0, 1) := by decide +kernel
theorem dX5_weigh_38 : decode cX5_weigh 38 = .ok (.getfield 15, 3) := by decide +kernel
theorem dX5_weigh_41 : decode cX5_weigh 41 = .ok (.iload 8, 2) := by decide +kernel
theorem dX5_weigh_43 : decode cX5_weigh 43 = .ok (.iaload, 1) := by decide +kernel
theorem dX5_weigh_44 : decode cX5_weigh 44 = .ok (.bipush 20, 2) := by decide +kernel
theorem dX5_weigh_46 : decode cX5_weigh 46 = .ok (.if_icmp .le 4, 3) := by decide +kernel
theorem dX5_weigh_49 : decode cX5_weigh 49 = .ok (.return_, 1) := by decide +kernel
theorem dX5_weigh_50 : decode cX5_weigh 50 = .ok (.iload 4, 2) := by decide +kernel
theorem dX5_weigh_52 : decode cX5_weigh 52 = .ok (.aload_n 0, 1) := by decide +kernel
theorem dX5_weigh_53 : decode cX5_weigh 53 = .ok (.getfield 15, 3) := by decide +kernel
theorem dX5_weigh_56 : decode cX5_weigh 56 = .ok (.iload 8, 2) := by decide +kernel
theorem dX5_weigh_58 : decode cX5_weigh 58 = .ok (.iaload, 1) := by decide +kernel
theorem dX5_weigh_59 : decode cX5_weigh 59 = .ok (.iadd, 1) := by decide +kernel
theorem dX5_weigh_60 : decode cX5_weigh 60 = .ok (.istore 4, 2) := by decide +kernel
theorem dX5_weigh_62 : decode cX5_weigh 62 = .ok (.iload 5, 2) := by decide +kernel
theorem dX5_weigh_64 : decode cX5_weigh 64 = .ok (.aload_n 0, 1) := by decide +kernel
theorem dX5_weigh_65 : decode cX5_weigh 65 = .ok (.getfield 18, 3) := by decide +kernel
theorem dX5_weigh_68 : decode cX5_weigh 68 = .ok (.iload 8, 2) := by decide +kernel
theorem dX5_weigh_70 : decode cX5_weigh 70 = .ok (.iaload, 1) := by decide +kernel
theorem dX5_weigh_71 : decode cX5_weigh 71 = .ok (.iadd, 1) := by decide +kernel
theorem dX5_weigh_72 : decode cX5_weigh 72 = .ok (.istore 5, 2) := by decide +kernel
theorem dX5_weigh_74 : decode cX5_weigh 74 = .ok (.iload 6, 2) := by decide +kernel
theorem dX5_weigh_76 : decode cX5_weigh 76 = .ok (.aload_n 0, 1) := by decide +kernel
theorem dX5_weigh_77 : decode cX5_weigh 77 = .ok (.getfield 15, 3) := by decide +kernel
theorem dX5_weigh_80 : decode cX5_weigh 80 = .ok (.iload 8, 2) := by decide +kernel
theorem dX5_weigh_82 : decode cX5_weigh 82 = .ok (.iaload, 1) := by decide +kernel
theorem dX5_weigh_83 : decode cX5_weigh 83 = .ok (.ifCond .le 15, 3) := by decide +kernel
theorem dX5_weigh_86 : decode cX5_weigh 86 = .ok (.iconst 1, 1) := by decide +kernel
theorem dX5_weigh_87 : decode cX5_weigh 87 = .ok (.aload_n 0, 1) := by decide +kernel
theorem dX5_weigh_88 : decode cX5_weigh 88 = .ok (.getfield 9, 3) := by decide +kernel
theorem dX5_weigh_91 : decode cX5_weigh 91 = .ok (.iload 7, 2) := by decide +kernel
theorem dX5_weigh_93 : decode cX5_weigh 93 = .ok (.iaload, 1) := by decide +kernel
theorem dX5_weigh_94 : decode cX5_weigh 94 = .ok (.ishl, 1) := by decide +kernel
theorem dX5_weigh_95 : decode cX5_weigh 95 = .ok (.goto 4, 3) := by decide +kernel
theorem dX5_weigh_98 : decode cX5_weigh 98 = .ok (.iconst 0, 1) := by decide +kernel
theorem dX5_weigh_99 : decode cX5_weigh 99 = .ok (.ior, 1) := by decide +kernel
theorem dX5_weigh_100 : decode cX5_weigh 100 = .ok (.istore 6, 2) := by decide +kernel
theorem dX5_weigh_102 : decode cX5_weigh 102 = .ok (.iinc 7 1, 3) := by decide +kernel
theorem dX5_weigh_105 : decode cX5_weigh 105 = .ok (.goto (-91), 3) := by decide +kernel
theorem dX5_weigh_108 : decode cX5_weigh 108 = .ok (.aload_n 0, 1) := by decide +kernel
theorem dX5_weigh_109 : decode cX5_weigh 109 = .ok (.getfield 51, 3) := by decide +kernel
theorem dX5_weigh_112 : decode cX5_weigh 112 = .ok (.ldc 50, 2) := by decide +kernel
theorem dX5_weigh_114 : decode cX5_weigh 114 = .ok (.if_icmp .eq 30, 3) := by decide +kernel
theorem dX5_weigh_117 : decode cX5_weigh 117 = .ok (.iload 4, 2) := by decide +kernel
theorem dX5_weigh_119 : decode cX5_weigh 119 = .ok (.aload_n 0, 1) := by decide +kernel
theorem dX5_weigh_120 : decode cX5_weigh 120 = .ok (.getfield 51, 3) := by decide +kernel
theorem dX5_weigh_123 : decode cX5_weigh 123 = .ok (.if_icmp .lt 21, 3) := by decide +kernel
theorem dX5_weigh_126 : decode cX5_weigh 126 = .ok (.iload 4, 2) := by decide +kernel
theorem dX5_weigh_128 : decode cX5_weigh 128 = .ok (.aload_n 0, 1) := by decide +kernel
theorem dX5_weigh_129 : decode cX5_weigh 129 = .ok (.getfield 51, 3) := by decide +kernel
theorem dX5_weigh_132 : decode cX5_weigh 132 = .ok (.if_icmp .ne 16, 3) := by decide +kernel
theorem dX5_weigh_135 : decode cX5_weigh 135 = .ok (.iload 6, 2) := by decide +kernel
theorem dX5_weigh_137 : decode cX5_weigh 137 = .ok (.aload_n 0, 1) := by decide +kernel
theorem dX5_weigh_138 : decode cX5_weigh 138 = .ok (.getfield 54, 3) := by decide +kernel
theorem dX5_weigh_141 : decode cX5_weigh 141 = .ok (.if_icmp .ge 7, 3) := by decide +kernel
theorem dX5_weigh_144 : decode cX5_weigh 144 = .ok (.iconst 1, 1) := by decide +kernel
theorem dX5_weigh_145 : decode cX5_weigh 145 = .ok (.goto 4, 3) := by decide +kernel
theorem dX5_weigh_148 : decode cX5_weigh 148 = .ok (.iconst 0, 1) := by decide +kernel
theorem dX5_weigh_149 : decode cX5_weigh 149 = .ok (.istore 7, 2) := by decide +kernel
theorem dX5_weigh_151 : decode cX5_weigh 151 = .ok (.iload 5, 2) := by decide +kernel
theorem dX5_weigh_153 : decode cX5_weigh 153 = .ok (.iload_n 2, 1) := by decide +kernel
theorem dX5_weigh_154 : decode cX5_weigh 154 = .ok (.if_icmp .lt 27, 3) := by decide +kernel
theorem dX5_weigh_157 : decode cX5_weigh 157 = .ok (.iload 4, 2) := by decide +kernel
theorem dX5_weigh_159 : decode cX5_weigh 159 = .ok (.bipush 40, 2) := by decide +kernel
theorem dX5_weigh_161 : decode cX5_weigh 161 = .ok (.if_icmp .gt 20, 3) := by decide +kernel
theorem dX5_weigh_164 : decode cX5_weigh 164 = .ok (.iload 7, 2) := by decide +kernel
theorem dX5_weigh_166 : decode cX5_weigh 166 = .ok (.ifCond .eq 15, 3) := by decide +kernel
theorem dX5_weigh_169 : decode cX5_weigh 169 = .ok (.aload_n 0, 1) := by decide +kernel
theorem dX5_weigh_170 : decode cX5_weigh 170 = .ok (.iload 4, 2) := by decide +kernel
theorem dX5_weigh_172 : decode cX5_weigh 172 = .ok (.putfield 51, 3) := by decide +kernel
theorem dX5_weigh_175 : decode cX5_weigh 175 = .ok (.aload_n 0, 1) := by decide +kernel
theorem dX5_weigh_176 : decode cX5_weigh 176 = .ok (.iload 6, 2) := by decide +kernel
theorem dX5_weigh_178 : decode cX5_weigh 178 = .ok (.putfield 54, 3) := by decide +kernel
theorem dX5_weigh_181 : decode cX5_weigh 181 = .ok (.return_, 1) := by decide +kernel
theorem dX6_init_0 : decode cX6_init 0 = .ok (.aload_n 0, 1) := by decide +kernel
theorem dX6_init_1 : decode cX6_init 1 = .ok (.invokespecial 3, 3) := by decide +kernel
theorem dX6_init_4 : decode cX6_init 4 = .ok (.aload_n 0, 1) := by decide +kernel
theorem dX6_init_5 : decode cX6_init 5 = .ok (.bipush 6, 2) := by decide +kernel
theorem dX6_init_7 : decode cX6_init 7 = .ok (.newarray .int, 2) := by decide +kernel
theorem dX6_init_9 : decode cX6_init 9 = .ok (.putfield 9, 3) := by decide +kernel
theorem dX6_init_12 : decode cX6_init 12 = .ok (.aload_n 0, 1) := by decide +kernel
theorem dX6_init_13 : decode cX6_init 13 = .ok (.bipush 6, 2) := by decide +kernel
theorem dX6_init_15 : decode cX6_init 15 = .ok (.newarray .int, 2) := by decide +kernel
theorem dX6_init_17 : decode cX6_init 17 = .ok (.putfield 15, 3) := by decide +kernel
theorem dX6_init_20 : decode cX6_init 20 = .ok (.aload_n 0, 1) := by decide +kernel
theorem dX6_init_21 : decode cX6_init 21 = .ok (.bipush 6, 2) := by decide +kernel
theorem dX6_init_23 : decode cX6_init 23 = .ok (.newarray .int, 2) := by decide +kernel
theorem dX6_init_25 : decode cX6_init 25 = .ok (.putfield 18, 3) := by decide +kernel
theorem dX6_init_28 : decode cX6_init 28 = .ok (.aload_n 0, 1) := by decide +kernel
theorem dX6_init_29 : decode cX6_init 29 = .ok (.bipush 6, 2) := by decide +kernel
theorem dX6_init_31 : decode cX6_init 31 = .ok (.newarray .int, 2) := by decide +kernel
theorem dX6_init_33 : decode cX6_init 33 = .ok (.putfield 21, 3) := by decide +kernel
theorem dX6_init_36 : decode cX6_init 36 = .ok (.aload_n 0, 1) := by decide +kernel
theorem dX6_init_37 : decode cX6_init 37 = .ok (.bipush 6, 2) := by decide +kernel
theorem dX6_init_39 : decode cX6_init 39 = .ok (.newarray .int, 2) := by decide +kernel
theorem dX6_init_41 : decode cX6_init 41 = .ok (.putfield 24, 3) := by decide +kernel
theorem dX6_init_44 : decode cX6_init 44 = .ok (.aload_n 0, 1) := by decide +kernel
theorem dX6_init_45 : decode cX6_init 45 = .ok (.bipush 6, 2) := by decide +kernel
theorem dX6_init_47 : decode cX6_init 47 = .ok (.newarray .int, 2) := by decide +kernel
theorem dX6_init_49 : decode cX6_init 49 = .ok (.putfield 27, 3) := by decide +kernel
theorem dX6_init_52 : decode cX6_init 52 = .ok (.aload_n 0, 1) := by decide +kernel
theorem dX6_init_53 : decode cX6_init 53 = .ok (.bipush 6, 2) := by decide +kernel
theorem dX6_init_55 : decode cX6_init 55 = .ok (.newarray .int, 2) := by decide +kernel
theorem dX6_init_57 : decode cX6_init 57 = .ok (.putfield 30, 3) := by decide +kernel
theorem dX6_init_60 : decode cX6_init 60 = .ok (.aload_n 0, 1) := by decide +kernel
theorem dX6_init_61 : decode cX6_init 61 = .ok (.bipush 6, 2) := by decide +kernel
theorem dX6_init_63 : decode cX6_init 63 = .ok (.newarray .int, 2) := by decide +kernel
theorem dX6_init_65 : decode cX6_init 65 = .ok (.putfield 33, 3) := by decide +kernel
theorem dX6_init_68 : decode cX6_init 68 = .ok (.aload_n 0, 1) := by decide +kernel
theorem dX6_init_69 : decode cX6_init 69 = .ok (.bipush 36, 2) := by decide +kernel
theorem dX6_init_71 : decode cX6_init 71 = .ok (.newarray .int, 2) := by decide +kernel
theorem dX6_init_73 : decode cX6_init 73 = .ok (.putfield 36, 3) := by decide +kernel
theorem dX6_init_76 : decode cX6_init 76 = .ok (.aload_n 0, 1) := by decide +kernel
theorem dX6_init_77 : decode cX6_init 77 = .ok (.bipush 36, 2) := by decide +kernel
theorem dX6_init_79 : decode cX6_init 79 = .ok (.newarray .int, 2) := by decide +kernel
theorem dX6_init_81 : decode cX6_init 81 = .ok (.putfield 39, 3) := by decide +kernel
theorem dX6_init_84 : decode cX6_init 84 = .ok (.return_, 1) := by decide +kernel
theorem dX6_cellOf_0 : decode cX6_cellOf 0 = .ok (.iload_n 0, 1) := by decide +kernel
theorem dX6_cellOf_1 : decode cX6_cellOf 1 = .ok (.bipush 6, 2) := by decide +kernel
theorem dX6_cellOf_3 : decode cX6_cellOf 3 = .ok (.imul, 1) := by decide +kernel
theorem dX6_cellOf_4 : decode cX6_cellOf 4 = .ok (.iload_n 1, 1) := by decide +kernel
theorem dX6_cellOf_5 : decode cX6_cellOf 5 = .ok (.iadd, 1) := by decide +kernel
theorem dX6_cellOf_6 : decode cX6_cellOf 6 = .ok (.ireturn, 1) := by decide +kernel
theorem dX6_become_0 : decode cX6_become 0 = .ok (.aload_n 0, 1) := by decide +kernel
theorem dX6_become_1 : decode cX6_become 1 = .ok (.aload_n 1, 1) := by decide +kernel
theorem dX6_become_2 : decode cX6_become 2 = .ok (.getfield 42, 3) := by decide +kernel
theorem dX6_become_5 : decode cX6_become 5 = .ok (.putfield 42, 3) := by decide +kernel
theorem dX6_become_8 : decode cX6_become 8 = .ok (.aload_n 0, 1) := by decide +kernel
theorem dX6_become_9 : decode cX6_become 9 = .ok (.aload_n 1, 1) := by decide +kernel
theorem dX6_become_10 : decode cX6_become 10 = .ok (.getfield 46, 3) := by decide +kernel
theorem dX6_become_13 : decode cX6_become 13 = .ok (.putfield 46, 3) := by decide +kernel
theorem dX6_become_16 : decode cX6_become 16 = .ok (.aload_n 0, 1) := by decide +kernel
theorem dX6_become_17 : decode cX6_become 17 = .ok (.aload_n 1, 1) := by decide +kernel
theorem dX6_become_18 : decode cX6_become 18 = .ok (.getfield 49, 3) := by decide +kernel
theorem dX6_become_21 : decode cX6_become 21 = .ok (.putfield 49, 3) := by decide +kernel
theorem dX6_become_24 : decode cX6_become 24 = .ok (.aload_n 0, 1) := by decide +kernel
theorem dX6_become_25 : decode cX6_become 25 = .ok (.aload_n 1, 1) := by decide +kernel
theorem dX6_become_26 : decode cX6_become 26 = .ok (.getfield 52, 3) := by decide +kernel
theorem dX6_become_29 : decode cX6_become 29 = .ok (.putfield 52, 3) := by decide +kernel
theorem dX6_become_32 : decode cX6_become 32 = .ok (.aload_n 0, 1) := by decide +kernel
theorem dX6_become_33 : decode cX6_become 33 = .ok (.aload_n 1, 1) := by decide +kernel
theorem dX6_become_34 : decode cX6_become 34 = .ok (.getfield 55, 3) := by decide +kernel
theorem dX6_become_37 : decode cX6_become 37 = .ok (.putfield 55, 3) := by decide +kernel
theorem dX6_become_40 : decode cX6_become 40 = .ok (.aload_n 0, 1) := by decide +kernel
theorem dX6_become_41 : decode cX6_become 41 = .ok (.aload_n 1, 1) := by decide +kernel
theorem dX6_become_42 : decode cX6_become 42 = .ok (.getfield 58, 3) := by decide +kernel
theorem dX6_become_45 : decode cX6_become 45 = .ok (.putfield 58, 3) := by decide +kernel
theorem dX6_become_48 : decode cX6_become 48 = .ok (.aload_n 1, 1) := by decide +kernel
theorem dX6_become_49 : decode cX6_become 49 = .ok (.getfield 9, 3) := by decide +kernel
theorem dX6_become_52 : decode cX6_become 52 = .ok (.iconst 0, 1) := by decide +kernel
theorem dX6_become_53 : decode cX6_become 53 = .ok (.aload_n 0, 1) := by decide +kernel
theorem dX6_become_54 : decode cX6_become 54 = .ok (.getfield 9, 3) := by decide +kernel
theorem dX6_become_57 : decode cX6_become 57 = .ok (.iconst 0, 1) := by decide +kernel
theorem dX6_become_58 : decode cX6_become 58 = .ok (.bipush 6, 2) := by decide +kernel
theorem dX6_become_60 : decode cX6_become 60 = .ok (.invokestatic 61, 3) := by decide +kernel
theorem dX6_become_63 : decode cX6_become 63 = .ok (.aload_n 1, 1) := by decide +kernel
theorem dX6_become_64 : decode cX6_become 64 = .ok (.getfield 15, 3) := by decide +kernel
theorem dX6_become_67 : decode cX6_become 67 = .ok (.iconst 0, 1) := by decide +kernel
theorem dX6_become_68 : decode cX6_become 68 = .ok (.aload_n 0, 1) := by decide +kernel
theorem dX6_become_69 : decode cX6_become 69 = .ok (.getfield 15, 3) := by decide +kernel
theorem dX6_become_72 : decode cX6_become 72 = .ok (.iconst 0, 1) := by decide +kernel
theorem dX6_become_73 : decode cX6_become 73 = .ok (.bipush 6, 2) := by decide +kernel
theorem dX6_become_75 : decode cX6_become 75 = .ok (.invokestatic 61, 3) := by decide +kernel
theorem dX6_become_78 : decode cX6_become 78 = .ok (.aload_n 1, 1) := by decide +kernel
theorem dX6_become_79 : decode cX6_become 79 = .ok (.getfield 18, 3) := by decide +kernel
theorem dX6_become_82 : decode cX6_become 82 = .ok (.iconst 0, 1) := by decide +kernel
theorem dX6_become_83 : decode cX6_become 83 = .ok (.aload_n 0, 1) := by decide +kernel
theorem dX6_become_84 : decode cX6_become 84 = .ok (.getfield 18, 3) := by decide +kernel
theorem dX6_become_87 : decode cX6_become 87 = .ok (.iconst 0, 1) := by decide +kernel
theorem dX6_become_88 : decode cX6_become 88 = .ok (.bipush 6, 2) := by decide +kernel
theorem dX6_become_90 : decode cX6_become 90 = .ok (.invokestatic 61, 3) := by decide +kernel
theorem dX6_become_93 : decode cX6_become 93 = .ok (.aload_n 1, 1) := by decide +kernel
theorem dX6_become_94 : decode cX6_become 94 = .ok (.getfield 21, 3) := by decide +kernel
theorem dX6_become_97 : decode cX6_become 97 = .ok (.iconst 0, 1) := by decide +kernel
theorem dX6_become_98 : decode cX6_become 98 = .ok (.aload_n 0, 1) := by decide +kernel
theorem dX6_become_99 : decode cX6_become 99 = .ok (.getfield 21, 3) := by decide +kernel
theorem dX6_become_102 : decode cX6_become 102 = .ok (.iconst 0, 1) := by decide +kernel
theorem dX6_become_103 : decode cX6_become 103 = .ok (.bipush 6, 2) := by decide +kernel
theorem dX6_become_105 : decode cX6_become 105 = .ok (.invokestatic 61, 3) := by decide +kernel
theorem dX6_become_108 : decode cX6_become 108 = .ok (.aload_n 1, 1) := by decide +kernel
theorem dX6_become_109 : decode cX6_become 109 = .ok (.getfield 24, 3) := by decide +kernel
theorem dX6_become_112 : decode cX6_become 112 = .ok (.iconst 0, 1) := by decide +kernel
theorem dX6_become_113 : decode cX6_become 113 = .ok (.aload_n 0, 1) := by decide +kernel
theorem dX6_become_114 : decode cX6_become 114 = .ok (.getfield 24, 3) := by decide +kernel
theorem dX6_become_117 : decode cX6_become 117 = .ok (.iconst 0, 1) := by decide +kernel
theorem dX6_become_118 : decode cX6_become 118 = .ok (.bipush 6, 2) := by decide +kernel
theorem dX6_become_120 : decode cX6_become 120 = .ok (.invokestatic 61, 3) := by decide +kernel
theorem dX6_become_123 : decode cX6_become 123 = .ok (.aload_n 1, 1) := by decide +kernel
theorem dX6_become_124 : decode cX6_become 124 = .ok (.getfield 27, 3) := by decide +kernel
theorem dX6_become_127 : decode cX6_become 127 = .ok (.iconst 0, 1) := by decide +kernel
theorem dX6_become_128 : decode cX6_become 128 = .ok (.aload_n 0, 1) := by decide +kernel
theorem dX6_become_129 : decode cX6_become 129 = .ok (.getfield 27, 3) := by decide +kernel
theorem dX6_become_132 : decode cX6_become 132 = .ok (.iconst 0, 1) := by decide +kernel
theorem dX6_become_133 : decode cX6_become 133 = .ok (.bipush 6, 2) := by decide +kernel
theorem dX6_become_135 : decode cX6_become 135 = .ok (.invokestatic 61, 3) := by decide +kernel
theorem dX6_become_138 : decode cX6_become 138 = .ok (.aload_n 1, 1) := by decide +kernel
theorem dX6_become_139 : decode cX6_become 139 = .ok (.getfield 30, 3) := by decide +kernel
theorem dX6_become_142 : decode cX6_become 142 = .ok (.iconst 0, 1) := by decide +kernel
theorem dX6_become_143 : decode cX6_become 143 = .ok (.aload_n 0, 1) := by decide +kernel
theorem dX6_become_144 : decode cX6_become 144 = .ok (.getfield 30, 3) := by decide +kernel
theorem dX6_become_147 : decode cX6_become 147 = .ok (.iconst 0, 1) := by decide +kernel
theorem dX6_become_148 : decode cX6_become 148 = .ok (.bipush 6, 2) := by decide +kernel
theorem dX6_become_150 : decode cX6_become 150 = .ok (.invokestatic 61, 3) := by decide +kernel
theorem dX6_become_153 : decode cX6_become 153 = .ok (.aload_n 1, 1) := by decide +kernel
theorem dX6_become_154 : decode cX6_become 154 = .ok (.getfield 33, 3) := by decide +kernel
theorem dX6_become_157 : decode cX6_become 157 = .ok (.iconst 0, 1) := by decide +kernel
theorem dX6_become_158 : decode cX6_become 158 = .ok (.aload_n 0, 1) := by decide +kernel
theorem dX6_become_159 : decode cX6_become 159 = .ok (.getfield 33, 3) := by decide +kernel
theorem dX6_become_162 : decode cX6_become 162 = .ok (.iconst 0, 1) := by decide +kernel
theorem dX6_become_163 : decode cX6_become 163 = .ok (.bipush 6, 2) := by decide +kernel
theorem dX6_become_165 : decode cX6_become 165 = .ok (.invokestatic 61, 3) := by decide +kernel
theorem dX6_become_168 : decode cX6_become 168 = .ok (.aload_n 1, 1) := by decide +kernel
theorem dX6_become_169 : decode cX6_become 169 = .ok (.getfield 36, 3) := by decide +kernel
theorem dX6_become_172 : decode cX6_become 172 = .ok (.iconst 0, 1) := by decide +kernel
theorem dX6_become_173 : decode cX6_become 173 = .ok (.aload_n 0, 1) := by decide +kernel
theorem dX6_become_174 : decode cX6_become 174 = .ok (.getfield 36, 3) := by decide +kernel
theorem dX6_become_177 : decode cX6_become 177 = .ok (.iconst 0, 1) := by decide +kernel
theorem dX6_become_178 : decode cX6_become 178 = .ok (.bipush 36, 2) := by decide +kernel
theorem dX6_become_180 : decode cX6_become 180 = .ok (.invokestatic 61, 3) := by decide +kernel
theorem dX6_become_183 : decode cX6_become 183 = .ok (.aload_n 1, 1) := by decide +kernel
theorem dX6_become_184 : decode cX6_become 184 = .ok (.getfield 39, 3) := by decide +kernel
theorem dX6_become_187 : decode cX6_become 187 = .ok (.iconst 0, 1) := by decide +kernel
theorem dX6_become_188 : decode cX6_become 188 = .ok (.aload_n 0, 1) := by decide +kernel
theorem dX6_become_189 : decode cX6_become 189 = .ok (.getfield 39, 3) := by decide +kernel
theorem dX6_become_192 : decode cX6_become 192 = .ok (.iconst 0, 1) := by decide +kernel
theorem dX6_become_193 : decode cX6_become 193 = .ok (.bipush 36, 2) := by decide +kernel
theorem dX6_become_195 : decode cX6_become 195 = .ok (.invokestatic 61, 3) := by decide +kernel
theorem dX6_become_198 : decode cX6_become 198 = .ok (.return_, 1) := by decide +kernel
theorem dX6_begin_0 : decode cX6_begin 0 = .ok (.aload_n 0, 1) := by decide +kernel
theorem dX6_begin_1 : decode cX6_begin 1 = .ok (.iload_n 1, 1) := by decide +kernel
theorem dX6_begin_2 : decode cX6_begin 2 = .ok (.putfield 42, 3) := by decide +kernel
theorem dX6_begin_5 : decode cX6_begin 5 = .ok (.aload_n 0, 1) := by decide +kernel
theorem dX6_begin_6 : decode cX6_begin 6 = .ok (.iload_n 2, 1) := by decide +kernel
theorem dX6_begin_7 : decode cX6_begin 7 = .ok (.putfield 46, 3) := by decide +kernel
theorem dX6_begin_10 : decode cX6_begin 10 = .ok (.aload_n 0, 1) := by decide +kernel
theorem dX6_begin_11 : decode cX6_begin 11 = .ok (.iconst 0, 1) := by decide +kernel
theorem dX6_begin_12 : decode cX6_begin 12 = .ok (.putfield 49, 3) := by decide +kernel
theorem dX6_begin_15 : decode cX6_begin 15 = .ok (.aload_n 0, 1) := by decide +kernel
theorem dX6_begin_16 : decode cX6_begin 16 = .ok (.iconst 0, 1) := by decide +kernel
theorem dX6_begin_17 : decode cX6_begin 17 = .ok (.putfield 52, 3) := by decide +kernel
theorem dX6_begin_20 : decode cX6_begin 20 = .ok (.aload_n 0, 1) := by decide +kernel
theorem dX6_begin_21 : decode cX6_begin 21 = .ok (.iconst 0, 1) := by decide +kernel
theorem dX6_begin_22 : decode cX6_begin 22 = .ok (.putfield 55, 3) := by decide +kernel
theorem dX6_begin_25 : decode cX6_begin 25 = .ok (.aload_n 0, 1) := by decide +kernel
theorem dX6_begin_26 : decode cX6_begin 26 = .ok (.iconst 0, 1) := by decide +kernel
theorem dX6_begin_27 : decode cX6_begin 27 = .ok (.putfield 58, 3) := by decide +kernel
theorem dX6_begin_30 : decode cX6_begin 30 = .ok (.return_, 1) := by decide +kernel
theorem dX6_addDoor_0 : decode cX6_addDoor 0 = .ok (.aload_n 0, 1) := by decide +kernel
theorem dX6_addDoor_1 : decode cX6_addDoor 1 = .ok (.getfield 9, 3) := by decide +kernel
theorem dX6_addDoor_4 : decode cX6_addDoor 4 = .ok (.aload_n 0, 1) := by decide +kernel
theorem dX6_addDoor_5 : decode cX6_addDoor 5 = .ok (.getfield 49, 3) := by decide +kernel
theorem dX6_addDoor_8 : decode cX6_addDoor 8 = .ok (.iload_n 1, 1) := by decide +kernel
theorem dX6_addDoor_9 : decode cX6_addDoor 9 = .ok (.iastore, 1) := by decide +kernel
theorem dX6_addDoor_10 : decode cX6_addDoor 10 = .ok (.aload_n 0, 1) := by decide +kernel
theorem dX6_addDoor_11 : decode cX6_addDoor 11 = .ok (.getfield 15, 3) := by decide +kernel
theorem dX6_addDoor_14 : decode cX6_addDoor 14 = .ok (.aload_n 0, 1) := by decide +kernel
theorem dX6_addDoor_15 : decode cX6_addDoor 15 = .ok (.getfield 49, 3) := by decide +kernel
theorem dX6_addDoor_18 : decode cX6_addDoor 18 = .ok (.iload_n 2, 1) := by decide +kernel
theorem dX6_addDoor_19 : decode cX6_addDoor 19 = .ok (.iastore, 1) := by decide +kernel
theorem dX6_addDoor_20 : decode cX6_addDoor 20 = .ok (.iconst 0, 1) := by decide +kernel
theorem dX6_addDoor_21 : decode cX6_addDoor 21 = .ok (.istore_n 3, 1) := by decide +kernel
theorem dX6_addDoor_22 : decode cX6_addDoor 22 = .ok (.iload_n 3, 1) := by decide +kernel
theorem dX6_addDoor_23 : decode cX6_addDoor 23 = .ok (.bipush 6, 2) := by decide +kernel
theorem dX6_addDoor_25 : decode cX6_addDoor 25 = .ok (.if_icmp .ge 38, 3) := by decide +kernel
theorem dX6_addDoor_28 : decode cX6_addDoor 28 = .ok (.aload_n 0, 1) := by decide +kernel
theorem dX6_addDoor_29 : decode cX6_addDoor 29 = .ok (.getfield 36, 3) := by decide +kernel
theorem dX6_addDoor_32 : decode cX6_addDoor 32 = .ok (.iload_n 3, 1) := by decide +kernel
theorem dX6_addDoor_33 : decode cX6_addDoor 33 = .ok (.aload_n 0, 1) := by decide +kernel
theorem dX6_addDoor_34 : decode cX6_addDoor 34 = .ok (.getfield 49, 3) := by decide +kernel
theorem dX6_addDoor_37 : decode cX6_addDoor 37 = .ok (.invokestatic 67, 3) := by decide +kernel
theorem dX6_addDoor_40 : decode cX6_addDoor 40 = .ok (.iconst 0, 1) := by decide +kernel
theorem dX6_addDoor_41 : decode cX6_addDoor 41 = .ok (.iastore, 1) := by decide +kernel
theorem dX6_addDoor_42 : decode cX6_addDoor 42 = .ok (.aload_n 0, 1) := by decide +kernel
theorem dX6_addDoor_43 : decode cX6_addDoor 43 = .ok (.getfield 39, 3) := by decide +kernel
theorem dX6_addDoor_46 : decode cX6_addDoor 46 = .ok (.iload_n 3, 1) := by decide +kernel
theorem dX6_addDoor_47 : decode cX6_addDoor 47 = .ok (.aload_n 0, 1) := by decide +kernel
theorem dX6_addDoor_48 : decode cX6_addDoor 48 = .ok (.getfield 49, 3) := by decide +kernel
theorem dX6_addDoor_51 : decode cX6_addDoor 51 = .ok (.invokestatic 67, 3) := by decide +kernel
theorem dX6_addDoor_54 : decode cX6_addDoor 54 = .ok (.ldc 71, 2) := by decide +kernel
theorem dX6_addDoor_56 : decode cX6_addDoor 56 = .ok (.iastore, 1) := by decide +kernel
theorem dX6_addDoor_57 : decode cX6_addDoor 57 = .ok (.iinc 3 1, 3) := by decide +kernel
theorem dX6_addDoor_60 : decode cX6_addDoor 60 = .ok (.goto (-38), 3) := by decide +kernel
theorem dX6_addDoor_63 : decode cX6_addDoor 63 = .ok (.aload_n 0, 1) := by decide +kernel
theorem dX6_addDoor_64 : decode cX6_addDoor 64 = .ok (.dup, 1) := by decide +kernel
theorem dX6_addDoor_65 : decode cX6_addDoor 65 = .ok (.getfield 49, 3) := by decide +kernel
theorem dX6_addDoor_68 : decode cX6_addDoor 68 = .ok (.iconst 1, 1) := by decide +kernel
theorem dX6_addDoor_69 : decode cX6_addDoor 69 = .ok (.iadd, 1) := by decide +kernel
theorem dX6_addDoor_70 : decode cX6_addDoor 70 = .ok (.putfield 49, 3) := by decide +kernel
theorem dX6_addDoor_73 : decode cX6_addDoor 73 = .ok (.return_, 1) := by decide +kernel
theorem dX6_addPerson_0 : decode cX6_addPerson 0 = .ok (.aload_n 0, 1) := by decide +kernel
theorem dX6_addPerson_1 : decode cX6_addPerson 1 = .ok (.getfield 18, 3) := by decide +kernel
theorem dX6_addPerson_4 : decode cX6_addPerson 4 = .ok (.aload_n 0, 1) := by decide +kernel
theorem dX6_addPerson_5 : decode cX6_addPerson 5 = .ok (.getfield 52, 3) := by decide +kernel
theorem dX6_addPerson_8 : decode cX6_addPerson 8 = .ok (.iload_n 1, 1) := by decide +kernel
theorem dX6_addPerson_9 : decode cX6_addPerson 9 = .ok (.iastore, 1) := by decide +kernel
theorem dX6_addPerson_10 : decode cX6_addPerson 10 = .ok (.aload_n 0, 1) := by decide +kernel
theorem dX6_addPerson_11 : decode cX6_addPerson 11 = .ok (.getfield 21, 3) := by decide +kernel
theorem dX6_addPerson_14 : decode cX6_addPerson 14 = .ok (.aload_n 0, 1) := by decide +kernel
theorem dX6_addPerson_15 : decode cX6_addPerson 15 = .ok (.getfield 52, 3) := by decide +kernel
theorem dX6_addPerson_18 : decode cX6_addPerson 18 = .ok (.iload_n 2, 1) := by decide +kernel
theorem dX6_addPerson_19 : decode cX6_addPerson 19 = .ok (.iastore, 1) := by decide +kernel
theorem dX6_addPerson_20 : decode cX6_addPerson 20 = .ok (.aload_n 0, 1) := by decide +kernel
theorem dX6_addPerson_21 : decode cX6_addPerson 21 = .ok (.getfield 24, 3) := by decide +kernel
theorem dX6_addPerson_24 : decode cX6_addPerson 24 = .ok (.aload_n 0, 1) := by decide +kernel
theorem dX6_addPerson_25 : decode cX6_addPerson 25 = .ok (.getfield 52, 3) := by decide +kernel
theorem dX6_addPerson_28 : decode cX6_addPerson 28 = .ok (.iload_n 3, 1) := by decide +kernel
theorem dX6_addPerson_29 : decode cX6_addPerson 29 = .ok (.iastore, 1) := by decide +kernel
theorem dX6_addPerson_30 : decode cX6_addPerson 30 = .ok (.aload_n 0, 1) := by decide +kernel
theorem dX6_addPerson_31 : decode cX6_addPerson 31 = .ok (.getfield 27, 3) := by decide +kernel
theorem dX6_addPerson_34 : decode cX6_addPerson 34 = .ok (.aload_n 0, 1) := by decide +kernel
theorem dX6_addPerson_35 : decode cX6_addPerson 35 = .ok (.getfield 52, 3) := by decide +kernel
theorem dX6_addPerson_38 : decode cX6_addPerson 38 = .ok (.iconst 0, 1) := by decide +kernel
theorem dX6_addPerson_39 : decode cX6_addPerson 39 = .ok (.iastore, 1) := by decide +kernel
theorem dX6_addPerson_40 : decode cX6_addPerson 40 = .ok (.aload_n 0, 1) := by decide +kernel
theorem dX6_addPerson_41 : decode cX6_addPerson 41 = .ok (.getfield 30, 3) := by decide +kernel
theorem dX6_addPerson_44 : decode cX6_addPerson 44 = .ok (.aload_n 0, 1) := by decide +kernel
theorem dX6_addPerson_45 : decode cX6_addPerson 45 = .ok (.getfield 52, 3) := by decide +kernel
theorem dX6_addPerson_48 : decode cX6_addPerson 48 = .ok (.iconst 0, 1) := by decide +kernel
theorem dX6_addPerson_49 : decode cX6_addPerson 49 = .ok (.iastore, 1) := by decide +kernel
theorem dX6_addPerson_50 : decode cX6_addPerson 50 = .ok (.aload_n 0, 1) := by decide +kernel
theorem dX6_addPerson_51 : decode cX6_addPerson 51 = .ok (.getfield 33, 3) := by decide +kernel
theorem dX6_addPerson_54 : decode cX6_addPerson 54 = .ok (.aload_n 0, 1) := by decide +kernel
theorem dX6_addPerson_55 : decode cX6_addPerson 55 = .ok (.getfield 52, 3) := by decide +kernel
theorem dX6_addPerson_58 : decode cX6_addPerson 58 = .ok (.iconst 0, 1) := by decide +kernel
theorem dX6_addPerson_59 : decode cX6_addPerson 59 = .ok (.iastore, 1) := by decide +kernel
theorem dX6_addPerson_60 : decode cX6_addPerson 60 = .ok (.aload_n 0, 1) := by decide +kernel
theorem dX6_addPerson_61 : decode cX6_addPerson 61 = .ok (.dup, 1) := by decide +kernel
theorem dX6_addPerson_62 : decode cX6_addPerson 62 = .ok (.getfield 52, 3) := by decide +kernel
theorem dX6_addPerson_65 : decode cX6_addPerson 65 = .ok (.iconst 1, 1) := by decide +kernel
theorem dX6_addPerson_66 : decode cX6_addPerson 66 = .ok (.iadd, 1) := by decide +kernel
theorem dX6_addPerson_67 : decode cX6_addPerson 67 = .ok (.putfield 52, 3) := by decide +kernel
theorem dX6_addPerson_70 : decode cX6_addPerson 70 = .ok (.return_, 1) := by decide +kernel
theorem dX6_addTie_0 : decode cX6_addTie 0 = .ok (.aload_n 1, 1) := by decide +kernel
theorem dX6_addTie_1 : decode cX6_addTie 1 = .ok (.iload_n 2, 1) := by decide +kernel
theorem dX6_addTie_2 : decode cX6_addTie 2 = .ok (.dup2, 1) := by decide +kernel
theorem dX6_addTie_3 : decode cX6_addTie 3 = .ok (.iaload, 1) := by decide +kernel
theorem dX6_addTie_4 : decode cX6_addTie 4 = .ok (.iconst 1, 1) := by decide +kernel
theorem dX6_addTie_5 : decode cX6_addTie 5 = .ok (.iload_n 3, 1) := by decide +kernel
theorem dX6_addTie_6 : decode cX6_addTie 6 = .ok (.ishl, 1) := by decide +kernel
theorem dX6_addTie_7 : decode cX6_addTie 7 = .ok (.ior, 1) := by decide +kernel
theorem dX6_addTie_8 : decode cX6_addTie 8 = .ok (.iastore, 1) := by decide +kernel
theorem dX6_addTie_9 : decode cX6_addTie 9 = .ok (.aload_n 1, 1) := by decide +kernel
theorem dX6_addTie_10 : decode cX6_addTie 10 = .ok (.iload_n 3, 1) := by decide +kernel
theorem dX6_addTie_11 : decode cX6_addTie 11 = .ok (.dup2, 1) := by decide +kernel
theorem dX6_addTie_12 : decode cX6_addTie 12 = .ok (.iaload, 1) := by decide +kernel
theorem dX6_addTie_13 : decode cX6_addTie 13 = .ok (.iconst 1, 1) := by decide +kernel
theorem dX6_addTie_14 : decode cX6_addTie 14 = .ok (.iload_n 2, 1) := by decide +kernel
theorem dX6_addTie_15 : decode cX6_addTie 15 = .ok (.ishl, 1) := by decide +kernel
theorem dX6_addTie_16 : decode cX6_addTie 16 = .ok (.ior, 1) := by decide +kernel
theorem dX6_addTie_17 : decode cX6_addTie 17 = .ok (.iastore, 1) := by decide +kernel
theorem dX6_addTie_18 : decode cX6_addTie 18 = .ok (.aload_n 0, 1) := by decide +kernel
theorem dX6_addTie_19 : decode cX6_addTie 19 = .ok (.dup, 1) := by decide +kernel
theorem dX6_addTie_20 : decode cX6_addTie 20 = .ok (.getfield 55, 3) := by decide +kernel
theorem dX6_addTie_23 : decode cX6_addTie 23 = .ok (.iconst 1, 1) := by decide +kernel
theorem dX6_addTie_24 : decode cX6_addTie 24 = .ok (.iadd, 1) := by decide +kernel
theorem dX6_addTie_25 : decode cX6_addTie 25 = .ok (.putfield 55, 3) := by decide +kernel
theorem dX6_addTie_28 : decode cX6_addTie 28 = .ok (.return_, 1) := by decide +kernel
theorem dX6_tiedTo_0 : decode cX6_tiedTo 0 = .ok (.aload_n 0, 1) := by decide +kernel
theorem dX6_tiedTo_1 : decode cX6_tiedTo 1 = .ok (.getfield 30, 3) := by decide +kernel
theorem dX6_tiedTo_4 : decode cX6_tiedTo 4 = .ok (.iload_n 1, 1) := by decide +kernel
theorem dX6_tiedTo_5 : decode cX6_tiedTo 5 = .ok (.iaload, 1) := by decide +kernel
theorem dX6_tiedTo_6 : decode cX6_tiedTo 6 = .ok (.aload_n 0, 1) := by decide +kernel
theorem dX6_tiedTo_7 : decode cX6_tiedTo 7 = .ok (.getfield 33, 3) := by decide +kernel
theorem dX6_tiedTo_10 : decode cX6_tiedTo 10 = .ok (.iload_n 1, 1) := by decide +kernel
theorem dX6_tiedTo_11 : decode cX6_tiedTo 11 = .ok (.iaload, 1) := by decide +kernel
theorem dX6_tiedTo_12 : decode cX6_tiedTo 12 = .ok (.ior, 1) := by decide +kernel
theorem dX6_tiedTo_13 : decode cX6_tiedTo 13 = .ok (.ireturn, 1) := by decide +kernel
theorem dX6_isAtDoor_0 : decode cX6_isAtDoor 0 = .ok (.aload_n 0, 1) := by decide +kernel
theorem dX6_isAtDoor_1 : decode cX6_isAtDoor 1 = .ok (.getfield 9, 3) := by decide +kernel
theorem dX6_isAtDoor_4 : decode cX6_isAtDoor 4 = .ok (.iload_n 2, 1) := by decide +kernel
theorem dX6_isAtDoor_5 : decode cX6_isAtDoor 5 = .ok (.iaload, 1) := by decide +kernel
theorem dX6_isAtDoor_6 : decode cX6_isAtDoor 6 = .ok (.aload_n 0, 1) := by decide +kernel
theorem dX6_isAtDoor_7 : decode cX6_isAtDoor 7 = .ok (.getfield 21, 3) := by decide +kernel
theorem dX6_isAtDoor_10 : decode cX6_isAtDoor 10 = .ok (.iload_n 1, 1) := by decide +kernel
theorem dX6_isAtDoor_11 : decode cX6_isAtDoor 11 = .ok (.iaload, 1) := by decide +kernel
theorem dX6_isAtDoor_12 : decode cX6_isAtDoor 12 = .ok (.if_icmp .eq 18, 3) := by decide +kernel
theorem dX6_isAtDoor_15 : decode cX6_isAtDoor 15 = .ok (.aload_n 0, 1) := by decide +kernel
theorem dX6_isAtDoor_16 : decode cX6_isAtDoor 16 = .ok (.getfield 15, 3) := by decide +kernel
theorem dX6_isAtDoor_19 : decode cX6_isAtDoor 19 = .ok (.iload_n 2, 1) := by decide +kernel
theorem dX6_isAtDoor_20 : decode cX6_isAtDoor 20 = .ok (.iaload, 1) := by decide +kernel
theorem dX6_isAtDoor_21 : decode cX6_isAtDoor 21 = .ok (.aload_n 0, 1) := by decide +kernel
theorem dX6_isAtDoor_22 : decode cX6_isAtDoor 22 = .ok (.getfield 21, 3) := by decide +kernel
theorem dX6_isAtDoor_25 : decode cX6_isAtDoor 25 = .ok (.iload_n 1, 1) := by decide +kernel
theorem dX6_isAtDoor_26 : decode cX6_isAtDoor 26 = .ok (.iaload, 1) := by decide +kernel
theorem dX6_isAtDoor_27 : decode cX6_isAtDoor 27 = .ok (.if_icmp .ne 7, 3) := by decide +kernel
theorem dX6_isAtDoor_30 : decode cX6_isAtDoor 30 = .ok (.iconst 1, 1) := by decide +kernel
theorem dX6_isAtDoor_31 : decode cX6_isAtDoor 31 = .ok (.goto 4, 3) := by decide +kernel
theorem dX6_isAtDoor_34 : decode cX6_isAtDoor 34 = .ok (.iconst 0, 1) := by decide +kernel
theorem dX6_isAtDoor_35 : decode cX6_isAtDoor 35 = .ok (.ireturn, 1) := by decide +kernel
theorem dX6_cross_0 : decode cX6_cross 0 = .ok (.aload_n 0, 1) := by decide +kernel
theorem dX6_cross_1 : decode cX6_cross 1 = .ok (.getfield 21, 3) := by decide +kernel
theorem dX6_cross_4 : decode cX6_cross 4 = .ok (.iload_n 1, 1) := by decide +kernel
theorem dX6_cross_5 : decode cX6_cross 5 = .ok (.aload_n 0, 1) := by decide +kernel
theorem dX6_cross_6 : decode cX6_cross 6 = .ok (.getfield 21, 3) := by decide +kernel
theorem dX6_cross_9 : decode cX6_cross 9 = .ok (.iload_n 1, 1) := by decide +kernel
theorem dX6_cross_10 : decode cX6_cross 10 = .ok (.iaload, 1) := by decide +kernel
theorem dX6_cross_11 : decode cX6_cross 11 = .ok (.aload_n 0, 1) := by decide +kernel
theorem dX6_cross_12 : decode cX6_cross 12 = .ok (.getfield 9, 3) := by decide +kernel
theorem dX6_cross_15 : decode cX6_cross 15 = .ok (.iload_n 2, 1) := by decide +kernel
theorem dX6_cross_16 : decode cX6_cross 16 = .ok (.iaload, 1) := by decide +kernel
theorem dX6_cross_17 : decode cX6_cross 17 = .ok (.if_icmp .ne 12, 3) := by decide +kernel
theorem dX6_cross_20 : decode cX6_cross 20 = .ok (.aload_n 0, 1) := by decide +kernel
theorem dX6_cross_21 : decode cX6_cross 21 = .ok (.getfield 15, 3) := by decide +kernel
theorem dX6_cross_24 : decode cX6_cross 24 = .ok (.iload_n 2, 1) := by decide +kernel
theorem dX6_cross_25 : decode cX6_cross 25 = .ok (.iaload, 1) := by decide +kernel
theorem dX6_cross_26 : decode cX6_cross 26 = .ok (.goto 9, 3) := by decide +kernel
theorem dX6_cross_29 : decode cX6_cross 29 = .ok (.aload_n 0, 1) := by decide +kernel
theorem dX6_cross_30 : decode cX6_cross 30 = .ok (.getfield 9, 3) := by decide +kernel
theorem dX6_cross_33 : decode cX6_cross 33 = .ok (.iload_n 2, 1) := by decide +kernel
theorem dX6_cross_34 : decode cX6_cross 34 = .ok (.iaload, 1) := by decide +kernel
theorem dX6_cross_35 : decode cX6_cross 35 = .ok (.iastore, 1) := by decide +kernel
theorem dX6_cross_36 : decode cX6_cross 36 = .ok (.return_, 1) := by decide +kernel
theorem dX6_mark_0 : decode cX6_mark 0 = .ok (.iload_n 1, 1) := by decide +kernel
theorem dX6_mark_1 : decode cX6_mark 1 = .ok (.iload_n 2, 1) := by decide +kernel
theorem dX6_mark_2 : decode cX6_mark 2 = .ok (.invokestatic 67, 3) := by decide +kernel
theorem dX6_mark_5 : decode cX6_mark 5 = .ok (.istore_n 3, 1) := by decide +kernel
theorem dX6_mark_6 : decode cX6_mark 6 = .ok (.aload_n 0, 1) := by decide +kernel
theorem dX6_mark_7 : decode cX6_mark 7 = .ok (.getfield 36, 3) := by decide +kernel
theorem dX6_mark_10 : decode cX6_mark 10 = .ok (.iload_n 3, 1) := by decide +kernel
theorem dX6_mark_11 : decode cX6_mark 11 = .ok (.aload_n 0, 1) := by decide +kernel
theorem dX6_mark_12 : decode cX6_mark 12 = .ok (.getfield 36, 3) := by decide +kernel
theorem dX6_mark_15 : decode cX6_mark 15 = .ok (.iload_n 3, 1) := by decide +kernel
theorem dX6_mark_16 : decode cX6_mark 16 = .ok (.iaload, 1) := by decide +kernel
theorem dX6_mark_17 : decode cX6_mark 17 = .ok (.iconst 1, 1) := by decide +kernel
theorem dX6_mark_18 : decode cX6_mark 18 = .ok (.iadd, 1) := by decide +kernel
theorem dX6_mark_19 : decode cX6_mark 19 = .ok (.bipush 99, 2) := by decide +kernel
theorem dX6_mark_21 : decode cX6_mark 21 = .ok (.invokestatic 72, 3) := by decide +kernel
theorem dX6_mark_24 : decode cX6_mark 24 = .ok (.iastore, 1) := by decide +kernel
theorem dX6_mark_25 : decode cX6_mark 25 = .ok (.aload_n 0, 1) := by decide +kernel
theorem dX6_mark_26 : decode cX6_mark 26 = .ok (.getfield 39, 3) := by decide +kernel
theorem dX6_mark_29 : decode cX6_mark 29 = .ok (.iload_n 3, 1) := by decide +kernel
theorem dX6_mark_30 : decode cX6_mark 30 = .ok (.aload_n 0, 1) := by decide +kernel
theorem dX6_mark_31 : decode cX6_mark 31 = .ok (.getfield 58, 3) := by decide +kernel
theorem dX6_mark_34 : decode cX6_mark 34 = .ok (.iastore, 1) := by decide +kernel
theorem dX6_mark_35 : decode cX6_mark 35 = .ok (.return_, 1) := by decide +kernel
theorem dX6_pass_0 : decode cX6_pass 0 = .ok (.aload_n 0, 1) := by decide +kernel
theorem dX6_pass_1 : decode cX6_pass 1 = .ok (.iload_n 1, 1) := by decide +kernel
theorem dX6_pass_2 : decode cX6_pass 2 = .ok (.iload_n 2, 1) := by decide +kernel
theorem dX6_pass_3 : decode cX6_pass 3 = .ok (.invokevirtual 77, 3) := by decide +kernel
theorem dX6_pass_6 : decode cX6_pass 6 = .ok (.aload_n 0, 1) := by decide +kernel
theorem dX6_pass_7 : decode cX6_pass 7 = .ok (.iload_n 1, 1) := by decide +kernel
theorem dX6_pass_8 : decode cX6_pass 8 = .ok (.iload_n 2, 1) := by decide +kernel
theorem dX6_pass_9 : decode cX6_pass 9 = .ok (.invokevirtual 81, 3) := by decide +kernel
theorem dX6_pass_12 : decode cX6_pass 12 = .ok (.return_, 1) := by decide +kernel
theorem dX6_freshIn_0 : decode cX6_freshIn 0 = .ok (.aload_n 0, 1) := by decide +kernel
theorem dX6_freshIn_1 : decode cX6_freshIn 1 = .ok (.getfield 46, 3) := by decide +kernel
theorem dX6_freshIn_4 : decode cX6_freshIn 4 = .ok (.ifCond .eq 21, 3) := by decide +kernel
theorem dX6_freshIn_7 : decode cX6_freshIn 7 = .ok (.aload_n 0, 1) := by decide +kernel
theorem dX6_freshIn_8 : decode cX6_freshIn 8 = .ok (.getfield 58, 3) := by decide +kernel
theorem dX6_freshIn_11 : decode cX6_freshIn 11 = .ok (.aload_n 0, 1) := by decide +kernel
theorem dX6_freshIn_12 : decode cX6_freshIn 12 = .ok (.getfield 39, 3) := by decide +kernel
theorem dX6_freshIn_15 : decode cX6_freshIn 15 = .ok (.iload_n 1, 1) := by decide +kernel
theorem dX6_freshIn_16 : decode cX6_freshIn 16 = .ok (.iaload, 1) := by decide +kernel
theorem dX6_freshIn_17 : decode cX6_freshIn 17 = .ok (.isub, 1) := by decide +kernel
theorem dX6_freshIn_18 : decode cX6_freshIn 18 = .ok (.aload_n 0, 1) := by decide +kernel
theorem dX6_freshIn_19 : decode cX6_freshIn 19 = .ok (.getfield 46, 3) := by decide +kernel
theorem dX6_freshIn_22 : decode cX6_freshIn 22 = .ok (.if_icmp .gt 7, 3) := by decide +kernel
theorem dX6_freshIn_25 : decode cX6_freshIn 25 = .ok (.iconst 1, 1) := by decide +kernel
theorem dX6_freshIn_26 : decode cX6_freshIn 26 = .ok (.goto 4, 3) := by decide +kernel
theorem dX6_freshIn_29 : decode cX6_freshIn 29 = .ok (.iconst 0, 1) := by decide +kernel
theorem dX6_freshIn_30 : decode cX6_freshIn 30 = .ok (.istore_n 2, 1) := by decide +kernel
theorem dX6_freshIn_31 : decode cX6_freshIn 31 = .ok (.iload_n 2, 1) := by decide +kernel
theorem dX6_freshIn_32 : decode cX6_freshIn 32 = .ok (.ifCond .eq 12, 3) := by decide +kernel
theorem dX6_freshIn_35 : decode cX6_freshIn 35 = .ok (.aload_n 0, 1) := by decide +kernel
theorem dX6_freshIn_36 : decode cX6_freshIn 36 = .ok (.getfield 36, 3) := by decide +kernel
theorem dX6_freshIn_39 : decode cX6_freshIn 39 = .ok (.iload_n 1, 1) := by decide +kernel
theorem dX6_freshIn_40 : decode cX6_freshIn 40 = .ok (.iaload, 1) := by decide +kernel
theorem dX6_freshIn_41 : decode cX6_freshIn 41 = .ok (.goto 11, 3) := by decide +kernel
theorem dX6_freshIn_44 : decode cX6_freshIn 44 = .ok (.aload_n 0, 1) := by decide +kernel
theorem dX6_freshIn_45 : decode cX6_freshIn 45 = .ok (.getfield 36, 3) := by decide +kernel
theorem dX6_freshIn_48 : decode cX6_freshIn 48 = .ok (.iload_n 1, 1) := by decide +kernel
theorem dX6_freshIn_49 : decode cX6_freshIn 49 = .ok (.iaload, 1) := by decide +kernel
theorem dX6_freshIn_50 : decode cX6_freshIn 50 = .ok (.iconst 2, 1) := by decide +kernel
theorem dX6_freshIn_51 : decode cX6_freshIn 51 = .ok (.idiv, 1) := by decide +kernel
theorem dX6_freshIn_52 : decode cX6_freshIn 52 = .ok (.ireturn, 1) := by decide +kernel
theorem dX6_weightOf_0 : decode cX6_weightOf 0 = .ok (.iload_n 1, 1) := by decide +kernel
theorem dX6_weightOf_1 : decode cX6_weightOf 1 = .ok (.iload_n 2, 1) := by decide +kernel
theorem dX6_weightOf_2 : decode cX6_weightOf 2 = .ok (.invokestatic 67, 3) := by decide +kernel
theorem dX6_weightOf_5 : decode cX6_weightOf 5 = .ok (.istore_n 3, 1) := by decide +kernel
theorem dX6_weightOf_6 : decode cX6_weightOf 6 = .ok (.aload_n 0, 1) := by decide +kernel
theorem dX6_weightOf_7 : decode cX6_weightOf 7 = .ok (.getfield 18, 3) := by decide +kernel
theorem dX6_weightOf_10 : decode cX6_weightOf 10 = .ok (.iload_n 1, 1) := by decide +kernel
theorem dX6_weightOf_11 : decode cX6_weightOf 11 = .ok (.iaload, 1) := by decide +kernel
theorem dX6_weightOf_12 : decode cX6_weightOf 12 = .ok (.tableswitch 100 2 5 #[32, 49, 70, 85], 32) := by decide +kernel
theorem dX6_weightOf_44 : decode cX6_weightOf 44 = .ok (.aload_n 0, 1) := by decide +kernel
theorem dX6_weightOf_45 : decode cX6_weightOf 45 = .ok (.iload_n 3, 1) := by decide +kernel
theorem dX6_weightOf_46 : decode cX6_weightOf 46 = .ok (.invokevirtual 84, 3) := by decide +kernel
theorem dX6_weightOf_49 : decode cX6_weightOf 49 = .ok (.iload_n 2, 1) := by decide +kernel
theorem dX6_weightOf_50 : decode cX6_weightOf 50 = .ok (.ifCond .ne 8, 3) := by decide +kernel
theorem dX6_weightOf_53 : decode cX6_weightOf 53 = .ok (.bipush 9, 2) := by decide +kernel
theorem dX6_weightOf_55 : decode cX6_weightOf 55 = .ok (.goto 4, 3) := by decide +kernel
theorem dX6_weightOf_58 : decode cX6_weightOf 58 = .ok (.iconst 0, 1) := by decide +kernel
theorem dX6_weightOf_59 : decode cX6_weightOf 59 = .ok (.iadd, 1) := by decide +kernel
theorem dX6_weightOf_60 : decode cX6_weightOf 60 = .ok (.ireturn, 1) := by decide +kernel
theorem dX6_weightOf_61 : decode cX6_weightOf 61 = .ok (.aload_n 0, 1) := by decide +kernel
theorem dX6_weightOf_62 : decode cX6_weightOf 62 = .ok (.getfield 36, 3) := by decide +kernel
theorem dX6_weightOf_65 : decode cX6_weightOf 65 = .ok (.iload_n 3, 1) := by decide +kernel
theorem dX6_weightOf_66 : decode cX6_weightOf 66 = .ok (.iaload, 1) := by decide +kernel
theorem dX6_weightOf_67 : decode cX6_weightOf 67 = .ok (.iconst 3, 1) := by decide +kernel
theorem dX6_weightOf_68 : decode cX6_weightOf 68 = .ok (.irem, 1) := by decide +kernel
theorem dX6_weightOf_69 : decode cX6_weightOf 69 = .ok (.ifCond .ne 7, 3) := by decide +kernel
theorem dX6_weightOf_72 : decode cX6_weightOf 72 = .ok (.iconst 0, 1) := by decide +kernel
theorem dX6_weightOf_73 : decode cX6_weightOf 73 = .ok (.goto 8, 3) := by decide +kernel
theorem dX6_weightOf_76 : decode cX6_weightOf 76 = .ok (.aload_n 0, 1) := by decide +kernel
theorem dX6_weightOf_77 : decode cX6_weightOf 77 = .ok (.iload_n 3, 1) := by decide +kernel
theorem dX6_weightOf_78 : decode cX6_weightOf 78 = .ok (.invokevirtual 84, 3) := by decide +kernel
theorem dX6_weightOf_81 : decode cX6_weightOf 81 = .ok (.ireturn, 1) := by decide +kernel
theorem dX6_weightOf_82 : decode cX6_weightOf 82 = .ok (.aload_n 0, 1) := by decide +kernel
theorem dX6_weightOf_83 : decode cX6_weightOf 83 = .ok (.getfield 36, 3) := by decide +kernel
theorem dX6_weightOf_86 : decode cX6_weightOf 86 = .ok (.iload_n 3, 1) := by decide +kernel
theorem dX6_weightOf_87 : decode cX6_weightOf 87 = .ok (.iaload, 1) := by decide +kernel
theorem dX6_weightOf_88 : decode cX6_weightOf 88 = .ok (.ifCond .ne 7, 3) := by decide +kernel
theorem dX6_weightOf_91 : decode cX6_weightOf 91 = .ok (.iconst 0, 1) := by decide +kernel
theorem dX6_weightOf_92 : decode cX6_weightOf 92 = .ok (.goto 4, 3) := by decide +kernel
theorem dX6_weightOf_95 : decode cX6_weightOf 95 = .ok (.iconst 1, 1) := by decide +kernel
theorem dX6_weightOf_96 : decode cX6_weightOf 96 = .ok (.ireturn, 1) := by decide +kernel
theorem dX6_weightOf_97 : decode cX6_weightOf 97 = .ok (.aload_n 0, 1) := by decide +kernel
theorem dX6_weightOf_98 : decode cX6_weightOf 98 = .ok (.getfield 36, 3) := by decide +kernel
theorem dX6_weightOf_101 : decode cX6_weightOf 101 = .ok (.iload_n 3, 1) := by decide +kernel
theorem dX6_weightOf_102 : decode cX6_weightOf 102 = .ok (.iaload, 1) := by decide +kernel
theorem dX6_weightOf_103 : decode cX6_weightOf 103 = .ok (.ifCond .ne 7, 3) := by decide +kernel
theorem dX6_weightOf_106 : decode cX6_weightOf 106 = .ok (.iconst 0, 1) := by decide +kernel
theorem dX6_weightOf_107 : decode cX6_weightOf 107 = .ok (.goto 4, 3) := by decide +kernel
theorem dX6_weightOf_110 : decode cX6_weightOf 110 = .ok (.iconst 2, 1) := by decide +kernel
theorem dX6_weightOf_111 : decode cX6_weightOf 111 = .ok (.ireturn, 1) := by decide +kernel
theorem dX6_weightOf_112 : decode cX6_weightOf 112 = .ok (.aload_n 0, 1) := by decide +kernel
theorem dX6_weightOf_113 : decode cX6_weightOf 113 = .ok (.iload_n 3, 1) := by decide +kernel
theorem dX6_weightOf_114 : decode cX6_weightOf 114 = .ok (.invokevirtual 84, 3) := by decide +kernel
theorem dX6_weightOf_117 : decode cX6_weightOf 117 = .ok (.ireturn, 1) := by decide +kernel
theorem dX6_leaningOf_0 : decode cX6_leaningOf 0 = .ok (.aload_n 0, 1) := by decide +kernel
theorem dX6_leaningOf_1 : decode cX6_leaningOf 1 = .ok (.getfield 24, 3) := by decide +kernel
theorem dX6_leaningOf_4 : decode cX6_leaningOf 4 = .ok (.iload_n 1, 1) := by decide +kernel
theorem dX6_leaningOf_5 : decode cX6_leaningOf 5 = .ok (.iaload, 1) := by decide +kernel
theorem dX6_leaningOf_6 : decode cX6_leaningOf 6 = .ok (.iconst 3, 1) := by decide +kernel
theorem dX6_leaningOf_7 : decode cX6_leaningOf 7 = .ok (.isub, 1) := by decide +kernel
theorem dX6_leaningOf_8 : decode cX6_leaningOf 8 = .ok (.aload_n 0, 1) := by decide +kernel
theorem dX6_leaningOf_9 : decode cX6_leaningOf 9 = .ok (.getfield 27, 3) := by decide +kernel
theorem dX6_leaningOf_12 : decode cX6_leaningOf 12 = .ok (.iload_n 1, 1) := by decide +kernel
theorem dX6_leaningOf_13 : decode cX6_leaningOf 13 = .ok (.iaload, 1) := by decide +kernel
theorem dX6_leaningOf_14 : decode cX6_leaningOf 14 = .ok (.iadd, 1) := by decide +kernel
theorem dX6_leaningOf_15 : decode cX6_leaningOf 15 = .ok (.istore_n 3, 1) := by decide +kernel
theorem dX6_leaningOf_16 : decode cX6_leaningOf 16 = .ok (.aload_n 0, 1) := by decide +kernel
theorem dX6_leaningOf_17 : decode cX6_leaningOf 17 = .ok (.getfield 30, 3) := by decide +kernel
theorem dX6_leaningOf_20 : decode cX6_leaningOf 20 = .ok (.iload_n 1, 1) := by decide +kernel
theorem dX6_leaningOf_21 : decode cX6_leaningOf 21 = .ok (.iaload, 1) := by decide +kernel
theorem dX6_leaningOf_22 : decode cX6_leaningOf 22 = .ok (.iload_n 2, 1) := by decide +kernel
theorem dX6_leaningOf_23 : decode cX6_leaningOf 23 = .ok (.ishr, 1) := by decide +kernel
theorem dX6_leaningOf_24 : decode cX6_leaningOf 24 = .ok (.iconst 1, 1) := by decide +kernel
theorem dX6_leaningOf_25 : decode cX6_leaningOf 25 = .ok (.iand, 1) := by decide +kernel
theorem dX6_leaningOf_26 : decode cX6_leaningOf 26 = .ok (.ifCond .eq 6, 3) := by decide +kernel
theorem dX6_leaningOf_29 : decode cX6_leaningOf 29 = .ok (.iinc 3 5, 3) := by decide +kernel
theorem dX6_leaningOf_32 : decode cX6_leaningOf 32 = .ok (.aload_n 0, 1) := by decide +kernel
theorem dX6_leaningOf_33 : decode cX6_leaningOf 33 = .ok (.getfield 33, 3) := by decide +kernel
theorem dX6_leaningOf_36 : decode cX6_leaningOf 36 = .ok (.iload_n 1, 1) := by decide +kernel
theorem dX6_leaningOf_37 : decode cX6_leaningOf 37 = .ok (.iaload, 1) := by decide +kernel
theorem dX6_leaningOf_38 : decode cX6_leaningOf 38 = .ok (.iload_n 2, 1) := by decide +kernel
theorem dX6_leaningOf_39 : decode cX6_leaningOf 39 = .ok (.ishr, 1) := by decide +kernel
theorem dX6_leaningOf_40 : decode cX6_leaningOf 40 = .ok (.iconst 1, 1) := by decide +kernel
theorem dX6_leaningOf_41 : decode cX6_leaningOf 41 = .ok (.iand, 1) := by decide +kernel
theorem dX6_leaningOf_42 : decode cX6_leaningOf 42 = .ok (.ifCond .eq 6, 3) := by decide +kernel
theorem dX6_leaningOf_45 : decode cX6_leaningOf 45 = .ok (.iinc 3 (-9), 3) := by decide +kernel
theorem dX6_leaningOf_48 : decode cX6_leaningOf 48 = .ok (.iload_n 3, 1) := by decide +kernel
theorem dX6_leaningOf_49 : decode cX6_leaningOf 49 = .ok (.ireturn, 1) := by decide +kernel
theorem dX6_favourOf_0 : decode cX6_favourOf 0 = .ok (.aload_n 0, 1) := by decide +kernel
theorem dX6_favourOf_1 : decode cX6_favourOf 1 = .ok (.iload_n 1, 1) := by decide +kernel
theorem dX6_favourOf_2 : decode cX6_favourOf 2 = .ok (.iload_n 2, 1) := by decide +kernel
theorem dX6_favourOf_3 : decode cX6_favourOf 3 = .ok (.invokevirtual 88, 3) := by decide +kernel
theorem dX6_favourOf_6 : decode cX6_favourOf 6 = .ok (.istore_n 3, 1) := by decide +kernel
theorem dX6_favourOf_7 : decode cX6_favourOf 7 = .ok (.aload_n 0, 1) := by decide +kernel
theorem dX6_favourOf_8 : decode cX6_favourOf 8 = .ok (.getfield 18, 3) := by decide +kernel
theorem dX6_favourOf_11 : decode cX6_favourOf 11 = .ok (.iload_n 1, 1) := by decide +kernel
theorem dX6_favourOf_12 : decode cX6_favourOf 12 = .ok (.iaload, 1) := by decide +kernel
theorem dX6_favourOf_13 : decode cX6_favourOf 13 = .ok (.iconst 5, 1) := by decide +kernel
theorem dX6_favourOf_14 : decode cX6_favourOf 14 = .ok (.if_icmp .ne 11, 3) := by decide +kernel
theorem dX6_favourOf_17 : decode cX6_favourOf 17 = .ok (.iload_n 3, 1) := by decide +kernel
theorem dX6_favourOf_18 : decode cX6_favourOf 18 = .ok (.iconst 0, 1) := by decide +kernel
theorem dX6_favourOf_19 : decode cX6_favourOf 19 = .ok (.invokestatic 91, 3) := by decide +kernel
theorem dX6_favourOf_22 : decode cX6_favourOf 22 = .ok (.goto 4, 3) := by decide +kernel
theorem dX6_favourOf_25 : decode cX6_favourOf 25 = .ok (.iload_n 3, 1) := by decide +kernel
theorem dX6_favourOf_26 : decode cX6_favourOf 26 = .ok (.ireturn, 1) := by decide +kernel
theorem dX6_timesOf_0 : decode cX6_timesOf 0 = .ok (.iconst 0, 1) := by decide +kernel
theorem dX6_timesOf_1 : decode cX6_timesOf 1 = .ok (.istore_n 2, 1) := by decide +kernel
theorem dX6_timesOf_2 : decode cX6_timesOf 2 = .ok (.iconst 0, 1) := by decide +kernel
theorem dX6_timesOf_3 : decode cX6_timesOf 3 = .ok (.istore_n 3, 1) := by decide +kernel
theorem dX6_timesOf_4 : decode cX6_timesOf 4 = .ok (.iload_n 3, 1) := by decide +kernel
theorem dX6_timesOf_5 : decode cX6_timesOf 5 = .ok (.aload_n 0, 1) := by decide +kernel
theorem dX6_timesOf_6 : decode cX6_timesOf 6 = .ok (.getfield 49, 3) := by decide +kernel
theorem dX6_timesOf_9 : decode cX6_timesOf 9 = .ok (.if_icmp .ge 22, 3) := by decide +kernel
theorem dX6_timesOf_12 : decode cX6_timesOf 12 = .ok (.iload_n 2, 1) := by decide +kernel
theorem dX6_timesOf_13 : decode cX6_timesOf 13 = .ok (.aload_n 0, 1) := by decide +kernel
theorem dX6_timesOf_14 : decode cX6_timesOf 14 = .ok (.getfield 36, 3) := by decide +kernel
theorem dX6_timesOf_17 : decode cX6_timesOf 17 = .ok (.iload_n 1, 1) := by decide +kernel
theorem dX6_timesOf_18 : decode cX6_timesOf 18 = .ok (.iload_n 3, 1) := by decide +kernel
theorem dX6_timesOf_19 : decode cX6_timesOf 19 = .ok (.invokestatic 67, 3) := by decide +kernel
theorem dX6_timesOf_22 : decode cX6_timesOf 22 = .ok (.iaload, 1) := by decide +kernel
theorem dX6_timesOf_23 : decode cX6_timesOf 23 = .ok (.iadd, 1) := by decide +kernel
theorem dX6_timesOf_24 : decode cX6_timesOf 24 = .ok (.istore_n 2, 1) := by decide +kernel
theorem dX6_timesOf_25 : decode cX6_timesOf 25 = .ok (.iinc 3 1, 3) := by decide +kernel
theorem dX6_timesOf_28 : decode cX6_timesOf 28 = .ok (.goto (-24), 3) := by decide +kernel
theorem dX6_timesOf_31 : decode cX6_timesOf 31 = .ok (.iload_n 2, 1) := by decide +kernel
theorem dX6_timesOf_32 : decode cX6_timesOf 32 = .ok (.ireturn, 1) := by decide +kernel
theorem dX6_allTimes_0 : decode cX6_allTimes 0 = .ok (.iconst 0, 1) := by decide +kernel
theorem dX6_allTimes_1 : decode cX6_allTimes 1 = .ok (.istore_n 1, 1) := by decide +kernel
theorem dX6_allTimes_2 : decode cX6_allTimes 2 = .ok (.iconst 0, 1) := by decide +kernel
theorem dX6_allTimes_3 : decode cX6_allTimes 3 = .ok (.istore_n 2, 1) := by decide +kernel
theorem dX6_allTimes_4 : decode cX6_allTimes 4 = .ok (.iload_n 2, 1) := by decide +kernel
theorem dX6_allTimes_5 : decode cX6_allTimes 5 = .ok (.aload_n 0, 1) := by decide +kernel
theorem dX6_allTimes_6 : decode cX6_allTimes 6 = .ok (.getfield 52, 3) := by decide +kernel
theorem dX6_allTimes_9 : decode cX6_allTimes 9 = .ok (.if_icmp .ge 17, 3) := by decide +kernel
theorem dX6_allTimes_12 : decode cX6_allTimes 12 = .ok (.iload_n 1, 1) := by decide +kernel
theorem dX6_allTimes_13 : decode cX6_allTimes 13 = .ok (.aload_n 0, 1) := by decide +kernel
theorem dX6_allTimes_14 : decode cX6_allTimes 14 = .ok (.iload_n 2, 1) := by decide +kernel
theorem dX6_allTimes_15 : decode cX6_allTimes 15 = .ok (.invokevirtual 94, 3) := by decide +kernel
theorem dX6_allTimes_18 : decode cX6_allTimes 18 = .ok (.iadd, 1) := by decide +kernel
theorem dX6_allTimes_19 : decode cX6_allTimes 19 = .ok (.istore_n 1, 1) := by decide +kernel
theorem dX6_allTimes_20 : decode cX6_allTimes 20 = .ok (.iinc 2 1, 3) := by decide +kernel
theorem dX6_allTimes_23 : decode cX6_allTimes 23 = .ok (.goto (-19), 3) := by decide +kernel
theorem dX6_allTimes_26 : decode cX6_allTimes 26 = .ok (.iload_n 1, 1) := by decide +kernel
theorem dX6_allTimes_27 : decode cX6_allTimes 27 = .ok (.ireturn, 1) := by decide +kernel
theorem dX6_passedThrough_0 : decode cX6_passedThrough 0 = .ok (.iconst 0, 1) := by decide +kernel
theorem dX6_passedThrough_1 : decode cX6_passedThrough 1 = .ok (.istore_n 2, 1) := by decide +kernel
theorem dX6_passedThrough_2 : decode cX6_passedThrough 2 = .ok (.iconst 0, 1) := by decide +kernel
theorem dX6_passedThrough_3 : decode cX6_passedThrough 3 = .ok (.istore_n 3, 1) := by decide +kernel
theorem dX6_passedThrough_4 : decode cX6_passedThrough 4 = .ok (.iload_n 3, 1) := by decide +kernel
theorem dX6_passedThrough_5 : decode cX6_passedThrough 5 = .ok (.aload_n 0, 1) := by decide +kernel
theorem dX6_passedThrough_6 : decode cX6_passedThrough 6 = .ok (.getfield 52, 3) := by decide +kernel
theorem dX6_passedThrough_9 : decode cX6_passedThrough 9 = .ok (.if_icmp .ge 28, 3) := by decide +kernel
theorem dX6_passedThrough_12 : decode cX6_passedThrough 12 = .ok (.aload_n 0, 1) := by decide +kernel
theorem dX6_passedThrough_13 : decode cX6_passedThrough 13 = .ok (.getfield 36, 3) := by decide +kernel
theorem dX6_passedThrough_16 : decode cX6_passedThrough 16 = .ok (.iload_n 3, 1) := by decide +kernel
theorem dX6_passedThrough_17 : decode cX6_passedThrough 17 = .ok (.iload_n 1, 1) := by decide +kernel
theorem dX6_passedThrough_18 : decode cX6_passedThrough 18 = .ok (.invokestatic 67, 3) := by decide +kernel
theorem dX6_passedThrough_21 : decode cX6_passedThrough 21 = .ok (.iaload, 1) := by decide +kernel
theorem dX6_passedThrough_22 : decode cX6_passedThrough 22 = .ok (.ifCond .eq 9, 3) := by decide +kernel
theorem dX6_passedThrough_25 : decode cX6_passedThrough 25 = .ok (.iload_n 2, 1) := by decide +kernel
theorem dX6_passedThrough_26 : decode cX6_passedThrough 26 = .ok (.iconst 1, 1) := by decide +kernel
theorem dX6_passedThrough_27 : decode cX6_passedThrough 27 = .ok (.iload_n 3, 1) := by decide +kernel
theorem dX6_passedThrough_28 : decode cX6_passedThrough 28 = .ok (.ishl, 1) := by decide +kernel
theorem dX6_passedThrough_29 : decode cX6_passedThrough 29 = .ok (.ior, 1) := by decide +kernel
theorem dX6_passedThrough_30 : decode cX6_passedThrough 30 = .ok (.istore_n 2, 1) := by decide +kernel
theorem dX6_passedThrough_31 : decode cX6_passedThrough 31 = .ok (.iinc 3 1, 3) := by decide +kernel
theorem dX6_passedThrough_34 : decode cX6_passedThrough 34 = .ok (.goto (-30), 3) := by decide +kernel
theorem dX6_passedThrough_37 : decode cX6_passedThrough 37 = .ok (.iload_n 2, 1) := by decide +kernel
theorem dX6_passedThrough_38 : decode cX6_passedThrough 38 = .ok (.ireturn, 1) := by decide +kernel
theorem dX6_roomsAdded_0 : decode cX6_roomsAdded 0 = .ok (.iconst 0, 1) := by decide +kernel
theorem dX6_roomsAdded_1 : decode cX6_roomsAdded 1 = .ok (.istore_n 1, 1) := by decide +kernel
theorem dX6_roomsAdded_2 : decode cX6_roomsAdded 2 = .ok (.iconst 0, 1) := by decide +kernel
theorem dX6_roomsAdded_3 : decode cX6_roomsAdded 3 = .ok (.istore_n 2, 1) := by decide +kernel
theorem dX6_roomsAdded_4 : decode cX6_roomsAdded 4 = .ok (.iload_n 2, 1) := by decide +kernel
theorem dX6_roomsAdded_5 : decode cX6_roomsAdded 5 = .ok (.aload_n 0, 1) := by decide +kernel
theorem dX6_roomsAdded_6 : decode cX6_roomsAdded 6 = .ok (.getfield 52, 3) := by decide +kernel
theorem dX6_roomsAdded_9 : decode cX6_roomsAdded 9 = .ok (.if_icmp .ge 18, 3) := by decide +kernel
theorem dX6_roomsAdded_12 : decode cX6_roomsAdded 12 = .ok (.iload_n 1, 1) := by decide +kernel
theorem dX6_roomsAdded_13 : decode cX6_roomsAdded 13 = .ok (.aload_n 0, 1) := by decide +kernel
theorem dX6_roomsAdded_14 : decode cX6_roomsAdded 14 = .ok (.getfield 21, 3) := by decide +kernel
theorem dX6_roomsAdded_17 : decode cX6_roomsAdded 17 = .ok (.iload_n 2, 1) := by decide +kernel
theorem dX6_roomsAdded_18 : decode cX6_roomsAdded 18 = .ok (.iaload, 1) := by decide +kernel
theorem dX6_roomsAdded_19 : decode cX6_roomsAdded 19 = .ok (.iadd, 1) := by decide +kernel
theorem dX6_roomsAdded_20 : decode cX6_roomsAdded 20 = .ok (.istore_n 1, 1) := by decide +kernel
theorem dX6_roomsAdded_21 : decode cX6_roomsAdded 21 = .ok (.iinc 2 1, 3) := by decide +kernel
theorem dX6_roomsAdded_24 : decode cX6_roomsAdded 24 = .ok (.goto (-20), 3) := by decide +kernel
theorem dX6_roomsAdded_27 : decode cX6_roomsAdded 27 = .ok (.iload_n 1, 1) := by decide +kernel
theorem dX6_roomsAdded_28 : decode cX6_roomsAdded 28 = .ok (.ireturn, 1) := by decide +kernel
theorem dX7_init_0 : decode cX7_init 0 = .ok (.aload_n 0, 1) := by decide +kernel
theorem dX7_init_1 : decode cX7_init 1 = .ok (.invokespecial 3, 3) := by decide +kernel
theorem dX7_init_4 : decode cX7_init 4 = .ok (.aload_n 0, 1) := by decide +kernel
theorem dX7_init_5 : decode cX7_init 5 = .ok (.bipush 7, 2) := by decide +kernel
theorem dX7_init_7 : decode cX7_init 7 = .ok (.newarray .int, 2) := by decide +kernel
theorem dX7_init_9 : decode cX7_init 9 = .ok (.putfield 11, 3) := by decide +kernel
theorem dX7_init_12 : decode cX7_init 12 = .ok (.aload_n 0, 1) := by decide +kernel
theorem dX7_init_13 : decode cX7_init 13 = .ok (.bipush 7, 2) := by decide +kernel
theorem dX7_init_15 : decode cX7_init 15 = .ok (.newarray .int, 2) := by decide +kernel
theorem dX7_init_17 : decode cX7_init 17 = .ok (.putfield 15, 3) := by decide +kernel
theorem dX7_init_20 : decode cX7_init 20 = .ok (.aload_n 0, 1) := by decide +kernel
theorem dX7_init_21 : decode cX7_init 21 = .ok (.bipush 7, 2) := by decide +kernel
theorem dX7_init_23 : decode cX7_init 23 = .ok (.newarray .int, 2) := by decide +kernel
theorem dX7_init_25 : decode cX7_init 25 = .ok (.putfield 18, 3) := by decide +kernel
theorem dX7_init_28 : decode cX7_init 28 = .ok (.aload_n 0, 1) := by decide +kernel
theorem dX7_init_29 : decode cX7_init 29 = .ok (.bipush 6, 2) := by decide +kernel
theorem dX7_init_31 : decode cX7_init 31 = .ok (.newarray .int, 2) := by decide +kernel
theorem dX7_init_33 : decode cX7_init 33 = .ok (.putfield 21, 3) := by decide +kernel
theorem dX7_init_36 : decode cX7_init 36 = .ok (.return_, 1) := by decide +kernel
theorem dX7_take_0 : decode cX7_take 0 = .ok (.aload_n 0, 1) := by decide +kernel
theorem dX7_take_1 : decode cX7_take 1 = .ok (.iconst 0, 1) := by decide +kernel
theorem dX7_take_2 : decode cX7_take 2 = .ok (.putfield 24, 3) := by decide +kernel
theorem dX7_take_5 : decode cX7_take 5 = .ok (.iconst 0, 1) := by decide +kernel
theorem dX7_take_6 : decode cX7_take 6 = .ok (.istore 4, 2) := by decide +kernel
theorem dX7_take_8 : decode cX7_take 8 = .ok (.iload 4, 2) := by decide +kernel
theorem dX7_take_10 : decode cX7_take 10 = .ok (.aload_n 1, 1) := by decide +kernel
theorem dX7_take_11 : decode cX7_take 11 = .ok (.getfield 28, 3) := by decide +kernel
theorem dX7_take_14 : decode cX7_take 14 = .ok (.if_icmp .ge 44, 3) := by decide +kernel
theorem dX7_take_17 : decode cX7_take 17 = .ok (.aload_n 2, 1) := by decide +kernel
theorem dX7_take_18 : decode cX7_take 18 = .ok (.aload_n 1, 1) := by decide +kernel
theorem dX7_take_19 : decode cX7_take 19 = .ok (.iload_n 3, 1) := by decide +kernel
theorem dX7_take_20 : decode cX7_take 20 = .ok (.iload 4, 2) := by decide +kernel
theorem dX7_take_22 : decode cX7_take 22 = .ok (.invokevirtual 33, 3) := by decide +kernel
theorem dX7_take_25 : decode cX7_take 25 = .ok (.aload_n 2, 1) := by decide +kernel
theorem dX7_take_26 : decode cX7_take 26 = .ok (.invokevirtual 39, 3) := by decide +kernel
theorem dX7_take_29 : decode cX7_take 29 = .ok (.ifCond .eq 23, 3) := by decide +kernel
theorem dX7_take_32 : decode cX7_take 32 = .ok (.aload_n 0, 1) := by decide +kernel
theorem dX7_take_33 : decode cX7_take 33 = .ok (.aload_n 1, 1) := by decide +kernel
theorem dX7_take_34 : decode cX7_take 34 = .ok (.getfield 43, 3) := by decide +kernel
theorem dX7_take_37 : decode cX7_take 37 = .ok (.iload 4, 2) := by decide +kernel
theorem dX7_take_39 : decode cX7_take 39 = .ok (.iaload, 1) := by decide +kernel
theorem dX7_take_40 : decode cX7_take 40 = .ok (.aload_n 1, 1) := by decide +kernel
theorem dX7_take_41 : decode cX7_take 41 = .ok (.getfield 44, 3) := by decide +kernel
theorem dX7_take_44 : decode cX7_take 44 = .ok (.iload 4, 2) := by decide +kernel
theorem dX7_take_46 : decode cX7_take 46 = .ok (.iaload, 1) := by decide +kernel
theorem dX7_take_47 : decode cX7_take 47 = .ok (.iload 4, 2) := by decide +kernel
theorem dX7_take_49 : decode cX7_take 49 = .ok (.invokevirtual 45, 3) := by decide +kernel
theorem dX7_take_52 : decode cX7_take 52 = .ok (.iinc 4 1, 3) := by decide +kernel
theorem dX7_take_55 : decode cX7_take 55 = .ok (.goto (-47), 3) := by decide +kernel
theorem dX7_take_58 : decode cX7_take 58 = .ok (.return_, 1) := by decide +kernel
theorem dX7_add_0 : decode cX7_add 0 = .ok (.aload_n 0, 1) := by decide +kernel
theorem dX7_add_1 : decode cX7_add 1 = .ok (.getfield 11, 3) := by decide +kernel
theorem dX7_add_4 : decode cX7_add 4 = .ok (.aload_n 0, 1) := by decide +kernel
theorem dX7_add_5 : decode cX7_add 5 = .ok (.getfield 24, 3) := by decide +kernel
theorem dX7_add_8 : decode cX7_add 8 = .ok (.iload_n 1, 1) := by decide +kernel
theorem dX7_add_9 : decode cX7_add 9 = .ok (.iastore, 1) := by decide +kernel
theorem dX7_add_10 : decode cX7_add 10 = .ok (.aload_n 0, 1) := by decide +kernel
theorem dX7_add_11 : decode cX7_add 11 = .ok (.getfield 15, 3) := by decide +kernel
theorem dX7_add_14 : decode cX7_add 14 = .ok (.aload_n 0, 1) := by decide +kernel
theorem dX7_add_15 : decode cX7_add 15 = .ok (.getfield 24, 3) := by decide +kernel
theorem dX7_add_18 : decode cX7_add 18 = .ok (.iload_n 2, 1) := by decide +kernel
theorem dX7_add_19 : decode cX7_add 19 = .ok (.iastore, 1) := by decide +kernel
theorem dX7_add_20 : decode cX7_add 20 = .ok (.aload_n 0, 1) := by decide +kernel
theorem dX7_add_21 : decode cX7_add 21 = .ok (.getfield 18, 3) := by decide +kernel
theorem dX7_add_24 : decode cX7_add 24 = .ok (.aload_n 0, 1) := by decide +kernel
theorem dX7_add_25 : decode cX7_add 25 = .ok (.getfield 24, 3) := by decide +kernel
theorem dX7_add_28 : decode cX7_add 28 = .ok (.iload_n 3, 1) := by decide +kernel
theorem dX7_add_29 : decode cX7_add 29 = .ok (.iastore, 1) := by decide +kernel
theorem dX7_add_30 : decode cX7_add 30 = .ok (.aload_n 0, 1) := by decide +kernel
theorem dX7_add_31 : decode cX7_add 31 = .ok (.dup, 1) := by decide +kernel
theorem dX7_add_32 : decode cX7_add 32 = .ok (.getfield 24, 3) := by decide +kernel
theorem dX7_add_35 : decode cX7_add 35 = .ok (.iconst 1, 1) := by decide +kernel
theorem dX7_add_36 : decode cX7_add 36 = .ok (.iadd, 1) := by decide +kernel
theorem dX7_add_37 : decode cX7_add 37 = .ok (.putfield 24, 3) := by decide +kernel
theorem dX7_add_40 : decode cX7_add 40 = .ok (.return_, 1) := by decide +kernel
theorem dX7_measureFrom_0 : decode cX7_measureFrom 0 = .ok (.aload_n 0, 1) := by decide +kernel
theorem dX7_measureFrom_1 : decode cX7_measureFrom 1 = .ok (.getfield 21, 3) := by decide +kernel
theorem dX7_measureFrom_4 : decode cX7_measureFrom 4 = .ok (.ldc 49, 2) := by decide +kernel
theorem dX7_measureFrom_6 : decode cX7_measureFrom 6 = .ok (.invokestatic 50, 3) := by decide +kernel
theorem dX7_measureFrom_9 : decode cX7_measureFrom 9 = .ok (.aload_n 0, 1) := by decide +kernel
theorem dX7_measureFrom_10 : decode cX7_measureFrom 10 = .ok (.getfield 21, 3) := by decide +kernel
theorem dX7_measureFrom_13 : decode cX7_measureFrom 13 = .ok (.iload_n 1, 1) := by decide +kernel
theorem dX7_measureFrom_14 : decode cX7_measureFrom 14 = .ok (.iconst 0, 1) := by decide +kernel
theorem dX7_measureFrom_15 : decode cX7_measureFrom 15 = .ok (.iastore, 1) := by decide +kernel
theorem dX7_measureFrom_16 : decode cX7_measureFrom 16 = .ok (.iconst 1, 1) := by decide +kernel
theorem dX7_measureFrom_17 : decode cX7_measureFrom 17 = .ok (.istore_n 2, 1) := by decide +kernel
theorem dX7_measureFrom_18 : decode cX7_measureFrom 18 = .ok (.iload_n 2, 1) := by decide +kernel
theorem dX7_measureFrom_19 : decode cX7_measureFrom 19 = .ok (.bipush 6, 2) := by decide +kernel
theorem dX7_measureFrom_21 : decode cX7_measureFrom 21 = .ok (.if_icmp .ge 59, 3) := by decide +kernel
theorem dX7_measureFrom_24 : decode cX7_measureFrom 24 = .ok (.iconst 0, 1) := by decide +kernel
theorem dX7_measureFrom_25 : decode cX7_measureFrom 25 = .ok (.istore_n 3, 1) := by decide +kernel
theorem dX7_measureFrom_26 : decode cX7_measureFrom 26 = .ok (.iload_n 3, 1) := by decide +kernel
theorem dX7_measureFrom_27 : decode cX7_measureFrom 27 = .ok (.aload_n 0, 1) := by decide +kernel
theorem dX7_measureFrom_28 : decode cX7_measureFrom 28 = .ok (.getfield 24, 3) := by decide +kernel
theorem dX7_measureFrom_31 : decode cX7_measureFrom 31 = .ok (.if_icmp .ge 43, 3) := by decide +kernel
theorem dX7_measureFrom_34 : decode cX7_measureFrom 34 = .ok (.aload_n 0, 1) := by decide +kernel
theorem dX7_measureFrom_35 : decode cX7_measureFrom 35 = .ok (.aload_n 0, 1) := by decide +kernel
theorem dX7_measureFrom_36 : decode cX7_measureFrom 36 = .ok (.getfield 11, 3) := by decide +kernel
theorem dX7_measureFrom_39 : decode cX7_measureFrom 39 = .ok (.iload_n 3, 1) := by decide +kernel
theorem dX7_measureFrom_40 : decode cX7_measureFrom 40 = .ok (.iaload, 1) := by decide +kernel
theorem dX7_measureFrom_41 : decode cX7_measureFrom 41 = .ok (.aload_n 0, 1) := by decide +kernel
theorem dX7_measureFrom_42 : decode cX7_measureFrom 42 = .ok (.getfield 15, 3) := by decide +kernel
theorem dX7_measureFrom_45 : decode cX7_measureFrom 45 = .ok (.iload_n 3, 1) := by decide +kernel
theorem dX7_measureFrom_46 : decode cX7_measureFrom 46 = .ok (.iaload, 1) := by decide +kernel
theorem dX7_measureFrom_47 : decode cX7_measureFrom 47 = .ok (.iload_n 2, 1) := by decide +kernel
theorem dX7_measureFrom_48 : decode cX7_measureFrom 48 = .ok (.invokevirtual 56, 3) := by decide +kernel
theorem dX7_measureFrom_51 : decode cX7_measureFrom 51 = .ok (.aload_n 0, 1) := by decide +kernel
theorem dX7_measureFrom_52 : decode cX7_measureFrom 52 = .ok (.aload_n 0, 1) := by decide +kernel
theorem dX7_measureFrom_53 : decode cX7_measureFrom 53 = .ok (.getfield 15, 3) := by decide +kernel
theorem dX7_measureFrom_56 : decode cX7_measureFrom 56 = .ok (.iload_n 3, 1) := by decide +kernel
theorem dX7_measureFrom_57 : decode cX7_measureFrom 57 = .ok (.iaload, 1) := by decide +kernel
theorem dX7_measureFrom_58 : decode cX7_measureFrom 58 = .ok (.aload_n 0, 1) := by decide +kernel
theorem dX7_measureFrom_59 : decode cX7_measureFrom 59 = .ok (.getfield 11, 3) := by decide +kernel
theorem dX7_measureFrom_62 : decode cX7_measureFrom 62 = .ok (.iload_n 3, 1) := by decide +kernel
theorem dX7_measureFrom_63 : decode cX7_measureFrom 63 = .ok (.iaload, 1) := by decide +kernel
theorem dX7_measureFrom_64 : decode cX7_measureFrom 64 = .ok (.iload_n 2, 1) := by decide +kernel
theorem dX7_measureFrom_65 : decode cX7_measureFrom 65 = .ok (.invokevirtual 56, 3) := by decide +kernel
theorem dX7_measureFrom_68 : decode cX7_measureFrom 68 = .ok (.iinc 3 1, 3) := by decide +kernel
theorem dX7_measureFrom_71 : decode cX7_measureFrom 71 = .ok (.goto (-45), 3) := by decide +kernel
theorem dX7_measureFrom_74 : decode cX7_measureFrom 74 = .ok (.iinc 2 1, 3) := by decide +kernel
theorem dX7_measureFrom_77 : decode cX7_measureFrom 77 = .ok (.goto (-59), 3) := by decide +kernel
theorem dX7_measureFrom_80 : decode cX7_measureFrom 80 = .ok (.return_, 1) := by decide +kernel
theorem dX7_spread_0 : decode cX7_spread 0 = .ok (.aload_n 0, 1) := by decide +kernel
theorem dX7_spread_1 : decode cX7_spread 1 = .ok (.getfield 21, 3) := by decide +kernel
theorem dX7_spread_4 : decode cX7_spread 4 = .ok (.iload_n 1, 1) := by decide +kernel
theorem dX7_spread_5 : decode cX7_spread 5 = .ok (.iaload, 1) := by decide +kernel
theorem dX7_spread_6 : decode cX7_spread 6 = .ok (.iload_n 3, 1) := by decide +kernel
theorem dX7_spread_7 : decode cX7_spread 7 = .ok (.iconst 1, 1) := by decide +kernel
theorem dX7_spread_8 : decode cX7_spread 8 = .ok (.isub, 1) := by decide +kernel
theorem dX7_spread_9 : decode cX7_spread 9 = .ok (.if_icmp .ne 21, 3) := by decide +kernel
theorem dX7_spread_12 : decode cX7_spread 12 = .ok (.aload_n 0, 1) := by decide +kernel
theorem dX7_spread_13 : decode cX7_spread 13 = .ok (.getfield 21, 3) := by decide +kernel
theorem dX7_spread_16 : decode cX7_spread 16 = .ok (.iload_n 2, 1) := by decide +kernel
theorem dX7_spread_17 : decode cX7_spread 17 = .ok (.iaload, 1) := by decide +kernel
theorem dX7_spread_18 : decode cX7_spread 18 = .ok (.ldc 49, 2) := by decide +kernel
theorem dX7_spread_20 : decode cX7_spread 20 = .ok (.if_icmp .ne 10, 3) := by decide +kernel
theorem dX7_spread_23 : decode cX7_spread 23 = .ok (.aload_n 0, 1) := by decide +kernel
theorem dX7_spread_24 : decode cX7_spread 24 = .ok (.getfield 21, 3) := by decide +kernel
theorem dX7_spread_27 : decode cX7_spread 27 = .ok (.iload_n 2, 1) := by decide +kernel
theorem dX7_spread_28 : decode cX7_spread 28 = .ok (.iload_n 3, 1) := by decide +kernel
theorem dX7_spread_29 : decode cX7_spread 29 = .ok (.iastore, 1) := by decide +kernel
theorem dX7_spread_30 : decode cX7_spread 30 = .ok (.return_, 1) := by decide +kernel
theorem dX7_roomsMeasured_0 : decode cX7_roomsMeasured 0 = .ok (.iconst 0, 1) := by decide +kernel
theorem dX7_roomsMeasured_1 : decode cX7_roomsMeasured 1 = .ok (.istore_n 1, 1) := by decide +kernel
theorem dX7_roomsMeasured_2 : decode cX7_roomsMeasured 2 = .ok (.iconst 0, 1) := by decide +kernel
theorem dX7_roomsMeasured_3 : decode cX7_roomsMeasured 3 = .ok (.istore_n 2, 1) := by decide +kernel
theorem dX7_roomsMeasured_4 : decode cX7_roomsMeasured 4 = .ok (.iload_n 2, 1) := by decide +kernel
theorem dX7_roomsMeasured_5 : decode cX7_roomsMeasured 5 = .ok (.bipush 6, 2) := by decide +kernel
theorem dX7_roomsMeasured_7 : decode cX7_roomsMeasured 7 = .ok (.if_icmp .ge 26, 3) := by decide +kernel
theorem dX7_roomsMeasured_10 : decode cX7_roomsMeasured 10 = .ok (.aload_n 0, 1) := by decide +kernel
theorem dX7_roomsMeasured_11 : decode cX7_roomsMeasured 11 = .ok (.getfield 21, 3) := by decide +kernel
theorem dX7_roomsMeasured_14 : decode cX7_roomsMeasured 14 = .ok (.iload_n 2, 1) := by decide +kernel
theorem dX7_roomsMeasured_15 : decode cX7_roomsMeasured 15 = .ok (.iaload, 1) := by decide +kernel
theorem dX7_roomsMeasured_16 : decode cX7_roomsMeasured 16 = .ok (.ldc 49, 2) := by decide +kernel
theorem dX7_roomsMeasured_18 : decode cX7_roomsMeasured 18 = .ok (.if_icmp .eq 9, 3) := by decide +kernel
theorem dX7_roomsMeasured_21 : decode cX7_roomsMeasured 21 = .ok (.iload_n 1, 1) := by decide +kernel
theorem dX7_roomsMeasured_22 : decode cX7_roomsMeasured 22 = .ok (.iconst 1, 1) := by decide +kernel
theorem dX7_roomsMeasured_23 : decode cX7_roomsMeasured 23 = .ok (.iload_n 2, 1) := by decide +kernel
theorem dX7_roomsMeasured_24 : decode cX7_roomsMeasured 24 = .ok (.ishl, 1) := by decide +kernel
theorem dX7_roomsMeasured_25 : decode cX7_roomsMeasured 25 = .ok (.ior, 1) := by decide +kernel
theorem dX7_roomsMeasured_26 : decode cX7_roomsMeasured 26 = .ok (.istore_n 1, 1) := by decide +kernel
theorem dX7_roomsMeasured_27 : decode cX7_roomsMeasured 27 = .ok (.iinc 2 1, 3) := by decide +kernel
theorem dX7_roomsMeasured_30 : decode cX7_roomsMeasured 30 = .ok (.goto (-26), 3) := by decide +kernel
theorem dX7_roomsMeasured_33 : decode cX7_roomsMeasured 33 = .ok (.iload_n 1, 1) := by decide +kernel
theorem dX7_roomsMeasured_34 : decode cX7_roomsMeasured 34 = .ok (.ireturn, 1) := by decide +kernel
theorem dX7_firstDoorFrom_0 : decode cX7_firstDoorFrom 0 = .ok (.aload_n 0, 1) := by decide +kernel
theorem dX7_firstDoorFrom_1 : decode cX7_firstDoorFrom 1 = .ok (.getfield 21, 3) := by decide +kernel
theorem dX7_firstDoorFrom_4 : decode cX7_firstDoorFrom 4 = .ok (.iload_n 1, 1) := by decide +kernel
theorem dX7_firstDoorFrom_5 : decode cX7_firstDoorFrom 5 = .ok (.iaload, 1) := by decide +kernel
theorem dX7_firstDoorFrom_6 : decode cX7_firstDoorFrom 6 = .ok (.iconst 1, 1) := by decide +kernel
theorem dX7_firstDoorFrom_7 : decode cX7_firstDoorFrom 7 = .ok (.isub, 1) := by decide +kernel
theorem dX7_firstDoorFrom_8 : decode cX7_firstDoorFrom 8 = .ok (.istore_n 2, 1) := by decide +kernel
theorem dX7_firstDoorFrom_9 : decode cX7_firstDoorFrom 9 = .ok (.iconst 0, 1) := by decide +kernel
theorem dX7_firstDoorFrom_10 : decode cX7_firstDoorFrom 10 = .ok (.istore_n 3, 1) := by decide +kernel
theorem dX7_firstDoorFrom_11 : decode cX7_firstDoorFrom 11 = .ok (.iload_n 3, 1) := by decide +kernel
theorem dX7_firstDoorFrom_12 : decode cX7_firstDoorFrom 12 = .ok (.aload_n 0, 1) := by decide +kernel
theorem dX7_firstDoorFrom_13 : decode cX7_firstDoorFrom 13 = .ok (.getfield 24, 3) := by decide +kernel
theorem dX7_firstDoorFrom_16 : decode cX7_firstDoorFrom 16 = .ok (.if_icmp .ge 90, 3) := by decide +kernel
theorem dX7_firstDoorFrom_19 : decode cX7_firstDoorFrom 19 = .ok (.aload_n 0, 1) := by decide +kernel
theorem dX7_firstDoorFrom_20 : decode cX7_firstDoorFrom 20 = .ok (.getfield 11, 3) := by decide +kernel
theorem dX7_firstDoorFrom_23 : decode cX7_firstDoorFrom 23 = .ok (.iload_n 3, 1) := by decide +kernel
theorem dX7_firstDoorFrom_24 : decode cX7_firstDoorFrom 24 = .ok (.iaload, 1) := by decide +kernel
theorem dX7_firstDoorFrom_25 : decode cX7_firstDoorFrom 25 = .ok (.iload_n 1, 1) := by decide +kernel
theorem dX7_firstDoorFrom_26 : decode cX7_firstDoorFrom 26 = .ok (.if_icmp .ne 22, 3) := by decide +kernel
theorem dX7_firstDoorFrom_29 : decode cX7_firstDoorFrom 29 = .ok (.aload_n 0, 1) := by decide +kernel
theorem dX7_firstDoorFrom_30 : decode cX7_firstDoorFrom 30 = .ok (.getfield 21, 3) := by decide +kernel
theorem dX7_firstDoorFrom_33 : decode cX7_firstDoorFrom 33 = .ok (.aload_n 0, 1) := by decide +kernel
theorem dX7_firstDoorFrom_34 : decode cX7_firstDoorFrom 34 = .ok (.getfield 15, 3) := by decide +kernel
theorem dX7_firstDoorFrom_37 : decode cX7_firstDoorFrom 37 = .ok (.iload_n 3, 1) := by decide +kernel
theorem dX7_firstDoorFrom_38 : decode cX7_firstDoorFrom 38 = .ok (.iaload, 1) := by decide +kernel
theorem dX7_firstDoorFrom_39 : decode cX7_firstDoorFrom 39 = .ok (.iaload, 1) := by decide +kernel
theorem dX7_firstDoorFrom_40 : decode cX7_firstDoorFrom 40 = .ok (.iload_n 2, 1) := by decide +kernel
theorem dX7_firstDoorFrom_41 : decode cX7_firstDoorFrom 41 = .ok (.if_icmp .ne 7, 3) := by decide +kernel
theorem dX7_firstDoorFrom_44 : decode cX7_firstDoorFrom 44 = .ok (.iconst 1, 1) := by decide +kernel
theorem dX7_firstDoorFrom_45 : decode cX7_firstDoorFrom 45 = .ok (.goto 4, 3) := by decide +kernel
theorem dX7_firstDoorFrom_48 : decode cX7_firstDoorFrom 48 = .ok (.iconst 0, 1) := by decide +kernel
theorem dX7_firstDoorFrom_49 : decode cX7_firstDoorFrom 49 = .ok (.istore 4, 2) := by decide +kernel
theorem dX7_firstDoorFrom_51 : decode cX7_firstDoorFrom 51 = .ok (.aload_n 0, 1) := by decide +kernel
theorem dX7_firstDoorFrom_52 : decode cX7_firstDoorFrom 52 = .ok (.getfield 15, 3) := by decide +kernel
theorem dX7_firstDoorFrom_55 : decode cX7_firstDoorFrom 55 = .ok (.iload_n 3, 1) := by decide +kernel
theorem dX7_firstDoorFrom_56 : decode cX7_firstDoorFrom 56 = .ok (.iaload, 1) := by decide +kernel
theorem dX7_firstDoorFrom_57 : decode cX7_firstDoorFrom 57 = .ok (.iload_n 1, 1) := by decide +kernel
theorem dX7_firstDoorFrom_58 : decode cX7_firstDoorFrom 58 = .ok (.if_icmp .ne 22, 3) := by decide +kernel
theorem dX7_firstDoorFrom_61 : decode cX7_firstDoorFrom 61 = .ok (.aload_n 0, 1) := by decide +kernel
theorem dX7_firstDoorFrom_62 : decode cX7_firstDoorFrom 62 = .ok (.getfield 21, 3) := by decide +kernel
theorem dX7_firstDoorFrom_65 : decode cX7_firstDoorFrom 65 = .ok (.aload_n 0, 1) := by decide +kernel
theorem dX7_firstDoorFrom_66 : decode cX7_firstDoorFrom 66 = .ok (.getfield 11, 3) := by decide +kernel
theorem dX7_firstDoorFrom_69 : decode cX7_firstDoorFrom 69 = .ok (.iload_n 3, 1) := by decide +kernel
theorem dX7_firstDoorFrom_70 : decode cX7_firstDoorFrom 70 = .ok (.iaload, 1) := by decide +kernel
theorem dX7_firstDoorFrom_71 : decode cX7_firstDoorFrom 71 = .ok (.iaload, 1) := by decide +kernel
theorem dX7_firstDoorFrom_72 : decode cX7_firstDoorFrom 72 = .ok (.iload_n 2, 1) := by decide +kernel
theorem dX7_firstDoorFrom_73 : decode cX7_firstDoorFrom 73 = .ok (.if_icmp .ne 7, 3) := by decide +kernel
theorem dX7_firstDoorFrom_76 : decode cX7_firstDoorFrom 76 = .ok (.iconst 1, 1) := by decide +kernel
theorem dX7_firstDoorFrom_77 : decode cX7_firstDoorFrom 77 = .ok (.goto 4, 3) := by decide +kernel
theorem dX7_firstDoorFrom_80 : decode cX7_firstDoorFrom 80 = .ok (.iconst 0, 1) := by decide +kernel
theorem dX7_firstDoorFrom_81 : decode cX7_firstDoorFrom 81 = .ok (.istore 5, 2) := by decide +kernel
theorem dX7_firstDoorFrom_83 : decode cX7_firstDoorFrom 83 = .ok (.iload 4, 2) := by decide +kernel
theorem dX7_firstDoorFrom_85 : decode cX7_firstDoorFrom 85 = .ok (.ifCond .ne 8, 3) := by decide +kernel
theorem dX7_firstDoorFrom_88 : decode cX7_firstDoorFrom 88 = .ok (.iload 5, 2) := by decide +kernel
theorem dX7_firstDoorFrom_90 : decode cX7_firstDoorFrom 90 = .ok (.ifCond .eq 10, 3) := by decide +kernel
theorem dX7_firstDoorFrom_93 : decode cX7_firstDoorFrom 93 = .ok (.aload_n 0, 1) := by decide +kernel
theorem dX7_firstDoorFrom_94 : decode cX7_firstDoorFrom 94 = .ok (.getfield 18, 3) := by decide +kernel
theorem dX7_firstDoorFrom_97 : decode cX7_firstDoorFrom 97 = .ok (.iload_n 3, 1) := by decide +kernel
theorem dX7_firstDoorFrom_98 : decode cX7_firstDoorFrom 98 = .ok (.iaload, 1) := by decide +kernel
theorem dX7_firstDoorFrom_99 : decode cX7_firstDoorFrom 99 = .ok (.ireturn, 1) := by decide +kernel
theorem dX7_firstDoorFrom_100 : decode cX7_firstDoorFrom 100 = .ok (.iinc 3 1, 3) := by decide +kernel
theorem dX7_firstDoorFrom_103 : decode cX7_firstDoorFrom 103 = .ok (.goto (-92), 3) := by decide +kernel
theorem dX7_firstDoorFrom_106 : decode cX7_firstDoorFrom 106 = .ok (.ldc 49, 2) := by decide +kernel
theorem dX7_firstDoorFrom_108 : decode cX7_firstDoorFrom 108 = .ok (.ireturn, 1) := by decide +kernel
theorem dX7_farWith_0 : decode cX7_farWith 0 = .ok (.aload_n 0, 1) := by decide +kernel
theorem dX7_farWith_1 : decode cX7_farWith 1 = .ok (.iload_n 1, 1) := by decide +kernel
theorem dX7_farWith_2 : decode cX7_farWith 2 = .ok (.iload_n 2, 1) := by decide +kernel
theorem dX7_farWith_3 : decode cX7_farWith 3 = .ok (.ldc 49, 2) := by decide +kernel
theorem dX7_farWith_5 : decode cX7_farWith 5 = .ok (.invokevirtual 45, 3) := by decide +kernel
theorem dX7_farWith_8 : decode cX7_farWith 8 = .ok (.aload_n 0, 1) := by decide +kernel
theorem dX7_farWith_9 : decode cX7_farWith 9 = .ok (.iload_n 3, 1) := by decide +kernel
theorem dX7_farWith_10 : decode cX7_farWith 10 = .ok (.invokevirtual 59, 3) := by decide +kernel
theorem dX7_farWith_13 : decode cX7_farWith 13 = .ok (.aload_n 0, 1) := by decide +kernel
theorem dX7_farWith_14 : decode cX7_farWith 14 = .ok (.dup, 1) := by decide +kernel
theorem dX7_farWith_15 : decode cX7_farWith 15 = .ok (.getfield 24, 3) := by decide +kernel
theorem dX7_farWith_18 : decode cX7_farWith 18 = .ok (.iconst 1, 1) := by decide +kernel
theorem dX7_farWith_19 : decode cX7_farWith 19 = .ok (.isub, 1) := by decide +kernel
theorem dX7_farWith_20 : decode cX7_farWith 20 = .ok (.putfield 24, 3) := by decide +kernel
theorem dX7_farWith_23 : decode cX7_farWith 23 = .ok (.aload_n 0, 1) := by decide +kernel
theorem dX7_farWith_24 : decode cX7_farWith 24 = .ok (.getfield 21, 3) := by decide +kernel
theorem dX7_farWith_27 : decode cX7_farWith 27 = .ok (.iload 4, 2) := by decide +kernel
theorem dX7_farWith_29 : decode cX7_farWith 29 = .ok (.iaload, 1) := by decide +kernel
theorem dX7_farWith_30 : decode cX7_farWith 30 = .ok (.ireturn, 1) := by decide +kernel
