theorem dX9_init_0 : decode cX9_init 0 = .ok (.aload_n 0, 1) := by decide +kernel
theorem dX9_init_1 : decode cX9_init 1 = .ok (.invokespecial 1, 3) := by decide +kernel
theorem dX9_init_4 : decode cX9_init 4 = .ok (.aload_n 0, 1) := by decide +kernel
theorem dX9_init_5 : decode cX9_init 5 = .ok (.sipush 3528, 3) := by decide +kernel
theorem dX9_init_8 : decode cX9_init 8 = .ok (.newarray .int, 2) := by decide +kernel
theorem dX9_init_10 : decode cX9_init 10 = .ok (.putfield 7, 3) := by decide +kernel
theorem dX9_init_13 : decode cX9_init 13 = .ok (.aload_n 0, 1) := by decide +kernel
theorem dX9_init_14 : decode cX9_init 14 = .ok (.iconst 2, 1) := by decide +kernel
theorem dX9_init_15 : decode cX9_init 15 = .ok (.newarray .boolean, 2) := by decide +kernel
theorem dX9_init_17 : decode cX9_init 17 = .ok (.putfield 13, 3) := by decide +kernel
theorem dX9_init_20 : decode cX9_init 20 = .ok (.aload_n 0, 1) := by decide +kernel
theorem dX9_init_21 : decode cX9_init 21 = .ok (.bipush 8, 2) := by decide +kernel
theorem dX9_init_23 : decode cX9_init 23 = .ok (.newarray .int, 2) := by decide +kernel
theorem dX9_init_25 : decode cX9_init 25 = .ok (.putfield 17, 3) := by decide +kernel
theorem dX9_init_28 : decode cX9_init 28 = .ok (.aload_n 0, 1) := by decide +kernel
theorem dX9_init_29 : decode cX9_init 29 = .ok (.bipush 8, 2) := by decide +kernel
theorem dX9_init_31 : decode cX9_init 31 = .ok (.newarray .int, 2) := by decide +kernel
theorem dX9_init_33 : decode cX9_init 33 = .ok (.dup, 1) := by decide +kernel
theorem dX9_init_34 : decode cX9_init 34 = .ok (.iconst 0, 1) := by decide +kernel
theorem dX9_init_35 : decode cX9_init 35 = .ok (.iconst (-1), 1) := by decide +kernel
theorem dX9_init_36 : decode cX9_init 36 = .ok (.iastore, 1) := by decide +kernel
theorem dX9_init_37 : decode cX9_init 37 = .ok (.dup, 1) := by decide +kernel
theorem dX9_init_38 : decode cX9_init 38 = .ok (.iconst 1, 1) := by decide +kernel
theorem dX9_init_39 : decode cX9_init 39 = .ok (.iconst (-1), 1) := by decide +kernel
theorem dX9_init_40 : decode cX9_init 40 = .ok (.iastore, 1) := by decide +kernel
theorem dX9_init_41 : decode cX9_init 41 = .ok (.dup, 1) := by decide +kernel
theorem dX9_init_42 : decode cX9_init 42 = .ok (.iconst 2, 1) := by decide +kernel
theorem dX9_init_43 : decode cX9_init 43 = .ok (.iconst (-1), 1) := by decide +kernel
theorem dX9_init_44 : decode cX9_init 44 = .ok (.iastore, 1) := by decide +kernel
theorem dX9_init_45 : decode cX9_init 45 = .ok (.dup, 1) := by decide +kernel
theorem dX9_init_46 : decode cX9_init 46 = .ok (.iconst 3, 1) := by decide +kernel
theorem dX9_init_47 : decode cX9_init 47 = .ok (.iconst (-1), 1) := by decide +kernel
theorem dX9_init_48 : decode cX9_init 48 = .ok (.iastore, 1) := by decide +kernel
theorem dX9_init_49 : decode cX9_init 49 = .ok (.dup, 1) := by decide +kernel
theorem dX9_init_50 : decode cX9_init 50 = .ok (.iconst 4, 1) := by decide +kernel
theorem dX9_init_51 : decode cX9_init 51 = .ok (.iconst (-1), 1) := by decide +kernel
theorem dX9_init_52 : decode cX9_init 52 = .ok (.iastore, 1) := by decide +kernel
theorem dX9_init_53 : decode cX9_init 53 = .ok (.dup, 1) := by decide +kernel
theorem dX9_init_54 : decode cX9_init 54 = .ok (.iconst 5, 1) := by decide +kernel
theorem dX9_init_55 : decode cX9_init 55 = .ok (.iconst (-1), 1) := by decide +kernel
theorem dX9_init_56 : decode cX9_init 56 = .ok (.iastore, 1) := by decide +kernel
theorem dX9_init_57 : decode cX9_init 57 = .ok (.dup, 1) := by decide +kernel
theorem dX9_init_58 : decode cX9_init 58 = .ok (.bipush 6, 2) := by decide +kernel
theorem dX9_init_60 : decode cX9_init 60 = .ok (.iconst (-1), 1) := by decide +kernel
theorem dX9_init_61 : decode cX9_init 61 = .ok (.iastore, 1) := by decide +kernel
theorem dX9_init_62 : decode cX9_init 62 = .ok (.dup, 1) := by decide +kernel
theorem dX9_init_63 : decode cX9_init 63 = .ok (.bipush 7, 2) := by decide +kernel
theorem dX9_init_65 : decode cX9_init 65 = .ok (.iconst (-1), 1) := by decide +kernel
theorem dX9_init_66 : decode cX9_init 66 = .ok (.iastore, 1) := by decide +kernel
theorem dX9_init_67 : decode cX9_init 67 = .ok (.putfield 20, 3) := by decide +kernel
theorem dX9_init_70 : decode cX9_init 70 = .ok (.aload_n 0, 1) := by decide +kernel
theorem dX9_init_71 : decode cX9_init 71 = .ok (.sipush 320, 3) := by decide +kernel
theorem dX9_init_74 : decode cX9_init 74 = .ok (.newarray .int, 2) := by decide +kernel
theorem dX9_init_76 : decode cX9_init 76 = .ok (.putfield 23, 3) := by decide +kernel
theorem dX9_init_79 : decode cX9_init 79 = .ok (.aload_n 0, 1) := by decide +kernel
theorem dX9_init_80 : decode cX9_init 80 = .ok (.bipush 120, 2) := by decide +kernel
theorem dX9_init_82 : decode cX9_init 82 = .ok (.newarray .int, 2) := by decide +kernel
theorem dX9_init_84 : decode cX9_init 84 = .ok (.putfield 26, 3) := by decide +kernel
theorem dX9_init_87 : decode cX9_init 87 = .ok (.aload_n 0, 1) := by decide +kernel
theorem dX9_init_88 : decode cX9_init 88 = .ok (.bipush 16, 2) := by decide +kernel
theorem dX9_init_90 : decode cX9_init 90 = .ok (.newarray .int, 2) := by decide +kernel
theorem dX9_init_92 : decode cX9_init 92 = .ok (.putfield 29, 3) := by decide +kernel
theorem dX9_init_95 : decode cX9_init 95 = .ok (.return_, 1) := by decide +kernel
theorem dX9_in_0 : decode cX9_in 0 = .ok (.lload_n 0, 1) := by decide +kernel
theorem dX9_in_1 : decode cX9_in 1 = .ok (.lload_n 2, 1) := by decide +kernel
theorem dX9_in_2 : decode cX9_in 2 = .ok (.lcmp, 1) := by decide +kernel
theorem dX9_in_3 : decode cX9_in 3 = .ok (.ifCond .lt 14, 3) := by decide +kernel
theorem dX9_in_6 : decode cX9_in 6 = .ok (.lload_n 0, 1) := by decide +kernel
theorem dX9_in_7 : decode cX9_in 7 = .ok (.lload 4, 2) := by decide +kernel
theorem dX9_in_9 : decode cX9_in 9 = .ok (.lcmp, 1) := by decide +kernel
theorem dX9_in_10 : decode cX9_in 10 = .ok (.ifCond .gt 7, 3) := by decide +kernel
theorem dX9_in_13 : decode cX9_in 13 = .ok (.iconst 1, 1) := by decide +kernel
theorem dX9_in_14 : decode cX9_in 14 = .ok (.goto 4, 3) := by decide +kernel
theorem dX9_in_17 : decode cX9_in 17 = .ok (.iconst 0, 1) := by decide +kernel
theorem dX9_in_18 : decode cX9_in 18 = .ok (.ireturn, 1) := by decide +kernel
theorem dX9_has_0 : decode cX9_has 0 = .ok (.iload_n 0, 1) := by decide +kernel
theorem dX9_has_1 : decode cX9_has 1 = .ok (.iload_n 1, 1) := by decide +kernel
theorem dX9_has_2 : decode cX9_has 2 = .ok (.ishr, 1) := by decide +kernel
theorem dX9_has_3 : decode cX9_has 3 = .ok (.iconst 1, 1) := by decide +kernel
theorem dX9_has_4 : decode cX9_has 4 = .ok (.iand, 1) := by decide +kernel
theorem dX9_has_5 : decode cX9_has 5 = .ok (.iconst 1, 1) := by decide +kernel
theorem dX9_has_6 : decode cX9_has 6 = .ok (.if_icmp .ne 7, 3) := by decide +kernel
theorem dX9_has_9 : decode cX9_has 9 = .ok (.iconst 1, 1) := by decide +kernel
theorem dX9_has_10 : decode cX9_has 10 = .ok (.goto 4, 3) := by decide +kernel
theorem dX9_has_13 : decode cX9_has 13 = .ok (.iconst 0, 1) := by decide +kernel
theorem dX9_has_14 : decode cX9_has 14 = .ok (.ireturn, 1) := by decide +kernel
theorem dX9_bits_0 : decode cX9_bits 0 = .ok (.iconst 0, 1) := by decide +kernel
theorem dX9_bits_1 : decode cX9_bits 1 = .ok (.istore_n 1, 1) := by decide +kernel
theorem dX9_bits_2 : decode cX9_bits 2 = .ok (.iconst 0, 1) := by decide +kernel
theorem dX9_bits_3 : decode cX9_bits 3 = .ok (.istore_n 2, 1) := by decide +kernel
theorem dX9_bits_4 : decode cX9_bits 4 = .ok (.iload_n 2, 1) := by decide +kernel
theorem dX9_bits_5 : decode cX9_bits 5 = .ok (.bipush 6, 2) := by decide +kernel
theorem dX9_bits_7 : decode cX9_bits 7 = .ok (.if_icmp .ge 17, 3) := by decide +kernel
theorem dX9_bits_10 : decode cX9_bits 10 = .ok (.iload_n 1, 1) := by decide +kernel
theorem dX9_bits_11 : decode cX9_bits 11 = .ok (.iload_n 0, 1) := by decide +kernel
theorem dX9_bits_12 : decode cX9_bits 12 = .ok (.iload_n 2, 1) := by decide +kernel
theorem dX9_bits_13 : decode cX9_bits 13 = .ok (.ishr, 1) := by decide +kernel
theorem dX9_bits_14 : decode cX9_bits 14 = .ok (.iconst 1, 1) := by decide +kernel
theorem dX9_bits_15 : decode cX9_bits 15 = .ok (.iand, 1) := by decide +kernel
theorem dX9_bits_16 : decode cX9_bits 16 = .ok (.iadd, 1) := by decide +kernel
theorem dX9_bits_17 : decode cX9_bits 17 = .ok (.istore_n 1, 1) := by decide +kernel
theorem dX9_bits_18 : decode cX9_bits 18 = .ok (.iinc 2 1, 3) := by decide +kernel
theorem dX9_bits_21 : decode cX9_bits 21 = .ok (.goto (-17), 3) := by decide +kernel
theorem dX9_bits_24 : decode cX9_bits 24 = .ok (.iload_n 1, 1) := by decide +kernel
theorem dX9_bits_25 : decode cX9_bits 25 = .ok (.ireturn, 1) := by decide +kernel
theorem dX9_find_0 : decode cX9_find 0 = .ok (.aload_n 0, 1) := by decide +kernel
theorem dX9_find_1 : decode cX9_find 1 = .ok (.iload_n 1, 1) := by decide +kernel
theorem dX9_find_2 : decode cX9_find 2 = .ok (.putfield 32, 3) := by decide +kernel
theorem dX9_find_5 : decode cX9_find 5 = .ok (.ldc 36, 2) := by decide +kernel
theorem dX9_find_7 : decode cX9_find 7 = .ok (.iload_n 1, 1) := by decide +kernel
theorem dX9_find_8 : decode cX9_find 8 = .ok (.isub, 1) := by decide +kernel
theorem dX9_find_9 : decode cX9_find 9 = .ok (.ireturn, 1) := by decide +kernel
theorem dX9_well_0 : decode cX9_well 0 = .ok (.aload_n 0, 1) := by decide +kernel
theorem dX9_well_1 : decode cX9_well 1 = .ok (.iconst 0, 1) := by decide +kernel
theorem dX9_well_2 : decode cX9_well 2 = .ok (.putfield 32, 3) := by decide +kernel
theorem dX9_well_5 : decode cX9_well 5 = .ok (.iload_n 1, 1) := by decide +kernel
theorem dX9_well_6 : decode cX9_well 6 = .ok (.ireturn, 1) := by decide +kernel
theorem dX9_isRow_0 : decode cX9_isRow 0 = .ok (.iload_n 0, 1) := by decide +kernel
theorem dX9_isRow_1 : decode cX9_isRow 1 = .ok (.i2l, 1) := by decide +kernel
theorem dX9_isRow_2 : decode cX9_isRow 2 = .ok (.lconst 0, 1) := by decide +kernel
theorem dX9_isRow_3 : decode cX9_isRow 3 = .ok (.ldc2_w 37, 3) := by decide +kernel
theorem dX9_isRow_6 : decode cX9_isRow 6 = .ok (.invokestatic 39, 3) := by decide +kernel
theorem dX9_isRow_9 : decode cX9_isRow 9 = .ok (.ireturn, 1) := by decide +kernel
theorem dX9_row_0 : decode cX9_row 0 = .ok (.iload_n 1, 1) := by decide +kernel
theorem dX9_row_1 : decode cX9_row 1 = .ok (.invokestatic 43, 3) := by decide +kernel
theorem dX9_row_4 : decode cX9_row 4 = .ok (.ifCond .eq 21, 3) := by decide +kernel
theorem dX9_row_7 : decode cX9_row 7 = .ok (.iload_n 2, 1) := by decide +kernel
theorem dX9_row_8 : decode cX9_row 8 = .ok (.i2l, 1) := by decide +kernel
theorem dX9_row_9 : decode cX9_row 9 = .ok (.lconst 0, 1) := by decide +kernel
theorem dX9_row_10 : decode cX9_row 10 = .ok (.ldc2_w 47, 3) := by decide +kernel
theorem dX9_row_13 : decode cX9_row 13 = .ok (.invokestatic 39, 3) := by decide +kernel
theorem dX9_row_16 : decode cX9_row 16 = .ok (.ifCond .eq 9, 3) := by decide +kernel
theorem dX9_row_19 : decode cX9_row 19 = .ok (.iload_n 3, 1) := by decide +kernel
theorem dX9_row_20 : decode cX9_row 20 = .ok (.bipush 40, 2) := by decide +kernel
theorem dX9_row_22 : decode cX9_row 22 = .ok (.if_icmp .le 6, 3) := by decide +kernel
theorem dX9_row_25 : decode cX9_row 25 = .ok (.ldc 49, 2) := by decide +kernel
theorem dX9_row_27 : decode cX9_row 27 = .ok (.ireturn, 1) := by decide +kernel
theorem dX9_row_28 : decode cX9_row 28 = .ok (.iload_n 3, 1) := by decide +kernel
theorem dX9_row_29 : decode cX9_row 29 = .ok (.ifCond .ge 9, 3) := by decide +kernel
theorem dX9_row_32 : decode cX9_row 32 = .ok (.aload_n 0, 1) := by decide +kernel
theorem dX9_row_33 : decode cX9_row 33 = .ok (.iconst 4, 1) := by decide +kernel
theorem dX9_row_34 : decode cX9_row 34 = .ok (.invokevirtual 50, 3) := by decide +kernel
theorem dX9_row_37 : decode cX9_row 37 = .ok (.ireturn, 1) := by decide +kernel
theorem dX9_row_38 : decode cX9_row 38 = .ok (.aload_n 0, 1) := by decide +kernel
theorem dX9_row_39 : decode cX9_row 39 = .ok (.getfield 17, 3) := by decide +kernel
theorem dX9_row_42 : decode cX9_row 42 = .ok (.iload_n 1, 1) := by decide +kernel
theorem dX9_row_43 : decode cX9_row 43 = .ok (.iload_n 2, 1) := by decide +kernel
theorem dX9_row_44 : decode cX9_row 44 = .ok (.iastore, 1) := by decide +kernel
theorem dX9_row_45 : decode cX9_row 45 = .ok (.aload_n 0, 1) := by decide +kernel
theorem dX9_row_46 : decode cX9_row 46 = .ok (.getfield 20, 3) := by decide +kernel
theorem dX9_row_49 : decode cX9_row 49 = .ok (.iload_n 1, 1) := by decide +kernel
theorem dX9_row_50 : decode cX9_row 50 = .ok (.iload_n 3, 1) := by decide +kernel
theorem dX9_row_51 : decode cX9_row 51 = .ok (.iastore, 1) := by decide +kernel
theorem dX9_row_52 : decode cX9_row 52 = .ok (.iconst 0, 1) := by decide +kernel
theorem dX9_row_53 : decode cX9_row 53 = .ok (.istore 4, 2) := by decide +kernel
theorem dX9_row_55 : decode cX9_row 55 = .ok (.iload 4, 2) := by decide +kernel
theorem dX9_row_57 : decode cX9_row 57 = .ok (.bipush 40, 2) := by decide +kernel
theorem dX9_row_59 : decode cX9_row 59 = .ok (.if_icmp .ge 22, 3) := by decide +kernel
theorem dX9_row_62 : decode cX9_row 62 = .ok (.aload_n 0, 1) := by decide +kernel
theorem dX9_row_63 : decode cX9_row 63 = .ok (.getfield 23, 3) := by decide +kernel
theorem dX9_row_66 : decode cX9_row 66 = .ok (.bipush 40, 2) := by decide +kernel
theorem dX9_row_68 : decode cX9_row 68 = .ok (.iload_n 1, 1) := by decide +kernel
theorem dX9_row_69 : decode cX9_row 69 = .ok (.imul, 1) := by decide +kernel
theorem dX9_row_70 : decode cX9_row 70 = .ok (.iload 4, 2) := by decide +kernel
theorem dX9_row_72 : decode cX9_row 72 = .ok (.iadd, 1) := by decide +kernel
theorem dX9_row_73 : decode cX9_row 73 = .ok (.iconst 0, 1) := by decide +kernel
theorem dX9_row_74 : decode cX9_row 74 = .ok (.iastore, 1) := by decide +kernel
theorem dX9_row_75 : decode cX9_row 75 = .ok (.iinc 4 1, 3) := by decide +kernel
theorem dX9_row_78 : decode cX9_row 78 = .ok (.goto (-23), 3) := by decide +kernel
theorem dX9_row_81 : decode cX9_row 81 = .ok (.aload_n 0, 1) := by decide +kernel
theorem dX9_row_82 : decode cX9_row 82 = .ok (.iload_n 3, 1) := by decide +kernel
theorem dX9_row_83 : decode cX9_row 83 = .ok (.invokevirtual 54, 3) := by decide +kernel
theorem dX9_row_86 : decode cX9_row 86 = .ok (.ireturn, 1) := by decide +kernel
theorem dX9_narrow_0 : decode cX9_narrow 0 = .ok (.iload_n 1, 1) := by decide +kernel
theorem dX9_narrow_1 : decode cX9_narrow 1 = .ok (.ifCond .ne 8, 3) := by decide +kernel
theorem dX9_narrow_4 : decode cX9_narrow 4 = .ok (.iload_n 0, 1) := by decide +kernel
theorem dX9_narrow_5 : decode cX9_narrow 5 = .ok (.i2b, 1) := by decide +kernel
theorem dX9_narrow_6 : decode cX9_narrow 6 = .ok (.goto 14, 3) := by decide +kernel
theorem dX9_narrow_9 : decode cX9_narrow 9 = .ok (.iload_n 1, 1) := by decide +kernel
theorem dX9_narrow_10 : decode cX9_narrow 10 = .ok (.iconst 1, 1) := by decide +kernel
theorem dX9_narrow_11 : decode cX9_narrow 11 = .ok (.if_icmp .ne 8, 3) := by decide +kernel
theorem dX9_narrow_14 : decode cX9_narrow 14 = .ok (.iload_n 0, 1) := by decide +kernel
theorem dX9_narrow_15 : decode cX9_narrow 15 = .ok (.i2s, 1) := by decide +kernel
theorem dX9_narrow_16 : decode cX9_narrow 16 = .ok (.goto 4, 3) := by decide +kernel
theorem dX9_narrow_19 : decode cX9_narrow 19 = .ok (.iload_n 0, 1) := by decide +kernel
theorem dX9_narrow_20 : decode cX9_narrow 20 = .ok (.ireturn, 1) := by decide +kernel
theorem dX9_set_0 : decode cX9_set 0 = .ok (.iload_n 1, 1) := by decide +kernel
theorem dX9_set_1 : decode cX9_set 1 = .ok (.invokestatic 43, 3) := by decide +kernel
theorem dX9_set_4 : decode cX9_set 4 = .ok (.ifCond .ne 6, 3) := by decide +kernel
theorem dX9_set_7 : decode cX9_set 7 = .ok (.ldc 49, 2) := by decide +kernel
theorem dX9_set_9 : decode cX9_set 9 = .ok (.ireturn, 1) := by decide +kernel
theorem dX9_set_10 : decode cX9_set 10 = .ok (.aload_n 0, 1) := by decide +kernel
theorem dX9_set_11 : decode cX9_set 11 = .ok (.getfield 20, 3) := by decide +kernel
theorem dX9_set_14 : decode cX9_set 14 = .ok (.iload_n 1, 1) := by decide +kernel
theorem dX9_set_15 : decode cX9_set 15 = .ok (.iaload, 1) := by decide +kernel
theorem dX9_set_16 : decode cX9_set 16 = .ok (.ifCond .ge 9, 3) := by decide +kernel
theorem dX9_set_19 : decode cX9_set 19 = .ok (.aload_n 0, 1) := by decide +kernel
theorem dX9_set_20 : decode cX9_set 20 = .ok (.iconst 1, 1) := by decide +kernel
theorem dX9_set_21 : decode cX9_set 21 = .ok (.invokevirtual 50, 3) := by decide +kernel
theorem dX9_set_24 : decode cX9_set 24 = .ok (.ireturn, 1) := by decide +kernel
theorem dX9_set_25 : decode cX9_set 25 = .ok (.iload_n 2, 1) := by decide +kernel
theorem dX9_set_26 : decode cX9_set 26 = .ok (.i2l, 1) := by decide +kernel
theorem dX9_set_27 : decode cX9_set 27 = .ok (.lconst 0, 1) := by decide +kernel
theorem dX9_set_28 : decode cX9_set 28 = .ok (.aload_n 0, 1) := by decide +kernel
theorem dX9_set_29 : decode cX9_set 29 = .ok (.getfield 20, 3) := by decide +kernel
theorem dX9_set_32 : decode cX9_set 32 = .ok (.iload_n 1, 1) := by decide +kernel
theorem dX9_set_33 : decode cX9_set 33 = .ok (.iaload, 1) := by decide +kernel
theorem dX9_set_34 : decode cX9_set 34 = .ok (.iconst 1, 1) := by decide +kernel
theorem dX9_set_35 : decode cX9_set 35 = .ok (.isub, 1) := by decide +kernel
theorem dX9_set_36 : decode cX9_set 36 = .ok (.i2l, 1) := by decide +kernel
theorem dX9_set_37 : decode cX9_set 37 = .ok (.invokestatic 39, 3) := by decide +kernel
theorem dX9_set_40 : decode cX9_set 40 = .ok (.ifCond .ne 9, 3) := by decide +kernel
theorem dX9_set_43 : decode cX9_set 43 = .ok (.aload_n 0, 1) := by decide +kernel
theorem dX9_set_44 : decode cX9_set 44 = .ok (.iconst 2, 1) := by decide +kernel
theorem dX9_set_45 : decode cX9_set 45 = .ok (.invokevirtual 50, 3) := by decide +kernel
theorem dX9_set_48 : decode cX9_set 48 = .ok (.ireturn, 1) := by decide +kernel
theorem dX9_set_49 : decode cX9_set 49 = .ok (.aload_n 0, 1) := by decide +kernel
theorem dX9_set_50 : decode cX9_set 50 = .ok (.getfield 23, 3) := by decide +kernel
theorem dX9_set_53 : decode cX9_set 53 = .ok (.bipush 40, 2) := by decide +kernel
theorem dX9_set_55 : decode cX9_set 55 = .ok (.iload_n 1, 1) := by decide +kernel
theorem dX9_set_56 : decode cX9_set 56 = .ok (.imul, 1) := by decide +kernel
theorem dX9_set_57 : decode cX9_set 57 = .ok (.iload_n 2, 1) := by decide +kernel
theorem dX9_set_58 : decode cX9_set 58 = .ok (.iadd, 1) := by decide +kernel
theorem dX9_set_59 : decode cX9_set 59 = .ok (.iload_n 3, 1) := by decide +kernel
theorem dX9_set_60 : decode cX9_set 60 = .ok (.aload_n 0, 1) := by decide +kernel
theorem dX9_set_61 : decode cX9_set 61 = .ok (.getfield 17, 3) := by decide +kernel
theorem dX9_set_64 : decode cX9_set 64 = .ok (.iload_n 1, 1) := by decide +kernel
theorem dX9_set_65 : decode cX9_set 65 = .ok (.iaload, 1) := by decide +kernel
theorem dX9_set_66 : decode cX9_set 66 = .ok (.invokestatic 57, 3) := by decide +kernel
theorem dX9_set_69 : decode cX9_set 69 = .ok (.iastore, 1) := by decide +kernel
theorem dX9_set_70 : decode cX9_set 70 = .ok (.aload_n 0, 1) := by decide +kernel
theorem dX9_set_71 : decode cX9_set 71 = .ok (.aload_n 0, 1) := by decide +kernel
theorem dX9_set_72 : decode cX9_set 72 = .ok (.getfield 23, 3) := by decide +kernel
theorem dX9_set_75 : decode cX9_set 75 = .ok (.bipush 40, 2) := by decide +kernel
theorem dX9_set_77 : decode cX9_set 77 = .ok (.iload_n 1, 1) := by decide +kernel
theorem dX9_set_78 : decode cX9_set 78 = .ok (.imul, 1) := by decide +kernel
theorem dX9_set_79 : decode cX9_set 79 = .ok (.iload_n 2, 1) := by decide +kernel
theorem dX9_set_80 : decode cX9_set 80 = .ok (.iadd, 1) := by decide +kernel
theorem dX9_set_81 : decode cX9_set 81 = .ok (.iaload, 1) := by decide +kernel
theorem dX9_set_82 : decode cX9_set 82 = .ok (.invokevirtual 54, 3) := by decide +kernel
theorem dX9_set_85 : decode cX9_set 85 = .ok (.ireturn, 1) := by decide +kernel
theorem dX9_isSpan_0 : decode cX9_isSpan 0 = .ok (.iload_n 2, 1) := by decide +kernel
theorem dX9_isSpan_1 : decode cX9_isSpan 1 = .ok (.ifCond .lt 27, 3) := by decide +kernel
theorem dX9_isSpan_4 : decode cX9_isSpan 4 = .ok (.iload_n 3, 1) := by decide +kernel
theorem dX9_isSpan_5 : decode cX9_isSpan 5 = .ok (.ifCond .lt 23, 3) := by decide +kernel
theorem dX9_isSpan_8 : decode cX9_isSpan 8 = .ok (.iload_n 2, 1) := by decide +kernel
theorem dX9_isSpan_9 : decode cX9_isSpan 9 = .ok (.i2l, 1) := by decide +kernel
theorem dX9_isSpan_10 : decode cX9_isSpan 10 = .ok (.iload_n 3, 1) := by decide +kernel
theorem dX9_isSpan_11 : decode cX9_isSpan 11 = .ok (.i2l, 1) := by decide +kernel
theorem dX9_isSpan_12 : decode cX9_isSpan 12 = .ok (.ladd, 1) := by decide +kernel
theorem dX9_isSpan_13 : decode cX9_isSpan 13 = .ok (.aload_n 0, 1) := by decide +kernel
theorem dX9_isSpan_14 : decode cX9_isSpan 14 = .ok (.getfield 20, 3) := by decide +kernel
theorem dX9_isSpan_17 : decode cX9_isSpan 17 = .ok (.iload_n 1, 1) := by decide +kernel
theorem dX9_isSpan_18 : decode cX9_isSpan 18 = .ok (.iaload, 1) := by decide +kernel
theorem dX9_isSpan_19 : decode cX9_isSpan 19 = .ok (.i2l, 1) := by decide +kernel
theorem dX9_isSpan_20 : decode cX9_isSpan 20 = .ok (.lcmp, 1) := by decide +kernel
theorem dX9_isSpan_21 : decode cX9_isSpan 21 = .ok (.ifCond .gt 7, 3) := by decide +kernel
theorem dX9_isSpan_24 : decode cX9_isSpan 24 = .ok (.iconst 1, 1) := by decide +kernel
theorem dX9_isSpan_25 : decode cX9_isSpan 25 = .ok (.goto 4, 3) := by decide +kernel
theorem dX9_isSpan_28 : decode cX9_isSpan 28 = .ok (.iconst 0, 1) := by decide +kernel
theorem dX9_isSpan_29 : decode cX9_isSpan 29 = .ok (.ireturn, 1) := by decide +kernel
theorem dX9_copy_0 : decode cX9_copy 0 = .ok (.iload_n 1, 1) := by decide +kernel
theorem dX9_copy_1 : decode cX9_copy 1 = .ok (.invokestatic 43, 3) := by decide +kernel
theorem dX9_copy_4 : decode cX9_copy 4 = .ok (.ifCond .eq 10, 3) := by decide +kernel
theorem dX9_copy_7 : decode cX9_copy 7 = .ok (.iload_n 3, 1) := by decide +kernel
theorem dX9_copy_8 : decode cX9_copy 8 = .ok (.invokestatic 43, 3) := by decide +kernel
theorem dX9_copy_11 : decode cX9_copy 11 = .ok (.ifCond .ne 6, 3) := by decide +kernel
theorem dX9_copy_14 : decode cX9_copy 14 = .ok (.ldc 49, 2) := by decide +kernel
theorem dX9_copy_16 : decode cX9_copy 16 = .ok (.ireturn, 1) := by decide +kernel
theorem dX9_copy_17 : decode cX9_copy 17 = .ok (.aload_n 0, 1) := by decide +kernel
theorem dX9_copy_18 : decode cX9_copy 18 = .ok (.getfield 20, 3) := by decide +kernel
theorem dX9_copy_21 : decode cX9_copy 21 = .ok (.iload_n 1, 1) := by decide +kernel
theorem dX9_copy_22 : decode cX9_copy 22 = .ok (.iaload, 1) := by decide +kernel
theorem dX9_copy_23 : decode cX9_copy 23 = .ok (.ifCond .lt 12, 3) := by decide +kernel
theorem dX9_copy_26 : decode cX9_copy 26 = .ok (.aload_n 0, 1) := by decide +kernel
theorem dX9_copy_27 : decode cX9_copy 27 = .ok (.getfield 20, 3) := by decide +kernel
theorem dX9_copy_30 : decode cX9_copy 30 = .ok (.iload_n 3, 1) := by decide +kernel
theorem dX9_copy_31 : decode cX9_copy 31 = .ok (.iaload, 1) := by decide +kernel
theorem dX9_copy_32 : decode cX9_copy 32 = .ok (.ifCond .ge 9, 3) := by decide +kernel
theorem dX9_copy_35 : decode cX9_copy 35 = .ok (.aload_n 0, 1) := by decide +kernel
theorem dX9_copy_36 : decode cX9_copy 36 = .ok (.iconst 1, 1) := by decide +kernel
theorem dX9_copy_37 : decode cX9_copy 37 = .ok (.invokevirtual 50, 3) := by decide +kernel
theorem dX9_copy_40 : decode cX9_copy 40 = .ok (.ireturn, 1) := by decide +kernel
theorem dX9_copy_41 : decode cX9_copy 41 = .ok (.aload_n 0, 1) := by decide +kernel
theorem dX9_copy_42 : decode cX9_copy 42 = .ok (.getfield 17, 3) := by decide +kernel
theorem dX9_copy_45 : decode cX9_copy 45 = .ok (.iload_n 1, 1) := by decide +kernel
theorem dX9_copy_46 : decode cX9_copy 46 = .ok (.iaload, 1) := by decide +kernel
theorem dX9_copy_47 : decode cX9_copy 47 = .ok (.aload_n 0, 1) := by decide +kernel
theorem dX9_copy_48 : decode cX9_copy 48 = .ok (.getfield 17, 3) := by decide +kernel
theorem dX9_copy_51 : decode cX9_copy 51 = .ok (.iload_n 3, 1) := by decide +kernel
theorem dX9_copy_52 : decode cX9_copy 52 = .ok (.iaload, 1) := by decide +kernel
theorem dX9_copy_53 : decode cX9_copy 53 = .ok (.if_icmp .eq 9, 3) := by decide +kernel
theorem dX9_copy_56 : decode cX9_copy 56 = .ok (.aload_n 0, 1) := by decide +kernel
theorem dX9_copy_57 : decode cX9_copy 57 = .ok (.iconst 5, 1) := by decide +kernel
theorem dX9_copy_58 : decode cX9_copy 58 = .ok (.invokevirtual 50, 3) := by decide +kernel
theorem dX9_copy_61 : decode cX9_copy 61 = .ok (.ireturn, 1) := by decide +kernel
theorem dX9_copy_62 : decode cX9_copy 62 = .ok (.aload_n 0, 1) := by decide +kernel
theorem dX9_copy_63 : decode cX9_copy 63 = .ok (.iload_n 1, 1) := by decide +kernel
theorem dX9_copy_64 : decode cX9_copy 64 = .ok (.iload_n 2, 1) := by decide +kernel
theorem dX9_copy_65 : decode cX9_copy 65 = .ok (.iload 5, 2) := by decide +kernel
theorem dX9_copy_67 : decode cX9_copy 67 = .ok (.invokevirtual 61, 3) := by decide +kernel
theorem dX9_copy_70 : decode cX9_copy 70 = .ok (.ifCond .eq 15, 3) := by decide +kernel
theorem dX9_copy_73 : decode cX9_copy 73 = .ok (.aload_n 0, 1) := by decide +kernel
theorem dX9_copy_74 : decode cX9_copy 74 = .ok (.iload_n 3, 1) := by decide +kernel
theorem dX9_copy_75 : decode cX9_copy 75 = .ok (.iload 4, 2) := by decide +kernel
theorem dX9_copy_77 : decode cX9_copy 77 = .ok (.iload 5, 2) := by decide +kernel
theorem dX9_copy_79 : decode cX9_copy 79 = .ok (.invokevirtual 61, 3) := by decide +kernel
theorem dX9_copy_82 : decode cX9_copy 82 = .ok (.ifCond .ne 9, 3) := by decide +kernel
theorem dX9_copy_85 : decode cX9_copy 85 = .ok (.aload_n 0, 1) := by decide +kernel
theorem dX9_copy_86 : decode cX9_copy 86 = .ok (.iconst 2, 1) := by decide +kernel
theorem dX9_copy_87 : decode cX9_copy 87 = .ok (.invokevirtual 50, 3) := by decide +kernel
theorem dX9_copy_90 : decode cX9_copy 90 = .ok (.ireturn, 1) := by decide +kernel
theorem dX9_copy_91 : decode cX9_copy 91 = .ok (.iload_n 2, 1) := by decide +kernel
theorem dX9_copy_92 : decode cX9_copy 92 = .ok (.iload 4, 2) := by decide +kernel
theorem dX9_copy_94 : decode cX9_copy 94 = .ok (.if_icmp .ge 7, 3) := by decide +kernel
theorem dX9_copy_97 : decode cX9_copy 97 = .ok (.iconst 1, 1) := by decide +kernel
theorem dX9_copy_98 : decode cX9_copy 98 = .ok (.goto 4, 3) := by decide +kernel
theorem dX9_copy_101 : decode cX9_copy 101 = .ok (.iconst 0, 1) := by decide +kernel
theorem dX9_copy_102 : decode cX9_copy 102 = .ok (.istore 6, 2) := by decide +kernel
theorem dX9_copy_104 : decode cX9_copy 104 = .ok (.iconst 0, 1) := by decide +kernel
theorem dX9_copy_105 : decode cX9_copy 105 = .ok (.istore 7, 2) := by decide +kernel
theorem dX9_copy_107 : decode cX9_copy 107 = .ok (.iload 7, 2) := by decide +kernel
theorem dX9_copy_109 : decode cX9_copy 109 = .ok (.iload 5, 2) := by decide +kernel
theorem dX9_copy_111 : decode cX9_copy 111 = .ok (.if_icmp .ge 57, 3) := by decide +kernel
theorem dX9_copy_114 : decode cX9_copy 114 = .ok (.iload 6, 2) := by decide +kernel
theorem dX9_copy_116 : decode cX9_copy 116 = .ok (.ifCond .eq 13, 3) := by decide +kernel
theorem dX9_copy_119 : decode cX9_copy 119 = .ok (.iload 5, 2) := by decide +kernel
theorem dX9_copy_121 : decode cX9_copy 121 = .ok (.iconst 1, 1) := by decide +kernel
theorem dX9_copy_122 : decode cX9_copy 122 = .ok (.isub, 1) := by decide +kernel
theorem dX9_copy_123 : decode cX9_copy 123 = .ok (.iload 7, 2) := by decide +kernel
theorem dX9_copy_125 : decode cX9_copy 125 = .ok (.isub, 1) := by decide +kernel
theorem dX9_copy_126 : decode cX9_copy 126 = .ok (.goto 5, 3) := by decide +kernel
theorem dX9_copy_129 : decode cX9_copy 129 = .ok (.iload 7, 2) := by decide +kernel
theorem dX9_copy_131 : decode cX9_copy 131 = .ok (.istore 8, 2) := by decide +kernel
theorem dX9_copy_133 : decode cX9_copy 133 = .ok (.aload_n 0, 1) := by decide +kernel
theorem dX9_copy_134 : decode cX9_copy 134 = .ok (.getfield 23, 3) := by decide +kernel
theorem dX9_copy_137 : decode cX9_copy 137 = .ok (.bipush 40, 2) := by decide +kernel
theorem dX9_copy_139 : decode cX9_copy 139 = .ok (.iload_n 3, 1) := by decide +kernel
theorem dX9_copy_140 : decode cX9_copy 140 = .ok (.imul, 1) := by decide +kernel
theorem dX9_copy_141 : decode cX9_copy 141 = .ok (.iload 4, 2) := by decide +kernel
theorem dX9_copy_143 : decode cX9_copy 143 = .ok (.iadd, 1) := by decide +kernel
theorem dX9_copy_144 : decode cX9_copy 144 = .ok (.iload 8, 2) := by decide +kernel
theorem dX9_copy_146 : decode cX9_copy 146 = .ok (.iadd, 1) := by decide +kernel
theorem dX9_copy_147 : decode cX9_copy 147 = .ok (.aload_n 0, 1) := by decide +kernel
theorem dX9_copy_148 : decode cX9_copy 148 = .ok (.getfield 23, 3) := by decide +kernel
theorem dX9_copy_151 : decode cX9_copy 151 = .ok (.bipush 40, 2) := by decide +kernel
theorem dX9_copy_153 : decode cX9_copy 153 = .ok (.iload_n 1, 1) := by decide +kernel
theorem dX9_copy_154 : decode cX9_copy 154 = .ok (.imul, 1) := by decide +kernel
theorem dX9_copy_155 : decode cX9_copy 155 = .ok (.iload_n 2, 1) := by decide +kernel
theorem dX9_copy_156 : decode cX9_copy 156 = .ok (.iadd, 1) := by decide +kernel
theorem dX9_copy_157 : decode cX9_copy 157 = .ok (.iload 8, 2) := by decide +kernel
theorem dX9_copy_159 : decode cX9_copy 159 = .ok (.iadd, 1) := by decide +kernel
theorem dX9_copy_160 : decode cX9_copy 160 = .ok (.iaload, 1) := by decide +kernel
theorem dX9_copy_161 : decode cX9_copy 161 = .ok (.iastore, 1) := by decide +kernel
theorem dX9_copy_162 : decode cX9_copy 162 = .ok (.iinc 7 1, 3) := by decide +kernel
theorem dX9_copy_165 : decode cX9_copy 165 = .ok (.goto (-58), 3) := by decide +kernel
theorem dX9_copy_168 : decode cX9_copy 168 = .ok (.aload_n 0, 1) := by decide +kernel
theorem dX9_copy_169 : decode cX9_copy 169 = .ok (.iload 5, 2) := by decide +kernel
theorem dX9_copy_171 : decode cX9_copy 171 = .ok (.invokevirtual 54, 3) := by decide +kernel
theorem dX9_copy_174 : decode cX9_copy 174 = .ok (.ireturn, 1) := by decide +kernel
theorem dX9_drop_0 : decode cX9_drop 0 = .ok (.iload_n 1, 1) := by decide +kernel
theorem dX9_drop_1 : decode cX9_drop 1 = .ok (.invokestatic 43, 3) := by decide +kernel
theorem dX9_drop_4 : decode cX9_drop 4 = .ok (.ifCond .ne 6, 3) := by decide +kernel
theorem dX9_drop_7 : decode cX9_drop 7 = .ok (.ldc 49, 2) := by decide +kernel
theorem dX9_drop_9 : decode cX9_drop 9 = .ok (.ireturn, 1) := by decide +kernel
theorem dX9_drop_10 : decode cX9_drop 10 = .ok (.aload_n 0, 1) := by decide +kernel
theorem dX9_drop_11 : decode cX9_drop 11 = .ok (.getfield 20, 3) := by decide +kernel
theorem dX9_drop_14 : decode cX9_drop 14 = .ok (.iload_n 1, 1) := by decide +kernel
theorem dX9_drop_15 : decode cX9_drop 15 = .ok (.iaload, 1) := by decide +kernel
theorem dX9_drop_16 : decode cX9_drop 16 = .ok (.ifCond .ge 9, 3) := by decide +kernel
theorem dX9_drop_19 : decode cX9_drop 19 = .ok (.aload_n 0, 1) := by decide +kernel
theorem dX9_drop_20 : decode cX9_drop 20 = .ok (.iconst 1, 1) := by decide +kernel
theorem dX9_drop_21 : decode cX9_drop 21 = .ok (.invokevirtual 50, 3) := by decide +kernel
theorem dX9_drop_24 : decode cX9_drop 24 = .ok (.ireturn, 1) := by decide +kernel
theorem dX9_drop_25 : decode cX9_drop 25 = .ok (.aload_n 0, 1) := by decide +kernel
theorem dX9_drop_26 : decode cX9_drop 26 = .ok (.getfield 20, 3) := by decide +kernel
theorem dX9_drop_29 : decode cX9_drop 29 = .ok (.iload_n 1, 1) := by decide +kernel
theorem dX9_drop_30 : decode cX9_drop 30 = .ok (.iaload, 1) := by decide +kernel
theorem dX9_drop_31 : decode cX9_drop 31 = .ok (.istore_n 2, 1) := by decide +kernel
theorem dX9_drop_32 : decode cX9_drop 32 = .ok (.aload_n 0, 1) := by decide +kernel
theorem dX9_drop_33 : decode cX9_drop 33 = .ok (.getfield 20, 3) := by decide +kernel
theorem dX9_drop_36 : decode cX9_drop 36 = .ok (.iload_n 1, 1) := by decide +kernel
theorem dX9_drop_37 : decode cX9_drop 37 = .ok (.iconst (-1), 1) := by decide +kernel
theorem dX9_drop_38 : decode cX9_drop 38 = .ok (.iastore, 1) := by decide +kernel
theorem dX9_drop_39 : decode cX9_drop 39 = .ok (.aload_n 0, 1) := by decide +kernel
theorem dX9_drop_40 : decode cX9_drop 40 = .ok (.iload_n 2, 1) := by decide +kernel
theorem dX9_drop_41 : decode cX9_drop 41 = .ok (.invokevirtual 54, 3) := by decide +kernel
theorem dX9_drop_44 : decode cX9_drop 44 = .ok (.ireturn, 1) := by decide +kernel
theorem dX9_feed_0 : decode cX9_feed 0 = .ok (.iload_n 1, 1) := by decide +kernel
theorem dX9_feed_1 : decode cX9_feed 1 = .ok (.i2l, 1) := by decide +kernel
theorem dX9_feed_2 : decode cX9_feed 2 = .ok (.lconst 0, 1) := by decide +kernel
theorem dX9_feed_3 : decode cX9_feed 3 = .ok (.ldc2_w 65, 3) := by decide +kernel
theorem dX9_feed_6 : decode cX9_feed 6 = .ok (.invokestatic 39, 3) := by decide +kernel
theorem dX9_feed_9 : decode cX9_feed 9 = .ok (.ifCond .ne 6, 3) := by decide +kernel
theorem dX9_feed_12 : decode cX9_feed 12 = .ok (.ldc 49, 2) := by decide +kernel
theorem dX9_feed_14 : decode cX9_feed 14 = .ok (.ireturn, 1) := by decide +kernel
theorem dX9_feed_15 : decode cX9_feed 15 = .ok (.aload_n 0, 1) := by decide +kernel
theorem dX9_feed_16 : decode cX9_feed 16 = .ok (.getfield 67, 3) := by decide +kernel
theorem dX9_feed_19 : decode cX9_feed 19 = .ok (.bipush 120, 2) := by decide +kernel
theorem dX9_feed_21 : decode cX9_feed 21 = .ok (.if_icmp .ne 6, 3) := by decide +kernel
theorem dX9_feed_24 : decode cX9_feed 24 = .ok (.ldc 70, 2) := by decide +kernel
theorem dX9_feed_26 : decode cX9_feed 26 = .ok (.ireturn, 1) := by decide +kernel
theorem dX9_feed_27 : decode cX9_feed 27 = .ok (.aload_n 0, 1) := by decide +kernel
theorem dX9_feed_28 : decode cX9_feed 28 = .ok (.getfield 26, 3) := by decide +kernel
theorem dX9_feed_31 : decode cX9_feed 31 = .ok (.aload_n 0, 1) := by decide +kernel
theorem dX9_feed_32 : decode cX9_feed 32 = .ok (.getfield 67, 3) := by decide +kernel
theorem dX9_feed_35 : decode cX9_feed 35 = .ok (.iload_n 1, 1) := by decide +kernel
theorem dX9_feed_36 : decode cX9_feed 36 = .ok (.iastore, 1) := by decide +kernel
theorem dX9_feed_37 : decode cX9_feed 37 = .ok (.aload_n 0, 1) := by decide +kernel
theorem dX9_feed_38 : decode cX9_feed 38 = .ok (.dup, 1) := by decide +kernel
theorem dX9_feed_39 : decode cX9_feed 39 = .ok (.getfield 67, 3) := by decide +kernel
theorem dX9_feed_42 : decode cX9_feed 42 = .ok (.iconst 1, 1) := by decide +kernel
theorem dX9_feed_43 : decode cX9_feed 43 = .ok (.iadd, 1) := by decide +kernel
theorem dX9_feed_44 : decode cX9_feed 44 = .ok (.putfield 67, 3) := by decide +kernel
theorem dX9_feed_47 : decode cX9_feed 47 = .ok (.aload_n 0, 1) := by decide +kernel
theorem dX9_feed_48 : decode cX9_feed 48 = .ok (.getfield 67, 3) := by decide +kernel
theorem dX9_feed_51 : decode cX9_feed 51 = .ok (.ireturn, 1) := by decide +kernel
theorem dX9_isLetter_0 : decode cX9_isLetter 0 = .ok (.aload_n 0, 1) := by decide +kernel
theorem dX9_isLetter_1 : decode cX9_isLetter 1 = .ok (.getfield 71, 3) := by decide +kernel
theorem dX9_isLetter_4 : decode cX9_isLetter 4 = .ok (.aload_n 0, 1) := by decide +kernel
theorem dX9_isLetter_5 : decode cX9_isLetter 5 = .ok (.getfield 67, 3) := by decide +kernel
theorem dX9_isLetter_8 : decode cX9_isLetter 8 = .ok (.if_icmp .ge 20, 3) := by decide +kernel
theorem dX9_isLetter_11 : decode cX9_isLetter 11 = .ok (.aload_n 0, 1) := by decide +kernel
theorem dX9_isLetter_12 : decode cX9_isLetter 12 = .ok (.getfield 26, 3) := by decide +kernel
theorem dX9_isLetter_15 : decode cX9_isLetter 15 = .ok (.aload_n 0, 1) := by decide +kernel
theorem dX9_isLetter_16 : decode cX9_isLetter 16 = .ok (.getfield 71, 3) := by decide +kernel
theorem dX9_isLetter_19 : decode cX9_isLetter 19 = .ok (.iaload, 1) := by decide +kernel
theorem dX9_isLetter_20 : decode cX9_isLetter 20 = .ok (.iload_n 1, 1) := by decide +kernel
theorem dX9_isLetter_21 : decode cX9_isLetter 21 = .ok (.if_icmp .ne 7, 3) := by decide +kernel
theorem dX9_isLetter_24 : decode cX9_isLetter 24 = .ok (.iconst 1, 1) := by decide +kernel
theorem dX9_isLetter_25 : decode cX9_isLetter 25 = .ok (.goto 4, 3) := by decide +kernel
theorem dX9_isLetter_28 : decode cX9_isLetter 28 = .ok (.iconst 0, 1) := by decide +kernel
theorem dX9_isLetter_29 : decode cX9_isLetter 29 = .ok (.ireturn, 1) := by decide +kernel
theorem dX9_isFigure_0 : decode cX9_isFigure 0 = .ok (.iload_n 1, 1) := by decide +kernel
theorem dX9_isFigure_1 : decode cX9_isFigure 1 = .ok (.aload_n 0, 1) := by decide +kernel
theorem dX9_isFigure_2 : decode cX9_isFigure 2 = .ok (.getfield 67, 3) := by decide +kernel
theorem dX9_isFigure_5 : decode cX9_isFigure 5 = .ok (.if_icmp .ge 26, 3) := by decide +kernel
theorem dX9_isFigure_8 : decode cX9_isFigure 8 = .ok (.aload_n 0, 1) := by decide +kernel
theorem dX9_isFigure_9 : decode cX9_isFigure 9 = .ok (.getfield 26, 3) := by decide +kernel
theorem dX9_isFigure_12 : decode cX9_isFigure 12 = .ok (.iload_n 1, 1) := by decide +kernel
theorem dX9_isFigure_13 : decode cX9_isFigure 13 = .ok (.iaload, 1) := by decide +kernel
theorem dX9_isFigure_14 : decode cX9_isFigure 14 = .ok (.i2l, 1) := by decide +kernel
theorem dX9_isFigure_15 : decode cX9_isFigure 15 = .ok (.ldc2_w 74, 3) := by decide +kernel
theorem dX9_isFigure_18 : decode cX9_isFigure 18 = .ok (.ldc2_w 76, 3) := by decide +kernel
theorem dX9_isFigure_21 : decode cX9_isFigure 21 = .ok (.invokestatic 39, 3) := by decide +kernel
theorem dX9_isFigure_24 : decode cX9_isFigure 24 = .ok (.ifCond .eq 7, 3) := by decide +kernel
theorem dX9_isFigure_27 : decode cX9_isFigure 27 = .ok (.iconst 1, 1) := by decide +kernel
theorem dX9_isFigure_28 : decode cX9_isFigure 28 = .ok (.goto 4, 3) := by decide +kernel
theorem dX9_isFigure_31 : decode cX9_isFigure 31 = .ok (.iconst 0, 1) := by decide +kernel
theorem dX9_isFigure_32 : decode cX9_isFigure 32 = .ok (.ireturn, 1) := by decide +kernel
theorem dX9_refuse_0 : decode cX9_refuse 0 = .ok (.aload_n 0, 1) := by decide +kernel
theorem dX9_refuse_1 : decode cX9_refuse 1 = .ok (.iload_n 1, 1) := by decide +kernel
theorem dX9_refuse_2 : decode cX9_refuse 2 = .ok (.putfield 78, 3) := by decide +kernel
theorem dX9_refuse_5 : decode cX9_refuse 5 = .ok (.iconst 0, 1) := by decide +kernel
theorem dX9_refuse_6 : decode cX9_refuse 6 = .ok (.ireturn, 1) := by decide +kernel
theorem dX9_sign_0 : decode cX9_sign 0 = .ok (.aload_n 0, 1) := by decide +kernel
theorem dX9_sign_1 : decode cX9_sign 1 = .ok (.iload_n 1, 1) := by decide +kernel
theorem dX9_sign_2 : decode cX9_sign 2 = .ok (.invokevirtual 81, 3) := by decide +kernel
theorem dX9_sign_5 : decode cX9_sign 5 = .ok (.ifCond .ne 9, 3) := by decide +kernel
theorem dX9_sign_8 : decode cX9_sign 8 = .ok (.aload_n 0, 1) := by decide +kernel
theorem dX9_sign_9 : decode cX9_sign 9 = .ok (.iconst 1, 1) := by decide +kernel
theorem dX9_sign_10 : decode cX9_sign 10 = .ok (.invokevirtual 84, 3) := by decide +kernel
theorem dX9_sign_13 : decode cX9_sign 13 = .ok (.ireturn, 1) := by decide +kernel
theorem dX9_sign_14 : decode cX9_sign 14 = .ok (.aload_n 0, 1) := by decide +kernel
theorem dX9_sign_15 : decode cX9_sign 15 = .ok (.dup, 1) := by decide +kernel
theorem dX9_sign_16 : decode cX9_sign 16 = .ok (.getfield 71, 3) := by decide +kernel
theorem dX9_sign_19 : decode cX9_sign 19 = .ok (.iconst 1, 1) := by decide +kernel
theorem dX9_sign_20 : decode cX9_sign 20 = .ok (.iadd, 1) := by decide +kernel
theorem dX9_sign_21 : decode cX9_sign 21 = .ok (.putfield 71, 3) := by decide +kernel
theorem dX9_sign_24 : decode cX9_sign 24 = .ok (.iconst 1, 1) := by decide +kernel
theorem dX9_sign_25 : decode cX9_sign 25 = .ok (.ireturn, 1) := by decide +kernel
theorem dX9_readsNumber_0 : decode cX9_readsNumber 0 = .ok (.aload_n 0, 1) := by decide +kernel
theorem dX9_readsNumber_1 : decode cX9_readsNumber 1 = .ok (.aload_n 0, 1) := by decide +kernel
theorem dX9_readsNumber_2 : decode cX9_readsNumber 2 = .ok (.getfield 71, 3) := by decide +kernel
theorem dX9_readsNumber_5 : decode cX9_readsNumber 5 = .ok (.invokevirtual 87, 3) := by decide +kernel
theorem dX9_readsNumber_8 : decode cX9_readsNumber 8 = .ok (.ifCond .eq 29, 3) := by decide +kernel
theorem dX9_readsNumber_11 : decode cX9_readsNumber 11 = .ok (.aload_n 0, 1) := by decide +kernel
theorem dX9_readsNumber_12 : decode cX9_readsNumber 12 = .ok (.aload_n 0, 1) := by decide +kernel
theorem dX9_readsNumber_13 : decode cX9_readsNumber 13 = .ok (.getfield 71, 3) := by decide +kernel
theorem dX9_readsNumber_16 : decode cX9_readsNumber 16 = .ok (.iconst 1, 1) := by decide +kernel
theorem dX9_readsNumber_17 : decode cX9_readsNumber 17 = .ok (.iadd, 1) := by decide +kernel
theorem dX9_readsNumber_18 : decode cX9_readsNumber 18 = .ok (.invokevirtual 87, 3) := by decide +kernel
theorem dX9_readsNumber_21 : decode cX9_readsNumber 21 = .ok (.ifCond .eq 22, 3) := by decide +kernel
theorem dX9_readsNumber_24 : decode cX9_readsNumber 24 = .ok (.aload_n 0, 1) := by decide +kernel
theorem dX9_readsNumber_25 : decode cX9_readsNumber 25 = .ok (.aload_n 0, 1) := by decide +kernel
theorem dX9_readsNumber_26 : decode cX9_readsNumber 26 = .ok (.getfield 71, 3) := by decide +kernel
theorem dX9_readsNumber_29 : decode cX9_readsNumber 29 = .ok (.iconst 2, 1) := by decide +kernel
theorem dX9_readsNumber_30 : decode cX9_readsNumber 30 = .ok (.iadd, 1) := by decide +kernel
theorem dX9_readsNumber_31 : decode cX9_readsNumber 31 = .ok (.invokevirtual 87, 3) := by decide +kernel
theorem dX9_readsNumber_34 : decode cX9_readsNumber 34 = .ok (.ifCond .eq 9, 3) := by decide +kernel
theorem dX9_readsNumber_37 : decode cX9_readsNumber 37 = .ok (.aload_n 0, 1) := by decide +kernel
theorem dX9_readsNumber_38 : decode cX9_readsNumber 38 = .ok (.iconst 1, 1) := by decide +kernel
theorem dX9_readsNumber_39 : decode cX9_readsNumber 39 = .ok (.invokevirtual 84, 3) := by decide +kernel
theorem dX9_readsNumber_42 : decode cX9_readsNumber 42 = .ok (.ireturn, 1) := by decide +kernel
theorem dX9_readsNumber_43 : decode cX9_readsNumber 43 = .ok (.aload_n 0, 1) := by decide +kernel
theorem dX9_readsNumber_44 : decode cX9_readsNumber 44 = .ok (.aload_n 0, 1) := by decide +kernel
theorem dX9_readsNumber_45 : decode cX9_readsNumber 45 = .ok (.getfield 26, 3) := by decide +kernel
theorem dX9_readsNumber_48 : decode cX9_readsNumber 48 = .ok (.aload_n 0, 1) := by decide +kernel
theorem dX9_readsNumber_49 : decode cX9_readsNumber 49 = .ok (.getfield 71, 3) := by decide +kernel
theorem dX9_readsNumber_52 : decode cX9_readsNumber 52 = .ok (.iaload, 1) := by decide +kernel
theorem dX9_readsNumber_53 : decode cX9_readsNumber 53 = .ok (.bipush 48, 2) := by decide +kernel
theorem dX9_readsNumber_55 : decode cX9_readsNumber 55 = .ok (.isub, 1) := by decide +kernel
theorem dX9_readsNumber_56 : decode cX9_readsNumber 56 = .ok (.putfield 90, 3) := by decide +kernel
theorem dX9_readsNumber_59 : decode cX9_readsNumber 59 = .ok (.aload_n 0, 1) := by decide +kernel
theorem dX9_readsNumber_60 : decode cX9_readsNumber 60 = .ok (.aload_n 0, 1) := by decide +kernel
theorem dX9_readsNumber_61 : decode cX9_readsNumber 61 = .ok (.getfield 71, 3) := by decide +kernel
theorem dX9_readsNumber_64 : decode cX9_readsNumber 64 = .ok (.iconst 1, 1) := by decide +kernel
theorem dX9_readsNumber_65 : decode cX9_readsNumber 65 = .ok (.iadd, 1) := by decide +kernel
theorem dX9_readsNumber_66 : decode cX9_readsNumber 66 = .ok (.invokevirtual 87, 3) := by decide +kernel
theorem dX9_readsNumber_69 : decode cX9_readsNumber 69 = .ok (.ifCond .eq 7, 3) := by decide +kernel
theorem dX9_readsNumber_72 : decode cX9_readsNumber 72 = .ok (.iconst 2, 1) := by decide +kernel
theorem dX9_readsNumber_73 : decode cX9_readsNumber 73 = .ok (.goto 4, 3) := by decide +kernel
theorem dX9_readsNumber_76 : decode cX9_readsNumber 76 = .ok (.iconst 1, 1) := by decide +kernel
theorem dX9_readsNumber_77 : decode cX9_readsNumber 77 = .ok (.istore_n 3, 1) := by decide +kernel
theorem dX9_readsNumber_78 : decode cX9_readsNumber 78 = .ok (.aload_n 0, 1) := by decide +kernel
theorem dX9_readsNumber_79 : decode cX9_readsNumber 79 = .ok (.iload_n 3, 1) := by decide +kernel
theorem dX9_readsNumber_80 : decode cX9_readsNumber 80 = .ok (.iconst 2, 1) := by decide +kernel
theorem dX9_readsNumber_81 : decode cX9_readsNumber 81 = .ok (.if_icmp .ne 28, 3) := by decide +kernel
theorem dX9_readsNumber_84 : decode cX9_readsNumber 84 = .ok (.bipush 10, 2) := by decide +kernel
theorem dX9_readsNumber_86 : decode cX9_readsNumber 86 = .ok (.aload_n 0, 1) := by decide +kernel
theorem dX9_readsNumber_87 : decode cX9_readsNumber 87 = .ok (.getfield 90, 3) := by decide +kernel
theorem dX9_readsNumber_90 : decode cX9_readsNumber 90 = .ok (.imul, 1) := by decide +kernel
theorem dX9_readsNumber_91 : decode cX9_readsNumber 91 = .ok (.aload_n 0, 1) := by decide +kernel
theorem dX9_readsNumber_92 : decode cX9_readsNumber 92 = .ok (.getfield 26, 3) := by decide +kernel
theorem dX9_readsNumber_95 : decode cX9_readsNumber 95 = .ok (.aload_n 0, 1) := by decide +kernel
theorem dX9_readsNumber_96 : decode cX9_readsNumber 96 = .ok (.getfield 71, 3) := by decide +kernel
theorem dX9_readsNumber_99 : decode cX9_readsNumber 99 = .ok (.iconst 1, 1) := by decide +kernel
theorem dX9_readsNumber_100 : decode cX9_readsNumber 100 = .ok (.iadd, 1) := by decide +kernel
theorem dX9_readsNumber_101 : decode cX9_readsNumber 101 = .ok (.iaload, 1) := by decide +kernel
theorem dX9_readsNumber_102 : decode cX9_readsNumber 102 = .ok (.iadd, 1) := by decide +kernel
theorem dX9_readsNumber_103 : decode cX9_readsNumber 103 = .ok (.bipush 48, 2) := by decide +kernel
theorem dX9_readsNumber_105 : decode cX9_readsNumber 105 = .ok (.isub, 1) := by decide +kernel
theorem dX9_readsNumber_106 : decode cX9_readsNumber 106 = .ok (.goto 7, 3) := by decide +kernel
theorem dX9_readsNumber_109 : decode cX9_readsNumber 109 = .ok (.aload_n 0, 1) := by decide +kernel
theorem dX9_readsNumber_110 : decode cX9_readsNumber 110 = .ok (.getfield 90, 3) := by decide +kernel
theorem dX9_readsNumber_113 : decode cX9_readsNumber 113 = .ok (.putfield 90, 3) := by decide +kernel
theorem dX9_readsNumber_116 : decode cX9_readsNumber 116 = .ok (.aload_n 0, 1) := by decide +kernel
theorem dX9_readsNumber_117 : decode cX9_readsNumber 117 = .ok (.getfield 90, 3) := by decide +kernel
theorem dX9_readsNumber_120 : decode cX9_readsNumber 120 = .ok (.i2l, 1) := by decide +kernel
theorem dX9_readsNumber_121 : decode cX9_readsNumber 121 = .ok (.iload_n 1, 1) := by decide +kernel
theorem dX9_readsNumber_122 : decode cX9_readsNumber 122 = .ok (.i2l, 1) := by decide +kernel
theorem dX9_readsNumber_123 : decode cX9_readsNumber 123 = .ok (.iload_n 2, 1) := by decide +kernel
theorem dX9_readsNumber_124 : decode cX9_readsNumber 124 = .ok (.i2l, 1) := by decide +kernel
theorem dX9_readsNumber_125 : decode cX9_readsNumber 125 = .ok (.invokestatic 39, 3) := by decide +kernel
theorem dX9_readsNumber_128 : decode cX9_readsNumber 128 = .ok (.ifCond .ne 9, 3) := by decide +kernel
theorem dX9_readsNumber_131 : decode cX9_readsNumber 131 = .ok (.aload_n 0, 1) := by decide +kernel
theorem dX9_readsNumber_132 : decode cX9_readsNumber 132 = .ok (.iconst 2, 1) := by decide +kernel
theorem dX9_readsNumber_133 : decode cX9_readsNumber 133 = .ok (.invokevirtual 84, 3) := by decide +kernel
theorem dX9_readsNumber_136 : decode cX9_readsNumber 136 = .ok (.ireturn, 1) := by decide +kernel
theorem dX9_readsNumber_137 : decode cX9_readsNumber 137 = .ok (.aload_n 0, 1) := by decide +kernel
theorem dX9_readsNumber_138 : decode cX9_readsNumber 138 = .ok (.dup, 1) := by decide +kernel
theorem dX9_readsNumber_139 : decode cX9_readsNumber 139 = .ok (.getfield 71, 3) := by decide +kernel
theorem dX9_readsNumber_142 : decode cX9_readsNumber 142 = .ok (.iload_n 3, 1) := by decide +kernel
theorem dX9_readsNumber_143 : decode cX9_readsNumber 143 = .ok (.iadd, 1) := by decide +kernel
theorem dX9_readsNumber_144 : decode cX9_readsNumber 144 = .ok (.putfield 71, 3) := by decide +kernel
theorem dX9_readsNumber_147 : decode cX9_readsNumber 147 = .ok (.iconst 1, 1) := by decide +kernel
theorem dX9_readsNumber_148 : decode cX9_readsNumber 148 = .ok (.ireturn, 1) := by decide +kernel
theorem dX9_readsLaw_0 : decode cX9_readsLaw 0 = .ok (.aload_n 0, 1) := by decide +kernel
theorem dX9_readsLaw_1 : decode cX9_readsLaw 1 = .ok (.bipush 104, 2) := by decide +kernel
theorem dX9_readsLaw_3 : decode cX9_readsLaw 3 = .ok (.invokevirtual 93, 3) := by decide +kernel
theorem dX9_readsLaw_6 : decode cX9_readsLaw 6 = .ok (.ifCond .eq 13, 3) := by decide +kernel
theorem dX9_readsLaw_9 : decode cX9_readsLaw 9 = .ok (.aload_n 0, 1) := by decide +kernel
theorem dX9_readsLaw_10 : decode cX9_readsLaw 10 = .ok (.iconst 2, 1) := by decide +kernel
theorem dX9_readsLaw_11 : decode cX9_readsLaw 11 = .ok (.bipush 6, 2) := by decide +kernel
theorem dX9_readsLaw_13 : decode cX9_readsLaw 13 = .ok (.invokevirtual 96, 3) := by decide +kernel
theorem dX9_readsLaw_16 : decode cX9_readsLaw 16 = .ok (.ifCond .ne 5, 3) := by decide +kernel
theorem dX9_readsLaw_19 : decode cX9_readsLaw 19 = .ok (.iconst 0, 1) := by decide +kernel
theorem dX9_readsLaw_20 : decode cX9_readsLaw 20 = .ok (.ireturn, 1) := by decide +kernel
theorem dX9_readsLaw_21 : decode cX9_readsLaw 21 = .ok (.aload_n 0, 1) := by decide +kernel
theorem dX9_readsLaw_22 : decode cX9_readsLaw 22 = .ok (.getfield 7, 3) := by decide +kernel
theorem dX9_readsLaw_25 : decode cX9_readsLaw 25 = .ok (.sipush 3402, 3) := by decide +kernel
theorem dX9_readsLaw_28 : decode cX9_readsLaw 28 = .ok (.aload_n 0, 1) := by decide +kernel
theorem dX9_readsLaw_29 : decode cX9_readsLaw 29 = .ok (.getfield 90, 3) := by decide +kernel
theorem dX9_readsLaw_32 : decode cX9_readsLaw 32 = .ok (.iastore, 1) := by decide +kernel
theorem dX9_readsLaw_33 : decode cX9_readsLaw 33 = .ok (.aload_n 0, 1) := by decide +kernel
theorem dX9_readsLaw_34 : decode cX9_readsLaw 34 = .ok (.bipush 44, 2) := by decide +kernel
theorem dX9_readsLaw_36 : decode cX9_readsLaw 36 = .ok (.invokevirtual 93, 3) := by decide +kernel
theorem dX9_readsLaw_39 : decode cX9_readsLaw 39 = .ok (.ifCond .eq 13, 3) := by decide +kernel
theorem dX9_readsLaw_42 : decode cX9_readsLaw 42 = .ok (.aload_n 0, 1) := by decide +kernel
theorem dX9_readsLaw_43 : decode cX9_readsLaw 43 = .ok (.iconst 0, 1) := by decide +kernel
theorem dX9_readsLaw_44 : decode cX9_readsLaw 44 = .ok (.bipush 9, 2) := by decide +kernel
theorem dX9_readsLaw_46 : decode cX9_readsLaw 46 = .ok (.invokevirtual 96, 3) := by decide +kernel
theorem dX9_readsLaw_49 : decode cX9_readsLaw 49 = .ok (.ifCond .ne 5, 3) := by decide +kernel
theorem dX9_readsLaw_52 : decode cX9_readsLaw 52 = .ok (.iconst 0, 1) := by decide +kernel
theorem dX9_readsLaw_53 : decode cX9_readsLaw 53 = .ok (.ireturn, 1) := by decide +kernel
theorem dX9_readsLaw_54 : decode cX9_readsLaw 54 = .ok (.aload_n 0, 1) := by decide +kernel
theorem dX9_readsLaw_55 : decode cX9_readsLaw 55 = .ok (.getfield 7, 3) := by decide +kernel
theorem dX9_readsLaw_58 : decode cX9_readsLaw 58 = .ok (.sipush 3403, 3) := by decide +kernel
theorem dX9_readsLaw_61 : decode cX9_readsLaw 61 = .ok (.aload_n 0, 1) := by decide +kernel
theorem dX9_readsLaw_62 : decode cX9_readsLaw 62 = .ok (.getfield 90, 3) := by decide +kernel
theorem dX9_readsLaw_65 : decode cX9_readsLaw 65 = .ok (.iastore, 1) := by decide +kernel
theorem dX9_readsLaw_66 : decode cX9_readsLaw 66 = .ok (.aload_n 0, 1) := by decide +kernel
theorem dX9_readsLaw_67 : decode cX9_readsLaw 67 = .ok (.bipush 59, 2) := by decide +kernel
theorem dX9_readsLaw_69 : decode cX9_readsLaw 69 = .ok (.invokevirtual 93, 3) := by decide +kernel
theorem dX9_readsLaw_72 : decode cX9_readsLaw 72 = .ok (.ireturn, 1) := by decide +kernel
theorem dX9_readsDoor_0 : decode cX9_readsDoor 0 = .ok (.aload_n 0, 1) := by decide +kernel
theorem dX9_readsDoor_1 : decode cX9_readsDoor 1 = .ok (.getfield 7, 3) := by decide +kernel
theorem dX9_readsDoor_4 : decode cX9_readsDoor 4 = .ok (.sipush 3404, 3) := by decide +kernel
theorem dX9_readsDoor_7 : decode cX9_readsDoor 7 = .ok (.iaload, 1) := by decide +kernel
theorem dX9_readsDoor_8 : decode cX9_readsDoor 8 = .ok (.istore_n 1, 1) := by decide +kernel
theorem dX9_readsDoor_9 : decode cX9_readsDoor 9 = .ok (.iload_n 1, 1) := by decide +kernel
theorem dX9_readsDoor_10 : decode cX9_readsDoor 10 = .ok (.bipush 6, 2) := by decide +kernel
theorem dX9_readsDoor_12 : decode cX9_readsDoor 12 = .ok (.if_icmp .ne 9, 3) := by decide +kernel
theorem dX9_readsDoor_15 : decode cX9_readsDoor 15 = .ok (.aload_n 0, 1) := by decide +kernel
theorem dX9_readsDoor_16 : decode cX9_readsDoor 16 = .ok (.iconst 3, 1) := by decide +kernel
theorem dX9_readsDoor_17 : decode cX9_readsDoor 17 = .ok (.invokevirtual 84, 3) := by decide +kernel
theorem dX9_readsDoor_20 : decode cX9_readsDoor 20 = .ok (.ireturn, 1) := by decide +kernel
theorem dX9_readsDoor_21 : decode cX9_readsDoor 21 = .ok (.aload_n 0, 1) := by decide +kernel
theorem dX9_readsDoor_22 : decode cX9_readsDoor 22 = .ok (.dup, 1) := by decide +kernel
theorem dX9_readsDoor_23 : decode cX9_readsDoor 23 = .ok (.getfield 71, 3) := by decide +kernel
theorem dX9_readsDoor_26 : decode cX9_readsDoor 26 = .ok (.iconst 1, 1) := by decide +kernel
theorem dX9_readsDoor_27 : decode cX9_readsDoor 27 = .ok (.iadd, 1) := by decide +kernel
theorem dX9_readsDoor_28 : decode cX9_readsDoor 28 = .ok (.putfield 71, 3) := by decide +kernel
theorem dX9_readsDoor_31 : decode cX9_readsDoor 31 = .ok (.aload_n 0, 1) := by decide +kernel
theorem dX9_readsDoor_32 : decode cX9_readsDoor 32 = .ok (.iconst 0, 1) := by decide +kernel
theorem dX9_readsDoor_33 : decode cX9_readsDoor 33 = .ok (.aload_n 0, 1) := by decide +kernel
theorem dX9_readsDoor_34 : decode cX9_readsDoor 34 = .ok (.getfield 7, 3) := by decide +kernel
theorem dX9_readsDoor_37 : decode cX9_readsDoor 37 = .ok (.sipush 3402, 3) := by decide +kernel
theorem dX9_readsDoor_40 : decode cX9_readsDoor 40 = .ok (.iaload, 1) := by decide +kernel
theorem dX9_readsDoor_41 : decode cX9_readsDoor 41 = .ok (.iconst 1, 1) := by decide +kernel
theorem dX9_readsDoor_42 : decode cX9_readsDoor 42 = .ok (.isub, 1) := by decide +kernel
theorem dX9_readsDoor_43 : decode cX9_readsDoor 43 = .ok (.invokevirtual 96, 3) := by decide +kernel
theorem dX9_readsDoor_46 : decode cX9_readsDoor 46 = .ok (.ifCond .ne 5, 3) := by decide +kernel
theorem dX9_readsDoor_49 : decode cX9_readsDoor 49 = .ok (.iconst 0, 1) := by decide +kernel
theorem dX9_readsDoor_50 : decode cX9_readsDoor 50 = .ok (.ireturn, 1) := by decide +kernel
theorem dX9_readsDoor_51 : decode cX9_readsDoor 51 = .ok (.aload_n 0, 1) := by decide +kernel
theorem dX9_readsDoor_52 : decode cX9_readsDoor 52 = .ok (.getfield 90, 3) := by decide +kernel
theorem dX9_readsDoor_55 : decode cX9_readsDoor 55 = .ok (.istore_n 2, 1) := by decide +kernel
theorem dX9_readsDoor_56 : decode cX9_readsDoor 56 = .ok (.aload_n 0, 1) := by decide +kernel
theorem dX9_readsDoor_57 : decode cX9_readsDoor 57 = .ok (.bipush 44, 2) := by decide +kernel
theorem dX9_readsDoor_59 : decode cX9_readsDoor 59 = .ok (.invokevirtual 93, 3) := by decide +kernel
theorem dX9_readsDoor_62 : decode cX9_readsDoor 62 = .ok (.ifCond .ne 5, 3) := by decide +kernel
theorem dX9_readsDoor_65 : decode cX9_readsDoor 65 = .ok (.iconst 0, 1) := by decide +kernel
theorem dX9_readsDoor_66 : decode cX9_readsDoor 66 = .ok (.ireturn, 1) := by decide +kernel
theorem dX9_readsDoor_67 : decode cX9_readsDoor 67 = .ok (.aload_n 0, 1) := by decide +kernel
theorem dX9_readsDoor_68 : decode cX9_readsDoor 68 = .ok (.getfield 71, 3) := by decide +kernel
theorem dX9_readsDoor_71 : decode cX9_readsDoor 71 = .ok (.istore_n 3, 1) := by decide +kernel
theorem dX9_readsDoor_72 : decode cX9_readsDoor 72 = .ok (.aload_n 0, 1) := by decide +kernel
theorem dX9_readsDoor_73 : decode cX9_readsDoor 73 = .ok (.iconst 0, 1) := by decide +kernel
theorem dX9_readsDoor_74 : decode cX9_readsDoor 74 = .ok (.aload_n 0, 1) := by decide +kernel
theorem dX9_readsDoor_75 : decode cX9_readsDoor 75 = .ok (.getfield 7, 3) := by decide +kernel
theorem dX9_readsDoor_78 : decode cX9_readsDoor 78 = .ok (.sipush 3402, 3) := by decide +kernel
theorem dX9_readsDoor_81 : decode cX9_readsDoor 81 = .ok (.iaload, 1) := by decide +kernel
theorem dX9_readsDoor_82 : decode cX9_readsDoor 82 = .ok (.iconst 1, 1) := by decide +kernel
theorem dX9_readsDoor_83 : decode cX9_readsDoor 83 = .ok (.isub, 1) := by decide +kernel
theorem dX9_readsDoor_84 : decode cX9_readsDoor 84 = .ok (.invokevirtual 96, 3) := by decide +kernel
theorem dX9_readsDoor_87 : decode cX9_readsDoor 87 = .ok (.ifCond .ne 5, 3) := by decide +kernel
theorem dX9_readsDoor_90 : decode cX9_readsDoor 90 = .ok (.iconst 0, 1) := by decide +kernel
theorem dX9_readsDoor_91 : decode cX9_readsDoor 91 = .ok (.ireturn, 1) := by decide +kernel
theorem dX9_readsDoor_92 : decode cX9_readsDoor 92 = .ok (.aload_n 0, 1) := by decide +kernel
theorem dX9_readsDoor_93 : decode cX9_readsDoor 93 = .ok (.getfield 90, 3) := by decide +kernel
theorem dX9_readsDoor_96 : decode cX9_readsDoor 96 = .ok (.iload_n 2, 1) := by decide +kernel
theorem dX9_readsDoor_97 : decode cX9_readsDoor 97 = .ok (.if_icmp .ne 14, 3) := by decide +kernel
theorem dX9_readsDoor_100 : decode cX9_readsDoor 100 = .ok (.aload_n 0, 1) := by decide +kernel
theorem dX9_readsDoor_101 : decode cX9_readsDoor 101 = .ok (.iload_n 3, 1) := by decide +kernel
theorem dX9_readsDoor_102 : decode cX9_readsDoor 102 = .ok (.putfield 71, 3) := by decide +kernel
theorem dX9_readsDoor_105 : decode cX9_readsDoor 105 = .ok (.aload_n 0, 1) := by decide +kernel
theorem dX9_readsDoor_106 : decode cX9_readsDoor 106 = .ok (.iconst 2, 1) := by decide +kernel
theorem dX9_readsDoor_107 : decode cX9_readsDoor 107 = .ok (.invokevirtual 84, 3) := by decide +kernel
theorem dX9_readsDoor_110 : decode cX9_readsDoor 110 = .ok (.ireturn, 1) := by decide +kernel
theorem dX9_readsDoor_111 : decode cX9_readsDoor 111 = .ok (.aload_n 0, 1) := by decide +kernel
theorem dX9_readsDoor_112 : decode cX9_readsDoor 112 = .ok (.getfield 7, 3) := by decide +kernel
theorem dX9_readsDoor_115 : decode cX9_readsDoor 115 = .ok (.sipush 3408, 3) := by decide +kernel
theorem dX9_readsDoor_118 : decode cX9_readsDoor 118 = .ok (.iconst 2, 1) := by decide +kernel
theorem dX9_readsDoor_119 : decode cX9_readsDoor 119 = .ok (.iload_n 1, 1) := by decide +kernel
theorem dX9_readsDoor_120 : decode cX9_readsDoor 120 = .ok (.imul, 1) := by decide +kernel
theorem dX9_readsDoor_121 : decode cX9_readsDoor 121 = .ok (.iadd, 1) := by decide +kernel
theorem dX9_readsDoor_122 : decode cX9_readsDoor 122 = .ok (.iload_n 2, 1) := by decide +kernel
theorem dX9_readsDoor_123 : decode cX9_readsDoor 123 = .ok (.iastore, 1) := by decide +kernel
theorem dX9_readsDoor_124 : decode cX9_readsDoor 124 = .ok (.aload_n 0, 1) := by decide +kernel
theorem dX9_readsDoor_125 : decode cX9_readsDoor 125 = .ok (.getfield 7, 3) := by decide +kernel
theorem dX9_readsDoor_128 : decode cX9_readsDoor 128 = .ok (.sipush 3408, 3) := by decide +kernel
theorem dX9_readsDoor_131 : decode cX9_readsDoor 131 = .ok (.iconst 2, 1) := by decide +kernel
theorem dX9_readsDoor_132 : decode cX9_readsDoor 132 = .ok (.iload_n 1, 1) := by decide +kernel
theorem dX9_readsDoor_133 : decode cX9_readsDoor 133 = .ok (.imul, 1) := by decide +kernel
theorem dX9_readsDoor_134 : decode cX9_readsDoor 134 = .ok (.iadd, 1) := by decide +kernel
theorem dX9_readsDoor_135 : decode cX9_readsDoor 135 = .ok (.iconst 1, 1) := by decide +kernel
theorem dX9_readsDoor_136 : decode cX9_readsDoor 136 = .ok (.iadd, 1) := by decide +kernel
theorem dX9_readsDoor_137 : decode cX9_readsDoor 137 = .ok (.aload_n 0, 1) := by decide +kernel
theorem dX9_readsDoor_138 : decode cX9_readsDoor 138 = .ok (.getfield 90, 3) := by decide +kernel
theorem dX9_readsDoor_141 : decode cX9_readsDoor 141 = .ok (.iastore, 1) := by decide +kernel
theorem dX9_readsDoor_142 : decode cX9_readsDoor 142 = .ok (.aload_n 0, 1) := by decide +kernel
theorem dX9_readsDoor_143 : decode cX9_readsDoor 143 = .ok (.getfield 7, 3) := by decide +kernel
theorem dX9_readsDoor_146 : decode cX9_readsDoor 146 = .ok (.sipush 3404, 3) := by decide +kernel
theorem dX9_readsDoor_149 : decode cX9_readsDoor 149 = .ok (.dup2, 1) := by decide +kernel
theorem dX9_readsDoor_150 : decode cX9_readsDoor 150 = .ok (.iaload, 1) := by decide +kernel
theorem dX9_readsDoor_151 : decode cX9_readsDoor 151 = .ok (.iconst 1, 1) := by decide +kernel
theorem dX9_readsDoor_152 : decode cX9_readsDoor 152 = .ok (.iadd, 1) := by decide +kernel
theorem dX9_readsDoor_153 : decode cX9_readsDoor 153 = .ok (.iastore, 1) := by decide +kernel
theorem dX9_readsDoor_154 : decode cX9_readsDoor 154 = .ok (.aload_n 0, 1) := by decide +kernel
theorem dX9_readsDoor_155 : decode cX9_readsDoor 155 = .ok (.bipush 59, 2) := by decide +kernel
theorem dX9_readsDoor_157 : decode cX9_readsDoor 157 = .ok (.invokevirtual 93, 3) := by decide +kernel
theorem dX9_readsDoor_160 : decode cX9_readsDoor 160 = .ok (.ireturn, 1) := by decide +kernel
theorem dX9_kindOfLetter_0 : decode cX9_kindOfLetter 0 = .ok (.iload_n 0, 1) := by decide +kernel
theorem dX9_kindOfLetter_1 : decode cX9_kindOfLetter 1 = .ok (.bipush 112, 2) := by decide +kernel
theorem dX9_kindOfLetter_3 : decode cX9_kindOfLetter 3 = .ok (.if_icmp .ne 7, 3) := by decide +kernel
theorem dX9_kindOfLetter_6 : decode cX9_kindOfLetter 6 = .ok (.iconst 1, 1) := by decide +kernel
theorem dX9_kindOfLetter_7 : decode cX9_kindOfLetter 7 = .ok (.goto 44, 3) := by decide +kernel
theorem dX9_kindOfLetter_10 : decode cX9_kindOfLetter 10 = .ok (.iload_n 0, 1) := by decide +kernel
theorem dX9_kindOfLetter_11 : decode cX9_kindOfLetter 11 = .ok (.bipush 102, 2) := by decide +kernel
theorem dX9_kindOfLetter_13 : decode cX9_kindOfLetter 13 = .ok (.if_icmp .ne 7, 3) := by decide +kernel
theorem dX9_kindOfLetter_16 : decode cX9_kindOfLetter 16 = .ok (.iconst 2, 1) := by decide +kernel
theorem dX9_kindOfLetter_17 : decode cX9_kindOfLetter 17 = .ok (.goto 34, 3) := by decide +kernel
theorem dX9_kindOfLetter_20 : decode cX9_kindOfLetter 20 = .ok (.iload_n 0, 1) := by decide +kernel
theorem dX9_kindOfLetter_21 : decode cX9_kindOfLetter 21 = .ok (.bipush 115, 2) := by decide +kernel
theorem dX9_kindOfLetter_23 : decode cX9_kindOfLetter 23 = .ok (.if_icmp .ne 7, 3) := by decide +kernel
theorem dX9_kindOfLetter_26 : decode cX9_kindOfLetter 26 = .ok (.iconst 3, 1) := by decide +kernel
theorem dX9_kindOfLetter_27 : decode cX9_kindOfLetter 27 = .ok (.goto 24, 3) := by decide +kernel
theorem dX9_kindOfLetter_30 : decode cX9_kindOfLetter 30 = .ok (.iload_n 0, 1) := by decide +kernel
theorem dX9_kindOfLetter_31 : decode cX9_kindOfLetter 31 = .ok (.bipush 107, 2) := by decide +kernel
theorem dX9_kindOfLetter_33 : decode cX9_kindOfLetter 33 = .ok (.if_icmp .ne 7, 3) := by decide +kernel
theorem dX9_kindOfLetter_36 : decode cX9_kindOfLetter 36 = .ok (.iconst 4, 1) := by decide +kernel
theorem dX9_kindOfLetter_37 : decode cX9_kindOfLetter 37 = .ok (.goto 14, 3) := by decide +kernel
theorem dX9_kindOfLetter_40 : decode cX9_kindOfLetter 40 = .ok (.iload_n 0, 1) := by decide +kernel
theorem dX9_kindOfLetter_41 : decode cX9_kindOfLetter 41 = .ok (.bipush 110, 2) := by decide +kernel
theorem dX9_kindOfLetter_43 : decode cX9_kindOfLetter 43 = .ok (.if_icmp .ne 7, 3) := by decide +kernel
theorem dX9_kindOfLetter_46 : decode cX9_kindOfLetter 46 = .ok (.iconst 5, 1) := by decide +kernel
theorem dX9_kindOfLetter_47 : decode cX9_kindOfLetter 47 = .ok (.goto 4, 3) := by decide +kernel
theorem dX9_kindOfLetter_50 : decode cX9_kindOfLetter 50 = .ok (.iconst 0, 1) := by decide +kernel
theorem dX9_kindOfLetter_51 : decode cX9_kindOfLetter 51 = .ok (.ireturn, 1) := by decide +kernel
theorem dX9_readsPerson_0 : decode cX9_readsPerson 0 = .ok (.aload_n 0, 1) := by decide +kernel
theorem dX9_readsPerson_1 : decode cX9_readsPerson 1 = .ok (.getfield 7, 3) := by decide +kernel
theorem dX9_readsPerson_4 : decode cX9_readsPerson 4 = .ok (.sipush 3405, 3) := by decide +kernel
theorem dX9_readsPerson_7 : decode cX9_readsPerson 7 = .ok (.iaload, 1) := by decide +kernel
theorem dX9_readsPerson_8 : decode cX9_readsPerson 8 = .ok (.istore_n 1, 1) := by decide +kernel
theorem dX9_readsPerson_9 : decode cX9_readsPerson 9 = .ok (.iload_n 1, 1) := by decide +kernel
theorem dX9_readsPerson_10 : decode cX9_readsPerson 10 = .ok (.bipush 6, 2) := by decide +kernel
theorem dX9_readsPerson_12 : decode cX9_readsPerson 12 = .ok (.if_icmp .ne 9, 3) := by decide +kernel
theorem dX9_readsPerson_15 : decode cX9_readsPerson 15 = .ok (.aload_n 0, 1) := by decide +kernel
theorem dX9_readsPerson_16 : decode cX9_readsPerson 16 = .ok (.iconst 3, 1) := by decide +kernel
theorem dX9_readsPerson_17 : decode cX9_readsPerson 17 = .ok (.invokevirtual 84, 3) := by decide +kernel
theorem dX9_readsPerson_20 : decode cX9_readsPerson 20 = .ok (.ireturn, 1) := by decide +kernel
theorem dX9_readsPerson_21 : decode cX9_readsPerson 21 = .ok (.aload_n 0, 1) := by decide +kernel
theorem dX9_readsPerson_22 : decode cX9_readsPerson 22 = .ok (.getfield 7, 3) := by decide +kernel
theorem dX9_readsPerson_25 : decode cX9_readsPerson 25 = .ok (.sipush 3420, 3) := by decide +kernel
theorem dX9_readsPerson_28 : decode cX9_readsPerson 28 = .ok (.iload_n 1, 1) := by decide +kernel
theorem dX9_readsPerson_29 : decode cX9_readsPerson 29 = .ok (.iadd, 1) := by decide +kernel
theorem dX9_readsPerson_30 : decode cX9_readsPerson 30 = .ok (.aload_n 0, 1) := by decide +kernel
theorem dX9_readsPerson_31 : decode cX9_readsPerson 31 = .ok (.getfield 26, 3) := by decide +kernel
theorem dX9_readsPerson_34 : decode cX9_readsPerson 34 = .ok (.aload_n 0, 1) := by decide +kernel
theorem dX9_readsPerson_35 : decode cX9_readsPerson 35 = .ok (.getfield 71, 3) := by decide +kernel
theorem dX9_readsPerson_38 : decode cX9_readsPerson 38 = .ok (.iaload, 1) := by decide +kernel
theorem dX9_readsPerson_39 : decode cX9_readsPerson 39 = .ok (.invokestatic 100, 3) := by decide +kernel
theorem dX9_readsPerson_42 : decode cX9_readsPerson 42 = .ok (.iastore, 1) := by decide +kernel
theorem dX9_readsPerson_43 : decode cX9_readsPerson 43 = .ok (.aload_n 0, 1) := by decide +kernel
theorem dX9_readsPerson_44 : decode cX9_readsPerson 44 = .ok (.dup, 1) := by decide +kernel
theorem dX9_readsPerson_45 : decode cX9_readsPerson 45 = .ok (.getfield 71, 3) := by decide +kernel
theorem dX9_readsPerson_48 : decode cX9_readsPerson 48 = .ok (.iconst 1, 1) := by decide +kernel
theorem dX9_readsPerson_49 : decode cX9_readsPerson 49 = .ok (.iadd, 1) := by decide +kernel
theorem dX9_readsPerson_50 : decode cX9_readsPerson 50 = .ok (.putfield 71, 3) := by decide +kernel
theorem dX9_readsPerson_53 : decode cX9_readsPerson 53 = .ok (.aload_n 0, 1) := by decide +kernel
theorem dX9_readsPerson_54 : decode cX9_readsPerson 54 = .ok (.iconst 0, 1) := by decide +kernel
theorem dX9_readsPerson_55 : decode cX9_readsPerson 55 = .ok (.aload_n 0, 1) := by decide +kernel
theorem dX9_readsPerson_56 : decode cX9_readsPerson 56 = .ok (.getfield 7, 3) := by decide +kernel
theorem dX9_readsPerson_59 : decode cX9_readsPerson 59 = .ok (.sipush 3402, 3) := by decide +kernel
theorem dX9_readsPerson_62 : decode cX9_readsPerson 62 = .ok (.iaload, 1) := by decide +kernel
theorem dX9_readsPerson_63 : decode cX9_readsPerson 63 = .ok (.iconst 1, 1) := by decide +kernel
theorem dX9_readsPerson_64 : decode cX9_readsPerson 64 = .ok (.isub, 1) := by decide +kernel
theorem dX9_readsPerson_65 : decode cX9_readsPerson 65 = .ok (.invokevirtual 96, 3) := by decide +kernel
theorem dX9_readsPerson_68 : decode cX9_readsPerson 68 = .ok (.ifCond .ne 5, 3) := by decide +kernel
theorem dX9_readsPerson_71 : decode cX9_readsPerson 71 = .ok (.iconst 0, 1) := by decide +kernel
theorem dX9_readsPerson_72 : decode cX9_readsPerson 72 = .ok (.ireturn, 1) := by decide +kernel
theorem dX9_readsPerson_73 : decode cX9_readsPerson 73 = .ok (.aload_n 0, 1) := by decide +kernel
theorem dX9_readsPerson_74 : decode cX9_readsPerson 74 = .ok (.getfield 7, 3) := by decide +kernel
theorem dX9_readsPerson_77 : decode cX9_readsPerson 77 = .ok (.sipush 3426, 3) := by decide +kernel
theorem dX9_readsPerson_80 : decode cX9_readsPerson 80 = .ok (.iload_n 1, 1) := by decide +kernel
theorem dX9_readsPerson_81 : decode cX9_readsPerson 81 = .ok (.iadd, 1) := by decide +kernel
theorem dX9_readsPerson_82 : decode cX9_readsPerson 82 = .ok (.aload_n 0, 1) := by decide +kernel
theorem dX9_readsPerson_83 : decode cX9_readsPerson 83 = .ok (.getfield 90, 3) := by decide +kernel
theorem dX9_readsPerson_86 : decode cX9_readsPerson 86 = .ok (.iastore, 1) := by decide +kernel
theorem dX9_readsPerson_87 : decode cX9_readsPerson 87 = .ok (.aload_n 0, 1) := by decide +kernel
theorem dX9_readsPerson_88 : decode cX9_readsPerson 88 = .ok (.bipush 44, 2) := by decide +kernel
theorem dX9_readsPerson_90 : decode cX9_readsPerson 90 = .ok (.invokevirtual 93, 3) := by decide +kernel
theorem dX9_readsPerson_93 : decode cX9_readsPerson 93 = .ok (.ifCond .eq 13, 3) := by decide +kernel
theorem dX9_readsPerson_96 : decode cX9_readsPerson 96 = .ok (.aload_n 0, 1) := by decide +kernel
theorem dX9_readsPerson_97 : decode cX9_readsPerson 97 = .ok (.iconst 0, 1) := by decide +kernel
theorem dX9_readsPerson_98 : decode cX9_readsPerson 98 = .ok (.bipush 6, 2) := by decide +kernel
theorem dX9_readsPerson_100 : decode cX9_readsPerson 100 = .ok (.invokevirtual 96, 3) := by decide +kernel
theorem dX9_readsPerson_103 : decode cX9_readsPerson 103 = .ok (.ifCond .ne 5, 3) := by decide +kernel
theorem dX9_readsPerson_106 : decode cX9_readsPerson 106 = .ok (.iconst 0, 1) := by decide +kernel
theorem dX9_readsPerson_107 : decode cX9_readsPerson 107 = .ok (.ireturn, 1) := by decide +kernel
theorem dX9_readsPerson_108 : decode cX9_readsPerson 108 = .ok (.aload_n 0, 1) := by decide +kernel
theorem dX9_readsPerson_109 : decode cX9_readsPerson 109 = .ok (.getfield 7, 3) := by decide +kernel
theorem dX9_readsPerson_112 : decode cX9_readsPerson 112 = .ok (.sipush 3432, 3) := by decide +kernel
theorem dX9_readsPerson_115 : decode cX9_readsPerson 115 = .ok (.iload_n 1, 1) := by decide +kernel
theorem dX9_readsPerson_116 : decode cX9_readsPerson 116 = .ok (.iadd, 1) := by decide +kernel
theorem dX9_readsPerson_117 : decode cX9_readsPerson 117 = .ok (.aload_n 0, 1) := by decide +kernel
theorem dX9_readsPerson_118 : decode cX9_readsPerson 118 = .ok (.getfield 90, 3) := by decide +kernel
theorem dX9_readsPerson_121 : decode cX9_readsPerson 121 = .ok (.iastore, 1) := by decide +kernel
theorem dX9_readsPerson_122 : decode cX9_readsPerson 122 = .ok (.aload_n 0, 1) := by decide +kernel
theorem dX9_readsPerson_123 : decode cX9_readsPerson 123 = .ok (.getfield 7, 3) := by decide +kernel
theorem dX9_readsPerson_126 : decode cX9_readsPerson 126 = .ok (.sipush 3405, 3) := by decide +kernel
theorem dX9_readsPerson_129 : decode cX9_readsPerson 129 = .ok (.dup2, 1) := by decide +kernel
theorem dX9_readsPerson_130 : decode cX9_readsPerson 130 = .ok (.iaload, 1) := by decide +kernel
theorem dX9_readsPerson_131 : decode cX9_readsPerson 131 = .ok (.iconst 1, 1) := by decide +kernel
theorem dX9_readsPerson_132 : decode cX9_readsPerson 132 = .ok (.iadd, 1) := by decide +kernel
theorem dX9_readsPerson_133 : decode cX9_readsPerson 133 = .ok (.iastore, 1) := by decide +kernel
theorem dX9_readsPerson_134 : decode cX9_readsPerson 134 = .ok (.aload_n 0, 1) := by decide +kernel
theorem dX9_readsPerson_135 : decode cX9_readsPerson 135 = .ok (.bipush 59, 2) := by decide +kernel
theorem dX9_readsPerson_137 : decode cX9_readsPerson 137 = .ok (.invokevirtual 93, 3) := by decide +kernel
theorem dX9_readsPerson_140 : decode cX9_readsPerson 140 = .ok (.ireturn, 1) := by decide +kernel
theorem dX9_readsTie_0 : decode cX9_readsTie 0 = .ok (.aload_n 0, 1) := by decide +kernel
theorem dX9_readsTie_1 : decode cX9_readsTie 1 = .ok (.getfield 7, 3) := by decide +kernel
theorem dX9_readsTie_4 : decode cX9_readsTie 4 = .ok (.sipush 3407, 3) := by decide +kernel
theorem dX9_readsTie_7 : decode cX9_readsTie 7 = .ok (.iaload, 1) := by decide +kernel
theorem dX9_readsTie_8 : decode cX9_readsTie 8 = .ok (.bipush 8, 2) := by decide +kernel
theorem dX9_readsTie_10 : decode cX9_readsTie 10 = .ok (.if_icmp .ne 9, 3) := by decide +kernel
theorem dX9_readsTie_13 : decode cX9_readsTie 13 = .ok (.aload_n 0, 1) := by decide +kernel
theorem dX9_readsTie_14 : decode cX9_readsTie 14 = .ok (.iconst 3, 1) := by decide +kernel
theorem dX9_readsTie_15 : decode cX9_readsTie 15 = .ok (.invokevirtual 84, 3) := by decide +kernel
theorem dX9_readsTie_18 : decode cX9_readsTie 18 = .ok (.ireturn, 1) := by decide +kernel
theorem dX9_readsTie_19 : decode cX9_readsTie 19 = .ok (.sipush 3402, 3) := by decide +kernel
theorem dX9_readsTie_22 : decode cX9_readsTie 22 = .ok (.aload_n 0, 1) := by decide +kernel
theorem dX9_readsTie_23 : decode cX9_readsTie 23 = .ok (.getfield 26, 3) := by decide +kernel
theorem dX9_readsTie_26 : decode cX9_readsTie 26 = .ok (.aload_n 0, 1) := by decide +kernel
theorem dX9_readsTie_27 : decode cX9_readsTie 27 = .ok (.getfield 71, 3) := by decide +kernel
theorem dX9_readsTie_30 : decode cX9_readsTie 30 = .ok (.iaload, 1) := by decide +kernel
theorem dX9_readsTie_31 : decode cX9_readsTie 31 = .ok (.bipush 105, 2) := by decide +kernel
theorem dX9_readsTie_33 : decode cX9_readsTie 33 = .ok (.if_icmp .ne 8, 3) := by decide +kernel
theorem dX9_readsTie_36 : decode cX9_readsTie 36 = .ok (.bipush 42, 2) := by decide +kernel
theorem dX9_readsTie_38 : decode cX9_readsTie 38 = .ok (.goto 5, 3) := by decide +kernel
theorem dX9_readsTie_41 : decode cX9_readsTie 41 = .ok (.bipush 48, 2) := by decide +kernel
theorem dX9_readsTie_43 : decode cX9_readsTie 43 = .ok (.iadd, 1) := by decide +kernel
theorem dX9_readsTie_44 : decode cX9_readsTie 44 = .ok (.istore_n 1, 1) := by decide +kernel
theorem dX9_readsTie_45 : decode cX9_readsTie 45 = .ok (.aload_n 0, 1) := by decide +kernel
theorem dX9_readsTie_46 : decode cX9_readsTie 46 = .ok (.dup, 1) := by decide +kernel
theorem dX9_readsTie_47 : decode cX9_readsTie 47 = .ok (.getfield 71, 3) := by decide +kernel
theorem dX9_readsTie_50 : decode cX9_readsTie 50 = .ok (.iconst 1, 1) := by decide +kernel
theorem dX9_readsTie_51 : decode cX9_readsTie 51 = .ok (.iadd, 1) := by decide +kernel
theorem dX9_readsTie_52 : decode cX9_readsTie 52 = .ok (.putfield 71, 3) := by decide +kernel
theorem dX9_readsTie_55 : decode cX9_readsTie 55 = .ok (.aload_n 0, 1) := by decide +kernel
theorem dX9_readsTie_56 : decode cX9_readsTie 56 = .ok (.iconst 0, 1) := by decide +kernel
theorem dX9_readsTie_57 : decode cX9_readsTie 57 = .ok (.aload_n 0, 1) := by decide +kernel
theorem dX9_readsTie_58 : decode cX9_readsTie 58 = .ok (.getfield 7, 3) := by decide +kernel
theorem dX9_readsTie_61 : decode cX9_readsTie 61 = .ok (.sipush 3405, 3) := by decide +kernel
theorem dX9_readsTie_64 : decode cX9_readsTie 64 = .ok (.iaload, 1) := by decide +kernel
theorem dX9_readsTie_65 : decode cX9_readsTie 65 = .ok (.iconst 1, 1) := by decide +kernel
theorem dX9_readsTie_66 : decode cX9_readsTie 66 = .ok (.isub, 1) := by decide +kernel
theorem dX9_readsTie_67 : decode cX9_readsTie 67 = .ok (.invokevirtual 96, 3) := by decide +kernel
theorem dX9_readsTie_70 : decode cX9_readsTie 70 = .ok (.ifCond .ne 5, 3) := by decide +kernel
theorem dX9_readsTie_73 : decode cX9_readsTie 73 = .ok (.iconst 0, 1) := by decide +kernel
theorem dX9_readsTie_74 : decode cX9_readsTie 74 = .ok (.ireturn, 1) := by decide +kernel
theorem dX9_readsTie_75 : decode cX9_readsTie 75 = .ok (.aload_n 0, 1) := by decide +kernel
theorem dX9_readsTie_76 : decode cX9_readsTie 76 = .ok (.getfield 90, 3) := by decide +kernel
theorem dX9_readsTie_79 : decode cX9_readsTie 79 = .ok (.istore_n 2, 1) := by decide +kernel
theorem dX9_readsTie_80 : decode cX9_readsTie 80 = .ok (.aload_n 0, 1) := by decide +kernel
theorem dX9_readsTie_81 : decode cX9_readsTie 81 = .ok (.bipush 44, 2) := by decide +kernel
theorem dX9_readsTie_83 : decode cX9_readsTie 83 = .ok (.invokevirtual 93, 3) := by decide +kernel
theorem dX9_readsTie_86 : decode cX9_readsTie 86 = .ok (.ifCond .ne 5, 3) := by decide +kernel
theorem dX9_readsTie_89 : decode cX9_readsTie 89 = .ok (.iconst 0, 1) := by decide +kernel
theorem dX9_readsTie_90 : decode cX9_readsTie 90 = .ok (.ireturn, 1) := by decide +kernel
theorem dX9_readsTie_91 : decode cX9_readsTie 91 = .ok (.aload_n 0, 1) := by decide +kernel
theorem dX9_readsTie_92 : decode cX9_readsTie 92 = .ok (.getfield 71, 3) := by decide +kernel
theorem dX9_readsTie_95 : decode cX9_readsTie 95 = .ok (.istore_n 3, 1) := by decide +kernel
theorem dX9_readsTie_96 : decode cX9_readsTie 96 = .ok (.aload_n 0, 1) := by decide +kernel
theorem dX9_readsTie_97 : decode cX9_readsTie 97 = .ok (.iconst 0, 1) := by decide +kernel
theorem dX9_readsTie_98 : decode cX9_readsTie 98 = .ok (.aload_n 0, 1) := by decide +kernel
theorem dX9_readsTie_99 : decode cX9_readsTie 99 = .ok (.getfield 7, 3) := by decide +kernel
theorem dX9_readsTie_102 : decode cX9_readsTie 102 = .ok (.sipush 3405, 3) := by decide +kernel
theorem dX9_readsTie_105 : decode cX9_readsTie 105 = .ok (.iaload, 1) := by decide +kernel
theorem dX9_readsTie_106 : decode cX9_readsTie 106 = .ok (.iconst 1, 1) := by decide +kernel
theorem dX9_readsTie_107 : decode cX9_readsTie 107 = .ok (.isub, 1) := by decide +kernel
theorem dX9_readsTie_108 : decode cX9_readsTie 108 = .ok (.invokevirtual 96, 3) := by decide +kernel
theorem dX9_readsTie_111 : decode cX9_readsTie 111 = .ok (.ifCond .ne 5, 3) := by decide +kernel
theorem dX9_readsTie_114 : decode cX9_readsTie 114 = .ok (.iconst 0, 1) := by decide +kernel
theorem dX9_readsTie_115 : decode cX9_readsTie 115 = .ok (.ireturn, 1) := by decide +kernel
theorem dX9_readsTie_116 : decode cX9_readsTie 116 = .ok (.aload_n 0, 1) := by decide +kernel
theorem dX9_readsTie_117 : decode cX9_readsTie 117 = .ok (.getfield 7, 3) := by decide +kernel
theorem dX9_readsTie_120 : decode cX9_readsTie 120 = .ok (.sipush 3444, 3) := by decide +kernel
theorem dX9_readsTie_123 : decode cX9_readsTie 123 = .ok (.iload_n 2, 1) := by decide +kernel
theorem dX9_readsTie_124 : decode cX9_readsTie 124 = .ok (.iadd, 1) := by decide +kernel
theorem dX9_readsTie_125 : decode cX9_readsTie 125 = .ok (.iaload, 1) := by decide +kernel
theorem dX9_readsTie_126 : decode cX9_readsTie 126 = .ok (.aload_n 0, 1) := by decide +kernel
theorem dX9_readsTie_127 : decode cX9_readsTie 127 = .ok (.getfield 7, 3) := by decide +kernel
theorem dX9_readsTie_130 : decode cX9_readsTie 130 = .ok (.sipush 3450, 3) := by decide +kernel
theorem dX9_readsTie_133 : decode cX9_readsTie 133 = .ok (.iload_n 2, 1) := by decide +kernel
theorem dX9_readsTie_134 : decode cX9_readsTie 134 = .ok (.iadd, 1) := by decide +kernel
theorem dX9_readsTie_135 : decode cX9_readsTie 135 = .ok (.iaload, 1) := by decide +kernel
theorem dX9_readsTie_136 : decode cX9_readsTie 136 = .ok (.ior, 1) := by decide +kernel
theorem dX9_readsTie_137 : decode cX9_readsTie 137 = .ok (.istore 4, 2) := by decide +kernel
theorem dX9_readsTie_139 : decode cX9_readsTie 139 = .ok (.aload_n 0, 1) := by decide +kernel
theorem dX9_readsTie_140 : decode cX9_readsTie 140 = .ok (.getfield 90, 3) := by decide +kernel
theorem dX9_readsTie_143 : decode cX9_readsTie 143 = .ok (.iload_n 2, 1) := by decide +kernel
theorem dX9_readsTie_144 : decode cX9_readsTie 144 = .ok (.if_icmp .eq 15, 3) := by decide +kernel
theorem dX9_readsTie_147 : decode cX9_readsTie 147 = .ok (.iload 4, 2) := by decide +kernel
theorem dX9_readsTie_149 : decode cX9_readsTie 149 = .ok (.aload_n 0, 1) := by decide +kernel
theorem dX9_readsTie_150 : decode cX9_readsTie 150 = .ok (.getfield 90, 3) := by decide +kernel
theorem dX9_readsTie_153 : decode cX9_readsTie 153 = .ok (.invokestatic 103, 3) := by decide +kernel
theorem dX9_readsTie_156 : decode cX9_readsTie 156 = .ok (.ifCond .eq 14, 3) := by decide +kernel
theorem dX9_readsTie_159 : decode cX9_readsTie 159 = .ok (.aload_n 0, 1) := by decide +kernel
theorem dX9_readsTie_160 : decode cX9_readsTie 160 = .ok (.iload_n 3, 1) := by decide +kernel
theorem dX9_readsTie_161 : decode cX9_readsTie 161 = .ok (.putfield 71, 3) := by decide +kernel
theorem dX9_readsTie_164 : decode cX9_readsTie 164 = .ok (.aload_n 0, 1) := by decide +kernel
theorem dX9_readsTie_165 : decode cX9_readsTie 165 = .ok (.iconst 2, 1) := by decide +kernel
theorem dX9_readsTie_166 : decode cX9_readsTie 166 = .ok (.invokevirtual 84, 3) := by decide +kernel
theorem dX9_readsTie_169 : decode cX9_readsTie 169 = .ok (.ireturn, 1) := by decide +kernel
theorem dX9_readsTie_170 : decode cX9_readsTie 170 = .ok (.aload_n 0, 1) := by decide +kernel
theorem dX9_readsTie_171 : decode cX9_readsTie 171 = .ok (.getfield 7, 3) := by decide +kernel
theorem dX9_readsTie_174 : decode cX9_readsTie 174 = .ok (.iload_n 1, 1) := by decide +kernel
theorem dX9_readsTie_175 : decode cX9_readsTie 175 = .ok (.iload_n 2, 1) := by decide +kernel
theorem dX9_readsTie_176 : decode cX9_readsTie 176 = .ok (.iadd, 1) := by decide +kernel
theorem dX9_readsTie_177 : decode cX9_readsTie 177 = .ok (.dup2, 1) := by decide +kernel
theorem dX9_readsTie_178 : decode cX9_readsTie 178 = .ok (.iaload, 1) := by decide +kernel
theorem dX9_readsTie_179 : decode cX9_readsTie 179 = .ok (.iconst 1, 1) := by decide +kernel
theorem dX9_readsTie_180 : decode cX9_readsTie 180 = .ok (.aload_n 0, 1) := by decide +kernel
theorem dX9_readsTie_181 : decode cX9_readsTie 181 = .ok (.getfield 90, 3) := by decide +kernel
theorem dX9_readsTie_184 : decode cX9_readsTie 184 = .ok (.ishl, 1) := by decide +kernel
theorem dX9_readsTie_185 : decode cX9_readsTie 185 = .ok (.ior, 1) := by decide +kernel
theorem dX9_readsTie_186 : decode cX9_readsTie 186 = .ok (.iastore, 1) := by decide +kernel
theorem dX9_readsTie_187 : decode cX9_readsTie 187 = .ok (.aload_n 0, 1) := by decide +kernel
theorem dX9_readsTie_188 : decode cX9_readsTie 188 = .ok (.getfield 7, 3) := by decide +kernel
theorem dX9_readsTie_191 : decode cX9_readsTie 191 = .ok (.iload_n 1, 1) := by decide +kernel
theorem dX9_readsTie_192 : decode cX9_readsTie 192 = .ok (.aload_n 0, 1) := by decide +kernel
theorem dX9_readsTie_193 : decode cX9_readsTie 193 = .ok (.getfield 90, 3) := by decide +kernel
theorem dX9_readsTie_196 : decode cX9_readsTie 196 = .ok (.iadd, 1) := by decide +kernel
theorem dX9_readsTie_197 : decode cX9_readsTie 197 = .ok (.dup2, 1) := by decide +kernel
theorem dX9_readsTie_198 : decode cX9_readsTie 198 = .ok (.iaload, 1) := by decide +kernel
theorem dX9_readsTie_199 : decode cX9_readsTie 199 = .ok (.iconst 1, 1) := by decide +kernel
theorem dX9_readsTie_200 : decode cX9_readsTie 200 = .ok (.iload_n 2, 1) := by decide +kernel
theorem dX9_readsTie_201 : decode cX9_readsTie 201 = .ok (.ishl, 1) := by decide +kernel
theorem dX9_readsTie_202 : decode cX9_readsTie 202 = .ok (.ior, 1) := by decide +kernel
theorem dX9_readsTie_203 : decode cX9_readsTie 203 = .ok (.iastore, 1) := by decide +kernel
theorem dX9_readsTie_204 : decode cX9_readsTie 204 = .ok (.aload_n 0, 1) := by decide +kernel
theorem dX9_readsTie_205 : decode cX9_readsTie 205 = .ok (.getfield 7, 3) := by decide +kernel
theorem dX9_readsTie_208 : decode cX9_readsTie 208 = .ok (.sipush 3407, 3) := by decide +kernel
theorem dX9_readsTie_211 : decode cX9_readsTie 211 = .ok (.dup2, 1) := by decide +kernel
theorem dX9_readsTie_212 : decode cX9_readsTie 212 = .ok (.iaload, 1) := by decide +kernel
theorem dX9_readsTie_213 : decode cX9_readsTie 213 = .ok (.iconst 1, 1) := by decide +kernel
theorem dX9_readsTie_214 : decode cX9_readsTie 214 = .ok (.iadd, 1) := by decide +kernel
theorem dX9_readsTie_215 : decode cX9_readsTie 215 = .ok (.iastore, 1) := by decide +kernel
theorem dX9_readsTie_216 : decode cX9_readsTie 216 = .ok (.aload_n 0, 1) := by decide +kernel
theorem dX9_readsTie_217 : decode cX9_readsTie 217 = .ok (.bipush 59, 2) := by decide +kernel
theorem dX9_readsTie_219 : decode cX9_readsTie 219 = .ok (.invokevirtual 93, 3) := by decide +kernel
theorem dX9_readsTie_222 : decode cX9_readsTie 222 = .ok (.ireturn, 1) := by decide +kernel
theorem dX9_reads_0 : decode cX9_reads 0 = .ok (.iconst 0, 1) := by decide +kernel
theorem dX9_reads_1 : decode cX9_reads 1 = .ok (.istore_n 1, 1) := by decide +kernel
theorem dX9_reads_2 : decode cX9_reads 2 = .ok (.iload_n 1, 1) := by decide +kernel
theorem dX9_reads_3 : decode cX9_reads 3 = .ok (.bipush 126, 2) := by decide +kernel
theorem dX9_reads_5 : decode cX9_reads 5 = .ok (.if_icmp .ge 31, 3) := by decide +kernel
theorem dX9_reads_8 : decode cX9_reads 8 = .ok (.aload_n 0, 1) := by decide +kernel
theorem dX9_reads_9 : decode cX9_reads 9 = .ok (.getfield 7, 3) := by decide +kernel
theorem dX9_reads_12 : decode cX9_reads 12 = .ok (.sipush 3402, 3) := by decide +kernel
theorem dX9_reads_15 : decode cX9_reads 15 = .ok (.iload_n 1, 1) := by decide +kernel
theorem dX9_reads_16 : decode cX9_reads 16 = .ok (.iadd, 1) := by decide +kernel
theorem dX9_reads_17 : decode cX9_reads 17 = .ok (.iload_n 1, 1) := by decide +kernel
theorem dX9_reads_18 : decode cX9_reads 18 = .ok (.bipush 90, 2) := by decide +kernel
theorem dX9_reads_20 : decode cX9_reads 20 = .ok (.if_icmp .ge 7, 3) := by decide +kernel
theorem dX9_reads_23 : decode cX9_reads 23 = .ok (.iconst 0, 1) := by decide +kernel
theorem dX9_reads_24 : decode cX9_reads 24 = .ok (.goto 5, 3) := by decide +kernel
theorem dX9_reads_27 : decode cX9_reads 27 = .ok (.ldc 106, 2) := by decide +kernel
theorem dX9_reads_29 : decode cX9_reads 29 = .ok (.iastore, 1) := by decide +kernel
theorem dX9_reads_30 : decode cX9_reads 30 = .ok (.iinc 1 1, 3) := by decide +kernel
theorem dX9_reads_33 : decode cX9_reads 33 = .ok (.goto (-31), 3) := by decide +kernel
theorem dX9_reads_36 : decode cX9_reads 36 = .ok (.aload_n 0, 1) := by decide +kernel
theorem dX9_reads_37 : decode cX9_reads 37 = .ok (.iconst 0, 1) := by decide +kernel
theorem dX9_reads_38 : decode cX9_reads 38 = .ok (.putfield 71, 3) := by decide +kernel
theorem dX9_reads_41 : decode cX9_reads 41 = .ok (.aload_n 0, 1) := by decide +kernel
theorem dX9_reads_42 : decode cX9_reads 42 = .ok (.invokevirtual 107, 3) := by decide +kernel
theorem dX9_reads_45 : decode cX9_reads 45 = .ok (.istore_n 1, 1) := by decide +kernel
theorem dX9_reads_46 : decode cX9_reads 46 = .ok (.iload_n 1, 1) := by decide +kernel
theorem dX9_reads_47 : decode cX9_reads 47 = .ok (.ifCond .eq 18, 3) := by decide +kernel
theorem dX9_reads_50 : decode cX9_reads 50 = .ok (.aload_n 0, 1) := by decide +kernel
theorem dX9_reads_51 : decode cX9_reads 51 = .ok (.bipush 100, 2) := by decide +kernel
theorem dX9_reads_53 : decode cX9_reads 53 = .ok (.invokevirtual 81, 3) := by decide +kernel
theorem dX9_reads_56 : decode cX9_reads 56 = .ok (.ifCond .ne 9, 3) := by decide +kernel
theorem dX9_reads_59 : decode cX9_reads 59 = .ok (.aload_n 0, 1) := by decide +kernel
theorem dX9_reads_60 : decode cX9_reads 60 = .ok (.iconst 1, 1) := by decide +kernel
theorem dX9_reads_61 : decode cX9_reads 61 = .ok (.invokevirtual 84, 3) := by decide +kernel
theorem dX9_reads_64 : decode cX9_reads 64 = .ok (.ireturn, 1) := by decide +kernel
theorem dX9_reads_65 : decode cX9_reads 65 = .ok (.iload_n 1, 1) := by decide +kernel
theorem dX9_reads_66 : decode cX9_reads 66 = .ok (.ifCond .eq 20, 3) := by decide +kernel
theorem dX9_reads_69 : decode cX9_reads 69 = .ok (.aload_n 0, 1) := by decide +kernel
theorem dX9_reads_70 : decode cX9_reads 70 = .ok (.bipush 100, 2) := by decide +kernel
theorem dX9_reads_72 : decode cX9_reads 72 = .ok (.invokevirtual 81, 3) := by decide +kernel
theorem dX9_reads_75 : decode cX9_reads 75 = .ok (.ifCond .eq 11, 3) := by decide +kernel
theorem dX9_reads_78 : decode cX9_reads 78 = .ok (.aload_n 0, 1) := by decide +kernel
theorem dX9_reads_79 : decode cX9_reads 79 = .ok (.invokevirtual 111, 3) := by decide +kernel
theorem dX9_reads_82 : decode cX9_reads 82 = .ok (.istore_n 1, 1) := by decide +kernel
theorem dX9_reads_83 : decode cX9_reads 83 = .ok (.goto (-18), 3) := by decide +kernel
theorem dX9_reads_86 : decode cX9_reads 86 = .ok (.iload_n 1, 1) := by decide +kernel
theorem dX9_reads_87 : decode cX9_reads 87 = .ok (.ifCond .eq 35, 3) := by decide +kernel
theorem dX9_reads_90 : decode cX9_reads 90 = .ok (.aload_n 0, 1) := by decide +kernel
theorem dX9_reads_91 : decode cX9_reads 91 = .ok (.getfield 71, 3) := by decide +kernel
theorem dX9_reads_94 : decode cX9_reads 94 = .ok (.aload_n 0, 1) := by decide +kernel
theorem dX9_reads_95 : decode cX9_reads 95 = .ok (.getfield 67, 3) := by decide +kernel
theorem dX9_reads_98 : decode cX9_reads 98 = .ok (.if_icmp .eq 18, 3) := by decide +kernel
theorem dX9_reads_101 : decode cX9_reads 101 = .ok (.aload_n 0, 1) := by decide +kernel
theorem dX9_reads_102 : decode cX9_reads 102 = .ok (.getfield 26, 3) := by decide +kernel
theorem dX9_reads_105 : decode cX9_reads 105 = .ok (.aload_n 0, 1) := by decide +kernel
theorem dX9_reads_106 : decode cX9_reads 106 = .ok (.getfield 71, 3) := by decide +kernel
theorem dX9_reads_109 : decode cX9_reads 109 = .ok (.iaload, 1) := by decide +kernel
theorem dX9_reads_110 : decode cX9_reads 110 = .ok (.invokestatic 100, 3) := by decide +kernel
theorem dX9_reads_113 : decode cX9_reads 113 = .ok (.ifCond .ne 9, 3) := by decide +kernel
theorem dX9_reads_116 : decode cX9_reads 116 = .ok (.aload_n 0, 1) := by decide +kernel
theorem dX9_reads_117 : decode cX9_reads 117 = .ok (.iconst 1, 1) := by decide +kernel
theorem dX9_reads_118 : decode cX9_reads 118 = .ok (.invokevirtual 84, 3) := by decide +kernel
theorem dX9_reads_121 : decode cX9_reads 121 = .ok (.ireturn, 1) := by decide +kernel
theorem dX9_reads_122 : decode cX9_reads 122 = .ok (.iload_n 1, 1) := by decide +kernel
theorem dX9_reads_123 : decode cX9_reads 123 = .ok (.ifCond .eq 37, 3) := by decide +kernel
theorem dX9_reads_126 : decode cX9_reads 126 = .ok (.aload_n 0, 1) := by decide +kernel
theorem dX9_reads_127 : decode cX9_reads 127 = .ok (.getfield 71, 3) := by decide +kernel
theorem dX9_reads_130 : decode cX9_reads 130 = .ok (.aload_n 0, 1) := by decide +kernel
theorem dX9_reads_131 : decode cX9_reads 131 = .ok (.getfield 67, 3) := by decide +kernel
theorem dX9_reads_134 : decode cX9_reads 134 = .ok (.if_icmp .ge 26, 3) := by decide +kernel
theorem dX9_reads_137 : decode cX9_reads 137 = .ok (.aload_n 0, 1) := by decide +kernel
theorem dX9_reads_138 : decode cX9_reads 138 = .ok (.getfield 26, 3) := by decide +kernel
theorem dX9_reads_141 : decode cX9_reads 141 = .ok (.aload_n 0, 1) := by decide +kernel
theorem dX9_reads_142 : decode cX9_reads 142 = .ok (.getfield 71, 3) := by decide +kernel
theorem dX9_reads_145 : decode cX9_reads 145 = .ok (.iaload, 1) := by decide +kernel
theorem dX9_reads_146 : decode cX9_reads 146 = .ok (.invokestatic 100, 3) := by decide +kernel
theorem dX9_reads_149 : decode cX9_reads 149 = .ok (.ifCond .le 11, 3) := by decide +kernel
theorem dX9_reads_152 : decode cX9_reads 152 = .ok (.aload_n 0, 1) := by decide +kernel
theorem dX9_reads_153 : decode cX9_reads 153 = .ok (.invokevirtual 114, 3) := by decide +kernel
theorem dX9_reads_156 : decode cX9_reads 156 = .ok (.istore_n 1, 1) := by decide +kernel
theorem dX9_reads_157 : decode cX9_reads 157 = .ok (.goto (-35), 3) := by decide +kernel
theorem dX9_reads_160 : decode cX9_reads 160 = .ok (.iload_n 1, 1) := by decide +kernel
theorem dX9_reads_161 : decode cX9_reads 161 = .ok (.ifCond .eq 29, 3) := by decide +kernel
theorem dX9_reads_164 : decode cX9_reads 164 = .ok (.aload_n 0, 1) := by decide +kernel
theorem dX9_reads_165 : decode cX9_reads 165 = .ok (.bipush 105, 2) := by decide +kernel
theorem dX9_reads_167 : decode cX9_reads 167 = .ok (.invokevirtual 81, 3) := by decide +kernel
theorem dX9_reads_170 : decode cX9_reads 170 = .ok (.ifCond .ne 12, 3) := by decide +kernel
theorem dX9_reads_173 : decode cX9_reads 173 = .ok (.aload_n 0, 1) := by decide +kernel
theorem dX9_reads_174 : decode cX9_reads 174 = .ok (.bipush 117, 2) := by decide +kernel
theorem dX9_reads_176 : decode cX9_reads 176 = .ok (.invokevirtual 81, 3) := by decide +kernel
theorem dX9_reads_179 : decode cX9_reads 179 = .ok (.ifCond .eq 11, 3) := by decide +kernel
theorem dX9_reads_182 : decode cX9_reads 182 = .ok (.aload_n 0, 1) := by decide +kernel
theorem dX9_reads_183 : decode cX9_reads 183 = .ok (.invokevirtual 117, 3) := by decide +kernel
theorem dX9_reads_186 : decode cX9_reads 186 = .ok (.istore_n 1, 1) := by decide +kernel
theorem dX9_reads_187 : decode cX9_reads 187 = .ok (.goto (-27), 3) := by decide +kernel
theorem dX9_reads_190 : decode cX9_reads 190 = .ok (.iload_n 1, 1) := by decide +kernel
theorem dX9_reads_191 : decode cX9_reads 191 = .ok (.ifCond .eq 26, 3) := by decide +kernel
theorem dX9_reads_194 : decode cX9_reads 194 = .ok (.aload_n 0, 1) := by decide +kernel
theorem dX9_reads_195 : decode cX9_reads 195 = .ok (.getfield 71, 3) := by decide +kernel
theorem dX9_reads_198 : decode cX9_reads 198 = .ok (.aload_n 0, 1) := by decide +kernel
theorem dX9_reads_199 : decode cX9_reads 199 = .ok (.getfield 67, 3) := by decide +kernel
theorem dX9_reads_202 : decode cX9_reads 202 = .ok (.if_icmp .eq 11, 3) := by decide +kernel
theorem dX9_reads_205 : decode cX9_reads 205 = .ok (.aload_n 0, 1) := by decide +kernel
theorem dX9_reads_206 : decode cX9_reads 206 = .ok (.iconst 1, 1) := by decide +kernel
theorem dX9_reads_207 : decode cX9_reads 207 = .ok (.invokevirtual 84, 3) := by decide +kernel
theorem dX9_reads_210 : decode cX9_reads 210 = .ok (.ifCond .eq 7, 3) := by decide +kernel
theorem dX9_reads_213 : decode cX9_reads 213 = .ok (.iconst 1, 1) := by decide +kernel
theorem dX9_reads_214 : decode cX9_reads 214 = .ok (.goto 4, 3) := by decide +kernel
theorem dX9_reads_217 : decode cX9_reads 217 = .ok (.iconst 0, 1) := by decide +kernel
theorem dX9_reads_218 : decode cX9_reads 218 = .ok (.ireturn, 1) := by decide +kernel
theorem dX9_town_0 : decode cX9_town 0 = .ok (.aload_n 0, 1) := by decide +kernel
theorem dX9_town_1 : decode cX9_town 1 = .ok (.invokevirtual 120, 3) := by decide +kernel
theorem dX9_town_4 : decode cX9_town 4 = .ok (.istore_n 1, 1) := by decide +kernel
theorem dX9_town_5 : decode cX9_town 5 = .ok (.aload_n 0, 1) := by decide +kernel
theorem dX9_town_6 : decode cX9_town 6 = .ok (.iconst 0, 1) := by decide +kernel
theorem dX9_town_7 : decode cX9_town 7 = .ok (.putfield 67, 3) := by decide +kernel
theorem dX9_town_10 : decode cX9_town 10 = .ok (.iload_n 1, 1) := by decide +kernel
theorem dX9_town_11 : decode cX9_town 11 = .ok (.ifCond .ne 19, 3) := by decide +kernel
theorem dX9_town_14 : decode cX9_town 14 = .ok (.aload_n 0, 1) := by decide +kernel
theorem dX9_town_15 : decode cX9_town 15 = .ok (.aload_n 0, 1) := by decide +kernel
theorem dX9_town_16 : decode cX9_town 16 = .ok (.getfield 78, 3) := by decide +kernel
theorem dX9_town_19 : decode cX9_town 19 = .ok (.putfield 123, 3) := by decide +kernel
theorem dX9_town_22 : decode cX9_town 22 = .ok (.ldc 126, 2) := by decide +kernel
theorem dX9_town_24 : decode cX9_town 24 = .ok (.aload_n 0, 1) := by decide +kernel
theorem dX9_town_25 : decode cX9_town 25 = .ok (.getfield 71, 3) := by decide +kernel
theorem dX9_town_28 : decode cX9_town 28 = .ok (.isub, 1) := by decide +kernel
theorem dX9_town_29 : decode cX9_town 29 = .ok (.ireturn, 1) := by decide +kernel
theorem dX9_town_30 : decode cX9_town 30 = .ok (.aload_n 0, 1) := by decide +kernel
theorem dX9_town_31 : decode cX9_town 31 = .ok (.sipush 3402, 3) := by decide +kernel
theorem dX9_town_34 : decode cX9_town 34 = .ok (.iconst 0, 1) := by decide +kernel
theorem dX9_town_35 : decode cX9_town 35 = .ok (.invokevirtual 127, 3) := by decide +kernel
theorem dX9_town_38 : decode cX9_town 38 = .ok (.aload_n 0, 1) := by decide +kernel
theorem dX9_town_39 : decode cX9_town 39 = .ok (.iconst 0, 1) := by decide +kernel
theorem dX9_town_40 : decode cX9_town 40 = .ok (.putfield 131, 3) := by decide +kernel
theorem dX9_town_43 : decode cX9_town 43 = .ok (.aload_n 0, 1) := by decide +kernel
theorem dX9_town_44 : decode cX9_town 44 = .ok (.getfield 7, 3) := by decide +kernel
theorem dX9_town_47 : decode cX9_town 47 = .ok (.iconst 3, 1) := by decide +kernel
theorem dX9_town_48 : decode cX9_town 48 = .ok (.iaload, 1) := by decide +kernel
theorem dX9_town_49 : decode cX9_town 49 = .ok (.ireturn, 1) := by decide +kernel
theorem dX9_fault_0 : decode cX9_fault 0 = .ok (.aload_n 0, 1) := by decide +kernel
theorem dX9_fault_1 : decode cX9_fault 1 = .ok (.getfield 123, 3) := by decide +kernel
theorem dX9_fault_4 : decode cX9_fault 4 = .ok (.ireturn, 1) := by decide +kernel
theorem dX9_copyTown_0 : decode cX9_copyTown 0 = .ok (.iconst 0, 1) := by decide +kernel
theorem dX9_copyTown_1 : decode cX9_copyTown 1 = .ok (.istore_n 3, 1) := by decide +kernel
theorem dX9_copyTown_2 : decode cX9_copyTown 2 = .ok (.iload_n 3, 1) := by decide +kernel
theorem dX9_copyTown_3 : decode cX9_copyTown 3 = .ok (.bipush 126, 2) := by decide +kernel
theorem dX9_copyTown_5 : decode cX9_copyTown 5 = .ok (.if_icmp .ge 25, 3) := by decide +kernel
theorem dX9_copyTown_8 : decode cX9_copyTown 8 = .ok (.aload_n 0, 1) := by decide +kernel
theorem dX9_copyTown_9 : decode cX9_copyTown 9 = .ok (.getfield 7, 3) := by decide +kernel
theorem dX9_copyTown_12 : decode cX9_copyTown 12 = .ok (.iload_n 2, 1) := by decide +kernel
theorem dX9_copyTown_13 : decode cX9_copyTown 13 = .ok (.iload_n 3, 1) := by decide +kernel
theorem dX9_copyTown_14 : decode cX9_copyTown 14 = .ok (.iadd, 1) := by decide +kernel
theorem dX9_copyTown_15 : decode cX9_copyTown 15 = .ok (.aload_n 0, 1) := by decide +kernel
theorem dX9_copyTown_16 : decode cX9_copyTown 16 = .ok (.getfield 7, 3) := by decide +kernel
theorem dX9_copyTown_19 : decode cX9_copyTown 19 = .ok (.iload_n 1, 1) := by decide +kernel
theorem dX9_copyTown_20 : decode cX9_copyTown 20 = .ok (.iload_n 3, 1) := by decide +kernel
theorem dX9_copyTown_21 : decode cX9_copyTown 21 = .ok (.iadd, 1) := by decide +kernel
theorem dX9_copyTown_22 : decode cX9_copyTown 22 = .ok (.iaload, 1) := by decide +kernel
theorem dX9_copyTown_23 : decode cX9_copyTown 23 = .ok (.iastore, 1) := by decide +kernel
theorem dX9_copyTown_24 : decode cX9_copyTown 24 = .ok (.iinc 3 1, 3) := by decide +kernel
theorem dX9_copyTown_27 : decode cX9_copyTown 27 = .ok (.goto (-25), 3) := by decide +kernel
theorem dX9_copyTown_30 : decode cX9_copyTown 30 = .ok (.return_, 1) := by decide +kernel
theorem dX9_keepPast_0 : decode cX9_keepPast 0 = .ok (.iconst 0, 1) := by decide +kernel
theorem dX9_keepPast_1 : decode cX9_keepPast 1 = .ok (.istore_n 1, 1) := by decide +kernel
theorem dX9_keepPast_2 : decode cX9_keepPast 2 = .ok (.iload_n 1, 1) := by decide +kernel
theorem dX9_keepPast_3 : decode cX9_keepPast 3 = .ok (.sipush 2898, 3) := by decide +kernel
theorem dX9_keepPast_6 : decode cX9_keepPast 6 = .ok (.if_icmp .ge 37, 3) := by decide +kernel
theorem dX9_keepPast_9 : decode cX9_keepPast 9 = .ok (.aload_n 0, 1) := by decide +kernel
theorem dX9_keepPast_10 : decode cX9_keepPast 10 = .ok (.getfield 131, 3) := by decide +kernel
theorem dX9_keepPast_13 : decode cX9_keepPast 13 = .ok (.bipush 24, 2) := by decide +kernel
theorem dX9_keepPast_15 : decode cX9_keepPast 15 = .ok (.if_icmp .ne 28, 3) := by decide +kernel
theorem dX9_keepPast_18 : decode cX9_keepPast 18 = .ok (.aload_n 0, 1) := by decide +kernel
theorem dX9_keepPast_19 : decode cX9_keepPast 19 = .ok (.getfield 7, 3) := by decide +kernel
theorem dX9_keepPast_22 : decode cX9_keepPast 22 = .ok (.bipush 126, 2) := by decide +kernel
theorem dX9_keepPast_24 : decode cX9_keepPast 24 = .ok (.iload_n 1, 1) := by decide +kernel
theorem dX9_keepPast_25 : decode cX9_keepPast 25 = .ok (.iadd, 1) := by decide +kernel
theorem dX9_keepPast_26 : decode cX9_keepPast 26 = .ok (.aload_n 0, 1) := by decide +kernel
theorem dX9_keepPast_27 : decode cX9_keepPast 27 = .ok (.getfield 7, 3) := by decide +kernel
theorem dX9_keepPast_30 : decode cX9_keepPast 30 = .ok (.sipush 252, 3) := by decide +kernel
theorem dX9_keepPast_33 : decode cX9_keepPast 33 = .ok (.iload_n 1, 1) := by decide +kernel
theorem dX9_keepPast_34 : decode cX9_keepPast 34 = .ok (.iadd, 1) := by decide +kernel
theorem dX9_keepPast_35 : decode cX9_keepPast 35 = .ok (.iaload, 1) := by decide +kernel
theorem dX9_keepPast_36 : decode cX9_keepPast 36 = .ok (.iastore, 1) := by decide +kernel
theorem dX9_keepPast_37 : decode cX9_keepPast 37 = .ok (.iinc 1 1, 3) := by decide +kernel
theorem dX9_keepPast_40 : decode cX9_keepPast 40 = .ok (.goto (-38), 3) := by decide +kernel
theorem dX9_keepPast_43 : decode cX9_keepPast 43 = .ok (.aload_n 0, 1) := by decide +kernel
theorem dX9_keepPast_44 : decode cX9_keepPast 44 = .ok (.dup, 1) := by decide +kernel
theorem dX9_keepPast_45 : decode cX9_keepPast 45 = .ok (.getfield 131, 3) := by decide +kernel
theorem dX9_keepPast_48 : decode cX9_keepPast 48 = .ok (.aload_n 0, 1) := by decide +kernel
theorem dX9_keepPast_49 : decode cX9_keepPast 49 = .ok (.getfield 131, 3) := by decide +kernel
theorem dX9_keepPast_52 : decode cX9_keepPast 52 = .ok (.bipush 24, 2) := by decide +kernel
theorem dX9_keepPast_54 : decode cX9_keepPast 54 = .ok (.if_icmp .ne 7, 3) := by decide +kernel
theorem dX9_keepPast_57 : decode cX9_keepPast 57 = .ok (.iconst 1, 1) := by decide +kernel
theorem dX9_keepPast_58 : decode cX9_keepPast 58 = .ok (.goto 4, 3) := by decide +kernel
theorem dX9_keepPast_61 : decode cX9_keepPast 61 = .ok (.iconst 0, 1) := by decide +kernel
theorem dX9_keepPast_62 : decode cX9_keepPast 62 = .ok (.isub, 1) := by decide +kernel
theorem dX9_keepPast_63 : decode cX9_keepPast 63 = .ok (.putfield 131, 3) := by decide +kernel
theorem dX9_keepPast_66 : decode cX9_keepPast 66 = .ok (.aload_n 0, 1) := by decide +kernel
theorem dX9_keepPast_67 : decode cX9_keepPast 67 = .ok (.iconst 0, 1) := by decide +kernel
theorem dX9_keepPast_68 : decode cX9_keepPast 68 = .ok (.bipush 126, 2) := by decide +kernel
theorem dX9_keepPast_70 : decode cX9_keepPast 70 = .ok (.bipush 126, 2) := by decide +kernel
theorem dX9_keepPast_72 : decode cX9_keepPast 72 = .ok (.aload_n 0, 1) := by decide +kernel
theorem dX9_keepPast_73 : decode cX9_keepPast 73 = .ok (.getfield 131, 3) := by decide +kernel
theorem dX9_keepPast_76 : decode cX9_keepPast 76 = .ok (.imul, 1) := by decide +kernel
theorem dX9_keepPast_77 : decode cX9_keepPast 77 = .ok (.iadd, 1) := by decide +kernel
theorem dX9_keepPast_78 : decode cX9_keepPast 78 = .ok (.invokevirtual 127, 3) := by decide +kernel
theorem dX9_keepPast_81 : decode cX9_keepPast 81 = .ok (.aload_n 0, 1) := by decide +kernel
theorem dX9_keepPast_82 : decode cX9_keepPast 82 = .ok (.dup, 1) := by decide +kernel
theorem dX9_keepPast_83 : decode cX9_keepPast 83 = .ok (.getfield 131, 3) := by decide +kernel
theorem dX9_keepPast_86 : decode cX9_keepPast 86 = .ok (.iconst 1, 1) := by decide +kernel
theorem dX9_keepPast_87 : decode cX9_keepPast 87 = .ok (.iadd, 1) := by decide +kernel
theorem dX9_keepPast_88 : decode cX9_keepPast 88 = .ok (.putfield 131, 3) := by decide +kernel
theorem dX9_keepPast_91 : decode cX9_keepPast 91 = .ok (.return_, 1) := by decide +kernel
theorem dX9_undo_0 : decode cX9_undo 0 = .ok (.aload_n 0, 1) := by decide +kernel
theorem dX9_undo_1 : decode cX9_undo 1 = .ok (.getfield 131, 3) := by decide +kernel
theorem dX9_undo_4 : decode cX9_undo 4 = .ok (.ifCond .ne 6, 3) := by decide +kernel
theorem dX9_undo_7 : decode cX9_undo 7 = .ok (.ldc 134, 2) := by decide +kernel
theorem dX9_undo_9 : decode cX9_undo 9 = .ok (.ireturn, 1) := by decide +kernel
theorem dX9_undo_10 : decode cX9_undo 10 = .ok (.aload_n 0, 1) := by decide +kernel
theorem dX9_undo_11 : decode cX9_undo 11 = .ok (.dup, 1) := by decide +kernel
theorem dX9_undo_12 : decode cX9_undo 12 = .ok (.getfield 131, 3) := by decide +kernel
theorem dX9_undo_15 : decode cX9_undo 15 = .ok (.iconst 1, 1) := by decide +kernel
theorem dX9_undo_16 : decode cX9_undo 16 = .ok (.isub, 1) := by decide +kernel
theorem dX9_undo_17 : decode cX9_undo 17 = .ok (.putfield 131, 3) := by decide +kernel
theorem dX9_undo_20 : decode cX9_undo 20 = .ok (.aload_n 0, 1) := by decide +kernel
theorem dX9_undo_21 : decode cX9_undo 21 = .ok (.bipush 126, 2) := by decide +kernel
theorem dX9_undo_23 : decode cX9_undo 23 = .ok (.bipush 126, 2) := by decide +kernel
theorem dX9_undo_25 : decode cX9_undo 25 = .ok (.aload_n 0, 1) := by decide +kernel
theorem dX9_undo_26 : decode cX9_undo 26 = .ok (.getfield 131, 3) := by decide +kernel
theorem dX9_undo_29 : decode cX9_undo 29 = .ok (.imul, 1) := by decide +kernel
theorem dX9_undo_30 : decode cX9_undo 30 = .ok (.iadd, 1) := by decide +kernel
theorem dX9_undo_31 : decode cX9_undo 31 = .ok (.iconst 0, 1) := by decide +kernel
theorem dX9_undo_32 : decode cX9_undo 32 = .ok (.invokevirtual 127, 3) := by decide +kernel
theorem dX9_undo_35 : decode cX9_undo 35 = .ok (.aload_n 0, 1) := by decide +kernel
theorem dX9_undo_36 : decode cX9_undo 36 = .ok (.getfield 131, 3) := by decide +kernel
theorem dX9_undo_39 : decode cX9_undo 39 = .ok (.ireturn, 1) := by decide +kernel
theorem dX9_isPerson_0 : decode cX9_isPerson 0 = .ok (.iload_n 1, 1) := by decide +kernel
theorem dX9_isPerson_1 : decode cX9_isPerson 1 = .ok (.i2l, 1) := by decide +kernel
theorem dX9_isPerson_2 : decode cX9_isPerson 2 = .ok (.lconst 0, 1) := by decide +kernel
theorem dX9_isPerson_3 : decode cX9_isPerson 3 = .ok (.aload_n 0, 1) := by decide +kernel
theorem dX9_isPerson_4 : decode cX9_isPerson 4 = .ok (.getfield 7, 3) := by decide +kernel
theorem dX9_isPerson_7 : decode cX9_isPerson 7 = .ok (.iconst 3, 1) := by decide +kernel
theorem dX9_isPerson_8 : decode cX9_isPerson 8 = .ok (.iaload, 1) := by decide +kernel
theorem dX9_isPerson_9 : decode cX9_isPerson 9 = .ok (.iconst 1, 1) := by decide +kernel
theorem dX9_isPerson_10 : decode cX9_isPerson 10 = .ok (.isub, 1) := by decide +kernel
theorem dX9_isPerson_11 : decode cX9_isPerson 11 = .ok (.i2l, 1) := by decide +kernel
theorem dX9_isPerson_12 : decode cX9_isPerson 12 = .ok (.invokestatic 39, 3) := by decide +kernel
theorem dX9_isPerson_15 : decode cX9_isPerson 15 = .ok (.ireturn, 1) := by decide +kernel
theorem dX9_isDoor_0 : decode cX9_isDoor 0 = .ok (.iload_n 1, 1) := by decide +kernel
theorem dX9_isDoor_1 : decode cX9_isDoor 1 = .ok (.i2l, 1) := by decide +kernel
theorem dX9_isDoor_2 : decode cX9_isDoor 2 = .ok (.lconst 0, 1) := by decide +kernel
theorem dX9_isDoor_3 : decode cX9_isDoor 3 = .ok (.aload_n 0, 1) := by decide +kernel
theorem dX9_isDoor_4 : decode cX9_isDoor 4 = .ok (.getfield 7, 3) := by decide +kernel
theorem dX9_isDoor_7 : decode cX9_isDoor 7 = .ok (.iconst 2, 1) := by decide +kernel
theorem dX9_isDoor_8 : decode cX9_isDoor 8 = .ok (.iaload, 1) := by decide +kernel
theorem dX9_isDoor_9 : decode cX9_isDoor 9 = .ok (.iconst 1, 1) := by decide +kernel
theorem dX9_isDoor_10 : decode cX9_isDoor 10 = .ok (.isub, 1) := by decide +kernel
theorem dX9_isDoor_11 : decode cX9_isDoor 11 = .ok (.i2l, 1) := by decide +kernel
theorem dX9_isDoor_12 : decode cX9_isDoor 12 = .ok (.invokestatic 39, 3) := by decide +kernel
theorem dX9_isDoor_15 : decode cX9_isDoor 15 = .ok (.ireturn, 1) := by decide +kernel
theorem dX9_isRoom_0 : decode cX9_isRoom 0 = .ok (.iload_n 1, 1) := by decide +kernel
theorem dX9_isRoom_1 : decode cX9_isRoom 1 = .ok (.i2l, 1) := by decide +kernel
theorem dX9_isRoom_2 : decode cX9_isRoom 2 = .ok (.lconst 0, 1) := by decide +kernel
theorem dX9_isRoom_3 : decode cX9_isRoom 3 = .ok (.aload_n 0, 1) := by decide +kernel
theorem dX9_isRoom_4 : decode cX9_isRoom 4 = .ok (.getfield 7, 3) := by decide +kernel
theorem dX9_isRoom_7 : decode cX9_isRoom 7 = .ok (.iconst 0, 1) := by decide +kernel
theorem dX9_isRoom_8 : decode cX9_isRoom 8 = .ok (.iaload, 1) := by decide +kernel
theorem dX9_isRoom_9 : decode cX9_isRoom 9 = .ok (.iconst 1, 1) := by decide +kernel
theorem dX9_isRoom_10 : decode cX9_isRoom 10 = .ok (.isub, 1) := by decide +kernel
theorem dX9_isRoom_11 : decode cX9_isRoom 11 = .ok (.i2l, 1) := by decide +kernel
theorem dX9_isRoom_12 : decode cX9_isRoom 12 = .ok (.invokestatic 39, 3) := by decide +kernel
theorem dX9_isRoom_15 : decode cX9_isRoom 15 = .ok (.ireturn, 1) := by decide +kernel
theorem dX9_timesOf_0 : decode cX9_timesOf 0 = .ok (.aload_n 0, 1) := by decide +kernel
theorem dX9_timesOf_1 : decode cX9_timesOf 1 = .ok (.getfield 7, 3) := by decide +kernel
theorem dX9_timesOf_4 : decode cX9_timesOf 4 = .ok (.iload_n 1, 1) := by decide +kernel
theorem dX9_timesOf_5 : decode cX9_timesOf 5 = .ok (.bipush 54, 2) := by decide +kernel
theorem dX9_timesOf_7 : decode cX9_timesOf 7 = .ok (.iadd, 1) := by decide +kernel
theorem dX9_timesOf_8 : decode cX9_timesOf 8 = .ok (.bipush 6, 2) := by decide +kernel
theorem dX9_timesOf_10 : decode cX9_timesOf 10 = .ok (.iload_n 2, 1) := by decide +kernel
theorem dX9_timesOf_11 : decode cX9_timesOf 11 = .ok (.imul, 1) := by decide +kernel
theorem dX9_timesOf_12 : decode cX9_timesOf 12 = .ok (.iadd, 1) := by decide +kernel
theorem dX9_timesOf_13 : decode cX9_timesOf 13 = .ok (.iload_n 3, 1) := by decide +kernel
theorem dX9_timesOf_14 : decode cX9_timesOf 14 = .ok (.iadd, 1) := by decide +kernel
theorem dX9_timesOf_15 : decode cX9_timesOf 15 = .ok (.iaload, 1) := by decide +kernel
theorem dX9_timesOf_16 : decode cX9_timesOf 16 = .ok (.ireturn, 1) := by decide +kernel
theorem dX9_freshOf_0 : decode cX9_freshOf 0 = .ok (.aload_n 0, 1) := by decide +kernel
theorem dX9_freshOf_1 : decode cX9_freshOf 1 = .ok (.iload_n 1, 1) := by decide +kernel
theorem dX9_freshOf_2 : decode cX9_freshOf 2 = .ok (.iload_n 2, 1) := by decide +kernel
theorem dX9_freshOf_3 : decode cX9_freshOf 3 = .ok (.iload_n 3, 1) := by decide +kernel
theorem dX9_freshOf_4 : decode cX9_freshOf 4 = .ok (.invokevirtual 135, 3) := by decide +kernel
theorem dX9_freshOf_7 : decode cX9_freshOf 7 = .ok (.istore 4, 2) := by decide +kernel
theorem dX9_freshOf_9 : decode cX9_freshOf 9 = .ok (.iload 4, 2) := by decide +kernel
theorem dX9_freshOf_11 : decode cX9_freshOf 11 = .ok (.ifCond .eq 50, 3) := by decide +kernel
theorem dX9_freshOf_14 : decode cX9_freshOf 14 = .ok (.aload_n 0, 1) := by decide +kernel
theorem dX9_freshOf_15 : decode cX9_freshOf 15 = .ok (.getfield 7, 3) := by decide +kernel
theorem dX9_freshOf_18 : decode cX9_freshOf 18 = .ok (.iload_n 1, 1) := by decide +kernel
theorem dX9_freshOf_19 : decode cX9_freshOf 19 = .ok (.iconst 1, 1) := by decide +kernel
theorem dX9_freshOf_20 : decode cX9_freshOf 20 = .ok (.iadd, 1) := by decide +kernel
theorem dX9_freshOf_21 : decode cX9_freshOf 21 = .ok (.iaload, 1) := by decide +kernel
theorem dX9_freshOf_22 : decode cX9_freshOf 22 = .ok (.ifCond .eq 39, 3) := by decide +kernel
theorem dX9_freshOf_25 : decode cX9_freshOf 25 = .ok (.aload_n 0, 1) := by decide +kernel
theorem dX9_freshOf_26 : decode cX9_freshOf 26 = .ok (.getfield 7, 3) := by decide +kernel
theorem dX9_freshOf_29 : decode cX9_freshOf 29 = .ok (.iload_n 1, 1) := by decide +kernel
theorem dX9_freshOf_30 : decode cX9_freshOf 30 = .ok (.iconst 4, 1) := by decide +kernel
theorem dX9_freshOf_31 : decode cX9_freshOf 31 = .ok (.iadd, 1) := by decide +kernel
theorem dX9_freshOf_32 : decode cX9_freshOf 32 = .ok (.iaload, 1) := by decide +kernel
theorem dX9_freshOf_33 : decode cX9_freshOf 33 = .ok (.aload_n 0, 1) := by decide +kernel
theorem dX9_freshOf_34 : decode cX9_freshOf 34 = .ok (.getfield 7, 3) := by decide +kernel
theorem dX9_freshOf_37 : decode cX9_freshOf 37 = .ok (.iload_n 1, 1) := by decide +kernel
theorem dX9_freshOf_38 : decode cX9_freshOf 38 = .ok (.bipush 90, 2) := by decide +kernel
theorem dX9_freshOf_40 : decode cX9_freshOf 40 = .ok (.iadd, 1) := by decide +kernel
theorem dX9_freshOf_41 : decode cX9_freshOf 41 = .ok (.bipush 6, 2) := by decide +kernel
theorem dX9_freshOf_43 : decode cX9_freshOf 43 = .ok (.iload_n 2, 1) := by decide +kernel
theorem dX9_freshOf_44 : decode cX9_freshOf 44 = .ok (.imul, 1) := by decide +kernel
theorem dX9_freshOf_45 : decode cX9_freshOf 45 = .ok (.iadd, 1) := by decide +kernel
theorem dX9_freshOf_46 : decode cX9_freshOf 46 = .ok (.iload_n 3, 1) := by decide +kernel
theorem dX9_freshOf_47 : decode cX9_freshOf 47 = .ok (.iadd, 1) := by decide +kernel
theorem dX9_freshOf_48 : decode cX9_freshOf 48 = .ok (.iaload, 1) := by decide +kernel
theorem dX9_freshOf_49 : decode cX9_freshOf 49 = .ok (.isub, 1) := by decide +kernel
theorem dX9_freshOf_50 : decode cX9_freshOf 50 = .ok (.aload_n 0, 1) := by decide +kernel
theorem dX9_freshOf_51 : decode cX9_freshOf 51 = .ok (.getfield 7, 3) := by decide +kernel
theorem dX9_freshOf_54 : decode cX9_freshOf 54 = .ok (.iload_n 1, 1) := by decide +kernel
theorem dX9_freshOf_55 : decode cX9_freshOf 55 = .ok (.iconst 1, 1) := by decide +kernel
theorem dX9_freshOf_56 : decode cX9_freshOf 56 = .ok (.iadd, 1) := by decide +kernel
theorem dX9_freshOf_57 : decode cX9_freshOf 57 = .ok (.iaload, 1) := by decide +kernel
theorem dX9_freshOf_58 : decode cX9_freshOf 58 = .ok (.if_icmp .gt 7, 3) := by decide +kernel
theorem dX9_freshOf_61 : decode cX9_freshOf 61 = .ok (.iconst 1, 1) := by decide +kernel
theorem dX9_freshOf_62 : decode cX9_freshOf 62 = .ok (.goto 4, 3) := by decide +kernel
theorem dX9_freshOf_65 : decode cX9_freshOf 65 = .ok (.iconst 0, 1) := by decide +kernel
theorem dX9_freshOf_66 : decode cX9_freshOf 66 = .ok (.istore 5, 2) := by decide +kernel
theorem dX9_freshOf_68 : decode cX9_freshOf 68 = .ok (.iload 5, 2) := by decide +kernel
theorem dX9_freshOf_70 : decode cX9_freshOf 70 = .ok (.ifCond .eq 8, 3) := by decide +kernel
theorem dX9_freshOf_73 : decode cX9_freshOf 73 = .ok (.iload 4, 2) := by decide +kernel
theorem dX9_freshOf_75 : decode cX9_freshOf 75 = .ok (.goto 7, 3) := by decide +kernel
theorem dX9_freshOf_78 : decode cX9_freshOf 78 = .ok (.iload 4, 2) := by decide +kernel
theorem dX9_freshOf_80 : decode cX9_freshOf 80 = .ok (.iconst 2, 1) := by decide +kernel
theorem dX9_freshOf_81 : decode cX9_freshOf 81 = .ok (.idiv, 1) := by decide +kernel
theorem dX9_freshOf_82 : decode cX9_freshOf 82 = .ok (.ireturn, 1) := by decide +kernel
theorem dX9_weightOf_0 : decode cX9_weightOf 0 = .ok (.aload_n 0, 1) := by decide +kernel
theorem dX9_weightOf_1 : decode cX9_weightOf 1 = .ok (.iload_n 1, 1) := by decide +kernel
theorem dX9_weightOf_2 : decode cX9_weightOf 2 = .ok (.iload_n 2, 1) := by decide +kernel
theorem dX9_weightOf_3 : decode cX9_weightOf 3 = .ok (.iload_n 3, 1) := by decide +kernel
theorem dX9_weightOf_4 : decode cX9_weightOf 4 = .ok (.invokevirtual 135, 3) := by decide +kernel
theorem dX9_weightOf_7 : decode cX9_weightOf 7 = .ok (.istore 4, 2) := by decide +kernel
theorem dX9_weightOf_9 : decode cX9_weightOf 9 = .ok (.aload_n 0, 1) := by decide +kernel
theorem dX9_weightOf_10 : decode cX9_weightOf 10 = .ok (.getfield 7, 3) := by decide +kernel
theorem dX9_weightOf_13 : decode cX9_weightOf 13 = .ok (.iload_n 1, 1) := by decide +kernel
theorem dX9_weightOf_14 : decode cX9_weightOf 14 = .ok (.bipush 18, 2) := by decide +kernel
theorem dX9_weightOf_16 : decode cX9_weightOf 16 = .ok (.iadd, 1) := by decide +kernel
theorem dX9_weightOf_17 : decode cX9_weightOf 17 = .ok (.iload_n 2, 1) := by decide +kernel
theorem dX9_weightOf_18 : decode cX9_weightOf 18 = .ok (.iadd, 1) := by decide +kernel
theorem dX9_weightOf_19 : decode cX9_weightOf 19 = .ok (.iaload, 1) := by decide +kernel
theorem dX9_weightOf_20 : decode cX9_weightOf 20 = .ok (.tableswitch 92 2 5 #[32, 51, 70, 81], 32) := by decide +kernel
theorem dX9_weightOf_52 : decode cX9_weightOf 52 = .ok (.aload_n 0, 1) := by decide +kernel
theorem dX9_weightOf_53 : decode cX9_weightOf 53 = .ok (.iload_n 1, 1) := by decide +kernel
theorem dX9_weightOf_54 : decode cX9_weightOf 54 = .ok (.iload_n 2, 1) := by decide +kernel
theorem dX9_weightOf_55 : decode cX9_weightOf 55 = .ok (.iload_n 3, 1) := by decide +kernel
theorem dX9_weightOf_56 : decode cX9_weightOf 56 = .ok (.invokevirtual 139, 3) := by decide +kernel
theorem dX9_weightOf_59 : decode cX9_weightOf 59 = .ok (.iload_n 3, 1) := by decide +kernel
theorem dX9_weightOf_60 : decode cX9_weightOf 60 = .ok (.ifCond .ne 8, 3) := by decide +kernel
theorem dX9_weightOf_63 : decode cX9_weightOf 63 = .ok (.bipush 9, 2) := by decide +kernel
theorem dX9_weightOf_65 : decode cX9_weightOf 65 = .ok (.goto 4, 3) := by decide +kernel
theorem dX9_weightOf_68 : decode cX9_weightOf 68 = .ok (.iconst 0, 1) := by decide +kernel
theorem dX9_weightOf_69 : decode cX9_weightOf 69 = .ok (.iadd, 1) := by decide +kernel
theorem dX9_weightOf_70 : decode cX9_weightOf 70 = .ok (.ireturn, 1) := by decide +kernel
theorem dX9_weightOf_71 : decode cX9_weightOf 71 = .ok (.iload 4, 2) := by decide +kernel
theorem dX9_weightOf_73 : decode cX9_weightOf 73 = .ok (.iconst 3, 1) := by decide +kernel
theorem dX9_weightOf_74 : decode cX9_weightOf 74 = .ok (.irem, 1) := by decide +kernel
theorem dX9_weightOf_75 : decode cX9_weightOf 75 = .ok (.ifCond .ne 7, 3) := by decide +kernel
theorem dX9_weightOf_78 : decode cX9_weightOf 78 = .ok (.iconst 0, 1) := by decide +kernel
theorem dX9_weightOf_79 : decode cX9_weightOf 79 = .ok (.goto 10, 3) := by decide +kernel
theorem dX9_weightOf_82 : decode cX9_weightOf 82 = .ok (.aload_n 0, 1) := by decide +kernel
theorem dX9_weightOf_83 : decode cX9_weightOf 83 = .ok (.iload_n 1, 1) := by decide +kernel
theorem dX9_weightOf_84 : decode cX9_weightOf 84 = .ok (.iload_n 2, 1) := by decide +kernel
theorem dX9_weightOf_85 : decode cX9_weightOf 85 = .ok (.iload_n 3, 1) := by decide +kernel
theorem dX9_weightOf_86 : decode cX9_weightOf 86 = .ok (.invokevirtual 139, 3) := by decide +kernel
theorem dX9_weightOf_89 : decode cX9_weightOf 89 = .ok (.ireturn, 1) := by decide +kernel
theorem dX9_weightOf_90 : decode cX9_weightOf 90 = .ok (.iload 4, 2) := by decide +kernel
theorem dX9_weightOf_92 : decode cX9_weightOf 92 = .ok (.ifCond .le 7, 3) := by decide +kernel
theorem dX9_weightOf_95 : decode cX9_weightOf 95 = .ok (.iconst 1, 1) := by decide +kernel
theorem dX9_weightOf_96 : decode cX9_weightOf 96 = .ok (.goto 4, 3) := by decide +kernel
theorem dX9_weightOf_99 : decode cX9_weightOf 99 = .ok (.iconst 0, 1) := by decide +kernel
theorem dX9_weightOf_100 : decode cX9_weightOf 100 = .ok (.ireturn, 1) := by decide +kernel
theorem dX9_weightOf_101 : decode cX9_weightOf 101 = .ok (.iload 4, 2) := by decide +kernel
theorem dX9_weightOf_103 : decode cX9_weightOf 103 = .ok (.ifCond .le 7, 3) := by decide +kernel
theorem dX9_weightOf_106 : decode cX9_weightOf 106 = .ok (.iconst 2, 1) := by decide +kernel
theorem dX9_weightOf_107 : decode cX9_weightOf 107 = .ok (.goto 4, 3) := by decide +kernel
theorem dX9_weightOf_110 : decode cX9_weightOf 110 = .ok (.iconst 0, 1) := by decide +kernel
theorem dX9_weightOf_111 : decode cX9_weightOf 111 = .ok (.ireturn, 1) := by decide +kernel
theorem dX9_weightOf_112 : decode cX9_weightOf 112 = .ok (.aload_n 0, 1) := by decide +kernel
theorem dX9_weightOf_113 : decode cX9_weightOf 113 = .ok (.iload_n 1, 1) := by decide +kernel
theorem dX9_weightOf_114 : decode cX9_weightOf 114 = .ok (.iload_n 2, 1) := by decide +kernel
theorem dX9_weightOf_115 : decode cX9_weightOf 115 = .ok (.iload_n 3, 1) := by decide +kernel
theorem dX9_weightOf_116 : decode cX9_weightOf 116 = .ok (.invokevirtual 139, 3) := by decide +kernel
theorem dX9_weightOf_119 : decode cX9_weightOf 119 = .ok (.ireturn, 1) := by decide +kernel
theorem dX9_plainFavour_0 : decode cX9_plainFavour 0 = .ok (.aload_n 0, 1) := by decide +kernel
theorem dX9_plainFavour_1 : decode cX9_plainFavour 1 = .ok (.getfield 7, 3) := by decide +kernel
theorem dX9_plainFavour_4 : decode cX9_plainFavour 4 = .ok (.iload_n 1, 1) := by decide +kernel
theorem dX9_plainFavour_5 : decode cX9_plainFavour 5 = .ok (.bipush 30, 2) := by decide +kernel
theorem dX9_plainFavour_7 : decode cX9_plainFavour 7 = .ok (.iadd, 1) := by decide +kernel
theorem dX9_plainFavour_8 : decode cX9_plainFavour 8 = .ok (.iload_n 2, 1) := by decide +kernel
theorem dX9_plainFavour_9 : decode cX9_plainFavour 9 = .ok (.iadd, 1) := by decide +kernel
theorem dX9_plainFavour_10 : decode cX9_plainFavour 10 = .ok (.iaload, 1) := by decide +kernel
theorem dX9_plainFavour_11 : decode cX9_plainFavour 11 = .ok (.iconst 3, 1) := by decide +kernel
theorem dX9_plainFavour_12 : decode cX9_plainFavour 12 = .ok (.isub, 1) := by decide +kernel
theorem dX9_plainFavour_13 : decode cX9_plainFavour 13 = .ok (.aload_n 0, 1) := by decide +kernel
theorem dX9_plainFavour_14 : decode cX9_plainFavour 14 = .ok (.getfield 7, 3) := by decide +kernel
theorem dX9_plainFavour_17 : decode cX9_plainFavour 17 = .ok (.iload_n 1, 1) := by decide +kernel
theorem dX9_plainFavour_18 : decode cX9_plainFavour 18 = .ok (.bipush 36, 2) := by decide +kernel
theorem dX9_plainFavour_20 : decode cX9_plainFavour 20 = .ok (.iadd, 1) := by decide +kernel
theorem dX9_plainFavour_21 : decode cX9_plainFavour 21 = .ok (.iload_n 2, 1) := by decide +kernel
theorem dX9_plainFavour_22 : decode cX9_plainFavour 22 = .ok (.iadd, 1) := by decide +kernel
theorem dX9_plainFavour_23 : decode cX9_plainFavour 23 = .ok (.iaload, 1) := by decide +kernel
theorem dX9_plainFavour_24 : decode cX9_plainFavour 24 = .ok (.iadd, 1) := by decide +kernel
theorem dX9_plainFavour_25 : decode cX9_plainFavour 25 = .ok (.istore 4, 2) := by decide +kernel
theorem dX9_plainFavour_27 : decode cX9_plainFavour 27 = .ok (.iload 4, 2) := by decide +kernel
theorem dX9_plainFavour_29 : decode cX9_plainFavour 29 = .ok (.aload_n 0, 1) := by decide +kernel
theorem dX9_plainFavour_30 : decode cX9_plainFavour 30 = .ok (.getfield 7, 3) := by decide +kernel
theorem dX9_plainFavour_33 : decode cX9_plainFavour 33 = .ok (.iload_n 1, 1) := by decide +kernel
theorem dX9_plainFavour_34 : decode cX9_plainFavour 34 = .ok (.bipush 42, 2) := by decide +kernel
theorem dX9_plainFavour_36 : decode cX9_plainFavour 36 = .ok (.iadd, 1) := by decide +kernel
theorem dX9_plainFavour_37 : decode cX9_plainFavour 37 = .ok (.iload_n 2, 1) := by decide +kernel
theorem dX9_plainFavour_38 : decode cX9_plainFavour 38 = .ok (.iadd, 1) := by decide +kernel
theorem dX9_plainFavour_39 : decode cX9_plainFavour 39 = .ok (.iaload, 1) := by decide +kernel
theorem dX9_plainFavour_40 : decode cX9_plainFavour 40 = .ok (.iload_n 3, 1) := by decide +kernel
theorem dX9_plainFavour_41 : decode cX9_plainFavour 41 = .ok (.invokestatic 103, 3) := by decide +kernel
theorem dX9_plainFavour_44 : decode cX9_plainFavour 44 = .ok (.ifCond .eq 7, 3) := by decide +kernel
theorem dX9_plainFavour_47 : decode cX9_plainFavour 47 = .ok (.iconst 5, 1) := by decide +kernel
theorem dX9_plainFavour_48 : decode cX9_plainFavour 48 = .ok (.goto 4, 3) := by decide +kernel
theorem dX9_plainFavour_51 : decode cX9_plainFavour 51 = .ok (.iconst 0, 1) := by decide +kernel
theorem dX9_plainFavour_52 : decode cX9_plainFavour 52 = .ok (.iadd, 1) := by decide +kernel
theorem dX9_plainFavour_53 : decode cX9_plainFavour 53 = .ok (.aload_n 0, 1) := by decide +kernel
theorem dX9_plainFavour_54 : decode cX9_plainFavour 54 = .ok (.getfield 7, 3) := by decide +kernel
theorem dX9_plainFavour_57 : decode cX9_plainFavour 57 = .ok (.iload_n 1, 1) := by decide +kernel
theorem dX9_plainFavour_58 : decode cX9_plainFavour 58 = .ok (.bipush 48, 2) := by decide +kernel
theorem dX9_plainFavour_60 : decode cX9_plainFavour 60 = .ok (.iadd, 1) := by decide +kernel
theorem dX9_plainFavour_61 : decode cX9_plainFavour 61 = .ok (.iload_n 2, 1) := by decide +kernel
theorem dX9_plainFavour_62 : decode cX9_plainFavour 62 = .ok (.iadd, 1) := by decide +kernel
theorem dX9_plainFavour_63 : decode cX9_plainFavour 63 = .ok (.iaload, 1) := by decide +kernel
theorem dX9_plainFavour_64 : decode cX9_plainFavour 64 = .ok (.iload_n 3, 1) := by decide +kernel
theorem dX9_plainFavour_65 : decode cX9_plainFavour 65 = .ok (.invokestatic 103, 3) := by decide +kernel
theorem dX9_plainFavour_68 : decode cX9_plainFavour 68 = .ok (.ifCond .eq 8, 3) := by decide +kernel
theorem dX9_plainFavour_71 : decode cX9_plainFavour 71 = .ok (.bipush 9, 2) := by decide +kernel
theorem dX9_plainFavour_73 : decode cX9_plainFavour 73 = .ok (.goto 4, 3) := by decide +kernel
theorem dX9_plainFavour_76 : decode cX9_plainFavour 76 = .ok (.iconst 0, 1) := by decide +kernel
theorem dX9_plainFavour_77 : decode cX9_plainFavour 77 = .ok (.isub, 1) := by decide +kernel
theorem dX9_plainFavour_78 : decode cX9_plainFavour 78 = .ok (.ireturn, 1) := by decide +kernel
theorem dX9_favourOf_0 : decode cX9_favourOf 0 = .ok (.aload_n 0, 1) := by decide +kernel
theorem dX9_favourOf_1 : decode cX9_favourOf 1 = .ok (.iload_n 1, 1) := by decide +kernel
theorem dX9_favourOf_2 : decode cX9_favourOf 2 = .ok (.iload_n 2, 1) := by decide +kernel
theorem dX9_favourOf_3 : decode cX9_favourOf 3 = .ok (.iload_n 3, 1) := by decide +kernel
theorem dX9_favourOf_4 : decode cX9_favourOf 4 = .ok (.invokevirtual 142, 3) := by decide +kernel
theorem dX9_favourOf_7 : decode cX9_favourOf 7 = .ok (.istore 4, 2) := by decide +kernel
theorem dX9_favourOf_9 : decode cX9_favourOf 9 = .ok (.iload 4, 2) := by decide +kernel
theorem dX9_favourOf_11 : decode cX9_favourOf 11 = .ok (.ifCond .ge 22, 3) := by decide +kernel
theorem dX9_favourOf_14 : decode cX9_favourOf 14 = .ok (.aload_n 0, 1) := by decide +kernel
theorem dX9_favourOf_15 : decode cX9_favourOf 15 = .ok (.getfield 7, 3) := by decide +kernel
theorem dX9_favourOf_18 : decode cX9_favourOf 18 = .ok (.iload_n 1, 1) := by decide +kernel
theorem dX9_favourOf_19 : decode cX9_favourOf 19 = .ok (.bipush 18, 2) := by decide +kernel
theorem dX9_favourOf_21 : decode cX9_favourOf 21 = .ok (.iadd, 1) := by decide +kernel
theorem dX9_favourOf_22 : decode cX9_favourOf 22 = .ok (.iload_n 2, 1) := by decide +kernel
theorem dX9_favourOf_23 : decode cX9_favourOf 23 = .ok (.iadd, 1) := by decide +kernel
theorem dX9_favourOf_24 : decode cX9_favourOf 24 = .ok (.iaload, 1) := by decide +kernel
theorem dX9_favourOf_25 : decode cX9_favourOf 25 = .ok (.iconst 5, 1) := by decide +kernel
theorem dX9_favourOf_26 : decode cX9_favourOf 26 = .ok (.if_icmp .ne 7, 3) := by decide +kernel
theorem dX9_favourOf_29 : decode cX9_favourOf 29 = .ok (.iconst 0, 1) := by decide +kernel
theorem dX9_favourOf_30 : decode cX9_favourOf 30 = .ok (.goto 5, 3) := by decide +kernel
theorem dX9_favourOf_33 : decode cX9_favourOf 33 = .ok (.iload 4, 2) := by decide +kernel
theorem dX9_favourOf_35 : decode cX9_favourOf 35 = .ok (.ireturn, 1) := by decide +kernel
theorem dX9_weights_0 : decode cX9_weights 0 = .ok (.iconst 0, 1) := by decide +kernel
theorem dX9_weights_1 : decode cX9_weights 1 = .ok (.istore 5, 2) := by decide +kernel
theorem dX9_weights_3 : decode cX9_weights 3 = .ok (.iconst 0, 1) := by decide +kernel
theorem dX9_weights_4 : decode cX9_weights 4 = .ok (.istore 6, 2) := by decide +kernel
theorem dX9_weights_6 : decode cX9_weights 6 = .ok (.iload 6, 2) := by decide +kernel
theorem dX9_weights_8 : decode cX9_weights 8 = .ok (.aload_n 0, 1) := by decide +kernel
theorem dX9_weights_9 : decode cX9_weights 9 = .ok (.getfield 7, 3) := by decide +kernel
theorem dX9_weights_12 : decode cX9_weights 12 = .ok (.iload_n 1, 1) := by decide +kernel
theorem dX9_weights_13 : decode cX9_weights 13 = .ok (.iconst 3, 1) := by decide +kernel
theorem dX9_weights_14 : decode cX9_weights 14 = .ok (.iadd, 1) := by decide +kernel
theorem dX9_weights_15 : decode cX9_weights 15 = .ok (.iaload, 1) := by decide +kernel
theorem dX9_weights_16 : decode cX9_weights 16 = .ok (.if_icmp .ge 91, 3) := by decide +kernel
theorem dX9_weights_19 : decode cX9_weights 19 = .ok (.iload 6, 2) := by decide +kernel
theorem dX9_weights_21 : decode cX9_weights 21 = .ok (.iload_n 2, 1) := by decide +kernel
theorem dX9_weights_22 : decode cX9_weights 22 = .ok (.if_icmp .eq 79, 3) := by decide +kernel
theorem dX9_weights_25 : decode cX9_weights 25 = .ok (.aload_n 0, 1) := by decide +kernel
theorem dX9_weights_26 : decode cX9_weights 26 = .ok (.getfield 145, 3) := by decide +kernel
theorem dX9_weights_29 : decode cX9_weights 29 = .ok (.iload 6, 2) := by decide +kernel
theorem dX9_weights_31 : decode cX9_weights 31 = .ok (.invokestatic 103, 3) := by decide +kernel
theorem dX9_weights_34 : decode cX9_weights 34 = .ok (.ifCond .ne 67, 3) := by decide +kernel
theorem dX9_weights_37 : decode cX9_weights 37 = .ok (.aload_n 0, 1) := by decide +kernel
theorem dX9_weights_38 : decode cX9_weights 38 = .ok (.iload_n 1, 1) := by decide +kernel
theorem dX9_weights_39 : decode cX9_weights 39 = .ok (.iload 6, 2) := by decide +kernel
theorem dX9_weights_41 : decode cX9_weights 41 = .ok (.iload_n 2, 1) := by decide +kernel
theorem dX9_weights_42 : decode cX9_weights 42 = .ok (.invokevirtual 148, 3) := by decide +kernel
theorem dX9_weights_45 : decode cX9_weights 45 = .ok (.istore 7, 2) := by decide +kernel
theorem dX9_weights_47 : decode cX9_weights 47 = .ok (.iload 4, 2) := by decide +kernel
theorem dX9_weights_49 : decode cX9_weights 49 = .ok (.ifCond .eq 23, 3) := by decide +kernel
theorem dX9_weights_52 : decode cX9_weights 52 = .ok (.iload 4, 2) := by decide +kernel
theorem dX9_weights_54 : decode cX9_weights 54 = .ok (.ifCond .le 8, 3) := by decide +kernel
theorem dX9_weights_57 : decode cX9_weights 57 = .ok (.iload 7, 2) := by decide +kernel
theorem dX9_weights_59 : decode cX9_weights 59 = .ok (.ifCond .gt 13, 3) := by decide +kernel
theorem dX9_weights_62 : decode cX9_weights 62 = .ok (.iload 4, 2) := by decide +kernel
theorem dX9_weights_64 : decode cX9_weights 64 = .ok (.ifCond .ge 12, 3) := by decide +kernel
theorem dX9_weights_67 : decode cX9_weights 67 = .ok (.iload 7, 2) := by decide +kernel
theorem dX9_weights_69 : decode cX9_weights 69 = .ok (.ifCond .ge 7, 3) := by decide +kernel
theorem dX9_weights_72 : decode cX9_weights 72 = .ok (.iconst 1, 1) := by decide +kernel
theorem dX9_weights_73 : decode cX9_weights 73 = .ok (.goto 4, 3) := by decide +kernel
theorem dX9_weights_76 : decode cX9_weights 76 = .ok (.iconst 0, 1) := by decide +kernel
theorem dX9_weights_77 : decode cX9_weights 77 = .ok (.istore 8, 2) := by decide +kernel
theorem dX9_weights_79 : decode cX9_weights 79 = .ok (.iload 5, 2) := by decide +kernel
theorem dX9_weights_81 : decode cX9_weights 81 = .ok (.iload 8, 2) := by decide +kernel
theorem dX9_weights_83 : decode cX9_weights 83 = .ok (.ifCond .eq 14, 3) := by decide +kernel
theorem dX9_weights_86 : decode cX9_weights 86 = .ok (.aload_n 0, 1) := by decide +kernel
theorem dX9_weights_87 : decode cX9_weights 87 = .ok (.iload_n 1, 1) := by decide +kernel
theorem dX9_weights_88 : decode cX9_weights 88 = .ok (.iload 6, 2) := by decide +kernel
theorem dX9_weights_90 : decode cX9_weights 90 = .ok (.iload_n 3, 1) := by decide +kernel
theorem dX9_weights_91 : decode cX9_weights 91 = .ok (.invokevirtual 151, 3) := by decide +kernel
theorem dX9_weights_94 : decode cX9_weights 94 = .ok (.goto 4, 3) := by decide +kernel
theorem dX9_weights_97 : decode cX9_weights 97 = .ok (.iconst 0, 1) := by decide +kernel
theorem dX9_weights_98 : decode cX9_weights 98 = .ok (.iadd, 1) := by decide +kernel
theorem dX9_weights_99 : decode cX9_weights 99 = .ok (.istore 5, 2) := by decide +kernel
theorem dX9_weights_101 : decode cX9_weights 101 = .ok (.iinc 6 1, 3) := by decide +kernel
theorem dX9_weights_104 : decode cX9_weights 104 = .ok (.goto (-98), 3) := by decide +kernel
theorem dX9_weights_107 : decode cX9_weights 107 = .ok (.iload 5, 2) := by decide +kernel
theorem dX9_weights_109 : decode cX9_weights 109 = .ok (.ireturn, 1) := by decide +kernel
theorem dX9_opens_0 : decode cX9_opens 0 = .ok (.aload_n 0, 1) := by decide +kernel
theorem dX9_opens_1 : decode cX9_opens 1 = .ok (.iload_n 1, 1) := by decide +kernel
theorem dX9_opens_2 : decode cX9_opens 2 = .ok (.iload_n 2, 1) := by decide +kernel
theorem dX9_opens_3 : decode cX9_opens 3 = .ok (.iload_n 3, 1) := by decide +kernel
theorem dX9_opens_4 : decode cX9_opens 4 = .ok (.iconst 0, 1) := by decide +kernel
theorem dX9_opens_5 : decode cX9_opens 5 = .ok (.invokevirtual 154, 3) := by decide +kernel
theorem dX9_opens_8 : decode cX9_opens 8 = .ok (.ifCond .eq 22, 3) := by decide +kernel
theorem dX9_opens_11 : decode cX9_opens 11 = .ok (.aload_n 0, 1) := by decide +kernel
theorem dX9_opens_12 : decode cX9_opens 12 = .ok (.iload_n 1, 1) := by decide +kernel
theorem dX9_opens_13 : decode cX9_opens 13 = .ok (.iload_n 2, 1) := by decide +kernel
theorem dX9_opens_14 : decode cX9_opens 14 = .ok (.iload_n 3, 1) := by decide +kernel
theorem dX9_opens_15 : decode cX9_opens 15 = .ok (.iconst 1, 1) := by decide +kernel
theorem dX9_opens_16 : decode cX9_opens 16 = .ok (.invokevirtual 154, 3) := by decide +kernel
theorem dX9_opens_19 : decode cX9_opens 19 = .ok (.aload_n 0, 1) := by decide +kernel
theorem dX9_opens_20 : decode cX9_opens 20 = .ok (.iload_n 1, 1) := by decide +kernel
theorem dX9_opens_21 : decode cX9_opens 21 = .ok (.iload_n 2, 1) := by decide +kernel
theorem dX9_opens_22 : decode cX9_opens 22 = .ok (.iload_n 3, 1) := by decide +kernel
theorem dX9_opens_23 : decode cX9_opens 23 = .ok (.iconst (-1), 1) := by decide +kernel
theorem dX9_opens_24 : decode cX9_opens 24 = .ok (.invokevirtual 154, 3) := by decide +kernel
theorem dX9_opens_27 : decode cX9_opens 27 = .ok (.if_icmp .le 7, 3) := by decide +kernel
theorem dX9_opens_30 : decode cX9_opens 30 = .ok (.iconst 1, 1) := by decide +kernel
theorem dX9_opens_31 : decode cX9_opens 31 = .ok (.goto 4, 3) := by decide +kernel
theorem dX9_opens_34 : decode cX9_opens 34 = .ok (.iconst 0, 1) := by decide +kernel
theorem dX9_opens_35 : decode cX9_opens 35 = .ok (.ireturn, 1) := by decide +kernel
theorem dX9_endOf_0 : decode cX9_endOf 0 = .ok (.aload_n 0, 1) := by decide +kernel
theorem dX9_endOf_1 : decode cX9_endOf 1 = .ok (.getfield 7, 3) := by decide +kernel
theorem dX9_endOf_4 : decode cX9_endOf 4 = .ok (.iload_n 1, 1) := by decide +kernel
theorem dX9_endOf_5 : decode cX9_endOf 5 = .ok (.bipush 6, 2) := by decide +kernel
theorem dX9_endOf_7 : decode cX9_endOf 7 = .ok (.iadd, 1) := by decide +kernel
theorem dX9_endOf_8 : decode cX9_endOf 8 = .ok (.iconst 2, 1) := by decide +kernel
theorem dX9_endOf_9 : decode cX9_endOf 9 = .ok (.iload_n 2, 1) := by decide +kernel
theorem dX9_endOf_10 : decode cX9_endOf 10 = .ok (.imul, 1) := by decide +kernel
theorem dX9_endOf_11 : decode cX9_endOf 11 = .ok (.iadd, 1) := by decide +kernel
theorem dX9_endOf_12 : decode cX9_endOf 12 = .ok (.iload_n 3, 1) := by decide +kernel
theorem dX9_endOf_13 : decode cX9_endOf 13 = .ok (.iadd, 1) := by decide +kernel
theorem dX9_endOf_14 : decode cX9_endOf 14 = .ok (.iaload, 1) := by decide +kernel
theorem dX9_endOf_15 : decode cX9_endOf 15 = .ok (.ireturn, 1) := by decide +kernel
theorem dX9_behind_0 : decode cX9_behind 0 = .ok (.aload_n 0, 1) := by decide +kernel
theorem dX9_behind_1 : decode cX9_behind 1 = .ok (.iload_n 1, 1) := by decide +kernel
theorem dX9_behind_2 : decode cX9_behind 2 = .ok (.iload_n 2, 1) := by decide +kernel
theorem dX9_behind_3 : decode cX9_behind 3 = .ok (.iconst 0, 1) := by decide +kernel
theorem dX9_behind_4 : decode cX9_behind 4 = .ok (.invokevirtual 158, 3) := by decide +kernel
theorem dX9_behind_7 : decode cX9_behind 7 = .ok (.iload_n 3, 1) := by decide +kernel
theorem dX9_behind_8 : decode cX9_behind 8 = .ok (.if_icmp .ne 13, 3) := by decide +kernel
theorem dX9_behind_11 : decode cX9_behind 11 = .ok (.aload_n 0, 1) := by decide +kernel
theorem dX9_behind_12 : decode cX9_behind 12 = .ok (.iload_n 1, 1) := by decide +kernel
theorem dX9_behind_13 : decode cX9_behind 13 = .ok (.iload_n 2, 1) := by decide +kernel
theorem dX9_behind_14 : decode cX9_behind 14 = .ok (.iconst 1, 1) := by decide +kernel
theorem dX9_behind_15 : decode cX9_behind 15 = .ok (.invokevirtual 158, 3) := by decide +kernel
theorem dX9_behind_18 : decode cX9_behind 18 = .ok (.goto 26, 3) := by decide +kernel
theorem dX9_behind_21 : decode cX9_behind 21 = .ok (.aload_n 0, 1) := by decide +kernel
theorem dX9_behind_22 : decode cX9_behind 22 = .ok (.iload_n 1, 1) := by decide +kernel
theorem dX9_behind_23 : decode cX9_behind 23 = .ok (.iload_n 2, 1) := by decide +kernel
theorem dX9_behind_24 : decode cX9_behind 24 = .ok (.iconst 1, 1) := by decide +kernel
theorem dX9_behind_25 : decode cX9_behind 25 = .ok (.invokevirtual 158, 3) := by decide +kernel
theorem dX9_behind_28 : decode cX9_behind 28 = .ok (.iload_n 3, 1) := by decide +kernel
theorem dX9_behind_29 : decode cX9_behind 29 = .ok (.if_icmp .ne 13, 3) := by decide +kernel
theorem dX9_behind_32 : decode cX9_behind 32 = .ok (.aload_n 0, 1) := by decide +kernel
theorem dX9_behind_33 : decode cX9_behind 33 = .ok (.iload_n 1, 1) := by decide +kernel
theorem dX9_behind_34 : decode cX9_behind 34 = .ok (.iload_n 2, 1) := by decide +kernel
theorem dX9_behind_35 : decode cX9_behind 35 = .ok (.iconst 0, 1) := by decide +kernel
theorem dX9_behind_36 : decode cX9_behind 36 = .ok (.invokevirtual 158, 3) := by decide +kernel
theorem dX9_behind_39 : decode cX9_behind 39 = .ok (.goto 5, 3) := by decide +kernel
theorem dX9_behind_42 : decode cX9_behind 42 = .ok (.ldc 106, 2) := by decide +kernel
theorem dX9_behind_44 : decode cX9_behind 44 = .ok (.ireturn, 1) := by decide +kernel
theorem dX9_goThrough_0 : decode cX9_goThrough 0 = .ok (.iload_n 1, 1) := by decide +kernel
theorem dX9_goThrough_1 : decode cX9_goThrough 1 = .ok (.bipush 54, 2) := by decide +kernel
theorem dX9_goThrough_3 : decode cX9_goThrough 3 = .ok (.iadd, 1) := by decide +kernel
theorem dX9_goThrough_4 : decode cX9_goThrough 4 = .ok (.bipush 6, 2) := by decide +kernel
theorem dX9_goThrough_6 : decode cX9_goThrough 6 = .ok (.iload_n 2, 1) := by decide +kernel
theorem dX9_goThrough_7 : decode cX9_goThrough 7 = .ok (.imul, 1) := by decide +kernel
theorem dX9_goThrough_8 : decode cX9_goThrough 8 = .ok (.iadd, 1) := by decide +kernel
theorem dX9_goThrough_9 : decode cX9_goThrough 9 = .ok (.iload_n 3, 1) := by decide +kernel
theorem dX9_goThrough_10 : decode cX9_goThrough 10 = .ok (.iadd, 1) := by decide +kernel
theorem dX9_goThrough_11 : decode cX9_goThrough 11 = .ok (.istore 4, 2) := by decide +kernel
theorem dX9_goThrough_13 : decode cX9_goThrough 13 = .ok (.aload_n 0, 1) := by decide +kernel
theorem dX9_goThrough_14 : decode cX9_goThrough 14 = .ok (.getfield 7, 3) := by decide +kernel
theorem dX9_goThrough_17 : decode cX9_goThrough 17 = .ok (.iload 4, 2) := by decide +kernel
theorem dX9_goThrough_19 : decode cX9_goThrough 19 = .ok (.dup2, 1) := by decide +kernel
theorem dX9_goThrough_20 : decode cX9_goThrough 20 = .ok (.iaload, 1) := by decide +kernel
theorem dX9_goThrough_21 : decode cX9_goThrough 21 = .ok (.aload_n 0, 1) := by decide +kernel
theorem dX9_goThrough_22 : decode cX9_goThrough 22 = .ok (.getfield 7, 3) := by decide +kernel
theorem dX9_goThrough_25 : decode cX9_goThrough 25 = .ok (.iload 4, 2) := by decide +kernel
theorem dX9_goThrough_27 : decode cX9_goThrough 27 = .ok (.iaload, 1) := by decide +kernel
theorem dX9_goThrough_28 : decode cX9_goThrough 28 = .ok (.bipush 99, 2) := by decide +kernel
theorem dX9_goThrough_30 : decode cX9_goThrough 30 = .ok (.if_icmp .ge 7, 3) := by decide +kernel
theorem dX9_goThrough_33 : decode cX9_goThrough 33 = .ok (.iconst 1, 1) := by decide +kernel
theorem dX9_goThrough_34 : decode cX9_goThrough 34 = .ok (.goto 4, 3) := by decide +kernel
theorem dX9_goThrough_37 : decode cX9_goThrough 37 = .ok (.iconst 0, 1) := by decide +kernel
theorem dX9_goThrough_38 : decode cX9_goThrough 38 = .ok (.iadd, 1) := by decide +kernel
theorem dX9_goThrough_39 : decode cX9_goThrough 39 = .ok (.iastore, 1) := by decide +kernel
theorem dX9_goThrough_40 : decode cX9_goThrough 40 = .ok (.aload_n 0, 1) := by decide +kernel
theorem dX9_goThrough_41 : decode cX9_goThrough 41 = .ok (.getfield 7, 3) := by decide +kernel
theorem dX9_goThrough_44 : decode cX9_goThrough 44 = .ok (.iload_n 1, 1) := by decide +kernel
theorem dX9_goThrough_45 : decode cX9_goThrough 45 = .ok (.bipush 90, 2) := by decide +kernel
theorem dX9_goThrough_47 : decode cX9_goThrough 47 = .ok (.iadd, 1) := by decide +kernel
theorem dX9_goThrough_48 : decode cX9_goThrough 48 = .ok (.bipush 6, 2) := by decide +kernel
theorem dX9_goThrough_50 : decode cX9_goThrough 50 = .ok (.iload_n 2, 1) := by decide +kernel
theorem dX9_goThrough_51 : decode cX9_goThrough 51 = .ok (.imul, 1) := by decide +kernel
theorem dX9_goThrough_52 : decode cX9_goThrough 52 = .ok (.iadd, 1) := by decide +kernel
theorem dX9_goThrough_53 : decode cX9_goThrough 53 = .ok (.iload_n 3, 1) := by decide +kernel
theorem dX9_goThrough_54 : decode cX9_goThrough 54 = .ok (.iadd, 1) := by decide +kernel
theorem dX9_goThrough_55 : decode cX9_goThrough 55 = .ok (.aload_n 0, 1) := by decide +kernel
theorem dX9_goThrough_56 : decode cX9_goThrough 56 = .ok (.getfield 7, 3) := by decide +kernel
theorem dX9_goThrough_59 : decode cX9_goThrough 59 = .ok (.iload_n 1, 1) := by decide +kernel
theorem dX9_goThrough_60 : decode cX9_goThrough 60 = .ok (.iconst 4, 1) := by decide +kernel
theorem dX9_goThrough_61 : decode cX9_goThrough 61 = .ok (.iadd, 1) := by decide +kernel
theorem dX9_goThrough_62 : decode cX9_goThrough 62 = .ok (.iaload, 1) := by decide +kernel
theorem dX9_goThrough_63 : decode cX9_goThrough 63 = .ok (.iastore, 1) := by decide +kernel
theorem dX9_goThrough_64 : decode cX9_goThrough 64 = .ok (.return_, 1) := by decide +kernel
theorem dX9_knocks_0 : decode cX9_knocks 0 = .ok (.aload_n 0, 1) := by decide +kernel
theorem dX9_knocks_1 : decode cX9_knocks 1 = .ok (.iload_n 1, 1) := by decide +kernel
theorem dX9_knocks_2 : decode cX9_knocks 2 = .ok (.iload_n 2, 1) := by decide +kernel
theorem dX9_knocks_3 : decode cX9_knocks 3 = .ok (.iload_n 3, 1) := by decide +kernel
theorem dX9_knocks_4 : decode cX9_knocks 4 = .ok (.invokevirtual 161, 3) := by decide +kernel
theorem dX9_knocks_7 : decode cX9_knocks 7 = .ok (.ifCond .ne 5, 3) := by decide +kernel
theorem dX9_knocks_10 : decode cX9_knocks 10 = .ok (.iconst 0, 1) := by decide +kernel
theorem dX9_knocks_11 : decode cX9_knocks 11 = .ok (.ireturn, 1) := by decide +kernel
theorem dX9_knocks_12 : decode cX9_knocks 12 = .ok (.aload_n 0, 1) := by decide +kernel
theorem dX9_knocks_13 : decode cX9_knocks 13 = .ok (.getfield 7, 3) := by decide +kernel
theorem dX9_knocks_16 : decode cX9_knocks 16 = .ok (.iload_n 1, 1) := by decide +kernel
theorem dX9_knocks_17 : decode cX9_knocks 17 = .ok (.bipush 24, 2) := by decide +kernel
theorem dX9_knocks_19 : decode cX9_knocks 19 = .ok (.iadd, 1) := by decide +kernel
theorem dX9_knocks_20 : decode cX9_knocks 20 = .ok (.iload_n 2, 1) := by decide +kernel
theorem dX9_knocks_21 : decode cX9_knocks 21 = .ok (.iadd, 1) := by decide +kernel
theorem dX9_knocks_22 : decode cX9_knocks 22 = .ok (.aload_n 0, 1) := by decide +kernel
theorem dX9_knocks_23 : decode cX9_knocks 23 = .ok (.iload_n 1, 1) := by decide +kernel
theorem dX9_knocks_24 : decode cX9_knocks 24 = .ok (.iload_n 3, 1) := by decide +kernel
theorem dX9_knocks_25 : decode cX9_knocks 25 = .ok (.aload_n 0, 1) := by decide +kernel
theorem dX9_knocks_26 : decode cX9_knocks 26 = .ok (.getfield 7, 3) := by decide +kernel
theorem dX9_knocks_29 : decode cX9_knocks 29 = .ok (.iload_n 1, 1) := by decide +kernel
theorem dX9_knocks_30 : decode cX9_knocks 30 = .ok (.bipush 24, 2) := by decide +kernel
theorem dX9_knocks_32 : decode cX9_knocks 32 = .ok (.iadd, 1) := by decide +kernel
theorem dX9_knocks_33 : decode cX9_knocks 33 = .ok (.iload_n 2, 1) := by decide +kernel
theorem dX9_knocks_34 : decode cX9_knocks 34 = .ok (.iadd, 1) := by decide +kernel
theorem dX9_knocks_35 : decode cX9_knocks 35 = .ok (.iaload, 1) := by decide +kernel
theorem dX9_knocks_36 : decode cX9_knocks 36 = .ok (.invokevirtual 164, 3) := by decide +kernel
theorem dX9_knocks_39 : decode cX9_knocks 39 = .ok (.iastore, 1) := by decide +kernel
theorem dX9_knocks_40 : decode cX9_knocks 40 = .ok (.aload_n 0, 1) := by decide +kernel
theorem dX9_knocks_41 : decode cX9_knocks 41 = .ok (.iload_n 1, 1) := by decide +kernel
theorem dX9_knocks_42 : decode cX9_knocks 42 = .ok (.iload_n 2, 1) := by decide +kernel
theorem dX9_knocks_43 : decode cX9_knocks 43 = .ok (.iload_n 3, 1) := by decide +kernel
theorem dX9_knocks_44 : decode cX9_knocks 44 = .ok (.invokevirtual 167, 3) := by decide +kernel
theorem dX9_knocks_47 : decode cX9_knocks 47 = .ok (.iconst 1, 1) := by decide +kernel
theorem dX9_knocks_48 : decode cX9_knocks 48 = .ok (.ireturn, 1) := by decide +kernel
theorem dX9_knock_0 : decode cX9_knock 0 = .ok (.aload_n 0, 1) := by decide +kernel
theorem dX9_knock_1 : decode cX9_knock 1 = .ok (.iload_n 1, 1) := by decide +kernel
theorem dX9_knock_2 : decode cX9_knock 2 = .ok (.invokevirtual 171, 3) := by decide +kernel
theorem dX9_knock_5 : decode cX9_knock 5 = .ok (.ifCond .eq 11, 3) := by decide +kernel
theorem dX9_knock_8 : decode cX9_knock 8 = .ok (.aload_n 0, 1) := by decide +kernel
theorem dX9_knock_9 : decode cX9_knock 9 = .ok (.iload_n 2, 1) := by decide +kernel
theorem dX9_knock_10 : decode cX9_knock 10 = .ok (.invokevirtual 174, 3) := by decide +kernel
theorem dX9_knock_13 : decode cX9_knock 13 = .ok (.ifCond .ne 6, 3) := by decide +kernel
theorem dX9_knock_16 : decode cX9_knock 16 = .ok (.ldc 49, 2) := by decide +kernel
theorem dX9_knock_18 : decode cX9_knock 18 = .ok (.ireturn, 1) := by decide +kernel
theorem dX9_knock_19 : decode cX9_knock 19 = .ok (.aload_n 0, 1) := by decide +kernel
theorem dX9_knock_20 : decode cX9_knock 20 = .ok (.iconst 0, 1) := by decide +kernel
theorem dX9_knock_21 : decode cX9_knock 21 = .ok (.iload_n 2, 1) := by decide +kernel
theorem dX9_knock_22 : decode cX9_knock 22 = .ok (.aload_n 0, 1) := by decide +kernel
theorem dX9_knock_23 : decode cX9_knock 23 = .ok (.getfield 7, 3) := by decide +kernel
theorem dX9_knock_26 : decode cX9_knock 26 = .ok (.bipush 24, 2) := by decide +kernel
theorem dX9_knock_28 : decode cX9_knock 28 = .ok (.iload_n 1, 1) := by decide +kernel
theorem dX9_knock_29 : decode cX9_knock 29 = .ok (.iadd, 1) := by decide +kernel
theorem dX9_knock_30 : decode cX9_knock 30 = .ok (.iaload, 1) := by decide +kernel
theorem dX9_knock_31 : decode cX9_knock 31 = .ok (.invokevirtual 164, 3) := by decide +kernel
theorem dX9_knock_34 : decode cX9_knock 34 = .ok (.ldc 106, 2) := by decide +kernel
theorem dX9_knock_36 : decode cX9_knock 36 = .ok (.if_icmp .ne 6, 3) := by decide +kernel
theorem dX9_knock_39 : decode cX9_knock 39 = .ok (.ldc 134, 2) := by decide +kernel
theorem dX9_knock_41 : decode cX9_knock 41 = .ok (.ireturn, 1) := by decide +kernel
theorem dX9_knock_42 : decode cX9_knock 42 = .ok (.aload_n 0, 1) := by decide +kernel
theorem dX9_knock_43 : decode cX9_knock 43 = .ok (.invokevirtual 177, 3) := by decide +kernel
theorem dX9_knock_46 : decode cX9_knock 46 = .ok (.aload_n 0, 1) := by decide +kernel
theorem dX9_knock_47 : decode cX9_knock 47 = .ok (.iconst 0, 1) := by decide +kernel
theorem dX9_knock_48 : decode cX9_knock 48 = .ok (.iload_n 1, 1) := by decide +kernel
theorem dX9_knock_49 : decode cX9_knock 49 = .ok (.iload_n 2, 1) := by decide +kernel
theorem dX9_knock_50 : decode cX9_knock 50 = .ok (.invokevirtual 180, 3) := by decide +kernel
theorem dX9_knock_53 : decode cX9_knock 53 = .ok (.ifCond .eq 7, 3) := by decide +kernel
theorem dX9_knock_56 : decode cX9_knock 56 = .ok (.iconst 1, 1) := by decide +kernel
theorem dX9_knock_57 : decode cX9_knock 57 = .ok (.goto 4, 3) := by decide +kernel
theorem dX9_knock_60 : decode cX9_knock 60 = .ok (.iconst 0, 1) := by decide +kernel
theorem dX9_knock_61 : decode cX9_knock 61 = .ok (.ireturn, 1) := by decide +kernel
theorem dX9_days_0 : decode cX9_days 0 = .ok (.aload_n 0, 1) := by decide +kernel
theorem dX9_days_1 : decode cX9_days 1 = .ok (.getfield 7, 3) := by decide +kernel
theorem dX9_days_4 : decode cX9_days 4 = .ok (.iconst 3, 1) := by decide +kernel
theorem dX9_days_5 : decode cX9_days 5 = .ok (.iaload, 1) := by decide +kernel
theorem dX9_days_6 : decode cX9_days 6 = .ok (.ifCond .ne 6, 3) := by decide +kernel
theorem dX9_days_9 : decode cX9_days 9 = .ok (.ldc 134, 2) := by decide +kernel
theorem dX9_days_11 : decode cX9_days 11 = .ok (.ireturn, 1) := by decide +kernel
theorem dX9_days_12 : decode cX9_days 12 = .ok (.iload_n 1, 1) := by decide +kernel
theorem dX9_days_13 : decode cX9_days 13 = .ok (.i2l, 1) := by decide +kernel
theorem dX9_days_14 : decode cX9_days 14 = .ok (.lconst 1, 1) := by decide +kernel
theorem dX9_days_15 : decode cX9_days 15 = .ok (.ldc2_w 183, 3) := by decide +kernel
theorem dX9_days_18 : decode cX9_days 18 = .ok (.invokestatic 39, 3) := by decide +kernel
theorem dX9_days_21 : decode cX9_days 21 = .ok (.ifCond .ne 6, 3) := by decide +kernel
theorem dX9_days_24 : decode cX9_days 24 = .ok (.ldc 49, 2) := by decide +kernel
theorem dX9_days_26 : decode cX9_days 26 = .ok (.ireturn, 1) := by decide +kernel
theorem dX9_days_27 : decode cX9_days 27 = .ok (.aload_n 0, 1) := by decide +kernel
theorem dX9_days_28 : decode cX9_days 28 = .ok (.getfield 7, 3) := by decide +kernel
theorem dX9_days_31 : decode cX9_days 31 = .ok (.iconst 4, 1) := by decide +kernel
theorem dX9_days_32 : decode cX9_days 32 = .ok (.iaload, 1) := by decide +kernel
theorem dX9_days_33 : decode cX9_days 33 = .ok (.iload_n 1, 1) := by decide +kernel
theorem dX9_days_34 : decode cX9_days 34 = .ok (.iadd, 1) := by decide +kernel
theorem dX9_days_35 : decode cX9_days 35 = .ok (.sipush 999, 3) := by decide +kernel
theorem dX9_days_38 : decode cX9_days 38 = .ok (.if_icmp .le 6, 3) := by decide +kernel
theorem dX9_days_41 : decode cX9_days 41 = .ok (.ldc 70, 2) := by decide +kernel
theorem dX9_days_43 : decode cX9_days 43 = .ok (.ireturn, 1) := by decide +kernel
theorem dX9_days_44 : decode cX9_days 44 = .ok (.iconst 0, 1) := by decide +kernel
theorem dX9_days_45 : decode cX9_days 45 = .ok (.istore_n 2, 1) := by decide +kernel
theorem dX9_days_46 : decode cX9_days 46 = .ok (.iload_n 2, 1) := by decide +kernel
theorem dX9_days_47 : decode cX9_days 47 = .ok (.iload_n 1, 1) := by decide +kernel
theorem dX9_days_48 : decode cX9_days 48 = .ok (.if_icmp .ge 23, 3) := by decide +kernel
theorem dX9_days_51 : decode cX9_days 51 = .ok (.aload_n 0, 1) := by decide +kernel
theorem dX9_days_52 : decode cX9_days 52 = .ok (.invokevirtual 177, 3) := by decide +kernel
theorem dX9_days_55 : decode cX9_days 55 = .ok (.aload_n 0, 1) := by decide +kernel
theorem dX9_days_56 : decode cX9_days 56 = .ok (.getfield 7, 3) := by decide +kernel
theorem dX9_days_59 : decode cX9_days 59 = .ok (.iconst 4, 1) := by decide +kernel
theorem dX9_days_60 : decode cX9_days 60 = .ok (.dup2, 1) := by decide +kernel
theorem dX9_days_61 : decode cX9_days 61 = .ok (.iaload, 1) := by decide +kernel
theorem dX9_days_62 : decode cX9_days 62 = .ok (.iconst 1, 1) := by decide +kernel
theorem dX9_days_63 : decode cX9_days 63 = .ok (.iadd, 1) := by decide +kernel
theorem dX9_days_64 : decode cX9_days 64 = .ok (.iastore, 1) := by decide +kernel
theorem dX9_days_65 : decode cX9_days 65 = .ok (.iinc 2 1, 3) := by decide +kernel
theorem dX9_days_68 : decode cX9_days 68 = .ok (.goto (-22), 3) := by decide +kernel
theorem dX9_days_71 : decode cX9_days 71 = .ok (.aload_n 0, 1) := by decide +kernel
theorem dX9_days_72 : decode cX9_days 72 = .ok (.getfield 7, 3) := by decide +kernel
theorem dX9_days_75 : decode cX9_days 75 = .ok (.iconst 4, 1) := by decide +kernel
theorem dX9_days_76 : decode cX9_days 76 = .ok (.iaload, 1) := by decide +kernel
theorem dX9_days_77 : decode cX9_days 77 = .ok (.ireturn, 1) := by decide +kernel
theorem dX9_gift_0 : decode cX9_gift 0 = .ok (.aload_n 0, 1) := by decide +kernel
theorem dX9_gift_1 : decode cX9_gift 1 = .ok (.iload_n 1, 1) := by decide +kernel
theorem dX9_gift_2 : decode cX9_gift 2 = .ok (.invokevirtual 171, 3) := by decide +kernel
theorem dX9_gift_5 : decode cX9_gift 5 = .ok (.ifCond .eq 13, 3) := by decide +kernel
theorem dX9_gift_8 : decode cX9_gift 8 = .ok (.iload_n 2, 1) := by decide +kernel
theorem dX9_gift_9 : decode cX9_gift 9 = .ok (.iconst 1, 1) := by decide +kernel
theorem dX9_gift_10 : decode cX9_gift 10 = .ok (.if_icmp .eq 11, 3) := by decide +kernel
theorem dX9_gift_13 : decode cX9_gift 13 = .ok (.iload_n 2, 1) := by decide +kernel
theorem dX9_gift_14 : decode cX9_gift 14 = .ok (.iconst (-1), 1) := by decide +kernel
theorem dX9_gift_15 : decode cX9_gift 15 = .ok (.if_icmp .eq 6, 3) := by decide +kernel
theorem dX9_gift_18 : decode cX9_gift 18 = .ok (.ldc 49, 2) := by decide +kernel
theorem dX9_gift_20 : decode cX9_gift 20 = .ok (.ireturn, 1) := by decide +kernel
theorem dX9_gift_21 : decode cX9_gift 21 = .ok (.aload_n 0, 1) := by decide +kernel
theorem dX9_gift_22 : decode cX9_gift 22 = .ok (.getfield 7, 3) := by decide +kernel
theorem dX9_gift_25 : decode cX9_gift 25 = .ok (.bipush 36, 2) := by decide +kernel
theorem dX9_gift_27 : decode cX9_gift 27 = .ok (.iload_n 1, 1) := by decide +kernel
theorem dX9_gift_28 : decode cX9_gift 28 = .ok (.iadd, 1) := by decide +kernel
theorem dX9_gift_29 : decode cX9_gift 29 = .ok (.iaload, 1) := by decide +kernel
theorem dX9_gift_30 : decode cX9_gift 30 = .ok (.iload_n 2, 1) := by decide +kernel
theorem dX9_gift_31 : decode cX9_gift 31 = .ok (.iadd, 1) := by decide +kernel
theorem dX9_gift_32 : decode cX9_gift 32 = .ok (.i2l, 1) := by decide +kernel
theorem dX9_gift_33 : decode cX9_gift 33 = .ok (.ldc2_w 185, 3) := by decide +kernel
theorem dX9_gift_36 : decode cX9_gift 36 = .ok (.ldc2_w 187, 3) := by decide +kernel
theorem dX9_gift_39 : decode cX9_gift 39 = .ok (.invokestatic 39, 3) := by decide +kernel
theorem dX9_gift_42 : decode cX9_gift 42 = .ok (.ifCond .ne 6, 3) := by decide +kernel
theorem dX9_gift_45 : decode cX9_gift 45 = .ok (.ldc 70, 2) := by decide +kernel
theorem dX9_gift_47 : decode cX9_gift 47 = .ok (.ireturn, 1) := by decide +kernel
theorem dX9_gift_48 : decode cX9_gift 48 = .ok (.aload_n 0, 1) := by decide +kernel
theorem dX9_gift_49 : decode cX9_gift 49 = .ok (.invokevirtual 177, 3) := by decide +kernel
theorem dX9_gift_52 : decode cX9_gift 52 = .ok (.aload_n 0, 1) := by decide +kernel
theorem dX9_gift_53 : decode cX9_gift 53 = .ok (.getfield 7, 3) := by decide +kernel
theorem dX9_gift_56 : decode cX9_gift 56 = .ok (.bipush 36, 2) := by decide +kernel
theorem dX9_gift_58 : decode cX9_gift 58 = .ok (.iload_n 1, 1) := by decide +kernel
theorem dX9_gift_59 : decode cX9_gift 59 = .ok (.iadd, 1) := by decide +kernel
theorem dX9_gift_60 : decode cX9_gift 60 = .ok (.dup2, 1) := by decide +kernel
theorem dX9_gift_61 : decode cX9_gift 61 = .ok (.iaload, 1) := by decide +kernel
theorem dX9_gift_62 : decode cX9_gift 62 = .ok (.iload_n 2, 1) := by decide +kernel
theorem dX9_gift_63 : decode cX9_gift 63 = .ok (.iadd, 1) := by decide +kernel
theorem dX9_gift_64 : decode cX9_gift 64 = .ok (.iastore, 1) := by decide +kernel
theorem dX9_gift_65 : decode cX9_gift 65 = .ok (.aload_n 0, 1) := by decide +kernel
theorem dX9_gift_66 : decode cX9_gift 66 = .ok (.getfield 7, 3) := by decide +kernel
theorem dX9_gift_69 : decode cX9_gift 69 = .ok (.bipush 36, 2) := by decide +kernel
theorem dX9_gift_71 : decode cX9_gift 71 = .ok (.iload_n 1, 1) := by decide +kernel
theorem dX9_gift_72 : decode cX9_gift 72 = .ok (.iadd, 1) := by decide +kernel
theorem dX9_gift_73 : decode cX9_gift 73 = .ok (.iaload, 1) := by decide +kernel
theorem dX9_gift_74 : decode cX9_gift 74 = .ok (.ireturn, 1) := by decide +kernel
theorem dX9_build_0 : decode cX9_build 0 = .ok (.aload_n 0, 1) := by decide +kernel
theorem dX9_build_1 : decode cX9_build 1 = .ok (.iload_n 1, 1) := by decide +kernel
theorem dX9_build_2 : decode cX9_build 2 = .ok (.invokevirtual 189, 3) := by decide +kernel
theorem dX9_build_5 : decode cX9_build 5 = .ok (.ifCond .eq 16, 3) := by decide +kernel
theorem dX9_build_8 : decode cX9_build 8 = .ok (.aload_n 0, 1) := by decide +kernel
theorem dX9_build_9 : decode cX9_build 9 = .ok (.iload_n 2, 1) := by decide +kernel
theorem dX9_build_10 : decode cX9_build 10 = .ok (.invokevirtual 189, 3) := by decide +kernel
theorem dX9_build_13 : decode cX9_build 13 = .ok (.ifCond .eq 8, 3) := by decide +kernel
theorem dX9_build_16 : decode cX9_build 16 = .ok (.iload_n 1, 1) := by decide +kernel
theorem dX9_build_17 : decode cX9_build 17 = .ok (.iload_n 2, 1) := by decide +kernel
theorem dX9_build_18 : decode cX9_build 18 = .ok (.if_icmp .ne 6, 3) := by decide +kernel
theorem dX9_build_21 : decode cX9_build 21 = .ok (.ldc 49, 2) := by decide +kernel
theorem dX9_build_23 : decode cX9_build 23 = .ok (.ireturn, 1) := by decide +kernel
theorem dX9_build_24 : decode cX9_build 24 = .ok (.aload_n 0, 1) := by decide +kernel
theorem dX9_build_25 : decode cX9_build 25 = .ok (.getfield 7, 3) := by decide +kernel
theorem dX9_build_28 : decode cX9_build 28 = .ok (.iconst 2, 1) := by decide +kernel
theorem dX9_build_29 : decode cX9_build 29 = .ok (.iaload, 1) := by decide +kernel
theorem dX9_build_30 : decode cX9_build 30 = .ok (.bipush 6, 2) := by decide +kernel
theorem dX9_build_32 : decode cX9_build 32 = .ok (.if_icmp .ne 6, 3) := by decide +kernel
theorem dX9_build_35 : decode cX9_build 35 = .ok (.ldc 70, 2) := by decide +kernel
theorem dX9_build_37 : decode cX9_build 37 = .ok (.ireturn, 1) := by decide +kernel
theorem dX9_build_38 : decode cX9_build 38 = .ok (.aload_n 0, 1) := by decide +kernel
theorem dX9_build_39 : decode cX9_build 39 = .ok (.invokevirtual 177, 3) := by decide +kernel
theorem dX9_build_42 : decode cX9_build 42 = .ok (.aload_n 0, 1) := by decide +kernel
theorem dX9_build_43 : decode cX9_build 43 = .ok (.getfield 7, 3) := by decide +kernel
theorem dX9_build_46 : decode cX9_build 46 = .ok (.iconst 2, 1) := by decide +kernel
theorem dX9_build_47 : decode cX9_build 47 = .ok (.iaload, 1) := by decide +kernel
theorem dX9_build_48 : decode cX9_build 48 = .ok (.istore_n 3, 1) := by decide +kernel
theorem dX9_build_49 : decode cX9_build 49 = .ok (.aload_n 0, 1) := by decide +kernel
theorem dX9_build_50 : decode cX9_build 50 = .ok (.getfield 7, 3) := by decide +kernel
theorem dX9_build_53 : decode cX9_build 53 = .ok (.bipush 6, 2) := by decide +kernel
theorem dX9_build_55 : decode cX9_build 55 = .ok (.iconst 2, 1) := by decide +kernel
theorem dX9_build_56 : decode cX9_build 56 = .ok (.iload_n 3, 1) := by decide +kernel
theorem dX9_build_57 : decode cX9_build 57 = .ok (.imul, 1) := by decide +kernel
theorem dX9_build_58 : decode cX9_build 58 = .ok (.iadd, 1) := by decide +kernel
theorem dX9_build_59 : decode cX9_build 59 = .ok (.iload_n 1, 1) := by decide +kernel
theorem dX9_build_60 : decode cX9_build 60 = .ok (.iastore, 1) := by decide +kernel
theorem dX9_build_61 : decode cX9_build 61 = .ok (.aload_n 0, 1) := by decide +kernel
theorem dX9_build_62 : decode cX9_build 62 = .ok (.getfield 7, 3) := by decide +kernel
theorem dX9_build_65 : decode cX9_build 65 = .ok (.bipush 6, 2) := by decide +kernel
theorem dX9_build_67 : decode cX9_build 67 = .ok (.iconst 2, 1) := by decide +kernel
theorem dX9_build_68 : decode cX9_build 68 = .ok (.iload_n 3, 1) := by decide +kernel
theorem dX9_build_69 : decode cX9_build 69 = .ok (.imul, 1) := by decide +kernel
theorem dX9_build_70 : decode cX9_build 70 = .ok (.iadd, 1) := by decide +kernel
theorem dX9_build_71 : decode cX9_build 71 = .ok (.iconst 1, 1) := by decide +kernel
theorem dX9_build_72 : decode cX9_build 72 = .ok (.iadd, 1) := by decide +kernel
theorem dX9_build_73 : decode cX9_build 73 = .ok (.iload_n 2, 1) := by decide +kernel
theorem dX9_build_74 : decode cX9_build 74 = .ok (.iastore, 1) := by decide +kernel
theorem dX9_build_75 : decode cX9_build 75 = .ok (.aload_n 0, 1) := by decide +kernel
theorem dX9_build_76 : decode cX9_build 76 = .ok (.getfield 7, 3) := by decide +kernel
theorem dX9_build_79 : decode cX9_build 79 = .ok (.iconst 2, 1) := by decide +kernel
theorem dX9_build_80 : decode cX9_build 80 = .ok (.dup2, 1) := by decide +kernel
theorem dX9_build_81 : decode cX9_build 81 = .ok (.iaload, 1) := by decide +kernel
theorem dX9_build_82 : decode cX9_build 82 = .ok (.iconst 1, 1) := by decide +kernel
theorem dX9_build_83 : decode cX9_build 83 = .ok (.iadd, 1) := by decide +kernel
theorem dX9_build_84 : decode cX9_build 84 = .ok (.iastore, 1) := by decide +kernel
theorem dX9_build_85 : decode cX9_build 85 = .ok (.iload_n 3, 1) := by decide +kernel
theorem dX9_build_86 : decode cX9_build 86 = .ok (.ireturn, 1) := by decide +kernel
theorem dX9_allTimes_0 : decode cX9_allTimes 0 = .ok (.iconst 0, 1) := by decide +kernel
theorem dX9_allTimes_1 : decode cX9_allTimes 1 = .ok (.istore_n 2, 1) := by decide +kernel
theorem dX9_allTimes_2 : decode cX9_allTimes 2 = .ok (.iconst 0, 1) := by decide +kernel
theorem dX9_allTimes_3 : decode cX9_allTimes 3 = .ok (.istore_n 3, 1) := by decide +kernel
theorem dX9_allTimes_4 : decode cX9_allTimes 4 = .ok (.iload_n 3, 1) := by decide +kernel
theorem dX9_allTimes_5 : decode cX9_allTimes 5 = .ok (.bipush 6, 2) := by decide +kernel
theorem dX9_allTimes_7 : decode cX9_allTimes 7 = .ok (.if_icmp .ge 19, 3) := by decide +kernel
theorem dX9_allTimes_10 : decode cX9_allTimes 10 = .ok (.iload_n 2, 1) := by decide +kernel
theorem dX9_allTimes_11 : decode cX9_allTimes 11 = .ok (.aload_n 0, 1) := by decide +kernel
