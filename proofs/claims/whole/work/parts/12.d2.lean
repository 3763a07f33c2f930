theorem dX3_init_0 : decode cX3_init 0 = .ok (.aload_n 0, 1) := by decide +kernel
theorem dX3_init_1 : decode cX3_init 1 = .ok (.invokespecial 3, 3) := by decide +kernel
theorem dX3_init_4 : decode cX3_init 4 = .ok (.aload_n 0, 1) := by decide +kernel
theorem dX3_init_5 : decode cX3_init 5 = .ok (.bipush 120, 2) := by decide +kernel
theorem dX3_init_7 : decode cX3_init 7 = .ok (.newarray .int, 2) := by decide +kernel
theorem dX3_init_9 : decode cX3_init 9 = .ok (.putfield 11, 3) := by decide +kernel
theorem dX3_init_12 : decode cX3_init 12 = .ok (.return_, 1) := by decide +kernel
theorem dX3_take_0 : decode cX3_take 0 = .ok (.aload_n 0, 1) := by decide +kernel
theorem dX3_take_1 : decode cX3_take 1 = .ok (.getfield 11, 3) := by decide +kernel
theorem dX3_take_4 : decode cX3_take 4 = .ok (.aload_n 0, 1) := by decide +kernel
theorem dX3_take_5 : decode cX3_take 5 = .ok (.getfield 15, 3) := by decide +kernel
theorem dX3_take_8 : decode cX3_take 8 = .ok (.iload_n 1, 1) := by decide +kernel
theorem dX3_take_9 : decode cX3_take 9 = .ok (.iastore, 1) := by decide +kernel
theorem dX3_take_10 : decode cX3_take 10 = .ok (.aload_n 0, 1) := by decide +kernel
theorem dX3_take_11 : decode cX3_take 11 = .ok (.dup, 1) := by decide +kernel
theorem dX3_take_12 : decode cX3_take 12 = .ok (.getfield 15, 3) := by decide +kernel
theorem dX3_take_15 : decode cX3_take 15 = .ok (.iconst 1, 1) := by decide +kernel
theorem dX3_take_16 : decode cX3_take 16 = .ok (.iadd, 1) := by decide +kernel
theorem dX3_take_17 : decode cX3_take 17 = .ok (.putfield 15, 3) := by decide +kernel
theorem dX3_take_20 : decode cX3_take 20 = .ok (.aload_n 0, 1) := by decide +kernel
theorem dX3_take_21 : decode cX3_take 21 = .ok (.getfield 15, 3) := by decide +kernel
theorem dX3_take_24 : decode cX3_take 24 = .ok (.ireturn, 1) := by decide +kernel
theorem dX3_readInto_0 : decode cX3_readInto 0 = .ok (.aload_n 0, 1) := by decide +kernel
theorem dX3_readInto_1 : decode cX3_readInto 1 = .ok (.iconst 0, 1) := by decide +kernel
theorem dX3_readInto_2 : decode cX3_readInto 2 = .ok (.putfield 19, 3) := by decide +kernel
theorem dX3_readInto_5 : decode cX3_readInto 5 = .ok (.aload_n 0, 1) := by decide +kernel
theorem dX3_readInto_6 : decode cX3_readInto 6 = .ok (.aload_n 1, 1) := by decide +kernel
theorem dX3_readInto_7 : decode cX3_readInto 7 = .ok (.invokevirtual 22, 3) := by decide +kernel
theorem dX3_readInto_10 : decode cX3_readInto 10 = .ok (.ifCond .eq 31, 3) := by decide +kernel
theorem dX3_readInto_13 : decode cX3_readInto 13 = .ok (.aload_n 0, 1) := by decide +kernel
theorem dX3_readInto_14 : decode cX3_readInto 14 = .ok (.aload_n 1, 1) := by decide +kernel
theorem dX3_readInto_15 : decode cX3_readInto 15 = .ok (.invokevirtual 26, 3) := by decide +kernel
theorem dX3_readInto_18 : decode cX3_readInto 18 = .ok (.ifCond .eq 23, 3) := by decide +kernel
theorem dX3_readInto_21 : decode cX3_readInto 21 = .ok (.aload_n 0, 1) := by decide +kernel
theorem dX3_readInto_22 : decode cX3_readInto 22 = .ok (.aload_n 1, 1) := by decide +kernel
theorem dX3_readInto_23 : decode cX3_readInto 23 = .ok (.invokevirtual 29, 3) := by decide +kernel
theorem dX3_readInto_26 : decode cX3_readInto 26 = .ok (.ifCond .eq 15, 3) := by decide +kernel
theorem dX3_readInto_29 : decode cX3_readInto 29 = .ok (.aload_n 0, 1) := by decide +kernel
theorem dX3_readInto_30 : decode cX3_readInto 30 = .ok (.aload_n 1, 1) := by decide +kernel
theorem dX3_readInto_31 : decode cX3_readInto 31 = .ok (.invokevirtual 32, 3) := by decide +kernel
theorem dX3_readInto_34 : decode cX3_readInto 34 = .ok (.ifCond .eq 7, 3) := by decide +kernel
theorem dX3_readInto_37 : decode cX3_readInto 37 = .ok (.iconst 1, 1) := by decide +kernel
theorem dX3_readInto_38 : decode cX3_readInto 38 = .ok (.goto 4, 3) := by decide +kernel
theorem dX3_readInto_41 : decode cX3_readInto 41 = .ok (.iconst 0, 1) := by decide +kernel
theorem dX3_readInto_42 : decode cX3_readInto 42 = .ok (.ireturn, 1) := by decide +kernel
theorem dX3_readLaw_0 : decode cX3_readLaw 0 = .ok (.aload_n 0, 1) := by decide +kernel
theorem dX3_readLaw_1 : decode cX3_readLaw 1 = .ok (.bipush 104, 2) := by decide +kernel
theorem dX3_readLaw_3 : decode cX3_readLaw 3 = .ok (.invokevirtual 35, 3) := by decide +kernel
theorem dX3_readLaw_6 : decode cX3_readLaw 6 = .ok (.ifCond .eq 23, 3) := by decide +kernel
theorem dX3_readLaw_9 : decode cX3_readLaw 9 = .ok (.aload_n 0, 1) := by decide +kernel
theorem dX3_readLaw_10 : decode cX3_readLaw 10 = .ok (.iconst 2, 1) := by decide +kernel
theorem dX3_readLaw_11 : decode cX3_readLaw 11 = .ok (.bipush 6, 2) := by decide +kernel
theorem dX3_readLaw_13 : decode cX3_readLaw 13 = .ok (.invokevirtual 39, 3) := by decide +kernel
theorem dX3_readLaw_16 : decode cX3_readLaw 16 = .ok (.ifCond .eq 13, 3) := by decide +kernel
theorem dX3_readLaw_19 : decode cX3_readLaw 19 = .ok (.aload_n 0, 1) := by decide +kernel
theorem dX3_readLaw_20 : decode cX3_readLaw 20 = .ok (.bipush 9, 2) := by decide +kernel
theorem dX3_readLaw_22 : decode cX3_readLaw 22 = .ok (.iconst 0, 1) := by decide +kernel
theorem dX3_readLaw_23 : decode cX3_readLaw 23 = .ok (.invokevirtual 43, 3) := by decide +kernel
theorem dX3_readLaw_26 : decode cX3_readLaw 26 = .ok (.ifCond .ne 5, 3) := by decide +kernel
theorem dX3_readLaw_29 : decode cX3_readLaw 29 = .ok (.iconst 0, 1) := by decide +kernel
theorem dX3_readLaw_30 : decode cX3_readLaw 30 = .ok (.ireturn, 1) := by decide +kernel
theorem dX3_readLaw_31 : decode cX3_readLaw 31 = .ok (.aload_n 1, 1) := by decide +kernel
theorem dX3_readLaw_32 : decode cX3_readLaw 32 = .ok (.aload_n 0, 1) := by decide +kernel
theorem dX3_readLaw_33 : decode cX3_readLaw 33 = .ok (.getfield 46, 3) := by decide +kernel
theorem dX3_readLaw_36 : decode cX3_readLaw 36 = .ok (.aload_n 0, 1) := by decide +kernel
theorem dX3_readLaw_37 : decode cX3_readLaw 37 = .ok (.getfield 49, 3) := by decide +kernel
theorem dX3_readLaw_40 : decode cX3_readLaw 40 = .ok (.invokevirtual 52, 3) := by decide +kernel
theorem dX3_readLaw_43 : decode cX3_readLaw 43 = .ok (.iconst 1, 1) := by decide +kernel
theorem dX3_readLaw_44 : decode cX3_readLaw 44 = .ok (.ireturn, 1) := by decide +kernel
theorem dX3_readDoors_0 : decode cX3_readDoors 0 = .ok (.aload_n 0, 1) := by decide +kernel
theorem dX3_readDoors_1 : decode cX3_readDoors 1 = .ok (.aload_n 0, 1) := by decide +kernel
theorem dX3_readDoors_2 : decode cX3_readDoors 2 = .ok (.getfield 19, 3) := by decide +kernel
theorem dX3_readDoors_5 : decode cX3_readDoors 5 = .ok (.invokevirtual 58, 3) := by decide +kernel
theorem dX3_readDoors_8 : decode cX3_readDoors 8 = .ok (.bipush 100, 2) := by decide +kernel
theorem dX3_readDoors_10 : decode cX3_readDoors 10 = .ok (.if_icmp .eq 9, 3) := by decide +kernel
theorem dX3_readDoors_13 : decode cX3_readDoors 13 = .ok (.aload_n 0, 1) := by decide +kernel
theorem dX3_readDoors_14 : decode cX3_readDoors 14 = .ok (.iconst 1, 1) := by decide +kernel
theorem dX3_readDoors_15 : decode cX3_readDoors 15 = .ok (.invokevirtual 62, 3) := by decide +kernel
theorem dX3_readDoors_18 : decode cX3_readDoors 18 = .ok (.ireturn, 1) := by decide +kernel
theorem dX3_readDoors_19 : decode cX3_readDoors 19 = .ok (.aload_n 0, 1) := by decide +kernel
theorem dX3_readDoors_20 : decode cX3_readDoors 20 = .ok (.getfield 19, 3) := by decide +kernel
theorem dX3_readDoors_23 : decode cX3_readDoors 23 = .ok (.aload_n 0, 1) := by decide +kernel
theorem dX3_readDoors_24 : decode cX3_readDoors 24 = .ok (.getfield 15, 3) := by decide +kernel
theorem dX3_readDoors_27 : decode cX3_readDoors 27 = .ok (.if_icmp .ge 91, 3) := by decide +kernel
theorem dX3_readDoors_30 : decode cX3_readDoors 30 = .ok (.aload_n 0, 1) := by decide +kernel
theorem dX3_readDoors_31 : decode cX3_readDoors 31 = .ok (.aload_n 0, 1) := by decide +kernel
theorem dX3_readDoors_32 : decode cX3_readDoors 32 = .ok (.getfield 19, 3) := by decide +kernel
theorem dX3_readDoors_35 : decode cX3_readDoors 35 = .ok (.invokevirtual 58, 3) := by decide +kernel
theorem dX3_readDoors_38 : decode cX3_readDoors 38 = .ok (.bipush 100, 2) := by decide +kernel
theorem dX3_readDoors_40 : decode cX3_readDoors 40 = .ok (.if_icmp .ne 78, 3) := by decide +kernel
theorem dX3_readDoors_43 : decode cX3_readDoors 43 = .ok (.aload_n 1, 1) := by decide +kernel
theorem dX3_readDoors_44 : decode cX3_readDoors 44 = .ok (.getfield 65, 3) := by decide +kernel
theorem dX3_readDoors_47 : decode cX3_readDoors 47 = .ok (.bipush 6, 2) := by decide +kernel
theorem dX3_readDoors_49 : decode cX3_readDoors 49 = .ok (.if_icmp .ne 9, 3) := by decide +kernel
theorem dX3_readDoors_52 : decode cX3_readDoors 52 = .ok (.aload_n 0, 1) := by decide +kernel
theorem dX3_readDoors_53 : decode cX3_readDoors 53 = .ok (.iconst 3, 1) := by decide +kernel
theorem dX3_readDoors_54 : decode cX3_readDoors 54 = .ok (.invokevirtual 62, 3) := by decide +kernel
theorem dX3_readDoors_57 : decode cX3_readDoors 57 = .ok (.ireturn, 1) := by decide +kernel
theorem dX3_readDoors_58 : decode cX3_readDoors 58 = .ok (.aload_n 0, 1) := by decide +kernel
theorem dX3_readDoors_59 : decode cX3_readDoors 59 = .ok (.dup, 1) := by decide +kernel
theorem dX3_readDoors_60 : decode cX3_readDoors 60 = .ok (.getfield 19, 3) := by decide +kernel
theorem dX3_readDoors_63 : decode cX3_readDoors 63 = .ok (.iconst 1, 1) := by decide +kernel
theorem dX3_readDoors_64 : decode cX3_readDoors 64 = .ok (.iadd, 1) := by decide +kernel
theorem dX3_readDoors_65 : decode cX3_readDoors 65 = .ok (.putfield 19, 3) := by decide +kernel
theorem dX3_readDoors_68 : decode cX3_readDoors 68 = .ok (.aload_n 0, 1) := by decide +kernel
theorem dX3_readDoors_69 : decode cX3_readDoors 69 = .ok (.iconst 0, 1) := by decide +kernel
theorem dX3_readDoors_70 : decode cX3_readDoors 70 = .ok (.aload_n 1, 1) := by decide +kernel
theorem dX3_readDoors_71 : decode cX3_readDoors 71 = .ok (.getfield 68, 3) := by decide +kernel
theorem dX3_readDoors_74 : decode cX3_readDoors 74 = .ok (.iconst 1, 1) := by decide +kernel
theorem dX3_readDoors_75 : decode cX3_readDoors 75 = .ok (.isub, 1) := by decide +kernel
theorem dX3_readDoors_76 : decode cX3_readDoors 76 = .ok (.invokevirtual 39, 3) := by decide +kernel
theorem dX3_readDoors_79 : decode cX3_readDoors 79 = .ok (.ifCond .eq 22, 3) := by decide +kernel
theorem dX3_readDoors_82 : decode cX3_readDoors 82 = .ok (.aload_n 0, 1) := by decide +kernel
theorem dX3_readDoors_83 : decode cX3_readDoors 83 = .ok (.aload_n 1, 1) := by decide +kernel
theorem dX3_readDoors_84 : decode cX3_readDoors 84 = .ok (.getfield 68, 3) := by decide +kernel
theorem dX3_readDoors_87 : decode cX3_readDoors 87 = .ok (.iconst 1, 1) := by decide +kernel
theorem dX3_readDoors_88 : decode cX3_readDoors 88 = .ok (.isub, 1) := by decide +kernel
theorem dX3_readDoors_89 : decode cX3_readDoors 89 = .ok (.iconst 1, 1) := by decide +kernel
theorem dX3_readDoors_90 : decode cX3_readDoors 90 = .ok (.aload_n 0, 1) := by decide +kernel
theorem dX3_readDoors_91 : decode cX3_readDoors 91 = .ok (.getfield 46, 3) := by decide +kernel
theorem dX3_readDoors_94 : decode cX3_readDoors 94 = .ok (.ishl, 1) := by decide +kernel
theorem dX3_readDoors_95 : decode cX3_readDoors 95 = .ok (.invokevirtual 43, 3) := by decide +kernel
theorem dX3_readDoors_98 : decode cX3_readDoors 98 = .ok (.ifCond .ne 5, 3) := by decide +kernel
theorem dX3_readDoors_101 : decode cX3_readDoors 101 = .ok (.iconst 0, 1) := by decide +kernel
theorem dX3_readDoors_102 : decode cX3_readDoors 102 = .ok (.ireturn, 1) := by decide +kernel
theorem dX3_readDoors_103 : decode cX3_readDoors 103 = .ok (.aload_n 1, 1) := by decide +kernel
theorem dX3_readDoors_104 : decode cX3_readDoors 104 = .ok (.aload_n 0, 1) := by decide +kernel
theorem dX3_readDoors_105 : decode cX3_readDoors 105 = .ok (.getfield 46, 3) := by decide +kernel
theorem dX3_readDoors_108 : decode cX3_readDoors 108 = .ok (.aload_n 0, 1) := by decide +kernel
theorem dX3_readDoors_109 : decode cX3_readDoors 109 = .ok (.getfield 49, 3) := by decide +kernel
theorem dX3_readDoors_112 : decode cX3_readDoors 112 = .ok (.invokevirtual 71, 3) := by decide +kernel
theorem dX3_readDoors_115 : decode cX3_readDoors 115 = .ok (.goto (-96), 3) := by decide +kernel
theorem dX3_readDoors_118 : decode cX3_readDoors 118 = .ok (.iconst 1, 1) := by decide +kernel
theorem dX3_readDoors_119 : decode cX3_readDoors 119 = .ok (.ireturn, 1) := by decide +kernel
theorem dX3_readPeople_0 : decode cX3_readPeople 0 = .ok (.aload_n 0, 1) := by decide +kernel
theorem dX3_readPeople_1 : decode cX3_readPeople 1 = .ok (.aload_n 0, 1) := by decide +kernel
theorem dX3_readPeople_2 : decode cX3_readPeople 2 = .ok (.getfield 19, 3) := by decide +kernel
theorem dX3_readPeople_5 : decode cX3_readPeople 5 = .ok (.invokevirtual 58, 3) := by decide +kernel
theorem dX3_readPeople_8 : decode cX3_readPeople 8 = .ok (.invokestatic 74, 3) := by decide +kernel
theorem dX3_readPeople_11 : decode cX3_readPeople 11 = .ok (.ldc 77, 2) := by decide +kernel
theorem dX3_readPeople_13 : decode cX3_readPeople 13 = .ok (.if_icmp .ne 9, 3) := by decide +kernel
theorem dX3_readPeople_16 : decode cX3_readPeople 16 = .ok (.aload_n 0, 1) := by decide +kernel
theorem dX3_readPeople_17 : decode cX3_readPeople 17 = .ok (.iconst 1, 1) := by decide +kernel
theorem dX3_readPeople_18 : decode cX3_readPeople 18 = .ok (.invokevirtual 62, 3) := by decide +kernel
theorem dX3_readPeople_21 : decode cX3_readPeople 21 = .ok (.ireturn, 1) := by decide +kernel
theorem dX3_readPeople_22 : decode cX3_readPeople 22 = .ok (.aload_n 0, 1) := by decide +kernel
theorem dX3_readPeople_23 : decode cX3_readPeople 23 = .ok (.getfield 19, 3) := by decide +kernel
theorem dX3_readPeople_26 : decode cX3_readPeople 26 = .ok (.aload_n 0, 1) := by decide +kernel
theorem dX3_readPeople_27 : decode cX3_readPeople 27 = .ok (.getfield 15, 3) := by decide +kernel
theorem dX3_readPeople_30 : decode cX3_readPeople 30 = .ok (.if_icmp .ge 98, 3) := by decide +kernel
theorem dX3_readPeople_33 : decode cX3_readPeople 33 = .ok (.aload_n 0, 1) := by decide +kernel
theorem dX3_readPeople_34 : decode cX3_readPeople 34 = .ok (.aload_n 0, 1) := by decide +kernel
theorem dX3_readPeople_35 : decode cX3_readPeople 35 = .ok (.getfield 19, 3) := by decide +kernel
theorem dX3_readPeople_38 : decode cX3_readPeople 38 = .ok (.invokevirtual 58, 3) := by decide +kernel
theorem dX3_readPeople_41 : decode cX3_readPeople 41 = .ok (.invokestatic 74, 3) := by decide +kernel
theorem dX3_readPeople_44 : decode cX3_readPeople 44 = .ok (.ldc 77, 2) := by decide +kernel
theorem dX3_readPeople_46 : decode cX3_readPeople 46 = .ok (.if_icmp .eq 82, 3) := by decide +kernel
theorem dX3_readPeople_49 : decode cX3_readPeople 49 = .ok (.aload_n 1, 1) := by decide +kernel
theorem dX3_readPeople_50 : decode cX3_readPeople 50 = .ok (.getfield 78, 3) := by decide +kernel
theorem dX3_readPeople_53 : decode cX3_readPeople 53 = .ok (.bipush 6, 2) := by decide +kernel
theorem dX3_readPeople_55 : decode cX3_readPeople 55 = .ok (.if_icmp .ne 9, 3) := by decide +kernel
theorem dX3_readPeople_58 : decode cX3_readPeople 58 = .ok (.aload_n 0, 1) := by decide +kernel
theorem dX3_readPeople_59 : decode cX3_readPeople 59 = .ok (.iconst 3, 1) := by decide +kernel
theorem dX3_readPeople_60 : decode cX3_readPeople 60 = .ok (.invokevirtual 62, 3) := by decide +kernel
theorem dX3_readPeople_63 : decode cX3_readPeople 63 = .ok (.ireturn, 1) := by decide +kernel
theorem dX3_readPeople_64 : decode cX3_readPeople 64 = .ok (.aload_n 0, 1) := by decide +kernel
theorem dX3_readPeople_65 : decode cX3_readPeople 65 = .ok (.aload_n 0, 1) := by decide +kernel
theorem dX3_readPeople_66 : decode cX3_readPeople 66 = .ok (.getfield 19, 3) := by decide +kernel
theorem dX3_readPeople_69 : decode cX3_readPeople 69 = .ok (.invokevirtual 58, 3) := by decide +kernel
theorem dX3_readPeople_72 : decode cX3_readPeople 72 = .ok (.invokestatic 74, 3) := by decide +kernel
theorem dX3_readPeople_75 : decode cX3_readPeople 75 = .ok (.istore_n 2, 1) := by decide +kernel
theorem dX3_readPeople_76 : decode cX3_readPeople 76 = .ok (.aload_n 0, 1) := by decide +kernel
theorem dX3_readPeople_77 : decode cX3_readPeople 77 = .ok (.dup, 1) := by decide +kernel
theorem dX3_readPeople_78 : decode cX3_readPeople 78 = .ok (.getfield 19, 3) := by decide +kernel
theorem dX3_readPeople_81 : decode cX3_readPeople 81 = .ok (.iconst 1, 1) := by decide +kernel
theorem dX3_readPeople_82 : decode cX3_readPeople 82 = .ok (.iadd, 1) := by decide +kernel
theorem dX3_readPeople_83 : decode cX3_readPeople 83 = .ok (.putfield 19, 3) := by decide +kernel
theorem dX3_readPeople_86 : decode cX3_readPeople 86 = .ok (.aload_n 0, 1) := by decide +kernel
theorem dX3_readPeople_87 : decode cX3_readPeople 87 = .ok (.iconst 0, 1) := by decide +kernel
theorem dX3_readPeople_88 : decode cX3_readPeople 88 = .ok (.aload_n 1, 1) := by decide +kernel
theorem dX3_readPeople_89 : decode cX3_readPeople 89 = .ok (.getfield 68, 3) := by decide +kernel
theorem dX3_readPeople_92 : decode cX3_readPeople 92 = .ok (.iconst 1, 1) := by decide +kernel
theorem dX3_readPeople_93 : decode cX3_readPeople 93 = .ok (.isub, 1) := by decide +kernel
theorem dX3_readPeople_94 : decode cX3_readPeople 94 = .ok (.invokevirtual 39, 3) := by decide +kernel
theorem dX3_readPeople_97 : decode cX3_readPeople 97 = .ok (.ifCond .eq 13, 3) := by decide +kernel
theorem dX3_readPeople_100 : decode cX3_readPeople 100 = .ok (.aload_n 0, 1) := by decide +kernel
theorem dX3_readPeople_101 : decode cX3_readPeople 101 = .ok (.bipush 6, 2) := by decide +kernel
theorem dX3_readPeople_103 : decode cX3_readPeople 103 = .ok (.iconst 0, 1) := by decide +kernel
theorem dX3_readPeople_104 : decode cX3_readPeople 104 = .ok (.invokevirtual 43, 3) := by decide +kernel
theorem dX3_readPeople_107 : decode cX3_readPeople 107 = .ok (.ifCond .ne 5, 3) := by decide +kernel
theorem dX3_readPeople_110 : decode cX3_readPeople 110 = .ok (.iconst 0, 1) := by decide +kernel
theorem dX3_readPeople_111 : decode cX3_readPeople 111 = .ok (.ireturn, 1) := by decide +kernel
theorem dX3_readPeople_112 : decode cX3_readPeople 112 = .ok (.aload_n 1, 1) := by decide +kernel
theorem dX3_readPeople_113 : decode cX3_readPeople 113 = .ok (.iload_n 2, 1) := by decide +kernel
theorem dX3_readPeople_114 : decode cX3_readPeople 114 = .ok (.aload_n 0, 1) := by decide +kernel
theorem dX3_readPeople_115 : decode cX3_readPeople 115 = .ok (.getfield 46, 3) := by decide +kernel
theorem dX3_readPeople_118 : decode cX3_readPeople 118 = .ok (.aload_n 0, 1) := by decide +kernel
theorem dX3_readPeople_119 : decode cX3_readPeople 119 = .ok (.getfield 49, 3) := by decide +kernel
theorem dX3_readPeople_122 : decode cX3_readPeople 122 = .ok (.invokevirtual 81, 3) := by decide +kernel
theorem dX3_readPeople_125 : decode cX3_readPeople 125 = .ok (.goto (-103), 3) := by decide +kernel
theorem dX3_readPeople_128 : decode cX3_readPeople 128 = .ok (.iconst 1, 1) := by decide +kernel
theorem dX3_readPeople_129 : decode cX3_readPeople 129 = .ok (.ireturn, 1) := by decide +kernel
theorem dX3_readTies_0 : decode cX3_readTies 0 = .ok (.aload_n 0, 1) := by decide +kernel
theorem dX3_readTies_1 : decode cX3_readTies 1 = .ok (.getfield 19, 3) := by decide +kernel
theorem dX3_readTies_4 : decode cX3_readTies 4 = .ok (.aload_n 0, 1) := by decide +kernel
theorem dX3_readTies_5 : decode cX3_readTies 5 = .ok (.getfield 15, 3) := by decide +kernel
theorem dX3_readTies_8 : decode cX3_readTies 8 = .ok (.if_icmp .ge 131, 3) := by decide +kernel
theorem dX3_readTies_11 : decode cX3_readTies 11 = .ok (.aload_n 0, 1) := by decide +kernel
theorem dX3_readTies_12 : decode cX3_readTies 12 = .ok (.aload_n 0, 1) := by decide +kernel
theorem dX3_readTies_13 : decode cX3_readTies 13 = .ok (.getfield 19, 3) := by decide +kernel
theorem dX3_readTies_16 : decode cX3_readTies 16 = .ok (.invokevirtual 58, 3) := by decide +kernel
theorem dX3_readTies_19 : decode cX3_readTies 19 = .ok (.istore_n 2, 1) := by decide +kernel
theorem dX3_readTies_20 : decode cX3_readTies 20 = .ok (.iload_n 2, 1) := by decide +kernel
theorem dX3_readTies_21 : decode cX3_readTies 21 = .ok (.bipush 105, 2) := by decide +kernel
theorem dX3_readTies_23 : decode cX3_readTies 23 = .ok (.if_icmp .eq 15, 3) := by decide +kernel
theorem dX3_readTies_26 : decode cX3_readTies 26 = .ok (.iload_n 2, 1) := by decide +kernel
theorem dX3_readTies_27 : decode cX3_readTies 27 = .ok (.bipush 117, 2) := by decide +kernel
theorem dX3_readTies_29 : decode cX3_readTies 29 = .ok (.if_icmp .eq 9, 3) := by decide +kernel
theorem dX3_readTies_32 : decode cX3_readTies 32 = .ok (.aload_n 0, 1) := by decide +kernel
theorem dX3_readTies_33 : decode cX3_readTies 33 = .ok (.iconst 1, 1) := by decide +kernel
theorem dX3_readTies_34 : decode cX3_readTies 34 = .ok (.invokevirtual 62, 3) := by decide +kernel
theorem dX3_readTies_37 : decode cX3_readTies 37 = .ok (.ireturn, 1) := by decide +kernel
theorem dX3_readTies_38 : decode cX3_readTies 38 = .ok (.aload_n 1, 1) := by decide +kernel
theorem dX3_readTies_39 : decode cX3_readTies 39 = .ok (.getfield 85, 3) := by decide +kernel
theorem dX3_readTies_42 : decode cX3_readTies 42 = .ok (.bipush 8, 2) := by decide +kernel
theorem dX3_readTies_44 : decode cX3_readTies 44 = .ok (.if_icmp .ne 9, 3) := by decide +kernel
theorem dX3_readTies_47 : decode cX3_readTies 47 = .ok (.aload_n 0, 1) := by decide +kernel
theorem dX3_readTies_48 : decode cX3_readTies 48 = .ok (.iconst 3, 1) := by decide +kernel
theorem dX3_readTies_49 : decode cX3_readTies 49 = .ok (.invokevirtual 62, 3) := by decide +kernel
theorem dX3_readTies_52 : decode cX3_readTies 52 = .ok (.ireturn, 1) := by decide +kernel
theorem dX3_readTies_53 : decode cX3_readTies 53 = .ok (.aload_n 0, 1) := by decide +kernel
theorem dX3_readTies_54 : decode cX3_readTies 54 = .ok (.dup, 1) := by decide +kernel
theorem dX3_readTies_55 : decode cX3_readTies 55 = .ok (.getfield 19, 3) := by decide +kernel
theorem dX3_readTies_58 : decode cX3_readTies 58 = .ok (.iconst 1, 1) := by decide +kernel
theorem dX3_readTies_59 : decode cX3_readTies 59 = .ok (.iadd, 1) := by decide +kernel
theorem dX3_readTies_60 : decode cX3_readTies 60 = .ok (.putfield 19, 3) := by decide +kernel
theorem dX3_readTies_63 : decode cX3_readTies 63 = .ok (.aload_n 0, 1) := by decide +kernel
theorem dX3_readTies_64 : decode cX3_readTies 64 = .ok (.iconst 0, 1) := by decide +kernel
theorem dX3_readTies_65 : decode cX3_readTies 65 = .ok (.aload_n 1, 1) := by decide +kernel
theorem dX3_readTies_66 : decode cX3_readTies 66 = .ok (.getfield 78, 3) := by decide +kernel
theorem dX3_readTies_69 : decode cX3_readTies 69 = .ok (.iconst 1, 1) := by decide +kernel
theorem dX3_readTies_70 : decode cX3_readTies 70 = .ok (.isub, 1) := by decide +kernel
theorem dX3_readTies_71 : decode cX3_readTies 71 = .ok (.invokevirtual 39, 3) := by decide +kernel
theorem dX3_readTies_74 : decode cX3_readTies 74 = .ok (.ifCond .eq 31, 3) := by decide +kernel
theorem dX3_readTies_77 : decode cX3_readTies 77 = .ok (.aload_n 0, 1) := by decide +kernel
theorem dX3_readTies_78 : decode cX3_readTies 78 = .ok (.aload_n 1, 1) := by decide +kernel
theorem dX3_readTies_79 : decode cX3_readTies 79 = .ok (.getfield 78, 3) := by decide +kernel
theorem dX3_readTies_82 : decode cX3_readTies 82 = .ok (.iconst 1, 1) := by decide +kernel
theorem dX3_readTies_83 : decode cX3_readTies 83 = .ok (.isub, 1) := by decide +kernel
theorem dX3_readTies_84 : decode cX3_readTies 84 = .ok (.iconst 1, 1) := by decide +kernel
theorem dX3_readTies_85 : decode cX3_readTies 85 = .ok (.aload_n 0, 1) := by decide +kernel
theorem dX3_readTies_86 : decode cX3_readTies 86 = .ok (.getfield 46, 3) := by decide +kernel
theorem dX3_readTies_89 : decode cX3_readTies 89 = .ok (.ishl, 1) := by decide +kernel
theorem dX3_readTies_90 : decode cX3_readTies 90 = .ok (.aload_n 1, 1) := by decide +kernel
theorem dX3_readTies_91 : decode cX3_readTies 91 = .ok (.aload_n 0, 1) := by decide +kernel
theorem dX3_readTies_92 : decode cX3_readTies 92 = .ok (.getfield 46, 3) := by decide +kernel
theorem dX3_readTies_95 : decode cX3_readTies 95 = .ok (.invokevirtual 88, 3) := by decide +kernel
theorem dX3_readTies_98 : decode cX3_readTies 98 = .ok (.ior, 1) := by decide +kernel
theorem dX3_readTies_99 : decode cX3_readTies 99 = .ok (.invokevirtual 43, 3) := by decide +kernel
theorem dX3_readTies_102 : decode cX3_readTies 102 = .ok (.ifCond .ne 5, 3) := by decide +kernel
theorem dX3_readTies_105 : decode cX3_readTies 105 = .ok (.iconst 0, 1) := by decide +kernel
theorem dX3_readTies_106 : decode cX3_readTies 106 = .ok (.ireturn, 1) := by decide +kernel
theorem dX3_readTies_107 : decode cX3_readTies 107 = .ok (.aload_n 1, 1) := by decide +kernel
theorem dX3_readTies_108 : decode cX3_readTies 108 = .ok (.iload_n 2, 1) := by decide +kernel
theorem dX3_readTies_109 : decode cX3_readTies 109 = .ok (.bipush 105, 2) := by decide +kernel
theorem dX3_readTies_111 : decode cX3_readTies 111 = .ok (.if_icmp .ne 10, 3) := by decide +kernel
theorem dX3_readTies_114 : decode cX3_readTies 114 = .ok (.aload_n 1, 1) := by decide +kernel
theorem dX3_readTies_115 : decode cX3_readTies 115 = .ok (.getfield 91, 3) := by decide +kernel
theorem dX3_readTies_118 : decode cX3_readTies 118 = .ok (.goto 7, 3) := by decide +kernel
theorem dX3_readTies_121 : decode cX3_readTies 121 = .ok (.aload_n 1, 1) := by decide +kernel
theorem dX3_readTies_122 : decode cX3_readTies 122 = .ok (.getfield 94, 3) := by decide +kernel
theorem dX3_readTies_125 : decode cX3_readTies 125 = .ok (.aload_n 0, 1) := by decide +kernel
theorem dX3_readTies_126 : decode cX3_readTies 126 = .ok (.getfield 46, 3) := by decide +kernel
theorem dX3_readTies_129 : decode cX3_readTies 129 = .ok (.aload_n 0, 1) := by decide +kernel
theorem dX3_readTies_130 : decode cX3_readTies 130 = .ok (.getfield 49, 3) := by decide +kernel
theorem dX3_readTies_133 : decode cX3_readTies 133 = .ok (.invokevirtual 97, 3) := by decide +kernel
theorem dX3_readTies_136 : decode cX3_readTies 136 = .ok (.goto (-136), 3) := by decide +kernel
theorem dX3_readTies_139 : decode cX3_readTies 139 = .ok (.iconst 1, 1) := by decide +kernel
theorem dX3_readTies_140 : decode cX3_readTies 140 = .ok (.ireturn, 1) := by decide +kernel
theorem dX3_kindOf_0 : decode cX3_kindOf 0 = .ok (.iload_n 0, 1) := by decide +kernel
theorem dX3_kindOf_1 : decode cX3_kindOf 1 = .ok (.tableswitch 81 102 115 #[73, 81, 81, 81, 81, 77, 81, 81, 79, 81, 71, 81, 81, 75], 71) := by decide +kernel
theorem dX3_kindOf_72 : decode cX3_kindOf 72 = .ok (.iconst 1, 1) := by decide +kernel
theorem dX3_kindOf_73 : decode cX3_kindOf 73 = .ok (.ireturn, 1) := by decide +kernel
theorem dX3_kindOf_74 : decode cX3_kindOf 74 = .ok (.iconst 2, 1) := by decide +kernel
theorem dX3_kindOf_75 : decode cX3_kindOf 75 = .ok (.ireturn, 1) := by decide +kernel
theorem dX3_kindOf_76 : decode cX3_kindOf 76 = .ok (.iconst 3, 1) := by decide +kernel
theorem dX3_kindOf_77 : decode cX3_kindOf 77 = .ok (.ireturn, 1) := by decide +kernel
theorem dX3_kindOf_78 : decode cX3_kindOf 78 = .ok (.iconst 4, 1) := by decide +kernel
theorem dX3_kindOf_79 : decode cX3_kindOf 79 = .ok (.ireturn, 1) := by decide +kernel
theorem dX3_kindOf_80 : decode cX3_kindOf 80 = .ok (.iconst 5, 1) := by decide +kernel
theorem dX3_kindOf_81 : decode cX3_kindOf 81 = .ok (.ireturn, 1) := by decide +kernel
theorem dX3_kindOf_82 : decode cX3_kindOf 82 = .ok (.ldc 77, 2) := by decide +kernel
theorem dX3_kindOf_84 : decode cX3_kindOf 84 = .ok (.ireturn, 1) := by decide +kernel
theorem dX3_readFirst_0 : decode cX3_readFirst 0 = .ok (.aload_n 0, 1) := by decide +kernel
theorem dX3_readFirst_1 : decode cX3_readFirst 1 = .ok (.aload_n 0, 1) := by decide +kernel
theorem dX3_readFirst_2 : decode cX3_readFirst 2 = .ok (.iload_n 1, 1) := by decide +kernel
theorem dX3_readFirst_3 : decode cX3_readFirst 3 = .ok (.iload_n 2, 1) := by decide +kernel
theorem dX3_readFirst_4 : decode cX3_readFirst 4 = .ok (.iconst 0, 1) := by decide +kernel
theorem dX3_readFirst_5 : decode cX3_readFirst 5 = .ok (.invokevirtual 101, 3) := by decide +kernel
theorem dX3_readFirst_8 : decode cX3_readFirst 8 = .ok (.putfield 46, 3) := by decide +kernel
theorem dX3_readFirst_11 : decode cX3_readFirst 11 = .ok (.aload_n 0, 1) := by decide +kernel
theorem dX3_readFirst_12 : decode cX3_readFirst 12 = .ok (.getfield 46, 3) := by decide +kernel
theorem dX3_readFirst_15 : decode cX3_readFirst 15 = .ok (.ldc 77, 2) := by decide +kernel
theorem dX3_readFirst_17 : decode cX3_readFirst 17 = .ok (.if_icmp .eq 16, 3) := by decide +kernel
theorem dX3_readFirst_20 : decode cX3_readFirst 20 = .ok (.aload_n 0, 1) := by decide +kernel
theorem dX3_readFirst_21 : decode cX3_readFirst 21 = .ok (.bipush 44, 2) := by decide +kernel
theorem dX3_readFirst_23 : decode cX3_readFirst 23 = .ok (.invokevirtual 35, 3) := by decide +kernel
theorem dX3_readFirst_26 : decode cX3_readFirst 26 = .ok (.ifCond .eq 7, 3) := by decide +kernel
theorem dX3_readFirst_29 : decode cX3_readFirst 29 = .ok (.iconst 1, 1) := by decide +kernel
theorem dX3_readFirst_30 : decode cX3_readFirst 30 = .ok (.goto 4, 3) := by decide +kernel
theorem dX3_readFirst_33 : decode cX3_readFirst 33 = .ok (.iconst 0, 1) := by decide +kernel
theorem dX3_readFirst_34 : decode cX3_readFirst 34 = .ok (.ireturn, 1) := by decide +kernel
theorem dX3_readSecond_0 : decode cX3_readSecond 0 = .ok (.aload_n 0, 1) := by decide +kernel
theorem dX3_readSecond_1 : decode cX3_readSecond 1 = .ok (.aload_n 0, 1) := by decide +kernel
theorem dX3_readSecond_2 : decode cX3_readSecond 2 = .ok (.iconst 0, 1) := by decide +kernel
theorem dX3_readSecond_3 : decode cX3_readSecond 3 = .ok (.iload_n 1, 1) := by decide +kernel
theorem dX3_readSecond_4 : decode cX3_readSecond 4 = .ok (.iload_n 2, 1) := by decide +kernel
theorem dX3_readSecond_5 : decode cX3_readSecond 5 = .ok (.invokevirtual 101, 3) := by decide +kernel
theorem dX3_readSecond_8 : decode cX3_readSecond 8 = .ok (.putfield 49, 3) := by decide +kernel
theorem dX3_readSecond_11 : decode cX3_readSecond 11 = .ok (.aload_n 0, 1) := by decide +kernel
theorem dX3_readSecond_12 : decode cX3_readSecond 12 = .ok (.getfield 49, 3) := by decide +kernel
theorem dX3_readSecond_15 : decode cX3_readSecond 15 = .ok (.ldc 77, 2) := by decide +kernel
theorem dX3_readSecond_17 : decode cX3_readSecond 17 = .ok (.if_icmp .eq 16, 3) := by decide +kernel
theorem dX3_readSecond_20 : decode cX3_readSecond 20 = .ok (.aload_n 0, 1) := by decide +kernel
theorem dX3_readSecond_21 : decode cX3_readSecond 21 = .ok (.bipush 59, 2) := by decide +kernel
theorem dX3_readSecond_23 : decode cX3_readSecond 23 = .ok (.invokevirtual 35, 3) := by decide +kernel
theorem dX3_readSecond_26 : decode cX3_readSecond 26 = .ok (.ifCond .eq 7, 3) := by decide +kernel
theorem dX3_readSecond_29 : decode cX3_readSecond 29 = .ok (.iconst 1, 1) := by decide +kernel
theorem dX3_readSecond_30 : decode cX3_readSecond 30 = .ok (.goto 4, 3) := by decide +kernel
theorem dX3_readSecond_33 : decode cX3_readSecond 33 = .ok (.iconst 0, 1) := by decide +kernel
theorem dX3_readSecond_34 : decode cX3_readSecond 34 = .ok (.ireturn, 1) := by decide +kernel
theorem dX3_readSign_0 : decode cX3_readSign 0 = .ok (.aload_n 0, 1) := by decide +kernel
theorem dX3_readSign_1 : decode cX3_readSign 1 = .ok (.aload_n 0, 1) := by decide +kernel
theorem dX3_readSign_2 : decode cX3_readSign 2 = .ok (.getfield 19, 3) := by decide +kernel
theorem dX3_readSign_5 : decode cX3_readSign 5 = .ok (.invokevirtual 58, 3) := by decide +kernel
theorem dX3_readSign_8 : decode cX3_readSign 8 = .ok (.iload_n 1, 1) := by decide +kernel
theorem dX3_readSign_9 : decode cX3_readSign 9 = .ok (.if_icmp .eq 9, 3) := by decide +kernel
theorem dX3_readSign_12 : decode cX3_readSign 12 = .ok (.aload_n 0, 1) := by decide +kernel
theorem dX3_readSign_13 : decode cX3_readSign 13 = .ok (.iconst 1, 1) := by decide +kernel
theorem dX3_readSign_14 : decode cX3_readSign 14 = .ok (.invokevirtual 62, 3) := by decide +kernel
theorem dX3_readSign_17 : decode cX3_readSign 17 = .ok (.ireturn, 1) := by decide +kernel
theorem dX3_readSign_18 : decode cX3_readSign 18 = .ok (.aload_n 0, 1) := by decide +kernel
theorem dX3_readSign_19 : decode cX3_readSign 19 = .ok (.dup, 1) := by decide +kernel
theorem dX3_readSign_20 : decode cX3_readSign 20 = .ok (.getfield 19, 3) := by decide +kernel
theorem dX3_readSign_23 : decode cX3_readSign 23 = .ok (.iconst 1, 1) := by decide +kernel
theorem dX3_readSign_24 : decode cX3_readSign 24 = .ok (.iadd, 1) := by decide +kernel
theorem dX3_readSign_25 : decode cX3_readSign 25 = .ok (.putfield 19, 3) := by decide +kernel
theorem dX3_readSign_28 : decode cX3_readSign 28 = .ok (.iconst 1, 1) := by decide +kernel
theorem dX3_readSign_29 : decode cX3_readSign 29 = .ok (.ireturn, 1) := by decide +kernel
theorem dX3_readNumber_0 : decode cX3_readNumber 0 = .ok (.iconst 0, 1) := by decide +kernel
theorem dX3_readNumber_1 : decode cX3_readNumber 1 = .ok (.istore 4, 2) := by decide +kernel
theorem dX3_readNumber_3 : decode cX3_readNumber 3 = .ok (.iconst 0, 1) := by decide +kernel
theorem dX3_readNumber_4 : decode cX3_readNumber 4 = .ok (.istore 5, 2) := by decide +kernel
theorem dX3_readNumber_6 : decode cX3_readNumber 6 = .ok (.iconst 0, 1) := by decide +kernel
theorem dX3_readNumber_7 : decode cX3_readNumber 7 = .ok (.istore 6, 2) := by decide +kernel
theorem dX3_readNumber_9 : decode cX3_readNumber 9 = .ok (.iload 6, 2) := by decide +kernel
theorem dX3_readNumber_11 : decode cX3_readNumber 11 = .ok (.iconst 3, 1) := by decide +kernel
theorem dX3_readNumber_12 : decode cX3_readNumber 12 = .ok (.if_icmp .ge 51, 3) := by decide +kernel
theorem dX3_readNumber_15 : decode cX3_readNumber 15 = .ok (.aload_n 0, 1) := by decide +kernel
theorem dX3_readNumber_16 : decode cX3_readNumber 16 = .ok (.aload_n 0, 1) := by decide +kernel
theorem dX3_readNumber_17 : decode cX3_readNumber 17 = .ok (.getfield 19, 3) := by decide +kernel
theorem dX3_readNumber_20 : decode cX3_readNumber 20 = .ok (.iload 6, 2) := by decide +kernel
theorem dX3_readNumber_22 : decode cX3_readNumber 22 = .ok (.iadd, 1) := by decide +kernel
theorem dX3_readNumber_23 : decode cX3_readNumber 23 = .ok (.invokevirtual 58, 3) := by decide +kernel
theorem dX3_readNumber_26 : decode cX3_readNumber 26 = .ok (.invokestatic 105, 3) := by decide +kernel
theorem dX3_readNumber_29 : decode cX3_readNumber 29 = .ok (.ifCond .eq 34, 3) := by decide +kernel
theorem dX3_readNumber_32 : decode cX3_readNumber 32 = .ok (.iload 5, 2) := by decide +kernel
theorem dX3_readNumber_34 : decode cX3_readNumber 34 = .ok (.bipush 10, 2) := by decide +kernel
theorem dX3_readNumber_36 : decode cX3_readNumber 36 = .ok (.imul, 1) := by decide +kernel
theorem dX3_readNumber_37 : decode cX3_readNumber 37 = .ok (.aload_n 0, 1) := by decide +kernel
theorem dX3_readNumber_38 : decode cX3_readNumber 38 = .ok (.aload_n 0, 1) := by decide +kernel
theorem dX3_readNumber_39 : decode cX3_readNumber 39 = .ok (.getfield 19, 3) := by decide +kernel
theorem dX3_readNumber_42 : decode cX3_readNumber 42 = .ok (.iload 6, 2) := by decide +kernel
theorem dX3_readNumber_44 : decode cX3_readNumber 44 = .ok (.iadd, 1) := by decide +kernel
theorem dX3_readNumber_45 : decode cX3_readNumber 45 = .ok (.invokevirtual 58, 3) := by decide +kernel
theorem dX3_readNumber_48 : decode cX3_readNumber 48 = .ok (.iadd, 1) := by decide +kernel
theorem dX3_readNumber_49 : decode cX3_readNumber 49 = .ok (.bipush 48, 2) := by decide +kernel
theorem dX3_readNumber_51 : decode cX3_readNumber 51 = .ok (.isub, 1) := by decide +kernel
theorem dX3_readNumber_52 : decode cX3_readNumber 52 = .ok (.istore 5, 2) := by decide +kernel
theorem dX3_readNumber_54 : decode cX3_readNumber 54 = .ok (.iinc 4 1, 3) := by decide +kernel
theorem dX3_readNumber_57 : decode cX3_readNumber 57 = .ok (.iinc 6 1, 3) := by decide +kernel
theorem dX3_readNumber_60 : decode cX3_readNumber 60 = .ok (.goto (-51), 3) := by decide +kernel
theorem dX3_readNumber_63 : decode cX3_readNumber 63 = .ok (.iload 4, 2) := by decide +kernel
theorem dX3_readNumber_65 : decode cX3_readNumber 65 = .ok (.ifCond .eq 9, 3) := by decide +kernel
theorem dX3_readNumber_68 : decode cX3_readNumber 68 = .ok (.iload 4, 2) := by decide +kernel
theorem dX3_readNumber_70 : decode cX3_readNumber 70 = .ok (.iconst 2, 1) := by decide +kernel
theorem dX3_readNumber_71 : decode cX3_readNumber 71 = .ok (.if_icmp .le 12, 3) := by decide +kernel
theorem dX3_readNumber_74 : decode cX3_readNumber 74 = .ok (.aload_n 0, 1) := by decide +kernel
theorem dX3_readNumber_75 : decode cX3_readNumber 75 = .ok (.iconst 1, 1) := by decide +kernel
theorem dX3_readNumber_76 : decode cX3_readNumber 76 = .ok (.invokevirtual 62, 3) := by decide +kernel
theorem dX3_readNumber_79 : decode cX3_readNumber 79 = .ok (.pop, 1) := by decide +kernel
theorem dX3_readNumber_80 : decode cX3_readNumber 80 = .ok (.ldc 77, 2) := by decide +kernel
theorem dX3_readNumber_82 : decode cX3_readNumber 82 = .ok (.ireturn, 1) := by decide +kernel
theorem dX3_readNumber_83 : decode cX3_readNumber 83 = .ok (.iload 5, 2) := by decide +kernel
theorem dX3_readNumber_85 : decode cX3_readNumber 85 = .ok (.iload_n 1, 1) := by decide +kernel
theorem dX3_readNumber_86 : decode cX3_readNumber 86 = .ok (.if_icmp .lt 18, 3) := by decide +kernel
theorem dX3_readNumber_89 : decode cX3_readNumber 89 = .ok (.iload 5, 2) := by decide +kernel
theorem dX3_readNumber_91 : decode cX3_readNumber 91 = .ok (.iload_n 2, 1) := by decide +kernel
theorem dX3_readNumber_92 : decode cX3_readNumber 92 = .ok (.if_icmp .gt 12, 3) := by decide +kernel
theorem dX3_readNumber_95 : decode cX3_readNumber 95 = .ok (.iload_n 3, 1) := by decide +kernel
theorem dX3_readNumber_96 : decode cX3_readNumber 96 = .ok (.iload 5, 2) := by decide +kernel
theorem dX3_readNumber_98 : decode cX3_readNumber 98 = .ok (.ishr, 1) := by decide +kernel
theorem dX3_readNumber_99 : decode cX3_readNumber 99 = .ok (.iconst 1, 1) := by decide +kernel
theorem dX3_readNumber_100 : decode cX3_readNumber 100 = .ok (.iand, 1) := by decide +kernel
theorem dX3_readNumber_101 : decode cX3_readNumber 101 = .ok (.ifCond .eq 12, 3) := by decide +kernel
theorem dX3_readNumber_104 : decode cX3_readNumber 104 = .ok (.aload_n 0, 1) := by decide +kernel
theorem dX3_readNumber_105 : decode cX3_readNumber 105 = .ok (.iconst 2, 1) := by decide +kernel
theorem dX3_readNumber_106 : decode cX3_readNumber 106 = .ok (.invokevirtual 62, 3) := by decide +kernel
theorem dX3_readNumber_109 : decode cX3_readNumber 109 = .ok (.pop, 1) := by decide +kernel
theorem dX3_readNumber_110 : decode cX3_readNumber 110 = .ok (.ldc 77, 2) := by decide +kernel
theorem dX3_readNumber_112 : decode cX3_readNumber 112 = .ok (.ireturn, 1) := by decide +kernel
theorem dX3_readNumber_113 : decode cX3_readNumber 113 = .ok (.aload_n 0, 1) := by decide +kernel
theorem dX3_readNumber_114 : decode cX3_readNumber 114 = .ok (.dup, 1) := by decide +kernel
theorem dX3_readNumber_115 : decode cX3_readNumber 115 = .ok (.getfield 19, 3) := by decide +kernel
theorem dX3_readNumber_118 : decode cX3_readNumber 118 = .ok (.iload 4, 2) := by decide +kernel
theorem dX3_readNumber_120 : decode cX3_readNumber 120 = .ok (.iadd, 1) := by decide +kernel
theorem dX3_readNumber_121 : decode cX3_readNumber 121 = .ok (.putfield 19, 3) := by decide +kernel
theorem dX3_readNumber_124 : decode cX3_readNumber 124 = .ok (.iload 5, 2) := by decide +kernel
theorem dX3_readNumber_126 : decode cX3_readNumber 126 = .ok (.ireturn, 1) := by decide +kernel
theorem dX3_isFigure_0 : decode cX3_isFigure 0 = .ok (.iload_n 0, 1) := by decide +kernel
theorem dX3_isFigure_1 : decode cX3_isFigure 1 = .ok (.bipush 48, 2) := by decide +kernel
theorem dX3_isFigure_3 : decode cX3_isFigure 3 = .ok (.if_icmp .lt 13, 3) := by decide +kernel
theorem dX3_isFigure_6 : decode cX3_isFigure 6 = .ok (.iload_n 0, 1) := by decide +kernel
theorem dX3_isFigure_7 : decode cX3_isFigure 7 = .ok (.bipush 57, 2) := by decide +kernel
theorem dX3_isFigure_9 : decode cX3_isFigure 9 = .ok (.if_icmp .gt 7, 3) := by decide +kernel
theorem dX3_isFigure_12 : decode cX3_isFigure 12 = .ok (.iconst 1, 1) := by decide +kernel
theorem dX3_isFigure_13 : decode cX3_isFigure 13 = .ok (.goto 4, 3) := by decide +kernel
theorem dX3_isFigure_16 : decode cX3_isFigure 16 = .ok (.iconst 0, 1) := by decide +kernel
theorem dX3_isFigure_17 : decode cX3_isFigure 17 = .ok (.ireturn, 1) := by decide +kernel
theorem dX3_byteAt_0 : decode cX3_byteAt 0 = .ok (.iload_n 1, 1) := by decide +kernel
theorem dX3_byteAt_1 : decode cX3_byteAt 1 = .ok (.aload_n 0, 1) := by decide +kernel
theorem dX3_byteAt_2 : decode cX3_byteAt 2 = .ok (.getfield 15, 3) := by decide +kernel
theorem dX3_byteAt_5 : decode cX3_byteAt 5 = .ok (.invokestatic 108, 3) := by decide +kernel
theorem dX3_byteAt_8 : decode cX3_byteAt 8 = .ok (.ifCond .eq 12, 3) := by decide +kernel
theorem dX3_byteAt_11 : decode cX3_byteAt 11 = .ok (.aload_n 0, 1) := by decide +kernel
theorem dX3_byteAt_12 : decode cX3_byteAt 12 = .ok (.getfield 11, 3) := by decide +kernel
theorem dX3_byteAt_15 : decode cX3_byteAt 15 = .ok (.iload_n 1, 1) := by decide +kernel
theorem dX3_byteAt_16 : decode cX3_byteAt 16 = .ok (.iaload, 1) := by decide +kernel
theorem dX3_byteAt_17 : decode cX3_byteAt 17 = .ok (.goto 4, 3) := by decide +kernel
theorem dX3_byteAt_20 : decode cX3_byteAt 20 = .ok (.iconst (-1), 1) := by decide +kernel
theorem dX3_byteAt_21 : decode cX3_byteAt 21 = .ok (.ireturn, 1) := by decide +kernel
theorem dX3_failed_0 : decode cX3_failed 0 = .ok (.aload_n 0, 1) := by decide +kernel
theorem dX3_failed_1 : decode cX3_failed 1 = .ok (.iload_n 1, 1) := by decide +kernel
theorem dX3_failed_2 : decode cX3_failed 2 = .ok (.putfield 111, 3) := by decide +kernel
theorem dX3_failed_5 : decode cX3_failed 5 = .ok (.iconst 0, 1) := by decide +kernel
theorem dX3_failed_6 : decode cX3_failed 6 = .ok (.ireturn, 1) := by decide +kernel
theorem dX8_init_0 : decode cX8_init 0 = .ok (.aload_n 0, 1) := by decide +kernel
theorem dX8_init_1 : decode cX8_init 1 = .ok (.invokespecial 1, 3) := by decide +kernel
theorem dX8_init_4 : decode cX8_init 4 = .ok (.aload_n 0, 1) := by decide +kernel
theorem dX8_init_5 : decode cX8_init 5 = .ok (.bipush 8, 2) := by decide +kernel
theorem dX8_init_7 : decode cX8_init 7 = .ok (.anewarray 9, 3) := by decide +kernel
theorem dX8_init_10 : decode cX8_init 10 = .ok (.putfield 11, 3) := by decide +kernel
theorem dX8_init_13 : decode cX8_init 13 = .ok (.aload_n 0, 1) := by decide +kernel
theorem dX8_init_14 : decode cX8_init 14 = .ok (.new 15, 3) := by decide +kernel
theorem dX8_init_17 : decode cX8_init 17 = .ok (.dup, 1) := by decide +kernel
theorem dX8_init_18 : decode cX8_init 18 = .ok (.invokespecial 17, 3) := by decide +kernel
theorem dX8_init_21 : decode cX8_init 21 = .ok (.putfield 18, 3) := by decide +kernel
theorem dX8_init_24 : decode cX8_init 24 = .ok (.aload_n 0, 1) := by decide +kernel
theorem dX8_init_25 : decode cX8_init 25 = .ok (.new 22, 3) := by decide +kernel
theorem dX8_init_28 : decode cX8_init 28 = .ok (.dup, 1) := by decide +kernel
theorem dX8_init_29 : decode cX8_init 29 = .ok (.invokespecial 24, 3) := by decide +kernel
theorem dX8_init_32 : decode cX8_init 32 = .ok (.putfield 25, 3) := by decide +kernel
theorem dX8_init_35 : decode cX8_init 35 = .ok (.aload_n 0, 1) := by decide +kernel
theorem dX8_init_36 : decode cX8_init 36 = .ok (.new 29, 3) := by decide +kernel
theorem dX8_init_39 : decode cX8_init 39 = .ok (.dup, 1) := by decide +kernel
theorem dX8_init_40 : decode cX8_init 40 = .ok (.invokespecial 31, 3) := by decide +kernel
theorem dX8_init_43 : decode cX8_init 43 = .ok (.putfield 32, 3) := by decide +kernel
theorem dX8_init_46 : decode cX8_init 46 = .ok (.aload_n 0, 1) := by decide +kernel
theorem dX8_init_47 : decode cX8_init 47 = .ok (.new 36, 3) := by decide +kernel
theorem dX8_init_50 : decode cX8_init 50 = .ok (.dup, 1) := by decide +kernel
theorem dX8_init_51 : decode cX8_init 51 = .ok (.invokespecial 38, 3) := by decide +kernel
theorem dX8_init_54 : decode cX8_init 54 = .ok (.putfield 39, 3) := by decide +kernel
theorem dX8_init_57 : decode cX8_init 57 = .ok (.aload_n 0, 1) := by decide +kernel
theorem dX8_init_58 : decode cX8_init 58 = .ok (.new 36, 3) := by decide +kernel
theorem dX8_init_61 : decode cX8_init 61 = .ok (.dup, 1) := by decide +kernel
theorem dX8_init_62 : decode cX8_init 62 = .ok (.invokespecial 38, 3) := by decide +kernel
theorem dX8_init_65 : decode cX8_init 65 = .ok (.putfield 43, 3) := by decide +kernel
theorem dX8_init_68 : decode cX8_init 68 = .ok (.aload_n 0, 1) := by decide +kernel
theorem dX8_init_69 : decode cX8_init 69 = .ok (.iconst 2, 1) := by decide +kernel
theorem dX8_init_70 : decode cX8_init 70 = .ok (.anewarray 36, 3) := by decide +kernel
theorem dX8_init_73 : decode cX8_init 73 = .ok (.putfield 46, 3) := by decide +kernel
theorem dX8_init_76 : decode cX8_init 76 = .ok (.aload_n 0, 1) := by decide +kernel
theorem dX8_init_77 : decode cX8_init 77 = .ok (.new 50, 3) := by decide +kernel
theorem dX8_init_80 : decode cX8_init 80 = .ok (.dup, 1) := by decide +kernel
theorem dX8_init_81 : decode cX8_init 81 = .ok (.invokespecial 52, 3) := by decide +kernel
theorem dX8_init_84 : decode cX8_init 84 = .ok (.putfield 53, 3) := by decide +kernel
theorem dX8_init_87 : decode cX8_init 87 = .ok (.aload_n 0, 1) := by decide +kernel
theorem dX8_init_88 : decode cX8_init 88 = .ok (.new 57, 3) := by decide +kernel
theorem dX8_init_91 : decode cX8_init 91 = .ok (.dup, 1) := by decide +kernel
theorem dX8_init_92 : decode cX8_init 92 = .ok (.invokespecial 59, 3) := by decide +kernel
theorem dX8_init_95 : decode cX8_init 95 = .ok (.putfield 60, 3) := by decide +kernel
theorem dX8_init_98 : decode cX8_init 98 = .ok (.aload_n 0, 1) := by decide +kernel
theorem dX8_init_99 : decode cX8_init 99 = .ok (.new 64, 3) := by decide +kernel
theorem dX8_init_102 : decode cX8_init 102 = .ok (.dup, 1) := by decide +kernel
theorem dX8_init_103 : decode cX8_init 103 = .ok (.invokespecial 66, 3) := by decide +kernel
theorem dX8_init_106 : decode cX8_init 106 = .ok (.putfield 67, 3) := by decide +kernel
theorem dX8_init_109 : decode cX8_init 109 = .ok (.iconst 0, 1) := by decide +kernel
theorem dX8_init_110 : decode cX8_init 110 = .ok (.istore_n 1, 1) := by decide +kernel
theorem dX8_init_111 : decode cX8_init 111 = .ok (.iload_n 1, 1) := by decide +kernel
theorem dX8_init_112 : decode cX8_init 112 = .ok (.bipush 8, 2) := by decide +kernel
theorem dX8_init_114 : decode cX8_init 114 = .ok (.if_icmp .ge 22, 3) := by decide +kernel
theorem dX8_init_117 : decode cX8_init 117 = .ok (.aload_n 0, 1) := by decide +kernel
theorem dX8_init_118 : decode cX8_init 118 = .ok (.getfield 11, 3) := by decide +kernel
theorem dX8_init_121 : decode cX8_init 121 = .ok (.iload_n 1, 1) := by decide +kernel
theorem dX8_init_122 : decode cX8_init 122 = .ok (.new 9, 3) := by decide +kernel
theorem dX8_init_125 : decode cX8_init 125 = .ok (.dup, 1) := by decide +kernel
theorem dX8_init_126 : decode cX8_init 126 = .ok (.invokespecial 71, 3) := by decide +kernel
theorem dX8_init_129 : decode cX8_init 129 = .ok (.aastore, 1) := by decide +kernel
theorem dX8_init_130 : decode cX8_init 130 = .ok (.iinc 1 1, 3) := by decide +kernel
theorem dX8_init_133 : decode cX8_init 133 = .ok (.goto (-22), 3) := by decide +kernel
theorem dX8_init_136 : decode cX8_init 136 = .ok (.iconst 0, 1) := by decide +kernel
theorem dX8_init_137 : decode cX8_init 137 = .ok (.istore_n 1, 1) := by decide +kernel
theorem dX8_init_138 : decode cX8_init 138 = .ok (.iload_n 1, 1) := by decide +kernel
theorem dX8_init_139 : decode cX8_init 139 = .ok (.iconst 2, 1) := by decide +kernel
theorem dX8_init_140 : decode cX8_init 140 = .ok (.if_icmp .ge 22, 3) := by decide +kernel
theorem dX8_init_143 : decode cX8_init 143 = .ok (.aload_n 0, 1) := by decide +kernel
theorem dX8_init_144 : decode cX8_init 144 = .ok (.getfield 46, 3) := by decide +kernel
theorem dX8_init_147 : decode cX8_init 147 = .ok (.iload_n 1, 1) := by decide +kernel
theorem dX8_init_148 : decode cX8_init 148 = .ok (.new 36, 3) := by decide +kernel
theorem dX8_init_151 : decode cX8_init 151 = .ok (.dup, 1) := by decide +kernel
theorem dX8_init_152 : decode cX8_init 152 = .ok (.invokespecial 38, 3) := by decide +kernel
theorem dX8_init_155 : decode cX8_init 155 = .ok (.aastore, 1) := by decide +kernel
theorem dX8_init_156 : decode cX8_init 156 = .ok (.iinc 1 1, 3) := by decide +kernel
theorem dX8_init_159 : decode cX8_init 159 = .ok (.goto (-21), 3) := by decide +kernel
theorem dX8_init_162 : decode cX8_init 162 = .ok (.return_, 1) := by decide +kernel
theorem dX8_row_0 : decode cX8_row 0 = .ok (.iload_n 1, 1) := by decide +kernel
theorem dX8_row_1 : decode cX8_row 1 = .ok (.bipush 8, 2) := by decide +kernel
theorem dX8_row_3 : decode cX8_row 3 = .ok (.invokestatic 72, 3) := by decide +kernel
theorem dX8_row_6 : decode cX8_row 6 = .ok (.ifCond .eq 17, 3) := by decide +kernel
theorem dX8_row_9 : decode cX8_row 9 = .ok (.iload_n 2, 1) := by decide +kernel
theorem dX8_row_10 : decode cX8_row 10 = .ok (.iconst 3, 1) := by decide +kernel
theorem dX8_row_11 : decode cX8_row 11 = .ok (.invokestatic 72, 3) := by decide +kernel
theorem dX8_row_14 : decode cX8_row 14 = .ok (.ifCond .eq 9, 3) := by decide +kernel
theorem dX8_row_17 : decode cX8_row 17 = .ok (.iload_n 3, 1) := by decide +kernel
theorem dX8_row_18 : decode cX8_row 18 = .ok (.bipush 40, 2) := by decide +kernel
theorem dX8_row_20 : decode cX8_row 20 = .ok (.if_icmp .le 6, 3) := by decide +kernel
theorem dX8_row_23 : decode cX8_row 23 = .ok (.ldc 76, 2) := by decide +kernel
theorem dX8_row_25 : decode cX8_row 25 = .ok (.ireturn, 1) := by decide +kernel
theorem dX8_row_26 : decode cX8_row 26 = .ok (.iload_n 3, 1) := by decide +kernel
theorem dX8_row_27 : decode cX8_row 27 = .ok (.ifCond .ge 9, 3) := by decide +kernel
theorem dX8_row_30 : decode cX8_row 30 = .ok (.aload_n 0, 1) := by decide +kernel
theorem dX8_row_31 : decode cX8_row 31 = .ok (.iconst 4, 1) := by decide +kernel
theorem dX8_row_32 : decode cX8_row 32 = .ok (.invokevirtual 77, 3) := by decide +kernel
theorem dX8_row_35 : decode cX8_row 35 = .ok (.ireturn, 1) := by decide +kernel
theorem dX8_row_36 : decode cX8_row 36 = .ok (.aload_n 0, 1) := by decide +kernel
theorem dX8_row_37 : decode cX8_row 37 = .ok (.getfield 11, 3) := by decide +kernel
theorem dX8_row_40 : decode cX8_row 40 = .ok (.iload_n 1, 1) := by decide +kernel
theorem dX8_row_41 : decode cX8_row 41 = .ok (.aaload, 1) := by decide +kernel
theorem dX8_row_42 : decode cX8_row 42 = .ok (.iload_n 2, 1) := by decide +kernel
theorem dX8_row_43 : decode cX8_row 43 = .ok (.iload_n 3, 1) := by decide +kernel
theorem dX8_row_44 : decode cX8_row 44 = .ok (.invokevirtual 81, 3) := by decide +kernel
theorem dX8_row_47 : decode cX8_row 47 = .ok (.aload_n 0, 1) := by decide +kernel
theorem dX8_row_48 : decode cX8_row 48 = .ok (.iload_n 3, 1) := by decide +kernel
theorem dX8_row_49 : decode cX8_row 49 = .ok (.invokevirtual 85, 3) := by decide +kernel
theorem dX8_row_52 : decode cX8_row 52 = .ok (.ireturn, 1) := by decide +kernel
theorem dX8_set_0 : decode cX8_set 0 = .ok (.iload_n 1, 1) := by decide +kernel
theorem dX8_set_1 : decode cX8_set 1 = .ok (.bipush 8, 2) := by decide +kernel
theorem dX8_set_3 : decode cX8_set 3 = .ok (.invokestatic 72, 3) := by decide +kernel
theorem dX8_set_6 : decode cX8_set 6 = .ok (.ifCond .ne 6, 3) := by decide +kernel
theorem dX8_set_9 : decode cX8_set 9 = .ok (.ldc 76, 2) := by decide +kernel
theorem dX8_set_11 : decode cX8_set 11 = .ok (.ireturn, 1) := by decide +kernel
theorem dX8_set_12 : decode cX8_set 12 = .ok (.aload_n 0, 1) := by decide +kernel
theorem dX8_set_13 : decode cX8_set 13 = .ok (.getfield 11, 3) := by decide +kernel
theorem dX8_set_16 : decode cX8_set 16 = .ok (.iload_n 1, 1) := by decide +kernel
theorem dX8_set_17 : decode cX8_set 17 = .ok (.aaload, 1) := by decide +kernel
theorem dX8_set_18 : decode cX8_set 18 = .ok (.iload_n 2, 1) := by decide +kernel
theorem dX8_set_19 : decode cX8_set 19 = .ok (.iconst 1, 1) := by decide +kernel
theorem dX8_set_20 : decode cX8_set 20 = .ok (.invokevirtual 88, 3) := by decide +kernel
theorem dX8_set_23 : decode cX8_set 23 = .ok (.istore 4, 2) := by decide +kernel
theorem dX8_set_25 : decode cX8_set 25 = .ok (.iload 4, 2) := by decide +kernel
theorem dX8_set_27 : decode cX8_set 27 = .ok (.ifCond .eq 10, 3) := by decide +kernel
theorem dX8_set_30 : decode cX8_set 30 = .ok (.aload_n 0, 1) := by decide +kernel
theorem dX8_set_31 : decode cX8_set 31 = .ok (.iload 4, 2) := by decide +kernel
theorem dX8_set_33 : decode cX8_set 33 = .ok (.invokevirtual 77, 3) := by decide +kernel
theorem dX8_set_36 : decode cX8_set 36 = .ok (.ireturn, 1) := by decide +kernel
theorem dX8_set_37 : decode cX8_set 37 = .ok (.aload_n 0, 1) := by decide +kernel
theorem dX8_set_38 : decode cX8_set 38 = .ok (.aload_n 0, 1) := by decide +kernel
theorem dX8_set_39 : decode cX8_set 39 = .ok (.getfield 11, 3) := by decide +kernel
theorem dX8_set_42 : decode cX8_set 42 = .ok (.iload_n 1, 1) := by decide +kernel
theorem dX8_set_43 : decode cX8_set 43 = .ok (.aaload, 1) := by decide +kernel
theorem dX8_set_44 : decode cX8_set 44 = .ok (.iload_n 2, 1) := by decide +kernel
theorem dX8_set_45 : decode cX8_set 45 = .ok (.iload_n 3, 1) := by decide +kernel
theorem dX8_set_46 : decode cX8_set 46 = .ok (.invokevirtual 92, 3) := by decide +kernel
theorem dX8_set_49 : decode cX8_set 49 = .ok (.invokevirtual 85, 3) := by decide +kernel
theorem dX8_set_52 : decode cX8_set 52 = .ok (.ireturn, 1) := by decide +kernel
theorem dX8_copy_0 : decode cX8_copy 0 = .ok (.iload_n 1, 1) := by decide +kernel
theorem dX8_copy_1 : decode cX8_copy 1 = .ok (.bipush 8, 2) := by decide +kernel
theorem dX8_copy_3 : decode cX8_copy 3 = .ok (.invokestatic 72, 3) := by decide +kernel
theorem dX8_copy_6 : decode cX8_copy 6 = .ok (.ifCond .eq 12, 3) := by decide +kernel
theorem dX8_copy_9 : decode cX8_copy 9 = .ok (.iload_n 3, 1) := by decide +kernel
theorem dX8_copy_10 : decode cX8_copy 10 = .ok (.bipush 8, 2) := by decide +kernel
theorem dX8_copy_12 : decode cX8_copy 12 = .ok (.invokestatic 72, 3) := by decide +kernel
theorem dX8_copy_15 : decode cX8_copy 15 = .ok (.ifCond .ne 6, 3) := by decide +kernel
theorem dX8_copy_18 : decode cX8_copy 18 = .ok (.ldc 76, 2) := by decide +kernel
theorem dX8_copy_20 : decode cX8_copy 20 = .ok (.ireturn, 1) := by decide +kernel
theorem dX8_copy_21 : decode cX8_copy 21 = .ok (.aload_n 0, 1) := by decide +kernel
theorem dX8_copy_22 : decode cX8_copy 22 = .ok (.getfield 11, 3) := by decide +kernel
theorem dX8_copy_25 : decode cX8_copy 25 = .ok (.iload_n 1, 1) := by decide +kernel
theorem dX8_copy_26 : decode cX8_copy 26 = .ok (.aaload, 1) := by decide +kernel
theorem dX8_copy_27 : decode cX8_copy 27 = .ok (.invokevirtual 95, 3) := by decide +kernel
theorem dX8_copy_30 : decode cX8_copy 30 = .ok (.ifCond .ne 15, 3) := by decide +kernel
theorem dX8_copy_33 : decode cX8_copy 33 = .ok (.aload_n 0, 1) := by decide +kernel
theorem dX8_copy_34 : decode cX8_copy 34 = .ok (.getfield 11, 3) := by decide +kernel
theorem dX8_copy_37 : decode cX8_copy 37 = .ok (.iload_n 3, 1) := by decide +kernel
theorem dX8_copy_38 : decode cX8_copy 38 = .ok (.aaload, 1) := by decide +kernel
theorem dX8_copy_39 : decode cX8_copy 39 = .ok (.invokevirtual 95, 3) := by decide +kernel
theorem dX8_copy_42 : decode cX8_copy 42 = .ok (.ifCond .eq 9, 3) := by decide +kernel
theorem dX8_copy_45 : decode cX8_copy 45 = .ok (.aload_n 0, 1) := by decide +kernel
theorem dX8_copy_46 : decode cX8_copy 46 = .ok (.iconst 1, 1) := by decide +kernel
theorem dX8_copy_47 : decode cX8_copy 47 = .ok (.invokevirtual 77, 3) := by decide +kernel
theorem dX8_copy_50 : decode cX8_copy 50 = .ok (.ireturn, 1) := by decide +kernel
theorem dX8_copy_51 : decode cX8_copy 51 = .ok (.aload_n 0, 1) := by decide +kernel
theorem dX8_copy_52 : decode cX8_copy 52 = .ok (.getfield 11, 3) := by decide +kernel
theorem dX8_copy_55 : decode cX8_copy 55 = .ok (.iload_n 1, 1) := by decide +kernel
theorem dX8_copy_56 : decode cX8_copy 56 = .ok (.aaload, 1) := by decide +kernel
theorem dX8_copy_57 : decode cX8_copy 57 = .ok (.getfield 99, 3) := by decide +kernel
theorem dX8_copy_60 : decode cX8_copy 60 = .ok (.aload_n 0, 1) := by decide +kernel
theorem dX8_copy_61 : decode cX8_copy 61 = .ok (.getfield 11, 3) := by decide +kernel
theorem dX8_copy_64 : decode cX8_copy 64 = .ok (.iload_n 3, 1) := by decide +kernel
theorem dX8_copy_65 : decode cX8_copy 65 = .ok (.aaload, 1) := by decide +kernel
theorem dX8_copy_66 : decode cX8_copy 66 = .ok (.getfield 99, 3) := by decide +kernel
theorem dX8_copy_69 : decode cX8_copy 69 = .ok (.if_icmp .eq 9, 3) := by decide +kernel
theorem dX8_copy_72 : decode cX8_copy 72 = .ok (.aload_n 0, 1) := by decide +kernel
theorem dX8_copy_73 : decode cX8_copy 73 = .ok (.iconst 5, 1) := by decide +kernel
theorem dX8_copy_74 : decode cX8_copy 74 = .ok (.invokevirtual 77, 3) := by decide +kernel
theorem dX8_copy_77 : decode cX8_copy 77 = .ok (.ireturn, 1) := by decide +kernel
theorem dX8_copy_78 : decode cX8_copy 78 = .ok (.aload_n 0, 1) := by decide +kernel
theorem dX8_copy_79 : decode cX8_copy 79 = .ok (.getfield 11, 3) := by decide +kernel
theorem dX8_copy_82 : decode cX8_copy 82 = .ok (.iload_n 1, 1) := by decide +kernel
theorem dX8_copy_83 : decode cX8_copy 83 = .ok (.aaload, 1) := by decide +kernel
theorem dX8_copy_84 : decode cX8_copy 84 = .ok (.iload_n 2, 1) := by decide +kernel
theorem dX8_copy_85 : decode cX8_copy 85 = .ok (.iload 5, 2) := by decide +kernel
theorem dX8_copy_87 : decode cX8_copy 87 = .ok (.invokevirtual 88, 3) := by decide +kernel
theorem dX8_copy_90 : decode cX8_copy 90 = .ok (.ifCond .ne 19, 3) := by decide +kernel
theorem dX8_copy_93 : decode cX8_copy 93 = .ok (.aload_n 0, 1) := by decide +kernel
theorem dX8_copy_94 : decode cX8_copy 94 = .ok (.getfield 11, 3) := by decide +kernel
theorem dX8_copy_97 : decode cX8_copy 97 = .ok (.iload_n 3, 1) := by decide +kernel
theorem dX8_copy_98 : decode cX8_copy 98 = .ok (.aaload, 1) := by decide +kernel
theorem dX8_copy_99 : decode cX8_copy 99 = .ok (.iload 4, 2) := by decide +kernel
theorem dX8_copy_101 : decode cX8_copy 101 = .ok (.iload 5, 2) := by decide +kernel
theorem dX8_copy_103 : decode cX8_copy 103 = .ok (.invokevirtual 88, 3) := by decide +kernel
theorem dX8_copy_106 : decode cX8_copy 106 = .ok (.ifCond .eq 9, 3) := by decide +kernel
theorem dX8_copy_109 : decode cX8_copy 109 = .ok (.aload_n 0, 1) := by decide +kernel
theorem dX8_copy_110 : decode cX8_copy 110 = .ok (.iconst 2, 1) := by decide +kernel
theorem dX8_copy_111 : decode cX8_copy 111 = .ok (.invokevirtual 77, 3) := by decide +kernel
theorem dX8_copy_114 : decode cX8_copy 114 = .ok (.ireturn, 1) := by decide +kernel
theorem dX8_copy_115 : decode cX8_copy 115 = .ok (.aload_n 0, 1) := by decide +kernel
theorem dX8_copy_116 : decode cX8_copy 116 = .ok (.getfield 11, 3) := by decide +kernel
theorem dX8_copy_119 : decode cX8_copy 119 = .ok (.iload_n 1, 1) := by decide +kernel
theorem dX8_copy_120 : decode cX8_copy 120 = .ok (.aaload, 1) := by decide +kernel
theorem dX8_copy_121 : decode cX8_copy 121 = .ok (.getfield 103, 3) := by decide +kernel
theorem dX8_copy_124 : decode cX8_copy 124 = .ok (.iload_n 2, 1) := by decide +kernel
theorem dX8_copy_125 : decode cX8_copy 125 = .ok (.aload_n 0, 1) := by decide +kernel
theorem dX8_copy_126 : decode cX8_copy 126 = .ok (.getfield 11, 3) := by decide +kernel
theorem dX8_copy_129 : decode cX8_copy 129 = .ok (.iload_n 3, 1) := by decide +kernel
theorem dX8_copy_130 : decode cX8_copy 130 = .ok (.aaload, 1) := by decide +kernel
theorem dX8_copy_131 : decode cX8_copy 131 = .ok (.getfield 103, 3) := by decide +kernel
theorem dX8_copy_134 : decode cX8_copy 134 = .ok (.iload 4, 2) := by decide +kernel
theorem dX8_copy_136 : decode cX8_copy 136 = .ok (.iload 5, 2) := by decide +kernel
theorem dX8_copy_138 : decode cX8_copy 138 = .ok (.invokestatic 107, 3) := by decide +kernel
theorem dX8_copy_141 : decode cX8_copy 141 = .ok (.aload_n 0, 1) := by decide +kernel
theorem dX8_copy_142 : decode cX8_copy 142 = .ok (.iload 5, 2) := by decide +kernel
theorem dX8_copy_144 : decode cX8_copy 144 = .ok (.invokevirtual 85, 3) := by decide +kernel
theorem dX8_copy_147 : decode cX8_copy 147 = .ok (.ireturn, 1) := by decide +kernel
theorem dX8_drop_0 : decode cX8_drop 0 = .ok (.iload_n 1, 1) := by decide +kernel
theorem dX8_drop_1 : decode cX8_drop 1 = .ok (.bipush 8, 2) := by decide +kernel
theorem dX8_drop_3 : decode cX8_drop 3 = .ok (.invokestatic 72, 3) := by decide +kernel
theorem dX8_drop_6 : decode cX8_drop 6 = .ok (.ifCond .ne 6, 3) := by decide +kernel
theorem dX8_drop_9 : decode cX8_drop 9 = .ok (.ldc 76, 2) := by decide +kernel
theorem dX8_drop_11 : decode cX8_drop 11 = .ok (.ireturn, 1) := by decide +kernel
theorem dX8_drop_12 : decode cX8_drop 12 = .ok (.aload_n 0, 1) := by decide +kernel
theorem dX8_drop_13 : decode cX8_drop 13 = .ok (.getfield 11, 3) := by decide +kernel
theorem dX8_drop_16 : decode cX8_drop 16 = .ok (.iload_n 1, 1) := by decide +kernel
theorem dX8_drop_17 : decode cX8_drop 17 = .ok (.aaload, 1) := by decide +kernel
theorem dX8_drop_18 : decode cX8_drop 18 = .ok (.invokevirtual 95, 3) := by decide +kernel
theorem dX8_drop_21 : decode cX8_drop 21 = .ok (.ifCond .eq 9, 3) := by decide +kernel
theorem dX8_drop_24 : decode cX8_drop 24 = .ok (.aload_n 0, 1) := by decide +kernel
theorem dX8_drop_25 : decode cX8_drop 25 = .ok (.iconst 1, 1) := by decide +kernel
theorem dX8_drop_26 : decode cX8_drop 26 = .ok (.invokevirtual 77, 3) := by decide +kernel
theorem dX8_drop_29 : decode cX8_drop 29 = .ok (.ireturn, 1) := by decide +kernel
theorem dX8_drop_30 : decode cX8_drop 30 = .ok (.aload_n 0, 1) := by decide +kernel
theorem dX8_drop_31 : decode cX8_drop 31 = .ok (.aload_n 0, 1) := by decide +kernel
theorem dX8_drop_32 : decode cX8_drop 32 = .ok (.getfield 11, 3) := by decide +kernel
theorem dX8_drop_35 : decode cX8_drop 35 = .ok (.iload_n 1, 1) := by decide +kernel
theorem dX8_drop_36 : decode cX8_drop 36 = .ok (.aaload, 1) := by decide +kernel
theorem dX8_drop_37 : decode cX8_drop 37 = .ok (.invokevirtual 113, 3) := by decide +kernel
theorem dX8_drop_40 : decode cX8_drop 40 = .ok (.invokevirtual 85, 3) := by decide +kernel
theorem dX8_drop_43 : decode cX8_drop 43 = .ok (.ireturn, 1) := by decide +kernel
theorem dX8_feed_0 : decode cX8_feed 0 = .ok (.iload_n 1, 1) := by decide +kernel
theorem dX8_feed_1 : decode cX8_feed 1 = .ok (.sipush 256, 3) := by decide +kernel
theorem dX8_feed_4 : decode cX8_feed 4 = .ok (.invokestatic 72, 3) := by decide +kernel
theorem dX8_feed_7 : decode cX8_feed 7 = .ok (.ifCond .ne 6, 3) := by decide +kernel
theorem dX8_feed_10 : decode cX8_feed 10 = .ok (.ldc 76, 2) := by decide +kernel
theorem dX8_feed_12 : decode cX8_feed 12 = .ok (.ireturn, 1) := by decide +kernel
theorem dX8_feed_13 : decode cX8_feed 13 = .ok (.aload_n 0, 1) := by decide +kernel
theorem dX8_feed_14 : decode cX8_feed 14 = .ok (.getfield 18, 3) := by decide +kernel
theorem dX8_feed_17 : decode cX8_feed 17 = .ok (.getfield 117, 3) := by decide +kernel
theorem dX8_feed_20 : decode cX8_feed 20 = .ok (.bipush 120, 2) := by decide +kernel
theorem dX8_feed_22 : decode cX8_feed 22 = .ok (.if_icmp .ne 6, 3) := by decide +kernel
theorem dX8_feed_25 : decode cX8_feed 25 = .ok (.ldc 120, 2) := by decide +kernel
theorem dX8_feed_27 : decode cX8_feed 27 = .ok (.ireturn, 1) := by decide +kernel
theorem dX8_feed_28 : decode cX8_feed 28 = .ok (.aload_n 0, 1) := by decide +kernel
theorem dX8_feed_29 : decode cX8_feed 29 = .ok (.getfield 18, 3) := by decide +kernel
theorem dX8_feed_32 : decode cX8_feed 32 = .ok (.iload_n 1, 1) := by decide +kernel
theorem dX8_feed_33 : decode cX8_feed 33 = .ok (.invokevirtual 121, 3) := by decide +kernel
theorem dX8_feed_36 : decode cX8_feed 36 = .ok (.ireturn, 1) := by decide +kernel
theorem dX8_town_0 : decode cX8_town 0 = .ok (.aload_n 0, 1) := by decide +kernel
theorem dX8_town_1 : decode cX8_town 1 = .ok (.getfield 18, 3) := by decide +kernel
theorem dX8_town_4 : decode cX8_town 4 = .ok (.aload_n 0, 1) := by decide +kernel
theorem dX8_town_5 : decode cX8_town 5 = .ok (.getfield 43, 3) := by decide +kernel
theorem dX8_town_8 : decode cX8_town 8 = .ok (.invokevirtual 124, 3) := by decide +kernel
theorem dX8_town_11 : decode cX8_town 11 = .ok (.istore_n 1, 1) := by decide +kernel
theorem dX8_town_12 : decode cX8_town 12 = .ok (.aload_n 0, 1) := by decide +kernel
theorem dX8_town_13 : decode cX8_town 13 = .ok (.getfield 18, 3) := by decide +kernel
theorem dX8_town_16 : decode cX8_town 16 = .ok (.iconst 0, 1) := by decide +kernel
theorem dX8_town_17 : decode cX8_town 17 = .ok (.putfield 117, 3) := by decide +kernel
theorem dX8_town_20 : decode cX8_town 20 = .ok (.iload_n 1, 1) := by decide +kernel
theorem dX8_town_21 : decode cX8_town 21 = .ok (.ifCond .ne 25, 3) := by decide +kernel
theorem dX8_town_24 : decode cX8_town 24 = .ok (.aload_n 0, 1) := by decide +kernel
theorem dX8_town_25 : decode cX8_town 25 = .ok (.aload_n 0, 1) := by decide +kernel
theorem dX8_town_26 : decode cX8_town 26 = .ok (.getfield 18, 3) := by decide +kernel
theorem dX8_town_29 : decode cX8_town 29 = .ok (.getfield 128, 3) := by decide +kernel
theorem dX8_town_32 : decode cX8_town 32 = .ok (.putfield 131, 3) := by decide +kernel
theorem dX8_town_35 : decode cX8_town 35 = .ok (.ldc 134, 2) := by decide +kernel
theorem dX8_town_37 : decode cX8_town 37 = .ok (.aload_n 0, 1) := by decide +kernel
theorem dX8_town_38 : decode cX8_town 38 = .ok (.getfield 18, 3) := by decide +kernel
theorem dX8_town_41 : decode cX8_town 41 = .ok (.getfield 135, 3) := by decide +kernel
theorem dX8_town_44 : decode cX8_town 44 = .ok (.isub, 1) := by decide +kernel
theorem dX8_town_45 : decode cX8_town 45 = .ok (.ireturn, 1) := by decide +kernel
theorem dX8_town_46 : decode cX8_town 46 = .ok (.aload_n 0, 1) := by decide +kernel
theorem dX8_town_47 : decode cX8_town 47 = .ok (.getfield 39, 3) := by decide +kernel
theorem dX8_town_50 : decode cX8_town 50 = .ok (.aload_n 0, 1) := by decide +kernel
theorem dX8_town_51 : decode cX8_town 51 = .ok (.getfield 43, 3) := by decide +kernel
theorem dX8_town_54 : decode cX8_town 54 = .ok (.invokevirtual 138, 3) := by decide +kernel
theorem dX8_town_57 : decode cX8_town 57 = .ok (.aload_n 0, 1) := by decide +kernel
theorem dX8_town_58 : decode cX8_town 58 = .ok (.getfield 25, 3) := by decide +kernel
theorem dX8_town_61 : decode cX8_town 61 = .ok (.invokevirtual 142, 3) := by decide +kernel
theorem dX8_town_64 : decode cX8_town 64 = .ok (.aload_n 0, 1) := by decide +kernel
theorem dX8_town_65 : decode cX8_town 65 = .ok (.getfield 39, 3) := by decide +kernel
theorem dX8_town_68 : decode cX8_town 68 = .ok (.getfield 145, 3) := by decide +kernel
theorem dX8_town_71 : decode cX8_town 71 = .ok (.ireturn, 1) := by decide +kernel
theorem dX8_fault_0 : decode cX8_fault 0 = .ok (.aload_n 0, 1) := by decide +kernel
theorem dX8_fault_1 : decode cX8_fault 1 = .ok (.getfield 131, 3) := by decide +kernel
theorem dX8_fault_4 : decode cX8_fault 4 = .ok (.ireturn, 1) := by decide +kernel
theorem dX8_undo_0 : decode cX8_undo 0 = .ok (.aload_n 0, 1) := by decide +kernel
theorem dX8_undo_1 : decode cX8_undo 1 = .ok (.getfield 25, 3) := by decide +kernel
theorem dX8_undo_4 : decode cX8_undo 4 = .ok (.getfield 148, 3) := by decide +kernel
theorem dX8_undo_7 : decode cX8_undo 7 = .ok (.ifCond .ne 6, 3) := by decide +kernel
theorem dX8_undo_10 : decode cX8_undo 10 = .ok (.ldc 151, 2) := by decide +kernel
theorem dX8_undo_12 : decode cX8_undo 12 = .ok (.ireturn, 1) := by decide +kernel
theorem dX8_undo_13 : decode cX8_undo 13 = .ok (.aload_n 0, 1) := by decide +kernel
theorem dX8_undo_14 : decode cX8_undo 14 = .ok (.getfield 25, 3) := by decide +kernel
theorem dX8_undo_17 : decode cX8_undo 17 = .ok (.aload_n 0, 1) := by decide +kernel
theorem dX8_undo_18 : decode cX8_undo 18 = .ok (.getfield 39, 3) := by decide +kernel
theorem dX8_undo_21 : decode cX8_undo 21 = .ok (.invokevirtual 152, 3) := by decide +kernel
theorem dX8_undo_24 : decode cX8_undo 24 = .ok (.aload_n 0, 1) := by decide +kernel
theorem dX8_undo_25 : decode cX8_undo 25 = .ok (.getfield 25, 3) := by decide +kernel
theorem dX8_undo_28 : decode cX8_undo 28 = .ok (.getfield 148, 3) := by decide +kernel
theorem dX8_undo_31 : decode cX8_undo 31 = .ok (.ireturn, 1) := by decide +kernel
theorem dX8_knock_0 : decode cX8_knock 0 = .ok (.aload_n 0, 1) := by decide +kernel
theorem dX8_knock_1 : decode cX8_knock 1 = .ok (.iload_n 1, 1) := by decide +kernel
theorem dX8_knock_2 : decode cX8_knock 2 = .ok (.invokevirtual 155, 3) := by decide +kernel
theorem dX8_knock_5 : decode cX8_knock 5 = .ok (.ifCond .eq 11, 3) := by decide +kernel
theorem dX8_knock_8 : decode cX8_knock 8 = .ok (.aload_n 0, 1) := by decide +kernel
theorem dX8_knock_9 : decode cX8_knock 9 = .ok (.iload_n 2, 1) := by decide +kernel
theorem dX8_knock_10 : decode cX8_knock 10 = .ok (.invokevirtual 159, 3) := by decide +kernel
theorem dX8_knock_13 : decode cX8_knock 13 = .ok (.ifCond .ne 6, 3) := by decide +kernel
theorem dX8_knock_16 : decode cX8_knock 16 = .ok (.ldc 76, 2) := by decide +kernel
theorem dX8_knock_18 : decode cX8_knock 18 = .ok (.ireturn, 1) := by decide +kernel
theorem dX8_knock_19 : decode cX8_knock 19 = .ok (.aload_n 0, 1) := by decide +kernel
theorem dX8_knock_20 : decode cX8_knock 20 = .ok (.getfield 39, 3) := by decide +kernel
theorem dX8_knock_23 : decode cX8_knock 23 = .ok (.iload_n 1, 1) := by decide +kernel
theorem dX8_knock_24 : decode cX8_knock 24 = .ok (.iload_n 2, 1) := by decide +kernel
theorem dX8_knock_25 : decode cX8_knock 25 = .ok (.invokevirtual 162, 3) := by decide +kernel
theorem dX8_knock_28 : decode cX8_knock 28 = .ok (.ifCond .ne 6, 3) := by decide +kernel
theorem dX8_knock_31 : decode cX8_knock 31 = .ok (.ldc 151, 2) := by decide +kernel
theorem dX8_knock_33 : decode cX8_knock 33 = .ok (.ireturn, 1) := by decide +kernel
theorem dX8_knock_34 : decode cX8_knock 34 = .ok (.aload_n 0, 1) := by decide +kernel
theorem dX8_knock_35 : decode cX8_knock 35 = .ok (.aload_n 0, 1) := by decide +kernel
theorem dX8_knock_36 : decode cX8_knock 36 = .ok (.getfield 39, 3) := by decide +kernel
theorem dX8_knock_39 : decode cX8_knock 39 = .ok (.iload_n 1, 1) := by decide +kernel
theorem dX8_knock_40 : decode cX8_knock 40 = .ok (.iload_n 2, 1) := by decide +kernel
theorem dX8_knock_41 : decode cX8_knock 41 = .ok (.invokevirtual 165, 3) := by decide +kernel
theorem dX8_knock_44 : decode cX8_knock 44 = .ok (.ifCond .ne 15, 3) := by decide +kernel
theorem dX8_knock_47 : decode cX8_knock 47 = .ok (.aload_n 0, 1) := by decide +kernel
theorem dX8_knock_48 : decode cX8_knock 48 = .ok (.getfield 25, 3) := by decide +kernel
theorem dX8_knock_51 : decode cX8_knock 51 = .ok (.iconst 0, 1) := by decide +kernel
theorem dX8_knock_52 : decode cX8_knock 52 = .ok (.iload_n 1, 1) := by decide +kernel
theorem dX8_knock_53 : decode cX8_knock 53 = .ok (.iload_n 2, 1) := by decide +kernel
theorem dX8_knock_54 : decode cX8_knock 54 = .ok (.invokevirtual 169, 3) := by decide +kernel
theorem dX8_knock_57 : decode cX8_knock 57 = .ok (.iconst 0, 1) := by decide +kernel
theorem dX8_knock_58 : decode cX8_knock 58 = .ok (.ireturn, 1) := by decide +kernel
theorem dX8_knock_59 : decode cX8_knock 59 = .ok (.aload_n 0, 1) := by decide +kernel
theorem dX8_knock_60 : decode cX8_knock 60 = .ok (.getfield 25, 3) := by decide +kernel
theorem dX8_knock_63 : decode cX8_knock 63 = .ok (.iconst 1, 1) := by decide +kernel
theorem dX8_knock_64 : decode cX8_knock 64 = .ok (.iload_n 1, 1) := by decide +kernel
theorem dX8_knock_65 : decode cX8_knock 65 = .ok (.iload_n 2, 1) := by decide +kernel
theorem dX8_knock_66 : decode cX8_knock 66 = .ok (.invokevirtual 169, 3) := by decide +kernel
theorem dX8_knock_69 : decode cX8_knock 69 = .ok (.aload_n 0, 1) := by decide +kernel
theorem dX8_knock_70 : decode cX8_knock 70 = .ok (.getfield 25, 3) := by decide +kernel
theorem dX8_knock_73 : decode cX8_knock 73 = .ok (.aload_n 0, 1) := by decide +kernel
theorem dX8_knock_74 : decode cX8_knock 74 = .ok (.getfield 39, 3) := by decide +kernel
theorem dX8_knock_77 : decode cX8_knock 77 = .ok (.iload_n 1, 1) := by decide +kernel
theorem dX8_knock_78 : decode cX8_knock 78 = .ok (.iload_n 2, 1) := by decide +kernel
theorem dX8_knock_79 : decode cX8_knock 79 = .ok (.invokevirtual 173, 3) := by decide +kernel
theorem dX8_knock_82 : decode cX8_knock 82 = .ok (.aload_n 0, 1) := by decide +kernel
theorem dX8_knock_83 : decode cX8_knock 83 = .ok (.getfield 39, 3) := by decide +kernel
theorem dX8_knock_86 : decode cX8_knock 86 = .ok (.iload_n 1, 1) := by decide +kernel
theorem dX8_knock_87 : decode cX8_knock 87 = .ok (.iload_n 2, 1) := by decide +kernel
theorem dX8_knock_88 : decode cX8_knock 88 = .ok (.invokevirtual 177, 3) := by decide +kernel
theorem dX8_knock_91 : decode cX8_knock 91 = .ok (.iconst 1, 1) := by decide +kernel
theorem dX8_knock_92 : decode cX8_knock 92 = .ok (.ireturn, 1) := by decide +kernel
theorem dX8_days_0 : decode cX8_days 0 = .ok (.aload_n 0, 1) := by decide +kernel
theorem dX8_days_1 : decode cX8_days 1 = .ok (.invokevirtual 180, 3) := by decide +kernel
theorem dX8_days_4 : decode cX8_days 4 = .ok (.ifCond .ne 6, 3) := by decide +kernel
theorem dX8_days_7 : decode cX8_days 7 = .ok (.ldc 151, 2) := by decide +kernel
theorem dX8_days_9 : decode cX8_days 9 = .ok (.ireturn, 1) := by decide +kernel
theorem dX8_days_10 : decode cX8_days 10 = .ok (.iload_n 1, 1) := by decide +kernel
theorem dX8_days_11 : decode cX8_days 11 = .ok (.iconst 1, 1) := by decide +kernel
theorem dX8_days_12 : decode cX8_days 12 = .ok (.if_icmp .lt 9, 3) := by decide +kernel
theorem dX8_days_15 : decode cX8_days 15 = .ok (.iload_n 1, 1) := by decide +kernel
theorem dX8_days_16 : decode cX8_days 16 = .ok (.bipush 24, 2) := by decide +kernel
theorem dX8_days_18 : decode cX8_days 18 = .ok (.if_icmp .le 6, 3) := by decide +kernel
theorem dX8_days_21 : decode cX8_days 21 = .ok (.ldc 76, 2) := by decide +kernel
theorem dX8_days_23 : decode cX8_days 23 = .ok (.ireturn, 1) := by decide +kernel
theorem dX8_days_24 : decode cX8_days 24 = .ok (.aload_n 0, 1) := by decide +kernel
theorem dX8_days_25 : decode cX8_days 25 = .ok (.getfield 39, 3) := by decide +kernel
theorem dX8_days_28 : decode cX8_days 28 = .ok (.getfield 183, 3) := by decide +kernel
theorem dX8_days_31 : decode cX8_days 31 = .ok (.iload_n 1, 1) := by decide +kernel
theorem dX8_days_32 : decode cX8_days 32 = .ok (.iadd, 1) := by decide +kernel
theorem dX8_days_33 : decode cX8_days 33 = .ok (.sipush 999, 3) := by decide +kernel
theorem dX8_days_36 : decode cX8_days 36 = .ok (.if_icmp .le 6, 3) := by decide +kernel
theorem dX8_days_39 : decode cX8_days 39 = .ok (.ldc 120, 2) := by decide +kernel
theorem dX8_days_41 : decode cX8_days 41 = .ok (.ireturn, 1) := by decide +kernel
theorem dX8_days_42 : decode cX8_days 42 = .ok (.iconst 0, 1) := by decide +kernel
theorem dX8_days_43 : decode cX8_days 43 = .ok (.istore_n 2, 1) := by decide +kernel
theorem dX8_days_44 : decode cX8_days 44 = .ok (.iload_n 2, 1) := by decide +kernel
theorem dX8_days_45 : decode cX8_days 45 = .ok (.iload_n 1, 1) := by decide +kernel
theorem dX8_days_46 : decode cX8_days 46 = .ok (.if_icmp .ge 32, 3) := by decide +kernel
theorem dX8_days_49 : decode cX8_days 49 = .ok (.aload_n 0, 1) := by decide +kernel
theorem dX8_days_50 : decode cX8_days 50 = .ok (.getfield 25, 3) := by decide +kernel
theorem dX8_days_53 : decode cX8_days 53 = .ok (.iconst 2, 1) := by decide +kernel
theorem dX8_days_54 : decode cX8_days 54 = .ok (.iconst 0, 1) := by decide +kernel
theorem dX8_days_55 : decode cX8_days 55 = .ok (.iconst 0, 1) := by decide +kernel
theorem dX8_days_56 : decode cX8_days 56 = .ok (.invokevirtual 169, 3) := by decide +kernel
theorem dX8_days_59 : decode cX8_days 59 = .ok (.aload_n 0, 1) := by decide +kernel
theorem dX8_days_60 : decode cX8_days 60 = .ok (.getfield 39, 3) := by decide +kernel
theorem dX8_days_63 : decode cX8_days 63 = .ok (.dup, 1) := by decide +kernel
theorem dX8_days_64 : decode cX8_days 64 = .ok (.getfield 183, 3) := by decide +kernel
theorem dX8_days_67 : decode cX8_days 67 = .ok (.iconst 1, 1) := by decide +kernel
theorem dX8_days_68 : decode cX8_days 68 = .ok (.iadd, 1) := by decide +kernel
theorem dX8_days_69 : decode cX8_days 69 = .ok (.putfield 183, 3) := by decide +kernel
theorem dX8_days_72 : decode cX8_days 72 = .ok (.iinc 2 1, 3) := by decide +kernel
theorem dX8_days_75 : decode cX8_days 75 = .ok (.goto (-31), 3) := by decide +kernel
theorem dX8_days_78 : decode cX8_days 78 = .ok (.aload_n 0, 1) := by decide +kernel
theorem dX8_days_79 : decode cX8_days 79 = .ok (.getfield 39, 3) := by decide +kernel
theorem dX8_days_82 : decode cX8_days 82 = .ok (.getfield 183, 3) := by decide +kernel
theorem dX8_days_85 : decode cX8_days 85 = .ok (.ireturn, 1) := by decide +kernel
theorem dX8_gift_0 : decode cX8_gift 0 = .ok (.aload_n 0, 1) := by decide +kernel
theorem dX8_gift_1 : decode cX8_gift 1 = .ok (.iload_n 1, 1) := by decide +kernel
theorem dX8_gift_2 : decode cX8_gift 2 = .ok (.invokevirtual 155, 3) := by decide +kernel
theorem dX8_gift_5 : decode cX8_gift 5 = .ok (.ifCond .eq 13, 3) := by decide +kernel
theorem dX8_gift_8 : decode cX8_gift 8 = .ok (.iload_n 2, 1) := by decide +kernel
theorem dX8_gift_9 : decode cX8_gift 9 = .ok (.iconst 1, 1) := by decide +kernel
theorem dX8_gift_10 : decode cX8_gift 10 = .ok (.if_icmp .eq 11, 3) := by decide +kernel
theorem dX8_gift_13 : decode cX8_gift 13 = .ok (.iload_n 2, 1) := by decide +kernel
theorem dX8_gift_14 : decode cX8_gift 14 = .ok (.iconst (-1), 1) := by decide +kernel
theorem dX8_gift_15 : decode cX8_gift 15 = .ok (.if_icmp .eq 6, 3) := by decide +kernel
theorem dX8_gift_18 : decode cX8_gift 18 = .ok (.ldc 76, 2) := by decide +kernel
theorem dX8_gift_20 : decode cX8_gift 20 = .ok (.ireturn, 1) := by decide +kernel
theorem dX8_gift_21 : decode cX8_gift 21 = .ok (.aload_n 0, 1) := by decide +kernel
theorem dX8_gift_22 : decode cX8_gift 22 = .ok (.getfield 39, 3) := by decide +kernel
theorem dX8_gift_25 : decode cX8_gift 25 = .ok (.getfield 186, 3) := by decide +kernel
theorem dX8_gift_28 : decode cX8_gift 28 = .ok (.iload_n 1, 1) := by decide +kernel
theorem dX8_gift_29 : decode cX8_gift 29 = .ok (.iaload, 1) := by decide +kernel
theorem dX8_gift_30 : decode cX8_gift 30 = .ok (.iload_n 2, 1) := by decide +kernel
theorem dX8_gift_31 : decode cX8_gift 31 = .ok (.iadd, 1) := by decide +kernel
theorem dX8_gift_32 : decode cX8_gift 32 = .ok (.istore_n 3, 1) := by decide +kernel
theorem dX8_gift_33 : decode cX8_gift 33 = .ok (.iload_n 3, 1) := by decide +kernel
theorem dX8_gift_34 : decode cX8_gift 34 = .ok (.bipush 9, 2) := by decide +kernel
theorem dX8_gift_36 : decode cX8_gift 36 = .ok (.if_icmp .gt 9, 3) := by decide +kernel
theorem dX8_gift_39 : decode cX8_gift 39 = .ok (.iload_n 3, 1) := by decide +kernel
theorem dX8_gift_40 : decode cX8_gift 40 = .ok (.bipush (-9), 2) := by decide +kernel
theorem dX8_gift_42 : decode cX8_gift 42 = .ok (.if_icmp .ge 6, 3) := by decide +kernel
theorem dX8_gift_45 : decode cX8_gift 45 = .ok (.ldc 120, 2) := by decide +kernel
theorem dX8_gift_47 : decode cX8_gift 47 = .ok (.ireturn, 1) := by decide +kernel
theorem dX8_gift_48 : decode cX8_gift 48 = .ok (.aload_n 0, 1) := by decide +kernel
theorem dX8_gift_49 : decode cX8_gift 49 = .ok (.getfield 25, 3) := by decide +kernel
theorem dX8_gift_52 : decode cX8_gift 52 = .ok (.iload_n 2, 1) := by decide +kernel
theorem dX8_gift_53 : decode cX8_gift 53 = .ok (.iconst 1, 1) := by decide +kernel
theorem dX8_gift_54 : decode cX8_gift 54 = .ok (.if_icmp .ne 7, 3) := by decide +kernel
theorem dX8_gift_57 : decode cX8_gift 57 = .ok (.iconst 3, 1) := by decide +kernel
theorem dX8_gift_58 : decode cX8_gift 58 = .ok (.goto 4, 3) := by decide +kernel
theorem dX8_gift_61 : decode cX8_gift 61 = .ok (.iconst 4, 1) := by decide +kernel
theorem dX8_gift_62 : decode cX8_gift 62 = .ok (.iload_n 1, 1) := by decide +kernel
theorem dX8_gift_63 : decode cX8_gift 63 = .ok (.iconst 0, 1) := by decide +kernel
theorem dX8_gift_64 : decode cX8_gift 64 = .ok (.invokevirtual 169, 3) := by decide +kernel
theorem dX8_gift_67 : decode cX8_gift 67 = .ok (.aload_n 0, 1) := by decide +kernel
theorem dX8_gift_68 : decode cX8_gift 68 = .ok (.getfield 39, 3) := by decide +kernel
theorem dX8_gift_71 : decode cX8_gift 71 = .ok (.getfield 186, 3) := by decide +kernel
theorem dX8_gift_74 : decode cX8_gift 74 = .ok (.iload_n 1, 1) := by decide +kernel
theorem dX8_gift_75 : decode cX8_gift 75 = .ok (.iload_n 3, 1) := by decide +kernel
theorem dX8_gift_76 : decode cX8_gift 76 = .ok (.iastore, 1) := by decide +kernel
theorem dX8_gift_77 : decode cX8_gift 77 = .ok (.iload_n 3, 1) := by decide +kernel
theorem dX8_gift_78 : decode cX8_gift 78 = .ok (.ireturn, 1) := by decide +kernel
theorem dX8_build_0 : decode cX8_build 0 = .ok (.aload_n 0, 1) := by decide +kernel
theorem dX8_build_1 : decode cX8_build 1 = .ok (.iload_n 1, 1) := by decide +kernel
theorem dX8_build_2 : decode cX8_build 2 = .ok (.invokevirtual 189, 3) := by decide +kernel
theorem dX8_build_5 : decode cX8_build 5 = .ok (.ifCond .eq 16, 3) := by decide +kernel
theorem dX8_build_8 : decode cX8_build 8 = .ok (.aload_n 0, 1) := by decide +kernel
theorem dX8_build_9 : decode cX8_build 9 = .ok (.iload_n 2, 1) := by decide +kernel
theorem dX8_build_10 : decode cX8_build 10 = .ok (.invokevirtual 189, 3) := by decide +kernel
theorem dX8_build_13 : decode cX8_build 13 = .ok (.ifCond .eq 8, 3) := by decide +kernel
theorem dX8_build_16 : decode cX8_build 16 = .ok (.iload_n 1, 1) := by decide +kernel
theorem dX8_build_17 : decode cX8_build 17 = .ok (.iload_n 2, 1) := by decide +kernel
theorem dX8_build_18 : decode cX8_build 18 = .ok (.if_icmp .ne 6, 3) := by decide +kernel
theorem dX8_build_21 : decode cX8_build 21 = .ok (.ldc 76, 2) := by decide +kernel
theorem dX8_build_23 : decode cX8_build 23 = .ok (.ireturn, 1) := by decide +kernel
theorem dX8_build_24 : decode cX8_build 24 = .ok (.aload_n 0, 1) := by decide +kernel
theorem dX8_build_25 : decode cX8_build 25 = .ok (.getfield 39, 3) := by decide +kernel
theorem dX8_build_28 : decode cX8_build 28 = .ok (.getfield 192, 3) := by decide +kernel
theorem dX8_build_31 : decode cX8_build 31 = .ok (.bipush 6, 2) := by decide +kernel
theorem dX8_build_33 : decode cX8_build 33 = .ok (.if_icmp .ne 6, 3) := by decide +kernel
theorem dX8_build_36 : decode cX8_build 36 = .ok (.ldc 120, 2) := by decide +kernel
theorem dX8_build_38 : decode cX8_build 38 = .ok (.ireturn, 1) := by decide +kernel
theorem dX8_build_39 : decode cX8_build 39 = .ok (.aload_n 0, 1) := by decide +kernel
theorem dX8_build_40 : decode cX8_build 40 = .ok (.getfield 25, 3) := by decide +kernel
theorem dX8_build_43 : decode cX8_build 43 = .ok (.iconst 5, 1) := by decide +kernel
theorem dX8_build_44 : decode cX8_build 44 = .ok (.iconst 0, 1) := by decide +kernel
theorem dX8_build_45 : decode cX8_build 45 = .ok (.aload_n 0, 1) := by decide +kernel
theorem dX8_build_46 : decode cX8_build 46 = .ok (.getfield 39, 3) := by decide +kernel
theorem dX8_build_49 : decode cX8_build 49 = .ok (.getfield 192, 3) := by decide +kernel
theorem dX8_build_52 : decode cX8_build 52 = .ok (.invokevirtual 169, 3) := by decide +kernel
theorem dX8_build_55 : decode cX8_build 55 = .ok (.aload_n 0, 1) := by decide +kernel
theorem dX8_build_56 : decode cX8_build 56 = .ok (.getfield 39, 3) := by decide +kernel
theorem dX8_build_59 : decode cX8_build 59 = .ok (.iload_n 1, 1) := by decide +kernel
theorem dX8_build_60 : decode cX8_build 60 = .ok (.iload_n 2, 1) := by decide +kernel
theorem dX8_build_61 : decode cX8_build 61 = .ok (.invokevirtual 195, 3) := by decide +kernel
theorem dX8_build_64 : decode cX8_build 64 = .ok (.aload_n 0, 1) := by decide +kernel
theorem dX8_build_65 : decode cX8_build 65 = .ok (.getfield 39, 3) := by decide +kernel
theorem dX8_build_68 : decode cX8_build 68 = .ok (.getfield 192, 3) := by decide +kernel
theorem dX8_build_71 : decode cX8_build 71 = .ok (.iconst 1, 1) := by decide +kernel
theorem dX8_build_72 : decode cX8_build 72 = .ok (.isub, 1) := by decide +kernel
theorem dX8_build_73 : decode cX8_build 73 = .ok (.ireturn, 1) := by decide +kernel
theorem dX8_person_0 : decode cX8_person 0 = .ok (.aload_n 0, 1) := by decide +kernel
theorem dX8_person_1 : decode cX8_person 1 = .ok (.iload_n 1, 1) := by decide +kernel
theorem dX8_person_2 : decode cX8_person 2 = .ok (.invokevirtual 155, 3) := by decide +kernel
theorem dX8_person_5 : decode cX8_person 5 = .ok (.ifCond .ne 6, 3) := by decide +kernel
theorem dX8_person_8 : decode cX8_person 8 = .ok (.ldc 76, 2) := by decide +kernel
theorem dX8_person_10 : decode cX8_person 10 = .ok (.ireturn, 1) := by decide +kernel
theorem dX8_person_11 : decode cX8_person 11 = .ok (.iload_n 2, 1) := by decide +kernel
theorem dX8_person_12 : decode cX8_person 12 = .ok (.tableswitch 99 0 5 #[40, 50, 60, 70, 79, 89], 40) := by decide +kernel
theorem dX8_person_52 : decode cX8_person 52 = .ok (.aload_n 0, 1) := by decide +kernel
theorem dX8_person_53 : decode cX8_person 53 = .ok (.getfield 39, 3) := by decide +kernel
theorem dX8_person_56 : decode cX8_person 56 = .ok (.getfield 198, 3) := by decide +kernel
theorem dX8_person_59 : decode cX8_person 59 = .ok (.iload_n 1, 1) := by decide +kernel
theorem dX8_person_60 : decode cX8_person 60 = .ok (.iaload, 1) := by decide +kernel
theorem dX8_person_61 : decode cX8_person 61 = .ok (.ireturn, 1) := by decide +kernel
theorem dX8_person_62 : decode cX8_person 62 = .ok (.aload_n 0, 1) := by decide +kernel
theorem dX8_person_63 : decode cX8_person 63 = .ok (.getfield 39, 3) := by decide +kernel
theorem dX8_person_66 : decode cX8_person 66 = .ok (.getfield 201, 3) := by decide +kernel
theorem dX8_person_69 : decode cX8_person 69 = .ok (.iload_n 1, 1) := by decide +kernel
theorem dX8_person_70 : decode cX8_person 70 = .ok (.iaload, 1) := by decide +kernel
theorem dX8_person_71 : decode cX8_person 71 = .ok (.ireturn, 1) := by decide +kernel
theorem dX8_person_72 : decode cX8_person 72 = .ok (.aload_n 0, 1) := by decide +kernel
theorem dX8_person_73 : decode cX8_person 73 = .ok (.getfield 39, 3) := by decide +kernel
theorem dX8_person_76 : decode cX8_person 76 = .ok (.getfield 186, 3) := by decide +kernel
theorem dX8_person_79 : decode cX8_person 79 = .ok (.iload_n 1, 1) := by decide +kernel
theorem dX8_person_80 : decode cX8_person 80 = .ok (.iaload, 1) := by decide +kernel
theorem dX8_person_81 : decode cX8_person 81 = .ok (.ireturn, 1) := by decide +kernel
theorem dX8_person_82 : decode cX8_person 82 = .ok (.aload_n 0, 1) := by decide +kernel
theorem dX8_person_83 : decode cX8_person 83 = .ok (.getfield 39, 3) := by decide +kernel
theorem dX8_person_86 : decode cX8_person 86 = .ok (.iload_n 1, 1) := by decide +kernel
theorem dX8_person_87 : decode cX8_person 87 = .ok (.invokevirtual 204, 3) := by decide +kernel
theorem dX8_person_90 : decode cX8_person 90 = .ok (.ireturn, 1) := by decide +kernel
theorem dX8_person_91 : decode cX8_person 91 = .ok (.aload_n 0, 1) := by decide +kernel
theorem dX8_person_92 : decode cX8_person 92 = .ok (.getfield 39, 3) := by decide +kernel
theorem dX8_person_95 : decode cX8_person 95 = .ok (.getfield 207, 3) := by decide +kernel
theorem dX8_person_98 : decode cX8_person 98 = .ok (.iload_n 1, 1) := by decide +kernel
theorem dX8_person_99 : decode cX8_person 99 = .ok (.iaload, 1) := by decide +kernel
theorem dX8_person_100 : decode cX8_person 100 = .ok (.ireturn, 1) := by decide +kernel
theorem dX8_person_101 : decode cX8_person 101 = .ok (.aload_n 0, 1) := by decide +kernel
theorem dX8_person_102 : decode cX8_person 102 = .ok (.getfield 39, 3) := by decide +kernel
theorem dX8_person_105 : decode cX8_person 105 = .ok (.getfield 210, 3) := by decide +kernel
theorem dX8_person_108 : decode cX8_person 108 = .ok (.iload_n 1, 1) := by decide +kernel
theorem dX8_person_109 : decode cX8_person 109 = .ok (.iaload, 1) := by decide +kernel
theorem dX8_person_110 : decode cX8_person 110 = .ok (.ireturn, 1) := by decide +kernel
theorem dX8_person_111 : decode cX8_person 111 = .ok (.ldc 76, 2) := by decide +kernel
theorem dX8_person_113 : decode cX8_person 113 = .ok (.ireturn, 1) := by decide +kernel
theorem dX8_door_0 : decode cX8_door 0 = .ok (.aload_n 0, 1) := by decide +kernel
theorem dX8_door_1 : decode cX8_door 1 = .ok (.iload_n 1, 1) := by decide +kernel
theorem dX8_door_2 : decode cX8_door 2 = .ok (.invokevirtual 159, 3) := by decide +kernel
theorem dX8_door_5 : decode cX8_door 5 = .ok (.ifCond .ne 6, 3) := by decide +kernel
theorem dX8_door_8 : decode cX8_door 8 = .ok (.ldc 76, 2) := by decide +kernel
theorem dX8_door_10 : decode cX8_door 10 = .ok (.ireturn, 1) := by decide +kernel
theorem dX8_door_11 : decode cX8_door 11 = .ok (.iload_n 2, 1) := by decide +kernel
theorem dX8_door_12 : decode cX8_door 12 = .ok (.tableswitch 57 0 2 #[28, 38, 48], 28) := by decide +kernel
theorem dX8_door_40 : decode cX8_door 40 = .ok (.aload_n 0, 1) := by decide +kernel
theorem dX8_door_41 : decode cX8_door 41 = .ok (.getfield 39, 3) := by decide +kernel
theorem dX8_door_44 : decode cX8_door 44 = .ok (.getfield 213, 3) := by decide +kernel
theorem dX8_door_47 : decode cX8_door 47 = .ok (.iload_n 1, 1) := by decide +kernel
theorem dX8_door_48 : decode cX8_door 48 = .ok (.iaload, 1) := by decide +kernel
theorem dX8_door_49 : decode cX8_door 49 = .ok (.ireturn, 1) := by decide +kernel
theorem dX8_door_50 : decode cX8_door 50 = .ok (.aload_n 0, 1) := by decide +kernel
theorem dX8_door_51 : decode cX8_door 51 = .ok (.getfield 39, 3) := by decide +kernel
theorem dX8_door_54 : decode cX8_door 54 = .ok (.getfield 216, 3) := by decide +kernel
theorem dX8_door_57 : decode cX8_door 57 = .ok (.iload_n 1, 1) := by decide +kernel
theorem dX8_door_58 : decode cX8_door 58 = .ok (.iaload, 1) := by decide +kernel
theorem dX8_door_59 : decode cX8_door 59 = .ok (.ireturn, 1) := by decide +kernel
theorem dX8_door_60 : decode cX8_door 60 = .ok (.aload_n 0, 1) := by decide +kernel
theorem dX8_door_61 : decode cX8_door 61 = .ok (.getfield 39, 3) := by decide +kernel
theorem dX8_door_64 : decode cX8_door 64 = .ok (.iload_n 1, 1) := by decide +kernel
theorem dX8_door_65 : decode cX8_door 65 = .ok (.invokevirtual 219, 3) := by decide +kernel
theorem dX8_door_68 : decode cX8_door 68 = .ok (.ireturn, 1) := by decide +kernel
theorem dX8_door_69 : decode cX8_door 69 = .ok (.ldc 76, 2) := by decide +kernel
theorem dX8_door_71 : decode cX8_door 71 = .ok (.ireturn, 1) := by decide +kernel
theorem dX8_at_0 : decode cX8_at 0 = .ok (.aload_n 0, 1) := by decide +kernel
theorem dX8_at_1 : decode cX8_at 1 = .ok (.iload_n 1, 1) := by decide +kernel
theorem dX8_at_2 : decode cX8_at 2 = .ok (.invokevirtual 155, 3) := by decide +kernel
theorem dX8_at_5 : decode cX8_at 5 = .ok (.ifCond .eq 11, 3) := by decide +kernel
theorem dX8_at_8 : decode cX8_at 8 = .ok (.aload_n 0, 1) := by decide +kernel
theorem dX8_at_9 : decode cX8_at 9 = .ok (.iload_n 2, 1) := by decide +kernel
theorem dX8_at_10 : decode cX8_at 10 = .ok (.invokevirtual 159, 3) := by decide +kernel
theorem dX8_at_13 : decode cX8_at 13 = .ok (.ifCond .ne 6, 3) := by decide +kernel
theorem dX8_at_16 : decode cX8_at 16 = .ok (.ldc 76, 2) := by decide +kernel
theorem dX8_at_18 : decode cX8_at 18 = .ok (.ireturn, 1) := by decide +kernel
theorem dX8_at_19 : decode cX8_at 19 = .ok (.iload_n 1, 1) := by decide +kernel
theorem dX8_at_20 : decode cX8_at 20 = .ok (.iload_n 2, 1) := by decide +kernel
theorem dX8_at_21 : decode cX8_at 21 = .ok (.invokestatic 222, 3) := by decide +kernel
theorem dX8_at_24 : decode cX8_at 24 = .ok (.istore 4, 2) := by decide +kernel
theorem dX8_at_26 : decode cX8_at 26 = .ok (.iload_n 3, 1) := by decide +kernel
theorem dX8_at_27 : decode cX8_at 27 = .ok (.tableswitch 118 0 6 #[41, 52, 63, 73, 83, 102, 110], 41) := by decide +kernel
theorem dX8_at_68 : decode cX8_at 68 = .ok (.aload_n 0, 1) := by decide +kernel
theorem dX8_at_69 : decode cX8_at 69 = .ok (.getfield 39, 3) := by decide +kernel
theorem dX8_at_72 : decode cX8_at 72 = .ok (.getfield 225, 3) := by decide +kernel
theorem dX8_at_75 : decode cX8_at 75 = .ok (.iload 4, 2) := by decide +kernel
theorem dX8_at_77 : decode cX8_at 77 = .ok (.iaload, 1) := by decide +kernel
theorem dX8_at_78 : decode cX8_at 78 = .ok (.ireturn, 1) := by decide +kernel
theorem dX8_at_79 : decode cX8_at 79 = .ok (.aload_n 0, 1) := by decide +kernel
theorem dX8_at_80 : decode cX8_at 80 = .ok (.getfield 39, 3) := by decide +kernel
theorem dX8_at_83 : decode cX8_at 83 = .ok (.getfield 228, 3) := by decide +kernel
theorem dX8_at_86 : decode cX8_at 86 = .ok (.iload 4, 2) := by decide +kernel
theorem dX8_at_88 : decode cX8_at 88 = .ok (.iaload, 1) := by decide +kernel
theorem dX8_at_89 : decode cX8_at 89 = .ok (.ireturn, 1) := by decide +kernel
theorem dX8_at_90 : decode cX8_at 90 = .ok (.aload_n 0, 1) := by decide +kernel
theorem dX8_at_91 : decode cX8_at 91 = .ok (.getfield 39, 3) := by decide +kernel
theorem dX8_at_94 : decode cX8_at 94 = .ok (.iload 4, 2) := by decide +kernel
theorem dX8_at_96 : decode cX8_at 96 = .ok (.invokevirtual 231, 3) := by decide +kernel
theorem dX8_at_99 : decode cX8_at 99 = .ok (.ireturn, 1) := by decide +kernel
theorem dX8_at_100 : decode cX8_at 100 = .ok (.aload_n 0, 1) := by decide +kernel
theorem dX8_at_101 : decode cX8_at 101 = .ok (.getfield 39, 3) := by decide +kernel
theorem dX8_at_104 : decode cX8_at 104 = .ok (.iload_n 1, 1) := by decide +kernel
theorem dX8_at_105 : decode cX8_at 105 = .ok (.iload_n 2, 1) := by decide +kernel
theorem dX8_at_106 : decode cX8_at 106 = .ok (.invokevirtual 234, 3) := by decide +kernel
theorem dX8_at_109 : decode cX8_at 109 = .ok (.ireturn, 1) := by decide +kernel
theorem dX8_at_110 : decode cX8_at 110 = .ok (.aload_n 0, 1) := by decide +kernel
theorem dX8_at_111 : decode cX8_at 111 = .ok (.aload_n 0, 1) := by decide +kernel
theorem dX8_at_112 : decode cX8_at 112 = .ok (.getfield 39, 3) := by decide +kernel
theorem dX8_at_115 : decode cX8_at 115 = .ok (.iload_n 1, 1) := by decide +kernel
theorem dX8_at_116 : decode cX8_at 116 = .ok (.iload_n 2, 1) := by decide +kernel
theorem dX8_at_117 : decode cX8_at 117 = .ok (.invokevirtual 165, 3) := by decide +kernel
theorem dX8_at_120 : decode cX8_at 120 = .ok (.ifCond .eq 7, 3) := by decide +kernel
theorem dX8_at_123 : decode cX8_at 123 = .ok (.iconst 1, 1) := by decide +kernel
theorem dX8_at_124 : decode cX8_at 124 = .ok (.goto 4, 3) := by decide +kernel
theorem dX8_at_127 : decode cX8_at 127 = .ok (.iconst 0, 1) := by decide +kernel
theorem dX8_at_128 : decode cX8_at 128 = .ok (.ireturn, 1) := by decide +kernel
theorem dX8_at_129 : decode cX8_at 129 = .ok (.aload_n 0, 1) := by decide +kernel
theorem dX8_at_130 : decode cX8_at 130 = .ok (.iload_n 1, 1) := by decide +kernel
theorem dX8_at_131 : decode cX8_at 131 = .ok (.iload_n 2, 1) := by decide +kernel
theorem dX8_at_132 : decode cX8_at 132 = .ok (.iconst 1, 1) := by decide +kernel
theorem dX8_at_133 : decode cX8_at 133 = .ok (.invokevirtual 237, 3) := by decide +kernel
theorem dX8_at_136 : decode cX8_at 136 = .ok (.ireturn, 1) := by decide +kernel
theorem dX8_at_137 : decode cX8_at 137 = .ok (.aload_n 0, 1) := by decide +kernel
theorem dX8_at_138 : decode cX8_at 138 = .ok (.iload_n 1, 1) := by decide +kernel
theorem dX8_at_139 : decode cX8_at 139 = .ok (.iload_n 2, 1) := by decide +kernel
theorem dX8_at_140 : decode cX8_at 140 = .ok (.iconst (-1), 1) := by decide +kernel
theorem dX8_at_141 : decode cX8_at 141 = .ok (.invokevirtual 237, 3) := by decide +kernel
theorem dX8_at_144 : decode cX8_at 144 = .ok (.ireturn, 1) := by decide +kernel
theorem dX8_at_145 : decode cX8_at 145 = .ok (.ldc 76, 2) := by decide +kernel
theorem dX8_at_147 : decode cX8_at 147 = .ok (.ireturn, 1) := by decide +kernel
theorem dX8_favour_0 : decode cX8_favour 0 = .ok (.aload_n 0, 1) := by decide +kernel
theorem dX8_favour_1 : decode cX8_favour 1 = .ok (.iload_n 1, 1) := by decide +kernel
theorem dX8_favour_2 : decode cX8_favour 2 = .ok (.invokevirtual 155, 3) := by decide +kernel
theorem dX8_favour_5 : decode cX8_favour 5 = .ok (.ifCond .eq 16, 3) := by decide +kernel
theorem dX8_favour_8 : decode cX8_favour 8 = .ok (.aload_n 0, 1) := by decide +kernel
theorem dX8_favour_9 : decode cX8_favour 9 = .ok (.iload_n 2, 1) := by decide +kernel
theorem dX8_favour_10 : decode cX8_favour 10 = .ok (.invokevirtual 155, 3) := by decide +kernel
theorem dX8_favour_13 : decode cX8_favour 13 = .ok (.ifCond .eq 8, 3) := by decide +kernel
theorem dX8_favour_16 : decode cX8_favour 16 = .ok (.iload_n 1, 1) := by decide +kernel
theorem dX8_favour_17 : decode cX8_favour 17 = .ok (.iload_n 2, 1) := by decide +kernel
theorem dX8_favour_18 : decode cX8_favour 18 = .ok (.if_icmp .ne 6, 3) := by decide +kernel
theorem dX8_favour_21 : decode cX8_favour 21 = .ok (.ldc 76, 2) := by decide +kernel
theorem dX8_favour_23 : decode cX8_favour 23 = .ok (.ireturn, 1) := by decide +kernel
theorem dX8_favour_24 : decode cX8_favour 24 = .ok (.aload_n 0, 1) := by decide +kernel
theorem dX8_favour_25 : decode cX8_favour 25 = .ok (.getfield 39, 3) := by decide +kernel
theorem dX8_favour_28 : decode cX8_favour 28 = .ok (.iload_n 1, 1) := by decide +kernel
theorem dX8_favour_29 : decode cX8_favour 29 = .ok (.iload_n 2, 1) := by decide +kernel
theorem dX8_favour_30 : decode cX8_favour 30 = .ok (.invokevirtual 241, 3) := by decide +kernel
theorem dX8_favour_33 : decode cX8_favour 33 = .ok (.ireturn, 1) := by decide +kernel
theorem dX8_way_0 : decode cX8_way 0 = .ok (.aload_n 0, 1) := by decide +kernel
theorem dX8_way_1 : decode cX8_way 1 = .ok (.iload_n 1, 1) := by decide +kernel
theorem dX8_way_2 : decode cX8_way 2 = .ok (.invokevirtual 155, 3) := by decide +kernel
theorem dX8_way_5 : decode cX8_way 5 = .ok (.ifCond .eq 19, 3) := by decide +kernel
theorem dX8_way_8 : decode cX8_way 8 = .ok (.aload_n 0, 1) := by decide +kernel
theorem dX8_way_9 : decode cX8_way 9 = .ok (.iload_n 2, 1) := by decide +kernel
theorem dX8_way_10 : decode cX8_way 10 = .ok (.invokevirtual 189, 3) := by decide +kernel
theorem dX8_way_13 : decode cX8_way 13 = .ok (.ifCond .eq 11, 3) := by decide +kernel
theorem dX8_way_16 : decode cX8_way 16 = .ok (.iload_n 3, 1) := by decide +kernel
theorem dX8_way_17 : decode cX8_way 17 = .ok (.iconst 2, 1) := by decide +kernel
theorem dX8_way_18 : decode cX8_way 18 = .ok (.invokestatic 72, 3) := by decide +kernel
theorem dX8_way_21 : decode cX8_way 21 = .ok (.ifCond .ne 6, 3) := by decide +kernel
theorem dX8_way_24 : decode cX8_way 24 = .ok (.ldc 76, 2) := by decide +kernel
theorem dX8_way_26 : decode cX8_way 26 = .ok (.ireturn, 1) := by decide +kernel
theorem dX8_way_27 : decode cX8_way 27 = .ok (.aload_n 0, 1) := by decide +kernel
theorem dX8_way_28 : decode cX8_way 28 = .ok (.getfield 60, 3) := by decide +kernel
theorem dX8_way_31 : decode cX8_way 31 = .ok (.aload_n 0, 1) := by decide +kernel
theorem dX8_way_32 : decode cX8_way 32 = .ok (.getfield 39, 3) := by decide +kernel
theorem dX8_way_35 : decode cX8_way 35 = .ok (.aload_n 0, 1) := by decide +kernel
theorem dX8_way_36 : decode cX8_way 36 = .ok (.getfield 53, 3) := by decide +kernel
theorem dX8_way_39 : decode cX8_way 39 = .ok (.iload_n 1, 1) := by decide +kernel
theorem dX8_way_40 : decode cX8_way 40 = .ok (.invokevirtual 244, 3) := by decide +kernel
theorem dX8_way_43 : decode cX8_way 43 = .ok (.aload_n 0, 1) := by decide +kernel
theorem dX8_way_44 : decode cX8_way 44 = .ok (.getfield 60, 3) := by decide +kernel
theorem dX8_way_47 : decode cX8_way 47 = .ok (.iload_n 2, 1) := by decide +kernel
theorem dX8_way_48 : decode cX8_way 48 = .ok (.invokevirtual 247, 3) := by decide +kernel
theorem dX8_way_51 : decode cX8_way 51 = .ok (.aload_n 0, 1) := by decide +kernel
theorem dX8_way_52 : decode cX8_way 52 = .ok (.getfield 39, 3) := by decide +kernel
theorem dX8_way_55 : decode cX8_way 55 = .ok (.getfield 198, 3) := by decide +kernel
theorem dX8_way_58 : decode cX8_way 58 = .ok (.iload_n 1, 1) := by decide +kernel
theorem dX8_way_59 : decode cX8_way 59 = .ok (.iaload, 1) := by decide +kernel
theorem dX8_way_60 : decode cX8_way 60 = .ok (.istore 4, 2) := by decide +kernel
theorem dX8_way_62 : decode cX8_way 62 = .ok (.iload_n 3, 1) := by decide +kernel
theorem dX8_way_63 : decode cX8_way 63 = .ok (.ifCond .ne 16, 3) := by decide +kernel
theorem dX8_way_66 : decode cX8_way 66 = .ok (.aload_n 0, 1) := by decide +kernel
theorem dX8_way_67 : decode cX8_way 67 = .ok (.getfield 60, 3) := by decide +kernel
theorem dX8_way_70 : decode cX8_way 70 = .ok (.getfield 251, 3) := by decide +kernel
theorem dX8_way_73 : decode cX8_way 73 = .ok (.iload 4, 2) := by decide +kernel
theorem dX8_way_75 : decode cX8_way 75 = .ok (.iaload, 1) := by decide +kernel
theorem dX8_way_76 : decode cX8_way 76 = .ok (.goto 12, 3) := by decide +kernel
theorem dX8_way_79 : decode cX8_way 79 = .ok (.aload_n 0, 1) := by decide +kernel
theorem dX8_way_80 : decode cX8_way 80 = .ok (.getfield 60, 3) := by decide +kernel
theorem dX8_way_83 : decode cX8_way 83 = .ok (.iload 4, 2) := by decide +kernel
theorem dX8_way_85 : decode cX8_way 85 = .ok (.invokevirtual 254, 3) := by decide +kernel
theorem dX8_way_88 : decode cX8_way 88 = .ok (.ireturn, 1) := by decide +kernel
theorem dX8_reach_0 : decode cX8_reach 0 = .ok (.aload_n 0, 1) := by decide +kernel
theorem dX8_reach_1 : decode cX8_reach 1 = .ok (.iload_n 1, 1) := by decide +kernel
theorem dX8_reach_2 : decode cX8_reach 2 = .ok (.invokevirtual 155, 3) := by decide +kernel
theorem dX8_reach_5 : decode cX8_reach 5 = .ok (.ifCond .eq 11, 3) := by decide +kernel
theorem dX8_reach_8 : decode cX8_reach 8 = .ok (.aload_n 0, 1) := by decide +kernel
theorem dX8_reach_9 : decode cX8_reach 9 = .ok (.iload_n 1, 1) := by decide +kernel
theorem dX8_reach_10 : decode cX8_reach 10 = .ok (.invokevirtual 257, 3) := by decide +kernel
theorem dX8_reach_13 : decode cX8_reach 13 = .ok (.goto 5, 3) := by decide +kernel
theorem dX8_reach_16 : decode cX8_reach 16 = .ok (.ldc 76, 2) := by decide +kernel
theorem dX8_reach_18 : decode cX8_reach 18 = .ok (.ireturn, 1) := by decide +kernel
theorem dX8_locked_0 : decode cX8_locked 0 = .ok (.aload_n 0, 1) := by decide +kernel
theorem dX8_locked_1 : decode cX8_locked 1 = .ok (.invokevirtual 180, 3) := by decide +kernel
theorem dX8_locked_4 : decode cX8_locked 4 = .ok (.ifCond .ne 6, 3) := by decide +kernel
theorem dX8_locked_7 : decode cX8_locked 7 = .ok (.ldc 151, 2) := by decide +kernel
theorem dX8_locked_9 : decode cX8_locked 9 = .ok (.ireturn, 1) := by decide +kernel
theorem dX8_locked_10 : decode cX8_locked 10 = .ok (.iconst 0, 1) := by decide +kernel
theorem dX8_locked_11 : decode cX8_locked 11 = .ok (.istore_n 1, 1) := by decide +kernel
theorem dX8_locked_12 : decode cX8_locked 12 = .ok (.iconst 0, 1) := by decide +kernel
theorem dX8_locked_13 : decode cX8_locked 13 = .ok (.istore_n 2, 1) := by decide +kernel
theorem dX8_locked_14 : decode cX8_locked 14 = .ok (.iload_n 2, 1) := by decide +kernel
theorem dX8_locked_15 : decode cX8_locked 15 = .ok (.aload_n 0, 1) := by decide +kernel
theorem dX8_locked_16 : decode cX8_locked 16 = .ok (.getfield 39, 3) := by decide +kernel
theorem dX8_locked_19 : decode cX8_locked 19 = .ok (.getfield 145, 3) := by decide +kernel
theorem dX8_locked_22 : decode cX8_locked 22 = .ok (.if_icmp .ge 34, 3) := by decide +kernel
theorem dX8_locked_25 : decode cX8_locked 25 = .ok (.aload_n 0, 1) := by decide +kernel
theorem dX8_locked_26 : decode cX8_locked 26 = .ok (.iload_n 2, 1) := by decide +kernel
theorem dX8_locked_27 : decode cX8_locked 27 = .ok (.invokevirtual 257, 3) := by decide +kernel
theorem dX8_locked_30 : decode cX8_locked 30 = .ok (.iconst 1, 1) := by decide +kernel
theorem dX8_locked_31 : decode cX8_locked 31 = .ok (.aload_n 0, 1) := by decide +kernel
theorem dX8_locked_32 : decode cX8_locked 32 = .ok (.getfield 39, 3) := by decide +kernel
theorem dX8_locked_35 : decode cX8_locked 35 = .ok (.getfield 198, 3) := by decide +kernel
theorem dX8_locked_38 : decode cX8_locked 38 = .ok (.iload_n 2, 1) := by decide +kernel
theorem dX8_locked_39 : decode cX8_locked 39 = .ok (.iaload, 1) := by decide +kernel
theorem dX8_locked_40 : decode cX8_locked 40 = .ok (.ishl, 1) := by decide +kernel
theorem dX8_locked_41 : decode cX8_locked 41 = .ok (.if_icmp .ne 9, 3) := by decide +kernel
theorem dX8_locked_44 : decode cX8_locked 44 = .ok (.iload_n 1, 1) := by decide +kernel
theorem dX8_locked_45 : decode cX8_locked 45 = .ok (.iconst 1, 1) := by decide +kernel
theorem dX8_locked_46 : decode cX8_locked 46 = .ok (.iload_n 2, 1) := by decide +kernel
theorem dX8_locked_47 : decode cX8_locked 47 = .ok (.ishl, 1) := by decide +kernel
theorem dX8_locked_48 : decode cX8_locked 48 = .ok (.ior, 1) := by decide +kernel
theorem dX8_locked_49 : decode cX8_locked 49 = .ok (.istore_n 1, 1) := by decide +kernel
theorem dX8_locked_50 : decode cX8_locked 50 = .ok (.iinc 2 1, 3) := by decide +kernel
theorem dX8_locked_53 : decode cX8_locked 53 = .ok (.goto (-39), 3) := by decide +kernel
theorem dX8_locked_56 : decode cX8_locked 56 = .ok (.iload_n 1, 1) := by decide +kernel
theorem dX8_locked_57 : decode cX8_locked 57 = .ok (.ireturn, 1) := by decide +kernel
theorem dX8_gifts_0 : decode cX8_gifts 0 = .ok (.aload_n 0, 1) := by decide +kernel
theorem dX8_gifts_1 : decode cX8_gifts 1 = .ok (.iload_n 1, 1) := by decide +kernel
theorem dX8_gifts_2 : decode cX8_gifts 2 = .ok (.invokevirtual 155, 3) := by decide +kernel
theorem dX8_gifts_5 : decode cX8_gifts 5 = .ok (.ifCond .eq 19, 3) := by decide +kernel
theorem dX8_gifts_8 : decode cX8_gifts 8 = .ok (.aload_n 0, 1) := by decide +kernel
theorem dX8_gifts_9 : decode cX8_gifts 9 = .ok (.iload_n 2, 1) := by decide +kernel
theorem dX8_gifts_10 : decode cX8_gifts 10 = .ok (.invokevirtual 159, 3) := by decide +kernel
theorem dX8_gifts_13 : decode cX8_gifts 13 = .ok (.ifCond .eq 11, 3) := by decide +kernel
theorem dX8_gifts_16 : decode cX8_gifts 16 = .ok (.iload_n 3, 1) := by decide +kernel
theorem dX8_gifts_17 : decode cX8_gifts 17 = .ok (.iconst 2, 1) := by decide +kernel
theorem dX8_gifts_18 : decode cX8_gifts 18 = .ok (.invokestatic 72, 3) := by decide +kernel
theorem dX8_gifts_21 : decode cX8_gifts 21 = .ok (.ifCond .ne 6, 3) := by decide +kernel
theorem dX8_gifts_24 : decode cX8_gifts 24 = .ok (.ldc 76, 2) := by decide +kernel
theorem dX8_gifts_26 : decode cX8_gifts 26 = .ok (.ireturn, 1) := by decide +kernel
theorem dX8_gifts_27 : decode cX8_gifts 27 = .ok (.aload_n 0, 1) := by decide +kernel
theorem dX8_gifts_28 : decode cX8_gifts 28 = .ok (.getfield 53, 3) := by decide +kernel
theorem dX8_gifts_31 : decode cX8_gifts 31 = .ok (.aload_n 0, 1) := by decide +kernel
theorem dX8_gifts_32 : decode cX8_gifts 32 = .ok (.getfield 39, 3) := by decide +kernel
theorem dX8_gifts_35 : decode cX8_gifts 35 = .ok (.iload_n 1, 1) := by decide +kernel
theorem dX8_gifts_36 : decode cX8_gifts 36 = .ok (.iload_n 2, 1) := by decide +kernel
theorem dX8_gifts_37 : decode cX8_gifts 37 = .ok (.invokevirtual 260, 3) := by decide +kernel
theorem dX8_gifts_40 : decode cX8_gifts 40 = .ok (.aload_n 0, 1) := by decide +kernel
theorem dX8_gifts_41 : decode cX8_gifts 41 = .ok (.getfield 67, 3) := by decide +kernel
theorem dX8_gifts_44 : decode cX8_gifts 44 = .ok (.aload_n 0, 1) := by decide +kernel
theorem dX8_gifts_45 : decode cX8_gifts 45 = .ok (.getfield 39, 3) := by decide +kernel
theorem dX8_gifts_48 : decode cX8_gifts 48 = .ok (.aload_n 0, 1) := by decide +kernel
theorem dX8_gifts_49 : decode cX8_gifts 49 = .ok (.getfield 53, 3) := by decide +kernel
theorem dX8_gifts_52 : decode cX8_gifts 52 = .ok (.iload_n 1, 1) := by decide +kernel
theorem dX8_gifts_53 : decode cX8_gifts 53 = .ok (.invokevirtual 263, 3) := by decide +kernel
theorem dX8_gifts_56 : decode cX8_gifts 56 = .ok (.aload_n 0, 1) := by decide +kernel
theorem dX8_gifts_57 : decode cX8_gifts 57 = .ok (.getfield 67, 3) := by decide +kernel
theorem dX8_gifts_60 : decode cX8_gifts 60 = .ok (.aload_n 0, 1) := by decide +kernel
theorem dX8_gifts_61 : decode cX8_gifts 61 = .ok (.getfield 53, 3) := by decide +kernel
theorem dX8_gifts_64 : decode cX8_gifts 64 = .ok (.invokevirtual 266, 3) := by decide +kernel
theorem dX8_gifts_67 : decode cX8_gifts 67 = .ok (.iload_n 3, 1) := by decide +kernel
theorem dX8_gifts_68 : decode cX8_gifts 68 = .ok (.ifCond .ne 13, 3) := by decide +kernel
theorem dX8_gifts_71 : decode cX8_gifts 71 = .ok (.aload_n 0, 1) := by decide +kernel
theorem dX8_gifts_72 : decode cX8_gifts 72 = .ok (.getfield 67, 3) := by decide +kernel
theorem dX8_gifts_75 : decode cX8_gifts 75 = .ok (.getfield 270, 3) := by decide +kernel
theorem dX8_gifts_78 : decode cX8_gifts 78 = .ok (.goto 10, 3) := by decide +kernel
theorem dX8_gifts_81 : decode cX8_gifts 81 = .ok (.aload_n 0, 1) := by decide +kernel
theorem dX8_gifts_82 : decode cX8_gifts 82 = .ok (.getfield 67, 3) := by decide +kernel
theorem dX8_gifts_85 : decode cX8_gifts 85 = .ok (.getfield 273, 3) := by decide +kernel
theorem dX8_gifts_88 : decode cX8_gifts 88 = .ok (.ireturn, 1) := by decide +kernel
theorem dX8_parade_0 : decode cX8_parade 0 = .ok (.aload_n 0, 1) := by decide +kernel
theorem dX8_parade_1 : decode cX8_parade 1 = .ok (.iload_n 1, 1) := by decide +kernel
theorem dX8_parade_2 : decode cX8_parade 2 = .ok (.invokevirtual 155, 3) := by decide +kernel
theorem dX8_parade_5 : decode cX8_parade 5 = .ok (.ifCond .eq 19, 3) := by decide +kernel
theorem dX8_parade_8 : decode cX8_parade 8 = .ok (.aload_n 0, 1) := by decide +kernel
theorem dX8_parade_9 : decode cX8_parade 9 = .ok (.iload_n 2, 1) := by decide +kernel
theorem dX8_parade_10 : decode cX8_parade 10 = .ok (.invokevirtual 159, 3) := by decide +kernel
theorem dX8_parade_13 : decode cX8_parade 13 = .ok (.ifCond .eq 11, 3) := by decide +kernel
theorem dX8_parade_16 : decode cX8_parade 16 = .ok (.iload_n 3, 1) := by decide +kernel
theorem dX8_parade_17 : decode cX8_parade 17 = .ok (.iconst 2, 1) := by decide +kernel
theorem dX8_parade_18 : decode cX8_parade 18 = .ok (.invokestatic 72, 3) := by decide +kernel
theorem dX8_parade_21 : decode cX8_parade 21 = .ok (.ifCond .ne 6, 3) := by decide +kernel
theorem dX8_parade_24 : decode cX8_parade 24 = .ok (.ldc 76, 2) := by decide +kernel
theorem dX8_parade_26 : decode cX8_parade 26 = .ok (.ireturn, 1) := by decide +kernel
theorem dX8_parade_27 : decode cX8_parade 27 = .ok (.aload_n 0, 1) := by decide +kernel
theorem dX8_parade_28 : decode cX8_parade 28 = .ok (.getfield 53, 3) := by decide +kernel
theorem dX8_parade_31 : decode cX8_parade 31 = .ok (.aload_n 0, 1) := by decide +kernel
theorem dX8_parade_32 : decode cX8_parade 32 = .ok (.getfield 39, 3) := by decide +kernel
theorem dX8_parade_35 : decode cX8_parade 35 = .ok (.iload_n 1, 1) := by decide +kernel
theorem dX8_parade_36 : decode cX8_parade 36 = .ok (.iload_n 2, 1) := by decide +kernel
theorem dX8_parade_37 : decode cX8_parade 37 = .ok (.invokevirtual 260, 3) := by decide +kernel
theorem dX8_parade_40 : decode cX8_parade 40 = .ok (.aload_n 0, 1) := by decide +kernel
theorem dX8_parade_41 : decode cX8_parade 41 = .ok (.getfield 43, 3) := by decide +kernel
theorem dX8_parade_44 : decode cX8_parade 44 = .ok (.aload_n 0, 1) := by decide +kernel
theorem dX8_parade_45 : decode cX8_parade 45 = .ok (.getfield 39, 3) := by decide +kernel
theorem dX8_parade_48 : decode cX8_parade 48 = .ok (.invokevirtual 138, 3) := by decide +kernel
theorem dX8_parade_51 : decode cX8_parade 51 = .ok (.iconst 0, 1) := by decide +kernel
theorem dX8_parade_52 : decode cX8_parade 52 = .ok (.istore 4, 2) := by decide +kernel
theorem dX8_parade_54 : decode cX8_parade 54 = .ok (.iload 4, 2) := by decide +kernel
theorem dX8_parade_56 : decode cX8_parade 56 = .ok (.aload_n 0, 1) := by decide +kernel
theorem dX8_parade_57 : decode cX8_parade 57 = .ok (.getfield 39, 3) := by decide +kernel
theorem dX8_parade_60 : decode cX8_parade 60 = .ok (.getfield 145, 3) := by decide +kernel
theorem dX8_parade_63 : decode cX8_parade 63 = .ok (.if_icmp .ge 19, 3) := by decide +kernel
theorem dX8_parade_66 : decode cX8_parade 66 = .ok (.aload_n 0, 1) := by decide +kernel
theorem dX8_parade_67 : decode cX8_parade 67 = .ok (.getfield 43, 3) := by decide +kernel
theorem dX8_parade_70 : decode cX8_parade 70 = .ok (.iload 4, 2) := by decide +kernel
theorem dX8_parade_72 : decode cX8_parade 72 = .ok (.iload_n 2, 1) := by decide +kernel
theorem dX8_parade_73 : decode cX8_parade 73 = .ok (.invokevirtual 274, 3) := by decide +kernel
theorem dX8_parade_76 : decode cX8_parade 76 = .ok (.iinc 4 1, 3) := by decide +kernel
theorem dX8_parade_79 : decode cX8_parade 79 = .ok (.goto (-25), 3) := by decide +kernel
theorem dX8_parade_82 : decode cX8_parade 82 = .ok (.ldc_w 277, 3) := by decide +kernel
theorem dX8_parade_85 : decode cX8_parade 85 = .ok (.istore 4, 2) := by decide +kernel
theorem dX8_parade_87 : decode cX8_parade 87 = .ok (.ldc_w 277, 3) := by decide +kernel
theorem dX8_parade_90 : decode cX8_parade 90 = .ok (.istore 5, 2) := by decide +kernel
theorem dX8_parade_92 : decode cX8_parade 92 = .ok (.iconst 0, 1) := by decide +kernel
theorem dX8_parade_93 : decode cX8_parade 93 = .ok (.istore 6, 2) := by decide +kernel
theorem dX8_parade_95 : decode cX8_parade 95 = .ok (.iload 6, 2) := by decide +kernel
theorem dX8_parade_97 : decode cX8_parade 97 = .ok (.iconst 1, 1) := by decide +kernel
theorem dX8_parade_98 : decode cX8_parade 98 = .ok (.aload_n 0, 1) := by decide +kernel
theorem dX8_parade_99 : decode cX8_parade 99 = .ok (.getfield 39, 3) := by decide +kernel
theorem dX8_parade_102 : decode cX8_parade 102 = .ok (.getfield 145, 3) := by decide +kernel
theorem dX8_parade_105 : decode cX8_parade 105 = .ok (.ishl, 1) := by decide +kernel
theorem dX8_parade_106 : decode cX8_parade 106 = .ok (.if_icmp .ge 77, 3) := by decide +kernel
theorem dX8_parade_109 : decode cX8_parade 109 = .ok (.iload 6, 2) := by decide +kernel
theorem dX8_parade_111 : decode cX8_parade 111 = .ok (.iload_n 1, 1) := by decide +kernel
theorem dX8_parade_112 : decode cX8_parade 112 = .ok (.ishr, 1) := by decide +kernel
theorem dX8_parade_113 : decode cX8_parade 113 = .ok (.iconst 1, 1) := by decide +kernel
theorem dX8_parade_114 : decode cX8_parade 114 = .ok (.iand, 1) := by decide +kernel
theorem dX8_parade_115 : decode cX8_parade 115 = .ok (.ifCond .eq 7, 3) := by decide +kernel
theorem dX8_parade_118 : decode cX8_parade 118 = .ok (.iconst 1, 1) := by decide +kernel
theorem dX8_parade_119 : decode cX8_parade 119 = .ok (.goto 4, 3) := by decide +kernel
theorem dX8_parade_122 : decode cX8_parade 122 = .ok (.iconst 0, 1) := by decide +kernel
theorem dX8_parade_123 : decode cX8_parade 123 = .ok (.istore 7, 2) := by decide +kernel
theorem dX8_parade_125 : decode cX8_parade 125 = .ok (.iload 6, 2) := by decide +kernel
theorem dX8_parade_127 : decode cX8_parade 127 = .ok (.invokestatic 278, 3) := by decide +kernel
theorem dX8_parade_130 : decode cX8_parade 130 = .ok (.istore 8, 2) := by decide +kernel
theorem dX8_parade_132 : decode cX8_parade 132 = .ok (.iload 7, 2) := by decide +kernel
theorem dX8_parade_134 : decode cX8_parade 134 = .ok (.ifCond .ne 43, 3) := by decide +kernel
theorem dX8_parade_137 : decode cX8_parade 137 = .ok (.iload 4, 2) := by decide +kernel
theorem dX8_parade_139 : decode cX8_parade 139 = .ok (.ldc_w 277, 3) := by decide +kernel
theorem dX8_parade_142 : decode cX8_parade 142 = .ok (.if_icmp .eq 10, 3) := by decide +kernel
theorem dX8_parade_145 : decode cX8_parade 145 = .ok (.iload 8, 2) := by decide +kernel
theorem dX8_parade_147 : decode cX8_parade 147 = .ok (.iload 4, 2) := by decide +kernel
theorem dX8_parade_149 : decode cX8_parade 149 = .ok (.if_icmp .ge 28, 3) := by decide +kernel
theorem dX8_parade_152 : decode cX8_parade 152 = .ok (.aload_n 0, 1) := by decide +kernel
theorem dX8_parade_153 : decode cX8_parade 153 = .ok (.getfield 53, 3) := by decide +kernel
theorem dX8_parade_156 : decode cX8_parade 156 = .ok (.iload 6, 2) := by decide +kernel
theorem dX8_parade_158 : decode cX8_parade 158 = .ok (.aload_n 0, 1) := by decide +kernel
theorem dX8_parade_159 : decode cX8_parade 159 = .ok (.getfield 43, 3) := by decide +kernel
theorem dX8_parade_162 : decode cX8_parade 162 = .ok (.iload_n 2, 1) := by decide +kernel
theorem dX8_parade_163 : decode cX8_parade 163 = .ok (.invokevirtual 283, 3) := by decide +kernel
theorem dX8_parade_166 : decode cX8_parade 166 = .ok (.ifCond .eq 11, 3) := by decide +kernel
theorem dX8_parade_169 : decode cX8_parade 169 = .ok (.iload 8, 2) := by decide +kernel
theorem dX8_parade_171 : decode cX8_parade 171 = .ok (.istore 4, 2) := by decide +kernel
theorem dX8_parade_173 : decode cX8_parade 173 = .ok (.iload 6, 2) := by decide +kernel
theorem dX8_parade_175 : decode cX8_parade 175 = .ok (.istore 5, 2) := by decide +kernel
theorem dX8_parade_177 : decode cX8_parade 177 = .ok (.iinc 6 1, 3) := by decide +kernel
theorem dX8_parade_180 : decode cX8_parade 180 = .ok (.goto (-85), 3) := by decide +kernel
theorem dX8_parade_183 : decode cX8_parade 183 = .ok (.iload_n 3, 1) := by decide +kernel
theorem dX8_parade_184 : decode cX8_parade 184 = .ok (.ifCond .ne 8, 3) := by decide +kernel
theorem dX8_parade_187 : decode cX8_parade 187 = .ok (.iload 4, 2) := by decide +kernel
theorem dX8_parade_189 : decode cX8_parade 189 = .ok (.goto 5, 3) := by decide +kernel
theorem dX8_parade_192 : decode cX8_parade 192 = .ok (.iload 5, 2) := by decide +kernel
theorem dX8_parade_194 : decode cX8_parade 194 = .ok (.ireturn, 1) := by decide +kernel
theorem dX8_newDoor_0 : decode cX8_newDoor 0 = .ok (.aload_n 0, 1) := by decide +kernel
theorem dX8_newDoor_1 : decode cX8_newDoor 1 = .ok (.iload_n 1, 1) := by decide +kernel
theorem dX8_newDoor_2 : decode cX8_newDoor 2 = .ok (.invokevirtual 155, 3) := by decide +kernel
theorem dX8_newDoor_5 : decode cX8_newDoor 5 = .ok (.ifCond .eq 19, 3) := by decide +kernel
theorem dX8_newDoor_8 : decode cX8_newDoor 8 = .ok (.aload_n 0, 1) := by decide +kernel
theorem dX8_newDoor_9 : decode cX8_newDoor 9 = .ok (.iload_n 2, 1) := by decide +kernel
theorem dX8_newDoor_10 : decode cX8_newDoor 10 = .ok (.invokevirtual 189, 3) := by decide +kernel
theorem dX8_newDoor_13 : decode cX8_newDoor 13 = .ok (.ifCond .eq 11, 3) := by decide +kernel
theorem dX8_newDoor_16 : decode cX8_newDoor 16 = .ok (.iload_n 3, 1) := by decide +kernel
theorem dX8_newDoor_17 : decode cX8_newDoor 17 = .ok (.iconst 2, 1) := by decide +kernel
theorem dX8_newDoor_18 : decode cX8_newDoor 18 = .ok (.invokestatic 72, 3) := by decide +kernel
theorem dX8_newDoor_21 : decode cX8_newDoor 21 = .ok (.ifCond .ne 6, 3) := by decide +kernel
theorem dX8_newDoor_24 : decode cX8_newDoor 24 = .ok (.ldc 76, 2) := by decide +kernel
theorem dX8_newDoor_26 : decode cX8_newDoor 26 = .ok (.ireturn, 1) := by decide +kernel
theorem dX8_newDoor_27 : decode cX8_newDoor 27 = .ok (.aload_n 0, 1) := by decide +kernel
theorem dX8_newDoor_28 : decode cX8_newDoor 28 = .ok (.getfield 60, 3) := by decide +kernel
theorem dX8_newDoor_31 : decode cX8_newDoor 31 = .ok (.aload_n 0, 1) := by decide +kernel
theorem dX8_newDoor_32 : decode cX8_newDoor 32 = .ok (.getfield 39, 3) := by decide +kernel
theorem dX8_newDoor_35 : decode cX8_newDoor 35 = .ok (.aload_n 0, 1) := by decide +kernel
theorem dX8_newDoor_36 : decode cX8_newDoor 36 = .ok (.getfield 53, 3) := by decide +kernel
theorem dX8_newDoor_39 : decode cX8_newDoor 39 = .ok (.iload_n 1, 1) := by decide +kernel
theorem dX8_newDoor_40 : decode cX8_newDoor 40 = .ok (.invokevirtual 244, 3) := by decide +kernel
theorem dX8_newDoor_43 : decode cX8_newDoor 43 = .ok (.ldc_w 277, 3) := by decide +kernel
theorem dX8_newDoor_46 : decode cX8_newDoor 46 = .ok (.istore 4, 2) := by decide +kernel
theorem dX8_newDoor_48 : decode cX8_newDoor 48 = .ok (.ldc_w 277, 3) := by decide +kernel
theorem dX8_newDoor_51 : decode cX8_newDoor 51 = .ok (.istore 5, 2) := by decide +kernel
theorem dX8_newDoor_53 : decode cX8_newDoor 53 = .ok (.iconst 0, 1) := by decide +kernel
theorem dX8_newDoor_54 : decode cX8_newDoor 54 = .ok (.istore 6, 2) := by decide +kernel
theorem dX8_newDoor_56 : decode cX8_newDoor 56 = .ok (.iload 6, 2) := by decide +kernel
theorem dX8_newDoor_58 : decode cX8_newDoor 58 = .ok (.aload_n 0, 1) := by decide +kernel
theorem dX8_newDoor_59 : decode cX8_newDoor 59 = .ok (.getfield 39, 3) := by decide +kernel
theorem dX8_newDoor_62 : decode cX8_newDoor 62 = .ok (.getfield 287, 3) := by decide +kernel
theorem dX8_newDoor_65 : decode cX8_newDoor 65 = .ok (.if_icmp .ge 93, 3) := by decide +kernel
theorem dX8_newDoor_68 : decode cX8_newDoor 68 = .ok (.iload 6, 2) := by decide +kernel
theorem dX8_newDoor_70 : decode cX8_newDoor 70 = .ok (.iconst 1, 1) := by decide +kernel
theorem dX8_newDoor_71 : decode cX8_newDoor 71 = .ok (.iadd, 1) := by decide +kernel
theorem dX8_newDoor_72 : decode cX8_newDoor 72 = .ok (.istore 7, 2) := by decide +kernel
theorem dX8_newDoor_74 : decode cX8_newDoor 74 = .ok (.iload 7, 2) := by decide +kernel
theorem dX8_newDoor_76 : decode cX8_newDoor 76 = .ok (.aload_n 0, 1) := by decide +kernel
theorem dX8_newDoor_77 : decode cX8_newDoor 77 = .ok (.getfield 39, 3) := by decide +kernel
theorem dX8_newDoor_80 : decode cX8_newDoor 80 = .ok (.getfield 287, 3) := by decide +kernel
theorem dX8_newDoor_83 : decode cX8_newDoor 83 = .ok (.if_icmp .ge 69, 3) := by decide +kernel
theorem dX8_newDoor_86 : decode cX8_newDoor 86 = .ok (.aload_n 0, 1) := by decide +kernel
theorem dX8_newDoor_87 : decode cX8_newDoor 87 = .ok (.getfield 60, 3) := by decide +kernel
theorem dX8_newDoor_90 : decode cX8_newDoor 90 = .ok (.iload 6, 2) := by decide +kernel
theorem dX8_newDoor_92 : decode cX8_newDoor 92 = .ok (.iload 7, 2) := by decide +kernel
theorem dX8_newDoor_94 : decode cX8_newDoor 94 = .ok (.iload_n 2, 1) := by decide +kernel
theorem dX8_newDoor_95 : decode cX8_newDoor 95 = .ok (.aload_n 0, 1) := by decide +kernel
theorem dX8_newDoor_96 : decode cX8_newDoor 96 = .ok (.getfield 39, 3) := by decide +kernel
theorem dX8_newDoor_99 : decode cX8_newDoor 99 = .ok (.getfield 198, 3) := by decide +kernel
theorem dX8_newDoor_102 : decode cX8_newDoor 102 = .ok (.iload_n 1, 1) := by decide +kernel
theorem dX8_newDoor_103 : decode cX8_newDoor 103 = .ok (.iaload, 1) := by decide +kernel
theorem dX8_newDoor_104 : decode cX8_newDoor 104 = .ok (.invokevirtual 290, 3) := by decide +kernel
theorem dX8_newDoor_107 : decode cX8_newDoor 107 = .ok (.istore 8, 2) := by decide +kernel
theorem dX8_newDoor_109 : decode cX8_newDoor 109 = .ok (.iload 8, 2) := by decide +kernel
theorem dX8_newDoor_111 : decode cX8_newDoor 111 = .ok (.ldc_w 277, 3) := by decide +kernel
theorem dX8_newDoor_114 : decode cX8_newDoor 114 = .ok (.if_icmp .eq 32, 3) := by decide +kernel
theorem dX8_newDoor_117 : decode cX8_newDoor 117 = .ok (.iload 5, 2) := by decide +kernel
theorem dX8_newDoor_119 : decode cX8_newDoor 119 = .ok (.ldc_w 277, 3) := by decide +kernel
theorem dX8_newDoor_122 : decode cX8_newDoor 122 = .ok (.if_icmp .eq 10, 3) := by decide +kernel
theorem dX8_newDoor_125 : decode cX8_newDoor 125 = .ok (.iload 8, 2) := by decide +kernel
theorem dX8_newDoor_127 : decode cX8_newDoor 127 = .ok (.iload 5, 2) := by decide +kernel
theorem dX8_newDoor_129 : decode cX8_newDoor 129 = .ok (.if_icmp .ge 17, 3) := by decide +kernel
theorem dX8_newDoor_132 : decode cX8_newDoor 132 = .ok (.iload 8, 2) := by decide +kernel
theorem dX8_newDoor_134 : decode cX8_newDoor 134 = .ok (.istore 5, 2) := by decide +kernel
theorem dX8_newDoor_136 : decode cX8_newDoor 136 = .ok (.bipush 10, 2) := by decide +kernel
theorem dX8_newDoor_138 : decode cX8_newDoor 138 = .ok (.iload 6, 2) := by decide +kernel
theorem dX8_newDoor_140 : decode cX8_newDoor 140 = .ok (.imul, 1) := by decide +kernel
theorem dX8_newDoor_141 : decode cX8_newDoor 141 = .ok (.iload 7, 2) := by decide +kernel
theorem dX8_newDoor_143 : decode cX8_newDoor 143 = .ok (.iadd, 1) := by decide +kernel
theorem dX8_newDoor_144 : decode cX8_newDoor 144 = .ok (.istore 4, 2) := by decide +kernel
theorem dX8_newDoor_146 : decode cX8_newDoor 146 = .ok (.iinc 7 1, 3) := by decide +kernel
theorem dX8_newDoor_149 : decode cX8_newDoor 149 = .ok (.goto (-75), 3) := by decide +kernel
theorem dX8_newDoor_152 : decode cX8_newDoor 152 = .ok (.iinc 6 1, 3) := by decide +kernel
theorem dX8_newDoor_155 : decode cX8_newDoor 155 = .ok (.goto (-99), 3) := by decide +kernel
theorem dX8_newDoor_158 : decode cX8_newDoor 158 = .ok (.iload_n 3, 1) := by decide +kernel
theorem dX8_newDoor_159 : decode cX8_newDoor 159 = .ok (.ifCond .ne 8, 3) := by decide +kernel
theorem dX8_newDoor_162 : decode cX8_newDoor 162 = .ok (.iload 4, 2) := by decide +kernel
theorem dX8_newDoor_164 : decode cX8_newDoor 164 = .ok (.goto 5, 3) := by decide +kernel
theorem dX8_newDoor_167 : decode cX8_newDoor 167 = .ok (.iload 5, 2) := by decide +kernel
theorem dX8_newDoor_169 : decode cX8_newDoor 169 = .ok (.ireturn, 1) := by decide +kernel
theorem dX8_bents_0 : decode cX8_bents 0 = .ok (.aload_n 0, 1) := by decide +kernel
theorem dX8_bents_1 : decode cX8_bents 1 = .ok (.iload_n 1, 1) := by decide +kernel
theorem dX8_bents_2 : decode cX8_bents 2 = .ok (.iload_n 2, 1) := by decide +kernel
theorem dX8_bents_3 : decode cX8_bents 3 = .ok (.iload_n 3, 1) := by decide +kernel
theorem dX8_bents_4 : decode cX8_bents 4 = .ok (.iload 5, 2) := by decide +kernel
theorem dX8_bents_6 : decode cX8_bents 6 = .ok (.invokevirtual 294, 3) := by decide +kernel
theorem dX8_bents_9 : decode cX8_bents 9 = .ok (.ifCond .eq 12, 3) := by decide +kernel
theorem dX8_bents_12 : decode cX8_bents 12 = .ok (.iload 6, 2) := by decide +kernel
theorem dX8_bents_14 : decode cX8_bents 14 = .ok (.iconst 2, 1) := by decide +kernel
theorem dX8_bents_15 : decode cX8_bents 15 = .ok (.invokestatic 72, 3) := by decide +kernel
theorem dX8_bents_18 : decode cX8_bents 18 = .ok (.ifCond .ne 6, 3) := by decide +kernel
theorem dX8_bents_21 : decode cX8_bents 21 = .ok (.ldc 76, 2) := by decide +kernel
theorem dX8_bents_23 : decode cX8_bents 23 = .ok (.ireturn, 1) := by decide +kernel
theorem dX8_bents_24 : decode cX8_bents 24 = .ok (.aload_n 0, 1) := by decide +kernel
theorem dX8_bents_25 : decode cX8_bents 25 = .ok (.getfield 11, 3) := by decide +kernel
theorem dX8_bents_28 : decode cX8_bents 28 = .ok (.iload_n 3, 1) := by decide +kernel
theorem dX8_bents_29 : decode cX8_bents 29 = .ok (.aaload, 1) := by decide +kernel
theorem dX8_bents_30 : decode cX8_bents 30 = .ok (.iload 4, 2) := by decide +kernel
theorem dX8_bents_32 : decode cX8_bents 32 = .ok (.iload 5, 2) := by decide +kernel
theorem dX8_bents_34 : decode cX8_bents 34 = .ok (.invokevirtual 88, 3) := by decide +kernel
theorem dX8_bents_37 : decode cX8_bents 37 = .ok (.istore 7, 2) := by decide +kernel
theorem dX8_bents_39 : decode cX8_bents 39 = .ok (.iload 7, 2) := by decide +kernel
theorem dX8_bents_41 : decode cX8_bents 41 = .ok (.ifCond .eq 10, 3) := by decide +kernel
theorem dX8_bents_44 : decode cX8_bents 44 = .ok (.aload_n 0, 1) := by decide +kernel
theorem dX8_bents_45 : decode cX8_bents 45 = .ok (.iload 7, 2) := by decide +kernel
theorem dX8_bents_47 : decode cX8_bents 47 = .ok (.invokevirtual 77, 3) := by decide +kernel
theorem dX8_bents_50 : decode cX8_bents 50 = .ok (.ireturn, 1) := by decide +kernel
theorem dX8_bents_51 : decode cX8_bents 51 = .ok (.aload_n 0, 1) := by decide +kernel
theorem dX8_bents_52 : decode cX8_bents 52 = .ok (.getfield 43, 3) := by decide +kernel
theorem dX8_bents_55 : decode cX8_bents 55 = .ok (.aload_n 0, 1) := by decide +kernel
theorem dX8_bents_56 : decode cX8_bents 56 = .ok (.getfield 39, 3) := by decide +kernel
theorem dX8_bents_59 : decode cX8_bents 59 = .ok (.invokevirtual 138, 3) := by decide +kernel
theorem dX8_bents_62 : decode cX8_bents 62 = .ok (.iconst 0, 1) := by decide +kernel
theorem dX8_bents_63 : decode cX8_bents 63 = .ok (.istore 8, 2) := by decide +kernel
theorem dX8_bents_65 : decode cX8_bents 65 = .ok (.ldc_w 277, 3) := by decide +kernel
theorem dX8_bents_68 : decode cX8_bents 68 = .ok (.istore 9, 2) := by decide +kernel
theorem dX8_bents_70 : decode cX8_bents 70 = .ok (.bipush 6, 2) := by decide +kernel
theorem dX8_bents_72 : decode cX8_bents 72 = .ok (.istore 10, 2) := by decide +kernel
theorem dX8_bents_74 : decode cX8_bents 74 = .ok (.iload 10, 2) := by decide +kernel
theorem dX8_bents_76 : decode cX8_bents 76 = .ok (.ifCond .lt 45, 3) := by decide +kernel
theorem dX8_bents_79 : decode cX8_bents 79 = .ok (.aload_n 0, 1) := by decide +kernel
theorem dX8_bents_80 : decode cX8_bents 80 = .ok (.getfield 43, 3) := by decide +kernel
theorem dX8_bents_83 : decode cX8_bents 83 = .ok (.getfield 201, 3) := by decide +kernel
theorem dX8_bents_86 : decode cX8_bents 86 = .ok (.iload_n 1, 1) := by decide +kernel
theorem dX8_bents_87 : decode cX8_bents 87 = .ok (.iload 10, 2) := by decide +kernel
theorem dX8_bents_89 : decode cX8_bents 89 = .ok (.iastore, 1) := by decide +kernel
theorem dX8_bents_90 : decode cX8_bents 90 = .ok (.aload_n 0, 1) := by decide +kernel
theorem dX8_bents_91 : decode cX8_bents 91 = .ok (.iload_n 2, 1) := by decide +kernel
theorem dX8_bents_92 : decode cX8_bents 92 = .ok (.aload_n 0, 1) := by decide +kernel
theorem dX8_bents_93 : decode cX8_bents 93 = .ok (.getfield 11, 3) := by decide +kernel
theorem dX8_bents_96 : decode cX8_bents 96 = .ok (.iload_n 3, 1) := by decide +kernel
theorem dX8_bents_97 : decode cX8_bents 97 = .ok (.aaload, 1) := by decide +kernel
theorem dX8_bents_98 : decode cX8_bents 98 = .ok (.iload 4, 2) := by decide +kernel
theorem dX8_bents_100 : decode cX8_bents 100 = .ok (.iload 5, 2) := by decide +kernel
theorem dX8_bents_102 : decode cX8_bents 102 = .ok (.invokevirtual 298, 3) := by decide +kernel
theorem dX8_bents_105 : decode cX8_bents 105 = .ok (.ifCond .eq 10, 3) := by decide +kernel
theorem dX8_bents_108 : decode cX8_bents 108 = .ok (.iinc 8 1, 3) := by decide +kernel
theorem dX8_bents_111 : decode cX8_bents 111 = .ok (.iload 10, 2) := by decide +kernel
theorem dX8_bents_113 : decode cX8_bents 113 = .ok (.istore 9, 2) := by decide +kernel
theorem dX8_bents_115 : decode cX8_bents 115 = .ok (.iinc 10 (-1), 3) := by decide +kernel
theorem dX8_bents_118 : decode cX8_bents 118 = .ok (.goto (-44), 3) := by decide +kernel
theorem dX8_bents_121 : decode cX8_bents 121 = .ok (.aload_n 0, 1) := by decide +kernel
theorem dX8_bents_122 : decode cX8_bents 122 = .ok (.iload 6, 2) := by decide +kernel
theorem dX8_bents_124 : decode cX8_bents 124 = .ok (.ifCond .ne 8, 3) := by decide +kernel
theorem dX8_bents_127 : decode cX8_bents 127 = .ok (.iload 8, 2) := by decide +kernel
theorem dX8_bents_129 : decode cX8_bents 129 = .ok (.goto 5, 3) := by decide +kernel
theorem dX8_bents_132 : decode cX8_bents 132 = .ok (.iload 9, 2) := by decide +kernel
theorem dX8_bents_134 : decode cX8_bents 134 = .ok (.invokevirtual 85, 3) := by decide +kernel
theorem dX8_bents_137 : decode cX8_bents 137 = .ok (.ireturn, 1) := by decide +kernel
theorem dX8_who_0 : decode cX8_who 0 = .ok (.aload_n 0, 1) := by decide +kernel
theorem dX8_who_1 : decode cX8_who 1 = .ok (.iload_n 1, 1) := by decide +kernel
theorem dX8_who_2 : decode cX8_who 2 = .ok (.iload_n 2, 1) := by decide +kernel
theorem dX8_who_3 : decode cX8_who 3 = .ok (.iload_n 3, 1) := by decide +kernel
theorem dX8_who_4 : decode cX8_who 4 = .ok (.iload 5, 2) := by decide +kernel
theorem dX8_who_6 : decode cX8_who 6 = .ok (.invokevirtual 294, 3) := by decide +kernel
theorem dX8_who_9 : decode cX8_who 9 = .ok (.ifCond .ne 6, 3) := by decide +kernel
theorem dX8_who_12 : decode cX8_who 12 = .ok (.ldc 76, 2) := by decide +kernel
theorem dX8_who_14 : decode cX8_who 14 = .ok (.ireturn, 1) := by decide +kernel
theorem dX8_who_15 : decode cX8_who 15 = .ok (.aload_n 0, 1) := by decide +kernel
theorem dX8_who_16 : decode cX8_who 16 = .ok (.getfield 11, 3) := by decide +kernel
theorem dX8_who_19 : decode cX8_who 19 = .ok (.iload_n 3, 1) := by decide +kernel
theorem dX8_who_20 : decode cX8_who 20 = .ok (.aaload, 1) := by decide +kernel
theorem dX8_who_21 : decode cX8_who 21 = .ok (.iload 4, 2) := by decide +kernel
theorem dX8_who_23 : decode cX8_who 23 = .ok (.iload 5, 2) := by decide +kernel
theorem dX8_who_25 : decode cX8_who 25 = .ok (.invokevirtual 88, 3) := by decide +kernel
theorem dX8_who_28 : decode cX8_who 28 = .ok (.istore 6, 2) := by decide +kernel
theorem dX8_who_30 : decode cX8_who 30 = .ok (.iload 6, 2) := by decide +kernel
theorem dX8_who_32 : decode cX8_who 32 = .ok (.ifCond .eq 10, 3) := by decide +kernel
theorem dX8_who_35 : decode cX8_who 35 = .ok (.aload_n 0, 1) := by decide +kernel
theorem dX8_who_36 : decode cX8_who 36 = .ok (.iload 6, 2) := by decide +kernel
theorem dX8_who_38 : decode cX8_who 38 = .ok (.invokevirtual 77, 3) := by decide +kernel
theorem dX8_who_41 : decode cX8_who 41 = .ok (.ireturn, 1) := by decide +kernel
theorem dX8_who_42 : decode cX8_who 42 = .ok (.aload_n 0, 1) := by decide +kernel
theorem dX8_who_43 : decode cX8_who 43 = .ok (.getfield 43, 3) := by decide +kernel
theorem dX8_who_46 : decode cX8_who 46 = .ok (.aload_n 0, 1) := by decide +kernel
theorem dX8_who_47 : decode cX8_who 47 = .ok (.getfield 39, 3) := by decide +kernel
theorem dX8_who_50 : decode cX8_who 50 = .ok (.invokevirtual 138, 3) := by decide +kernel
theorem dX8_who_53 : decode cX8_who 53 = .ok (.iconst 0, 1) := by decide +kernel
theorem dX8_who_54 : decode cX8_who 54 = .ok (.istore 7, 2) := by decide +kernel
theorem dX8_who_56 : decode cX8_who 56 = .ok (.iconst 1, 1) := by decide +kernel
theorem dX8_who_57 : decode cX8_who 57 = .ok (.istore 8, 2) := by decide +kernel
theorem dX8_who_59 : decode cX8_who 59 = .ok (.iload 8, 2) := by decide +kernel
theorem dX8_who_61 : decode cX8_who 61 = .ok (.bipush 6, 2) := by decide +kernel
theorem dX8_who_63 : decode cX8_who 63 = .ok (.if_icmp .ge 47, 3) := by decide +kernel
theorem dX8_who_66 : decode cX8_who 66 = .ok (.aload_n 0, 1) := by decide +kernel
theorem dX8_who_67 : decode cX8_who 67 = .ok (.getfield 43, 3) := by decide +kernel
theorem dX8_who_70 : decode cX8_who 70 = .ok (.getfield 302, 3) := by decide +kernel
theorem dX8_who_73 : decode cX8_who 73 = .ok (.iload_n 1, 1) := by decide +kernel
theorem dX8_who_74 : decode cX8_who 74 = .ok (.iload 8, 2) := by decide +kernel
theorem dX8_who_76 : decode cX8_who 76 = .ok (.iastore, 1) := by decide +kernel
theorem dX8_who_77 : decode cX8_who 77 = .ok (.aload_n 0, 1) := by decide +kernel
theorem dX8_who_78 : decode cX8_who 78 = .ok (.iload_n 2, 1) := by decide +kernel
theorem dX8_who_79 : decode cX8_who 79 = .ok (.aload_n 0, 1) := by decide +kernel
theorem dX8_who_80 : decode cX8_who 80 = .ok (.getfield 11, 3) := by decide +kernel
theorem dX8_who_83 : decode cX8_who 83 = .ok (.iload_n 3, 1) := by decide +kernel
theorem dX8_who_84 : decode cX8_who 84 = .ok (.aaload, 1) := by decide +kernel
theorem dX8_who_85 : decode cX8_who 85 = .ok (.iload 4, 2) := by decide +kernel
theorem dX8_who_87 : decode cX8_who 87 = .ok (.iload 5, 2) := by decide +kernel
theorem dX8_who_89 : decode cX8_who 89 = .ok (.invokevirtual 298, 3) := by decide +kernel
theorem dX8_who_92 : decode cX8_who 92 = .ok (.ifCond .eq 12, 3) := by decide +kernel
theorem dX8_who_95 : decode cX8_who 95 = .ok (.iload 7, 2) := by decide +kernel
theorem dX8_who_97 : decode cX8_who 97 = .ok (.iconst 1, 1) := by decide +kernel
theorem dX8_who_98 : decode cX8_who 98 = .ok (.iload 8, 2) := by decide +kernel
theorem dX8_who_100 : decode cX8_who 100 = .ok (.ishl, 1) := by decide +kernel
theorem dX8_who_101 : decode cX8_who 101 = .ok (.ior, 1) := by decide +kernel
theorem dX8_who_102 : decode cX8_who 102 = .ok (.istore 7, 2) := by decide +kernel
theorem dX8_who_104 : decode cX8_who 104 = .ok (.iinc 8 1, 3) := by decide +kernel
theorem dX8_who_107 : decode cX8_who 107 = .ok (.goto (-48), 3) := by decide +kernel
theorem dX8_who_110 : decode cX8_who 110 = .ok (.aload_n 0, 1) := by decide +kernel
theorem dX8_who_111 : decode cX8_who 111 = .ok (.iload 7, 2) := by decide +kernel
theorem dX8_who_113 : decode cX8_who 113 = .ok (.invokevirtual 85, 3) := by decide +kernel
theorem dX8_who_116 : decode cX8_who 116 = .ok (.ireturn, 1) := by decide +kernel
theorem dX8_awake_0 : decode cX8_awake 0 = .ok (.aload_n 0, 1) := by decide +kernel
theorem dX8_awake_1 : decode cX8_awake 1 = .ok (.iload_n 1, 1) := by decide +kernel
theorem dX8_awake_2 : decode cX8_awake 2 = .ok (.invokevirtual 155, 3) := by decide +kernel
theorem dX8_awake_5 : decode cX8_awake 5 = .ok (.ifCond .eq 29, 3) := by decide +kernel
theorem dX8_awake_8 : decode cX8_awake 8 = .ok (.aload_n 0, 1) := by decide +kernel
theorem dX8_awake_9 : decode cX8_awake 9 = .ok (.iload_n 2, 1) := by decide +kernel
theorem dX8_awake_10 : decode cX8_awake 10 = .ok (.invokevirtual 159, 3) := by decide +kernel
theorem dX8_awake_13 : decode cX8_awake 13 = .ok (.ifCond .eq 21, 3) := by decide +kernel
theorem dX8_awake_16 : decode cX8_awake 16 = .ok (.iload_n 3, 1) := by decide +kernel
theorem dX8_awake_17 : decode cX8_awake 17 = .ok (.bipush 11, 2) := by decide +kernel
theorem dX8_awake_19 : decode cX8_awake 19 = .ok (.invokestatic 72, 3) := by decide +kernel
theorem dX8_awake_22 : decode cX8_awake 22 = .ok (.ifCond .eq 12, 3) := by decide +kernel
theorem dX8_awake_25 : decode cX8_awake 25 = .ok (.iload 4, 2) := by decide +kernel
theorem dX8_awake_27 : decode cX8_awake 27 = .ok (.iconst 2, 1) := by decide +kernel
theorem dX8_awake_28 : decode cX8_awake 28 = .ok (.invokestatic 72, 3) := by decide +kernel
theorem dX8_awake_31 : decode cX8_awake 31 = .ok (.ifCond .ne 7, 3) := by decide +kernel
theorem dX8_awake_34 : decode cX8_awake 34 = .ok (.ldc2_w 305, 3) := by decide +kernel
theorem dX8_awake_37 : decode cX8_awake 37 = .ok (.lreturn, 1) := by decide +kernel
theorem dX8_awake_38 : decode cX8_awake 38 = .ok (.aload_n 0, 1) := by decide +kernel
theorem dX8_awake_39 : decode cX8_awake 39 = .ok (.getfield 53, 3) := by decide +kernel
theorem dX8_awake_42 : decode cX8_awake 42 = .ok (.aload_n 0, 1) := by decide +kernel
theorem dX8_awake_43 : decode cX8_awake 43 = .ok (.getfield 39, 3) := by decide +kernel
theorem dX8_awake_46 : decode cX8_awake 46 = .ok (.iload_n 1, 1) := by decide +kernel
theorem dX8_awake_47 : decode cX8_awake 47 = .ok (.iload_n 2, 1) := by decide +kernel
theorem dX8_awake_48 : decode cX8_awake 48 = .ok (.invokevirtual 260, 3) := by decide +kernel
theorem dX8_awake_51 : decode cX8_awake 51 = .ok (.lconst 0, 1) := by decide +kernel
theorem dX8_awake_52 : decode cX8_awake 52 = .ok (.lstore 5, 2) := by decide +kernel
theorem dX8_awake_54 : decode cX8_awake 54 = .ok (.lconst 1, 1) := by decide +kernel
theorem dX8_awake_55 : decode cX8_awake 55 = .ok (.lstore 7, 2) := by decide +kernel
theorem dX8_awake_57 : decode cX8_awake 57 = .ok (.iconst 1, 1) := by decide +kernel
theorem dX8_awake_58 : decode cX8_awake 58 = .ok (.istore 9, 2) := by decide +kernel
theorem dX8_awake_60 : decode cX8_awake 60 = .ok (.iload 9, 2) := by decide +kernel
theorem dX8_awake_62 : decode cX8_awake 62 = .ok (.aload_n 0, 1) := by decide +kernel
theorem dX8_awake_63 : decode cX8_awake 63 = .ok (.getfield 39, 3) := by decide +kernel
theorem dX8_awake_66 : decode cX8_awake 66 = .ok (.getfield 145, 3) := by decide +kernel
theorem dX8_awake_69 : decode cX8_awake 69 = .ok (.if_icmp .ge 17, 3) := by decide +kernel
theorem dX8_awake_72 : decode cX8_awake 72 = .ok (.lload 7, 2) := by decide +kernel
theorem dX8_awake_74 : decode cX8_awake 74 = .ok (.ldc2_w 307, 3) := by decide +kernel
theorem dX8_awake_77 : decode cX8_awake 77 = .ok (.lmul, 1) := by decide +kernel
theorem dX8_awake_78 : decode cX8_awake 78 = .ok (.lstore 7, 2) := by decide +kernel
theorem dX8_awake_80 : decode cX8_awake 80 = .ok (.iinc 9 1, 3) := by decide +kernel
theorem dX8_awake_83 : decode cX8_awake 83 = .ok (.goto (-23), 3) := by decide +kernel
theorem dX8_awake_86 : decode cX8_awake 86 = .ok (.iconst 0, 1) := by decide +kernel
theorem dX8_awake_87 : decode cX8_awake 87 = .ok (.istore 9, 2) := by decide +kernel
theorem dX8_awake_89 : decode cX8_awake 89 = .ok (.iload 9, 2) := by decide +kernel
theorem dX8_awake_91 : decode cX8_awake 91 = .ok (.iconst 1, 1) := by decide +kernel
theorem dX8_awake_92 : decode cX8_awake 92 = .ok (.aload_n 0, 1) := by decide +kernel
theorem dX8_awake_93 : decode cX8_awake 93 = .ok (.getfield 39, 3) := by decide +kernel
theorem dX8_awake_96 : decode cX8_awake 96 = .ok (.getfield 145, 3) := by decide +kernel
theorem dX8_awake_99 : decode cX8_awake 99 = .ok (.ishl, 1) := by decide +kernel
theorem dX8_awake_100 : decode cX8_awake 100 = .ok (.if_icmp .ge 65, 3) := by decide +kernel
theorem dX8_awake_103 : decode cX8_awake 103 = .ok (.iload 9, 2) := by decide +kernel
theorem dX8_awake_105 : decode cX8_awake 105 = .ok (.iload_n 1, 1) := by decide +kernel
theorem dX8_awake_106 : decode cX8_awake 106 = .ok (.ishr, 1) := by decide +kernel
theorem dX8_awake_107 : decode cX8_awake 107 = .ok (.iconst 1, 1) := by decide +kernel
theorem dX8_awake_108 : decode cX8_awake 108 = .ok (.iand, 1) := by decide +kernel
theorem dX8_awake_109 : decode cX8_awake 109 = .ok (.ifCond .eq 7, 3) := by decide +kernel
theorem dX8_awake_112 : decode cX8_awake 112 = .ok (.iconst 1, 1) := by decide +kernel
theorem dX8_awake_113 : decode cX8_awake 113 = .ok (.goto 4, 3) := by decide +kernel
theorem dX8_awake_116 : decode cX8_awake 116 = .ok (.iconst 0, 1) := by decide +kernel
theorem dX8_awake_117 : decode cX8_awake 117 = .ok (.istore 10, 2) := by decide +kernel
theorem dX8_awake_119 : decode cX8_awake 119 = .ok (.iload 10, 2) := by decide +kernel
theorem dX8_awake_121 : decode cX8_awake 121 = .ok (.ifCond .ne 38, 3) := by decide +kernel
theorem dX8_awake_124 : decode cX8_awake 124 = .ok (.aload_n 0, 1) := by decide +kernel
theorem dX8_awake_125 : decode cX8_awake 125 = .ok (.getfield 53, 3) := by decide +kernel
theorem dX8_awake_128 : decode cX8_awake 128 = .ok (.iload 9, 2) := by decide +kernel
theorem dX8_awake_130 : decode cX8_awake 130 = .ok (.invokevirtual 309, 3) := by decide +kernel
theorem dX8_awake_133 : decode cX8_awake 133 = .ok (.ifCond .eq 26, 3) := by decide +kernel
theorem dX8_awake_136 : decode cX8_awake 136 = .ok (.lload 5, 2) := by decide +kernel
theorem dX8_awake_138 : decode cX8_awake 138 = .ok (.iload 9, 2) := by decide +kernel
theorem dX8_awake_140 : decode cX8_awake 140 = .ok (.invokestatic 278, 3) := by decide +kernel
theorem dX8_awake_143 : decode cX8_awake 143 = .ok (.aload_n 0, 1) := by decide +kernel
theorem dX8_awake_144 : decode cX8_awake 144 = .ok (.getfield 39, 3) := by decide +kernel
theorem dX8_awake_147 : decode cX8_awake 147 = .ok (.getfield 145, 3) := by decide +kernel
theorem dX8_awake_150 : decode cX8_awake 150 = .ok (.iconst 1, 1) := by decide +kernel
theorem dX8_awake_151 : decode cX8_awake 151 = .ok (.isub, 1) := by decide +kernel
theorem dX8_awake_152 : decode cX8_awake 152 = .ok (.iload_n 3, 1) := by decide +kernel
theorem dX8_awake_153 : decode cX8_awake 153 = .ok (.invokestatic 312, 3) := by decide +kernel
theorem dX8_awake_156 : decode cX8_awake 156 = .ok (.ladd, 1) := by decide +kernel
theorem dX8_awake_157 : decode cX8_awake 157 = .ok (.lstore 5, 2) := by decide +kernel
theorem dX8_awake_159 : decode cX8_awake 159 = .ok (.iinc 9 1, 3) := by decide +kernel
theorem dX8_awake_162 : decode cX8_awake 162 = .ok (.goto (-73), 3) := by decide +kernel
theorem dX8_awake_165 : decode cX8_awake 165 = .ok (.lload 7, 2) := by decide +kernel
theorem dX8_awake_167 : decode cX8_awake 167 = .ok (.lload 5, 2) := by decide +kernel
theorem dX8_awake_169 : decode cX8_awake 169 = .ok (.invokestatic 316, 3) := by decide +kernel
theorem dX8_awake_172 : decode cX8_awake 172 = .ok (.lstore 9, 2) := by decide +kernel
theorem dX8_awake_174 : decode cX8_awake 174 = .ok (.lload 9, 2) := by decide +kernel
theorem dX8_awake_176 : decode cX8_awake 176 = .ok (.lconst 0, 1) := by decide +kernel
theorem dX8_awake_177 : decode cX8_awake 177 = .ok (.lcmp, 1) := by decide +kernel
theorem dX8_awake_178 : decode cX8_awake 178 = .ok (.ifCond .ne 7, 3) := by decide +kernel
theorem dX8_awake_181 : decode cX8_awake 181 = .ok (.lconst 0, 1) := by decide +kernel
theorem dX8_awake_182 : decode cX8_awake 182 = .ok (.goto 18, 3) := by decide +kernel
theorem dX8_awake_185 : decode cX8_awake 185 = .ok (.iload 4, 2) := by decide +kernel
theorem dX8_awake_187 : decode cX8_awake 187 = .ok (.ifCond .ne 8, 3) := by decide +kernel
theorem dX8_awake_190 : decode cX8_awake 190 = .ok (.lload 5, 2) := by decide +kernel
theorem dX8_awake_192 : decode cX8_awake 192 = .ok (.goto 5, 3) := by decide +kernel
theorem dX8_awake_195 : decode cX8_awake 195 = .ok (.lload 7, 2) := by decide +kernel
theorem dX8_awake_197 : decode cX8_awake 197 = .ok (.lload 9, 2) := by decide +kernel
theorem dX8_awake_199 : decode cX8_awake 199 = .ok (.ldiv, 1) := by decide +kernel
theorem dX8_awake_200 : decode cX8_awake 200 = .ok (.lreturn, 1) := by decide +kernel
theorem dX8_drawn_0 : decode cX8_drawn 0 = .ok (.aload_n 0, 1) := by decide +kernel
theorem dX8_drawn_1 : decode cX8_drawn 1 = .ok (.invokevirtual 180, 3) := by decide +kernel
theorem dX8_drawn_4 : decode cX8_drawn 4 = .ok (.ifCond .ne 6, 3) := by decide +kernel
theorem dX8_drawn_7 : decode cX8_drawn 7 = .ok (.ldc 151, 2) := by decide +kernel
theorem dX8_drawn_9 : decode cX8_drawn 9 = .ok (.ireturn, 1) := by decide +kernel
theorem dX8_drawn_10 : decode cX8_drawn 10 = .ok (.iload_n 1, 1) := by decide +kernel
theorem dX8_drawn_11 : decode cX8_drawn 11 = .ok (.bipush 61, 2) := by decide +kernel
theorem dX8_drawn_13 : decode cX8_drawn 13 = .ok (.invokestatic 72, 3) := by decide +kernel
theorem dX8_drawn_16 : decode cX8_drawn 16 = .ok (.ifCond .eq 23, 3) := by decide +kernel
theorem dX8_drawn_19 : decode cX8_drawn 19 = .ok (.iload_n 2, 1) := by decide +kernel
theorem dX8_drawn_20 : decode cX8_drawn 20 = .ok (.iconst 1, 1) := by decide +kernel
theorem dX8_drawn_21 : decode cX8_drawn 21 = .ok (.if_icmp .lt 18, 3) := by decide +kernel
theorem dX8_drawn_24 : decode cX8_drawn 24 = .ok (.iload_n 2, 1) := by decide +kernel
theorem dX8_drawn_25 : decode cX8_drawn 25 = .ok (.ldc_w 320, 3) := by decide +kernel
theorem dX8_drawn_28 : decode cX8_drawn 28 = .ok (.if_icmp .gt 11, 3) := by decide +kernel
theorem dX8_drawn_31 : decode cX8_drawn 31 = .ok (.iload_n 3, 1) := by decide +kernel
theorem dX8_drawn_32 : decode cX8_drawn 32 = .ok (.iconst 2, 1) := by decide +kernel
theorem dX8_drawn_33 : decode cX8_drawn 33 = .ok (.invokestatic 72, 3) := by decide +kernel
theorem dX8_drawn_36 : decode cX8_drawn 36 = .ok (.ifCond .ne 6, 3) := by decide +kernel
theorem dX8_drawn_39 : decode cX8_drawn 39 = .ok (.ldc 76, 2) := by decide +kernel
theorem dX8_drawn_41 : decode cX8_drawn 41 = .ok (.ireturn, 1) := by decide +kernel
theorem dX8_drawn_42 : decode cX8_drawn 42 = .ok (.aload_n 0, 1) := by decide +kernel
theorem dX8_drawn_43 : decode cX8_drawn 43 = .ok (.getfield 43, 3) := by decide +kernel
theorem dX8_drawn_46 : decode cX8_drawn 46 = .ok (.aload_n 0, 1) := by decide +kernel
theorem dX8_drawn_47 : decode cX8_drawn 47 = .ok (.getfield 39, 3) := by decide +kernel
theorem dX8_drawn_50 : decode cX8_drawn 50 = .ok (.invokevirtual 138, 3) := by decide +kernel
theorem dX8_drawn_53 : decode cX8_drawn 53 = .ok (.iconst 0, 1) := by decide +kernel
theorem dX8_drawn_54 : decode cX8_drawn 54 = .ok (.istore 4, 2) := by decide +kernel
theorem dX8_drawn_56 : decode cX8_drawn 56 = .ok (.iload_n 2, 1) := by decide +kernel
theorem dX8_drawn_57 : decode cX8_drawn 57 = .ok (.i2l, 1) := by decide +kernel
theorem dX8_drawn_58 : decode cX8_drawn 58 = .ok (.lstore 5, 2) := by decide +kernel
theorem dX8_drawn_60 : decode cX8_drawn 60 = .ok (.iconst 0, 1) := by decide +kernel
theorem dX8_drawn_61 : decode cX8_drawn 61 = .ok (.istore 7, 2) := by decide +kernel
theorem dX8_drawn_63 : decode cX8_drawn 63 = .ok (.iload 7, 2) := by decide +kernel
theorem dX8_drawn_65 : decode cX8_drawn 65 = .ok (.iload_n 1, 1) := by decide +kernel
theorem dX8_drawn_66 : decode cX8_drawn 66 = .ok (.if_icmp .ge 116, 3) := by decide +kernel
theorem dX8_drawn_69 : decode cX8_drawn 69 = .ok (.lload 5, 2) := by decide +kernel
theorem dX8_drawn_71 : decode cX8_drawn 71 = .ok (.ldc2_w 321, 3) := by decide +kernel
theorem dX8_drawn_74 : decode cX8_drawn 74 = .ok (.lmul, 1) := by decide +kernel
theorem dX8_drawn_75 : decode cX8_drawn 75 = .ok (.ldc2_w 323, 3) := by decide +kernel
theorem dX8_drawn_78 : decode cX8_drawn 78 = .ok (.lrem, 1) := by decide +kernel
theorem dX8_drawn_79 : decode cX8_drawn 79 = .ok (.lstore 5, 2) := by decide +kernel
theorem dX8_drawn_81 : decode cX8_drawn 81 = .ok (.lload 5, 2) := by decide +kernel
theorem dX8_drawn_83 : decode cX8_drawn 83 = .ok (.aload_n 0, 1) := by decide +kernel
theorem dX8_drawn_84 : decode cX8_drawn 84 = .ok (.getfield 39, 3) := by decide +kernel
theorem dX8_drawn_87 : decode cX8_drawn 87 = .ok (.getfield 145, 3) := by decide +kernel
theorem dX8_drawn_90 : decode cX8_drawn 90 = .ok (.i2l, 1) := by decide +kernel
theorem dX8_drawn_91 : decode cX8_drawn 91 = .ok (.lrem, 1) := by decide +kernel
theorem dX8_drawn_92 : decode cX8_drawn 92 = .ok (.l2i, 1) := by decide +kernel
theorem dX8_drawn_93 : decode cX8_drawn 93 = .ok (.istore 8, 2) := by decide +kernel
theorem dX8_drawn_95 : decode cX8_drawn 95 = .ok (.lload 5, 2) := by decide +kernel
theorem dX8_drawn_97 : decode cX8_drawn 97 = .ok (.aload_n 0, 1) := by decide +kernel
theorem dX8_drawn_98 : decode cX8_drawn 98 = .ok (.getfield 39, 3) := by decide +kernel
theorem dX8_drawn_101 : decode cX8_drawn 101 = .ok (.getfield 192, 3) := by decide +kernel
theorem dX8_drawn_104 : decode cX8_drawn 104 = .ok (.i2l, 1) := by decide +kernel
theorem dX8_drawn_105 : decode cX8_drawn 105 = .ok (.lrem, 1) := by decide +kernel
theorem dX8_drawn_106 : decode cX8_drawn 106 = .ok (.l2i, 1) := by decide +kernel
theorem dX8_drawn_107 : decode cX8_drawn 107 = .ok (.istore 9, 2) := by decide +kernel
theorem dX8_drawn_109 : decode cX8_drawn 109 = .ok (.aload_n 0, 1) := by decide +kernel
theorem dX8_drawn_110 : decode cX8_drawn 110 = .ok (.getfield 43, 3) := by decide +kernel
theorem dX8_drawn_113 : decode cX8_drawn 113 = .ok (.iload 8, 2) := by decide +kernel
theorem dX8_drawn_115 : decode cX8_drawn 115 = .ok (.iload 9, 2) := by decide +kernel
theorem dX8_drawn_117 : decode cX8_drawn 117 = .ok (.invokevirtual 162, 3) := by decide +kernel
theorem dX8_drawn_120 : decode cX8_drawn 120 = .ok (.ifCond .eq 32, 3) := by decide +kernel
theorem dX8_drawn_123 : decode cX8_drawn 123 = .ok (.aload_n 0, 1) := by decide +kernel
theorem dX8_drawn_124 : decode cX8_drawn 124 = .ok (.aload_n 0, 1) := by decide +kernel
theorem dX8_drawn_125 : decode cX8_drawn 125 = .ok (.getfield 43, 3) := by decide +kernel
theorem dX8_drawn_128 : decode cX8_drawn 128 = .ok (.iload 8, 2) := by decide +kernel
theorem dX8_drawn_130 : decode cX8_drawn 130 = .ok (.iload 9, 2) := by decide +kernel
theorem dX8_drawn_132 : decode cX8_drawn 132 = .ok (.invokevirtual 165, 3) := by decide +kernel
theorem dX8_drawn_135 : decode cX8_drawn 135 = .ok (.ifCond .eq 17, 3) := by decide +kernel
theorem dX8_drawn_138 : decode cX8_drawn 138 = .ok (.aload_n 0, 1) := by decide +kernel
theorem dX8_drawn_139 : decode cX8_drawn 139 = .ok (.getfield 43, 3) := by decide +kernel
theorem dX8_drawn_142 : decode cX8_drawn 142 = .ok (.iload 8, 2) := by decide +kernel
theorem dX8_drawn_144 : decode cX8_drawn 144 = .ok (.iload 9, 2) := by decide +kernel
theorem dX8_drawn_146 : decode cX8_drawn 146 = .ok (.invokevirtual 177, 3) := by decide +kernel
theorem dX8_drawn_149 : decode cX8_drawn 149 = .ok (.iinc 4 1, 3) := by decide +kernel
theorem dX8_drawn_152 : decode cX8_drawn 152 = .ok (.lload 5, 2) := by decide +kernel
theorem dX8_drawn_154 : decode cX8_drawn 154 = .ok (.ldc2_w 325, 3) := by decide +kernel
theorem dX8_drawn_157 : decode cX8_drawn 157 = .ok (.lrem, 1) := by decide +kernel
theorem dX8_drawn_158 : decode cX8_drawn 158 = .ok (.lconst 0, 1) := by decide +kernel
theorem dX8_drawn_159 : decode cX8_drawn 159 = .ok (.lcmp, 1) := by decide +kernel
theorem dX8_drawn_160 : decode cX8_drawn 160 = .ok (.ifCond .ne 16, 3) := by decide +kernel
theorem dX8_drawn_163 : decode cX8_drawn 163 = .ok (.aload_n 0, 1) := by decide +kernel
theorem dX8_drawn_164 : decode cX8_drawn 164 = .ok (.getfield 43, 3) := by decide +kernel
theorem dX8_drawn_167 : decode cX8_drawn 167 = .ok (.dup, 1) := by decide +kernel
theorem dX8_drawn_168 : decode cX8_drawn 168 = .ok (.getfield 183, 3) := by decide +kernel
theorem dX8_drawn_171 : decode cX8_drawn 171 = .ok (.iconst 1, 1) := by decide +kernel
theorem dX8_drawn_172 : decode cX8_drawn 172 = .ok (.iadd, 1) := by decide +kernel
theorem dX8_drawn_173 : decode cX8_drawn 173 = .ok (.putfield 183, 3) := by decide +kernel
theorem dX8_drawn_176 : decode cX8_drawn 176 = .ok (.iinc 7 1, 3) := by decide +kernel
theorem dX8_drawn_179 : decode cX8_drawn 179 = .ok (.goto (-116), 3) := by decide +kernel
theorem dX8_drawn_182 : decode cX8_drawn 182 = .ok (.iload_n 3, 1) := by decide +kernel
theorem dX8_drawn_183 : decode cX8_drawn 183 = .ok (.ifCond .ne 8, 3) := by decide +kernel
theorem dX8_drawn_186 : decode cX8_drawn 186 = .ok (.iload 4, 2) := by decide +kernel
theorem dX8_drawn_188 : decode cX8_drawn 188 = .ok (.goto 10, 3) := by decide +kernel
theorem dX8_drawn_191 : decode cX8_drawn 191 = .ok (.aload_n 0, 1) := by decide +kernel
theorem dX8_drawn_192 : decode cX8_drawn 192 = .ok (.getfield 43, 3) := by decide +kernel
theorem dX8_drawn_195 : decode cX8_drawn 195 = .ok (.invokevirtual 327, 3) := by decide +kernel
theorem dX8_drawn_198 : decode cX8_drawn 198 = .ok (.ireturn, 1) := by decide +kernel
theorem dX8_image_0 : decode cX8_image 0 = .ok (.iload_n 1, 1) := by decide +kernel
theorem dX8_image_1 : decode cX8_image 1 = .ok (.iconst 2, 1) := by decide +kernel
theorem dX8_image_2 : decode cX8_image 2 = .ok (.invokestatic 72, 3) := by decide +kernel
theorem dX8_image_5 : decode cX8_image 5 = .ok (.ifCond .ne 6, 3) := by decide +kernel
theorem dX8_image_8 : decode cX8_image 8 = .ok (.ldc 76, 2) := by decide +kernel
theorem dX8_image_10 : decode cX8_image 10 = .ok (.ireturn, 1) := by decide +kernel
theorem dX8_image_11 : decode cX8_image 11 = .ok (.aload_n 0, 1) := by decide +kernel
theorem dX8_image_12 : decode cX8_image 12 = .ok (.invokevirtual 180, 3) := by decide +kernel
theorem dX8_image_15 : decode cX8_image 15 = .ok (.ifCond .ne 6, 3) := by decide +kernel
theorem dX8_image_18 : decode cX8_image 18 = .ok (.ldc 151, 2) := by decide +kernel
theorem dX8_image_20 : decode cX8_image 20 = .ok (.ireturn, 1) := by decide +kernel
theorem dX8_image_21 : decode cX8_image 21 = .ok (.aload_n 0, 1) := by decide +kernel
theorem dX8_image_22 : decode cX8_image 22 = .ok (.getfield 46, 3) := by decide +kernel
theorem dX8_image_25 : decode cX8_image 25 = .ok (.iload_n 1, 1) := by decide +kernel
theorem dX8_image_26 : decode cX8_image 26 = .ok (.aaload, 1) := by decide +kernel
theorem dX8_image_27 : decode cX8_image 27 = .ok (.aload_n 0, 1) := by decide +kernel
theorem dX8_image_28 : decode cX8_image 28 = .ok (.getfield 39, 3) := by decide +kernel
theorem dX8_image_31 : decode cX8_image 31 = .ok (.invokevirtual 138, 3) := by decide +kernel
theorem dX8_image_34 : decode cX8_image 34 = .ok (.iconst 1, 1) := by decide +kernel
theorem dX8_image_35 : decode cX8_image 35 = .ok (.ireturn, 1) := by decide +kernel
theorem dX8_restore_0 : decode cX8_restore 0 = .ok (.iload_n 1, 1) := by decide +kernel
theorem dX8_restore_1 : decode cX8_restore 1 = .ok (.iconst 2, 1) := by decide +kernel
theorem dX8_restore_2 : decode cX8_restore 2 = .ok (.invokestatic 72, 3) := by decide +kernel
theorem dX8_restore_5 : decode cX8_restore 5 = .ok (.ifCond .ne 6, 3) := by decide +kernel
theorem dX8_restore_8 : decode cX8_restore 8 = .ok (.ldc 76, 2) := by decide +kernel
theorem dX8_restore_10 : decode cX8_restore 10 = .ok (.ireturn, 1) := by decide +kernel
theorem dX8_restore_11 : decode cX8_restore 11 = .ok (.aload_n 0, 1) := by decide +kernel
theorem dX8_restore_12 : decode cX8_restore 12 = .ok (.getfield 46, 3) := by decide +kernel
theorem dX8_restore_15 : decode cX8_restore 15 = .ok (.iload_n 1, 1) := by decide +kernel
theorem dX8_restore_16 : decode cX8_restore 16 = .ok (.aaload, 1) := by decide +kernel
theorem dX8_restore_17 : decode cX8_restore 17 = .ok (.getfield 145, 3) := by decide +kernel
theorem dX8_restore_20 : decode cX8_restore 20 = .ok (.ifCond .ne 6, 3) := by decide +kernel
theorem dX8_restore_23 : decode cX8_restore 23 = .ok (.ldc 151, 2) := by decide +kernel
theorem dX8_restore_25 : decode cX8_restore 25 = .ok (.ireturn, 1) := by decide +kernel
theorem dX8_restore_26 : decode cX8_restore 26 = .ok (.aload_n 0, 1) := by decide +kernel
theorem dX8_restore_27 : decode cX8_restore 27 = .ok (.getfield 39, 3) := by decide +kernel
theorem dX8_restore_30 : decode cX8_restore 30 = .ok (.aload_n 0, 1) := by decide +kernel
theorem dX8_restore_31 : decode cX8_restore 31 = .ok (.getfield 46, 3) := by decide +kernel
theorem dX8_restore_34 : decode cX8_restore 34 = .ok (.iload_n 1, 1) := by decide +kernel
theorem dX8_restore_35 : decode cX8_restore 35 = .ok (.aaload, 1) := by decide +kernel
theorem dX8_restore_36 : decode cX8_restore 36 = .ok (.invokevirtual 138, 3) := by decide +kernel
theorem dX8_restore_39 : decode cX8_restore 39 = .ok (.aload_n 0, 1) := by decide +kernel
theorem dX8_restore_40 : decode cX8_restore 40 = .ok (.getfield 25, 3) := by decide +kernel
theorem dX8_restore_43 : decode cX8_restore 43 = .ok (.invokevirtual 142, 3) := by decide +kernel
theorem dX8_restore_46 : decode cX8_restore 46 = .ok (.iconst 1, 1) := by decide +kernel
theorem dX8_restore_47 : decode cX8_restore 47 = .ok (.ireturn, 1) := by decide +kernel
theorem dX8_kind_0 : decode cX8_kind 0 = .ok (.aload_n 0, 1) := by decide +kernel
theorem dX8_kind_1 : decode cX8_kind 1 = .ok (.iload_n 1, 1) := by decide +kernel
theorem dX8_kind_2 : decode cX8_kind 2 = .ok (.invokevirtual 155, 3) := by decide +kernel
theorem dX8_kind_5 : decode cX8_kind 5 = .ok (.ifCond .eq 15, 3) := by decide +kernel
theorem dX8_kind_8 : decode cX8_kind 8 = .ok (.aload_n 0, 1) := by decide +kernel
theorem dX8_kind_9 : decode cX8_kind 9 = .ok (.getfield 39, 3) := by decide +kernel
theorem dX8_kind_12 : decode cX8_kind 12 = .ok (.getfield 302, 3) := by decide +kernel
theorem dX8_kind_15 : decode cX8_kind 15 = .ok (.iload_n 1, 1) := by decide +kernel
theorem dX8_kind_16 : decode cX8_kind 16 = .ok (.iaload, 1) := by decide +kernel
theorem dX8_kind_17 : decode cX8_kind 17 = .ok (.goto 5, 3) := by decide +kernel
theorem dX8_kind_20 : decode cX8_kind 20 = .ok (.ldc 76, 2) := by decide +kernel
theorem dX8_kind_22 : decode cX8_kind 22 = .ok (.ireturn, 1) := by decide +kernel
theorem dX8_as_0 : decode cX8_as 0 = .ok (.aload_n 0, 1) := by decide +kernel
theorem dX8_as_1 : decode cX8_as 1 = .ok (.iload_n 1, 1) := by decide +kernel
theorem dX8_as_2 : decode cX8_as 2 = .ok (.invokevirtual 155, 3) := by decide +kernel
theorem dX8_as_5 : decode cX8_as 5 = .ok (.ifCond .eq 12, 3) := by decide +kernel
theorem dX8_as_8 : decode cX8_as 8 = .ok (.iload_n 2, 1) := by decide +kernel
theorem dX8_as_9 : decode cX8_as 9 = .ok (.bipush 6, 2) := by decide +kernel
theorem dX8_as_11 : decode cX8_as 11 = .ok (.invokestatic 72, 3) := by decide +kernel
theorem dX8_as_14 : decode cX8_as 14 = .ok (.ifCond .ne 6, 3) := by decide +kernel
theorem dX8_as_17 : decode cX8_as 17 = .ok (.ldc 76, 2) := by decide +kernel
theorem dX8_as_19 : decode cX8_as 19 = .ok (.ireturn, 1) := by decide +kernel
theorem dX8_as_20 : decode cX8_as 20 = .ok (.aload_n 0, 1) := by decide +kernel
theorem dX8_as_21 : decode cX8_as 21 = .ok (.getfield 39, 3) := by decide +kernel
theorem dX8_as_24 : decode cX8_as 24 = .ok (.getfield 302, 3) := by decide +kernel
theorem dX8_as_27 : decode cX8_as 27 = .ok (.iload_n 1, 1) := by decide +kernel
theorem dX8_as_28 : decode cX8_as 28 = .ok (.iaload, 1) := by decide +kernel
theorem dX8_as_29 : decode cX8_as 29 = .ok (.iload_n 2, 1) := by decide +kernel
theorem dX8_as_30 : decode cX8_as 30 = .ok (.invokestatic 330, 3) := by decide +kernel
theorem dX8_as_33 : decode cX8_as 33 = .ok (.ifCond .eq 11, 3) := by decide +kernel
theorem dX8_as_36 : decode cX8_as 36 = .ok (.aload_n 0, 1) := by decide +kernel
theorem dX8_as_37 : decode cX8_as 37 = .ok (.iload_n 1, 1) := by decide +kernel
theorem dX8_as_38 : decode cX8_as 38 = .ok (.invokevirtual 85, 3) := by decide +kernel
theorem dX8_as_41 : decode cX8_as 41 = .ok (.goto 8, 3) := by decide +kernel
theorem dX8_as_44 : decode cX8_as 44 = .ok (.aload_n 0, 1) := by decide +kernel
theorem dX8_as_45 : decode cX8_as 45 = .ok (.iconst 3, 1) := by decide +kernel
theorem dX8_as_46 : decode cX8_as 46 = .ok (.invokevirtual 77, 3) := by decide +kernel
theorem dX8_as_49 : decode cX8_as 49 = .ok (.ireturn, 1) := by decide +kernel
theorem dX8_ask_0 : decode cX8_ask 0 = .ok (.aload_n 0, 1) := by decide +kernel
theorem dX8_ask_1 : decode cX8_ask 1 = .ok (.iload_n 1, 1) := by decide +kernel
theorem dX8_ask_2 : decode cX8_ask 2 = .ok (.invokevirtual 155, 3) := by decide +kernel
theorem dX8_ask_5 : decode cX8_ask 5 = .ok (.ifCond .eq 11, 3) := by decide +kernel
theorem dX8_ask_8 : decode cX8_ask 8 = .ok (.iload_n 2, 1) := by decide +kernel
theorem dX8_ask_9 : decode cX8_ask 9 = .ok (.iconst 2, 1) := by decide +kernel
theorem dX8_ask_10 : decode cX8_ask 10 = .ok (.invokestatic 72, 3) := by decide +kernel
theorem dX8_ask_13 : decode cX8_ask 13 = .ok (.ifCond .ne 6, 3) := by decide +kernel
theorem dX8_ask_16 : decode cX8_ask 16 = .ok (.ldc 76, 2) := by decide +kernel
theorem dX8_ask_18 : decode cX8_ask 18 = .ok (.ireturn, 1) := by decide +kernel
theorem dX8_ask_19 : decode cX8_ask 19 = .ok (.aload_n 0, 1) := by decide +kernel
theorem dX8_ask_20 : decode cX8_ask 20 = .ok (.getfield 32, 3) := by decide +kernel
theorem dX8_ask_23 : decode cX8_ask 23 = .ok (.iconst 0, 1) := by decide +kernel
theorem dX8_ask_24 : decode cX8_ask 24 = .ok (.putfield 333, 3) := by decide +kernel
theorem dX8_ask_27 : decode cX8_ask 27 = .ok (.aload_n 0, 1) := by decide +kernel
theorem dX8_ask_28 : decode cX8_ask 28 = .ok (.getfield 32, 3) := by decide +kernel
theorem dX8_ask_31 : decode cX8_ask 31 = .ok (.aload_n 0, 1) := by decide +kernel
theorem dX8_ask_32 : decode cX8_ask 32 = .ok (.getfield 39, 3) := by decide +kernel
theorem dX8_ask_35 : decode cX8_ask 35 = .ok (.iload_n 1, 1) := by decide +kernel
theorem dX8_ask_36 : decode cX8_ask 36 = .ok (.iload_n 2, 1) := by decide +kernel
theorem dX8_ask_37 : decode cX8_ask 37 = .ok (.iconst 0, 1) := by decide +kernel
theorem dX8_ask_38 : decode cX8_ask 38 = .ok (.invokevirtual 336, 3) := by decide +kernel
theorem dX8_ask_41 : decode cX8_ask 41 = .ok (.ireturn, 1) := by decide +kernel
theorem dX8_trace_0 : decode cX8_trace 0 = .ok (.iload_n 1, 1) := by decide +kernel
theorem dX8_trace_1 : decode cX8_trace 1 = .ok (.aload_n 0, 1) := by decide +kernel
theorem dX8_trace_2 : decode cX8_trace 2 = .ok (.getfield 32, 3) := by decide +kernel
theorem dX8_trace_5 : decode cX8_trace 5 = .ok (.getfield 333, 3) := by decide +kernel
theorem dX8_trace_8 : decode cX8_trace 8 = .ok (.invokestatic 72, 3) := by decide +kernel
theorem dX8_trace_11 : decode cX8_trace 11 = .ok (.ifCond .eq 15, 3) := by decide +kernel
theorem dX8_trace_14 : decode cX8_trace 14 = .ok (.aload_n 0, 1) := by decide +kernel
theorem dX8_trace_15 : decode cX8_trace 15 = .ok (.getfield 32, 3) := by decide +kernel
theorem dX8_trace_18 : decode cX8_trace 18 = .ok (.getfield 340, 3) := by decide +kernel
theorem dX8_trace_21 : decode cX8_trace 21 = .ok (.iload_n 1, 1) := by decide +kernel
theorem dX8_trace_22 : decode cX8_trace 22 = .ok (.iaload, 1) := by decide +kernel
theorem dX8_trace_23 : decode cX8_trace 23 = .ok (.goto 6, 3) := by decide +kernel
theorem dX8_trace_26 : decode cX8_trace 26 = .ok (.ldc_w 277, 3) := by decide +kernel
theorem dX8_trace_29 : decode cX8_trace 29 = .ok (.ireturn, 1) := by decide +kernel
theorem dX8_count_0 : decode cX8_count 0 = .ok (.iload_n 1, 1) := by decide +kernel
theorem dX8_count_1 : decode cX8_count 1 = .ok (.tableswitch 120 0 8 #[51, 56, 64, 72, 80, 88, 96, 104, 112], 51) := by decide +kernel
theorem dX8_count_52 : decode cX8_count 52 = .ok (.aload_n 0, 1) := by decide +kernel
theorem dX8_count_53 : decode cX8_count 53 = .ok (.invokevirtual 343, 3) := by decide +kernel
theorem dX8_count_56 : decode cX8_count 56 = .ok (.ireturn, 1) := by decide +kernel
theorem dX8_count_57 : decode cX8_count 57 = .ok (.aload_n 0, 1) := by decide +kernel
theorem dX8_count_58 : decode cX8_count 58 = .ok (.getfield 39, 3) := by decide +kernel
theorem dX8_count_61 : decode cX8_count 61 = .ok (.getfield 287, 3) := by decide +kernel
theorem dX8_count_64 : decode cX8_count 64 = .ok (.ireturn, 1) := by decide +kernel
theorem dX8_count_65 : decode cX8_count 65 = .ok (.aload_n 0, 1) := by decide +kernel
theorem dX8_count_66 : decode cX8_count 66 = .ok (.getfield 39, 3) := by decide +kernel
theorem dX8_count_69 : decode cX8_count 69 = .ok (.getfield 192, 3) := by decide +kernel
theorem dX8_count_72 : decode cX8_count 72 = .ok (.ireturn, 1) := by decide +kernel
theorem dX8_count_73 : decode cX8_count 73 = .ok (.aload_n 0, 1) := by decide +kernel
theorem dX8_count_74 : decode cX8_count 74 = .ok (.getfield 39, 3) := by decide +kernel
theorem dX8_count_77 : decode cX8_count 77 = .ok (.getfield 145, 3) := by decide +kernel
theorem dX8_count_80 : decode cX8_count 80 = .ok (.ireturn, 1) := by decide +kernel
theorem dX8_count_81 : decode cX8_count 81 = .ok (.aload_n 0, 1) := by decide +kernel
theorem dX8_count_82 : decode cX8_count 82 = .ok (.getfield 39, 3) := by decide +kernel
theorem dX8_count_85 : decode cX8_count 85 = .ok (.getfield 183, 3) := by decide +kernel
theorem dX8_count_88 : decode cX8_count 88 = .ok (.ireturn, 1) := by decide +kernel
theorem dX8_count_89 : decode cX8_count 89 = .ok (.aload_n 0, 1) := by decide +kernel
theorem dX8_count_90 : decode cX8_count 90 = .ok (.getfield 39, 3) := by decide +kernel
theorem dX8_count_93 : decode cX8_count 93 = .ok (.invokevirtual 346, 3) := by decide +kernel
theorem dX8_count_96 : decode cX8_count 96 = .ok (.ireturn, 1) := by decide +kernel
theorem dX8_count_97 : decode cX8_count 97 = .ok (.aload_n 0, 1) := by decide +kernel
theorem dX8_count_98 : decode cX8_count 98 = .ok (.getfield 39, 3) := by decide +kernel
theorem dX8_count_101 : decode cX8_count 101 = .ok (.getfield 349, 3) := by decide +kernel
theorem dX8_count_104 : decode cX8_count 104 = .ok (.ireturn, 1) := by decide +kernel
theorem dX8_count_105 : decode cX8_count 105 = .ok (.aload_n 0, 1) := by decide +kernel
theorem dX8_count_106 : decode cX8_count 106 = .ok (.getfield 25, 3) := by decide +kernel
theorem dX8_count_109 : decode cX8_count 109 = .ok (.getfield 148, 3) := by decide +kernel
theorem dX8_count_112 : decode cX8_count 112 = .ok (.ireturn, 1) := by decide +kernel
theorem dX8_count_113 : decode cX8_count 113 = .ok (.aload_n 0, 1) := by decide +kernel
theorem dX8_count_114 : decode cX8_count 114 = .ok (.getfield 18, 3) := by decide +kernel
theorem dX8_count_117 : decode cX8_count 117 = .ok (.getfield 117, 3) := by decide +kernel
theorem dX8_count_120 : decode cX8_count 120 = .ok (.ireturn, 1) := by decide +kernel
theorem dX8_count_121 : decode cX8_count 121 = .ok (.ldc 76, 2) := by decide +kernel
theorem dX8_count_123 : decode cX8_count 123 = .ok (.ireturn, 1) := by decide +kernel
theorem dX8_status_0 : decode cX8_status 0 = .ok (.aload_n 0, 1) := by decide +kernel
theorem dX8_status_1 : decode cX8_status 1 = .ok (.getfield 352, 3) := by decide +kernel
theorem dX8_status_4 : decode cX8_status 4 = .ok (.ireturn, 1) := by decide +kernel
theorem dX8_within_0 : decode cX8_within 0 = .ok (.iload_n 0, 1) := by decide +kernel
theorem dX8_within_1 : decode cX8_within 1 = .ok (.ifCond .lt 12, 3) := by decide +kernel
theorem dX8_within_4 : decode cX8_within 4 = .ok (.iload_n 0, 1) := by decide +kernel
theorem dX8_within_5 : decode cX8_within 5 = .ok (.iload_n 1, 1) := by decide +kernel
theorem dX8_within_6 : decode cX8_within 6 = .ok (.if_icmp .ge 7, 3) := by decide +kernel
theorem dX8_within_9 : decode cX8_within 9 = .ok (.iconst 1, 1) := by decide +kernel
theorem dX8_within_10 : decode cX8_within 10 = .ok (.goto 4, 3) := by decide +kernel
theorem dX8_within_13 : decode cX8_within 13 = .ok (.iconst 0, 1) := by decide +kernel
theorem dX8_within_14 : decode cX8_within 14 = .ok (.ireturn, 1) := by decide +kernel
theorem dX8_finding_0 : decode cX8_finding 0 = .ok (.aload_n 0, 1) := by decide +kernel
theorem dX8_finding_1 : decode cX8_finding 1 = .ok (.iload_n 1, 1) := by decide +kernel
theorem dX8_finding_2 : decode cX8_finding 2 = .ok (.putfield 352, 3) := by decide +kernel
theorem dX8_finding_5 : decode cX8_finding 5 = .ok (.ldc_w 355, 3) := by decide +kernel
theorem dX8_finding_8 : decode cX8_finding 8 = .ok (.iload_n 1, 1) := by decide +kernel
theorem dX8_finding_9 : decode cX8_finding 9 = .ok (.isub, 1) := by decide +kernel
theorem dX8_finding_10 : decode cX8_finding 10 = .ok (.ireturn, 1) := by decide +kernel
theorem dX8_unfound_0 : decode cX8_unfound 0 = .ok (.aload_n 0, 1) := by decide +kernel
theorem dX8_unfound_1 : decode cX8_unfound 1 = .ok (.iconst 0, 1) := by decide +kernel
theorem dX8_unfound_2 : decode cX8_unfound 2 = .ok (.putfield 352, 3) := by decide +kernel
theorem dX8_unfound_5 : decode cX8_unfound 5 = .ok (.iload_n 1, 1) := by decide +kernel
theorem dX8_unfound_6 : decode cX8_unfound 6 = .ok (.ireturn, 1) := by decide +kernel
theorem dX8_isTown_0 : decode cX8_isTown 0 = .ok (.aload_n 0, 1) := by decide +kernel
theorem dX8_isTown_1 : decode cX8_isTown 1 = .ok (.getfield 39, 3) := by decide +kernel
theorem dX8_isTown_4 : decode cX8_isTown 4 = .ok (.getfield 145, 3) := by decide +kernel
theorem dX8_isTown_7 : decode cX8_isTown 7 = .ok (.ifCond .le 17, 3) := by decide +kernel
theorem dX8_isTown_10 : decode cX8_isTown 10 = .ok (.aload_n 0, 1) := by decide +kernel
theorem dX8_isTown_11 : decode cX8_isTown 11 = .ok (.getfield 39, 3) := by decide +kernel
theorem dX8_isTown_14 : decode cX8_isTown 14 = .ok (.getfield 192, 3) := by decide +kernel
theorem dX8_isTown_17 : decode cX8_isTown 17 = .ok (.ifCond .le 7, 3) := by decide +kernel
theorem dX8_isTown_20 : decode cX8_isTown 20 = .ok (.iconst 1, 1) := by decide +kernel
theorem dX8_isTown_21 : decode cX8_isTown 21 = .ok (.goto 4, 3) := by decide +kernel
theorem dX8_isTown_24 : decode cX8_isTown 24 = .ok (.iconst 0, 1) := by decide +kernel
theorem dX8_isTown_25 : decode cX8_isTown 25 = .ok (.ireturn, 1) := by decide +kernel
theorem dX8_isPerson_0 : decode cX8_isPerson 0 = .ok (.iload_n 1, 1) := by decide +kernel
theorem dX8_isPerson_1 : decode cX8_isPerson 1 = .ok (.aload_n 0, 1) := by decide +kernel
theorem dX8_isPerson_2 : decode cX8_isPerson 2 = .ok (.getfield 39, 3) := by decide +kernel
theorem dX8_isPerson_5 : decode cX8_isPerson 5 = .ok (.getfield 145, 3) := by decide +kernel
theorem dX8_isPerson_8 : decode cX8_isPerson 8 = .ok (.invokestatic 72, 3) := by decide +kernel
theorem dX8_isPerson_11 : decode cX8_isPerson 11 = .ok (.ireturn, 1) := by decide +kernel
theorem dX8_isDoor_0 : decode cX8_isDoor 0 = .ok (.iload_n 1, 1) := by decide +kernel
theorem dX8_isDoor_1 : decode cX8_isDoor 1 = .ok (.aload_n 0, 1) := by decide +kernel
theorem dX8_isDoor_2 : decode cX8_isDoor 2 = .ok (.getfield 39, 3) := by decide +kernel
theorem dX8_isDoor_5 : decode cX8_isDoor 5 = .ok (.getfield 192, 3) := by decide +kernel
theorem dX8_isDoor_8 : decode cX8_isDoor 8 = .ok (.invokestatic 72, 3) := by decide +kernel
theorem dX8_isDoor_11 : decode cX8_isDoor 11 = .ok (.ireturn, 1) := by decide +kernel
theorem dX8_isRoom_0 : decode cX8_isRoom 0 = .ok (.iload_n 1, 1) := by decide +kernel
theorem dX8_isRoom_1 : decode cX8_isRoom 1 = .ok (.aload_n 0, 1) := by decide +kernel
theorem dX8_isRoom_2 : decode cX8_isRoom 2 = .ok (.getfield 39, 3) := by decide +kernel
theorem dX8_isRoom_5 : decode cX8_isRoom 5 = .ok (.getfield 287, 3) := by decide +kernel
theorem dX8_isRoom_8 : decode cX8_isRoom 8 = .ok (.invokestatic 72, 3) := by decide +kernel
theorem dX8_isRoom_11 : decode cX8_isRoom 11 = .ok (.ireturn, 1) := by decide +kernel
theorem dX8_isSeen_0 : decode cX8_isSeen 0 = .ok (.aload_n 0, 1) := by decide +kernel
theorem dX8_isSeen_1 : decode cX8_isSeen 1 = .ok (.iload_n 1, 1) := by decide +kernel
theorem dX8_isSeen_2 : decode cX8_isSeen 2 = .ok (.invokevirtual 155, 3) := by decide +kernel
theorem dX8_isSeen_5 : decode cX8_isSeen 5 = .ok (.ifCond .eq 47, 3) := by decide +kernel
theorem dX8_isSeen_8 : decode cX8_isSeen 8 = .ok (.aload_n 0, 1) := by decide +kernel
theorem dX8_isSeen_9 : decode cX8_isSeen 9 = .ok (.iload_n 2, 1) := by decide +kernel
theorem dX8_isSeen_10 : decode cX8_isSeen 10 = .ok (.invokevirtual 155, 3) := by decide +kernel
theorem dX8_isSeen_13 : decode cX8_isSeen 13 = .ok (.ifCond .eq 39, 3) := by decide +kernel
theorem dX8_isSeen_16 : decode cX8_isSeen 16 = .ok (.iload_n 1, 1) := by decide +kernel
theorem dX8_isSeen_17 : decode cX8_isSeen 17 = .ok (.iload_n 2, 1) := by decide +kernel
theorem dX8_isSeen_18 : decode cX8_isSeen 18 = .ok (.if_icmp .eq 34, 3) := by decide +kernel
theorem dX8_isSeen_21 : decode cX8_isSeen 21 = .ok (.iload_n 3, 1) := by decide +kernel
theorem dX8_isSeen_22 : decode cX8_isSeen 22 = .ok (.bipush 8, 2) := by decide +kernel
theorem dX8_isSeen_24 : decode cX8_isSeen 24 = .ok (.invokestatic 72, 3) := by decide +kernel
theorem dX8_isSeen_27 : decode cX8_isSeen 27 = .ok (.ifCond .eq 25, 3) := by decide +kernel
theorem dX8_isSeen_30 : decode cX8_isSeen 30 = .ok (.iload 4, 2) := by decide +kernel
theorem dX8_isSeen_32 : decode cX8_isSeen 32 = .ok (.iconst 1, 1) := by decide +kernel
theorem dX8_isSeen_33 : decode cX8_isSeen 33 = .ok (.if_icmp .lt 19, 3) := by decide +kernel
theorem dX8_isSeen_36 : decode cX8_isSeen 36 = .ok (.iload 4, 2) := by decide +kernel
theorem dX8_isSeen_38 : decode cX8_isSeen 38 = .ok (.aload_n 0, 1) := by decide +kernel
theorem dX8_isSeen_39 : decode cX8_isSeen 39 = .ok (.getfield 39, 3) := by decide +kernel
theorem dX8_isSeen_42 : decode cX8_isSeen 42 = .ok (.getfield 192, 3) := by decide +kernel
theorem dX8_isSeen_45 : decode cX8_isSeen 45 = .ok (.if_icmp .gt 7, 3) := by decide +kernel
theorem dX8_isSeen_48 : decode cX8_isSeen 48 = .ok (.iconst 1, 1) := by decide +kernel
theorem dX8_isSeen_49 : decode cX8_isSeen 49 = .ok (.goto 4, 3) := by decide +kernel
theorem dX8_isSeen_52 : decode cX8_isSeen 52 = .ok (.iconst 0, 1) := by decide +kernel
theorem dX8_isSeen_53 : decode cX8_isSeen 53 = .ok (.ireturn, 1) := by decide +kernel
theorem dX8_opens_0 : decode cX8_opens 0 = .ok (.aload_n 0, 1) := by decide +kernel
theorem dX8_opens_1 : decode cX8_opens 1 = .ok (.getfield 53, 3) := by decide +kernel
theorem dX8_opens_4 : decode cX8_opens 4 = .ok (.aload_n 1, 1) := by decide +kernel
theorem dX8_opens_5 : decode cX8_opens 5 = .ok (.iload_n 2, 1) := by decide +kernel
theorem dX8_opens_6 : decode cX8_opens 6 = .ok (.iload_n 3, 1) := by decide +kernel
theorem dX8_opens_7 : decode cX8_opens 7 = .ok (.invokevirtual 260, 3) := by decide +kernel
theorem dX8_opens_10 : decode cX8_opens 10 = .ok (.aload_n 0, 1) := by decide +kernel
theorem dX8_opens_11 : decode cX8_opens 11 = .ok (.getfield 53, 3) := by decide +kernel
theorem dX8_opens_14 : decode cX8_opens 14 = .ok (.invokevirtual 356, 3) := by decide +kernel
theorem dX8_opens_17 : decode cX8_opens 17 = .ok (.ireturn, 1) := by decide +kernel
theorem dX8_votesAt_0 : decode cX8_votesAt 0 = .ok (.aload_n 0, 1) := by decide +kernel
theorem dX8_votesAt_1 : decode cX8_votesAt 1 = .ok (.getfield 53, 3) := by decide +kernel
theorem dX8_votesAt_4 : decode cX8_votesAt 4 = .ok (.aload_n 0, 1) := by decide +kernel
theorem dX8_votesAt_5 : decode cX8_votesAt 5 = .ok (.getfield 39, 3) := by decide +kernel
theorem dX8_votesAt_8 : decode cX8_votesAt 8 = .ok (.iload_n 1, 1) := by decide +kernel
theorem dX8_votesAt_9 : decode cX8_votesAt 9 = .ok (.iload_n 2, 1) := by decide +kernel
theorem dX8_votesAt_10 : decode cX8_votesAt 10 = .ok (.invokevirtual 260, 3) := by decide +kernel
theorem dX8_votesAt_13 : decode cX8_votesAt 13 = .ok (.aload_n 0, 1) := by decide +kernel
theorem dX8_votesAt_14 : decode cX8_votesAt 14 = .ok (.getfield 53, 3) := by decide +kernel
theorem dX8_votesAt_17 : decode cX8_votesAt 17 = .ok (.iload_n 3, 1) := by decide +kernel
theorem dX8_votesAt_18 : decode cX8_votesAt 18 = .ok (.invokevirtual 358, 3) := by decide +kernel
theorem dX8_votesAt_21 : decode cX8_votesAt 21 = .ok (.ireturn, 1) := by decide +kernel
theorem dX8_roomsReached_0 : decode cX8_roomsReached 0 = .ok (.aload_n 0, 1) := by decide +kernel
theorem dX8_roomsReached_1 : decode cX8_roomsReached 1 = .ok (.getfield 60, 3) := by decide +kernel
theorem dX8_roomsReached_4 : decode cX8_roomsReached 4 = .ok (.aload_n 0, 1) := by decide +kernel
theorem dX8_roomsReached_5 : decode cX8_roomsReached 5 = .ok (.getfield 39, 3) := by decide +kernel
theorem dX8_roomsReached_8 : decode cX8_roomsReached 8 = .ok (.aload_n 0, 1) := by decide +kernel
theorem dX8_roomsReached_9 : decode cX8_roomsReached 9 = .ok (.getfield 53, 3) := by decide +kernel
theorem dX8_roomsReached_12 : decode cX8_roomsReached 12 = .ok (.iload_n 1, 1) := by decide +kernel
theorem dX8_roomsReached_13 : decode cX8_roomsReached 13 = .ok (.invokevirtual 244, 3) := by decide +kernel
theorem dX8_roomsReached_16 : decode cX8_roomsReached 16 = .ok (.aload_n 0, 1) := by decide +kernel
theorem dX8_roomsReached_17 : decode cX8_roomsReached 17 = .ok (.getfield 60, 3) := by decide +kernel
theorem dX8_roomsReached_20 : decode cX8_roomsReached 20 = .ok (.aload_n 0, 1) := by decide +kernel
theorem dX8_roomsReached_21 : decode cX8_roomsReached 21 = .ok (.getfield 39, 3) := by decide +kernel
theorem dX8_roomsReached_24 : decode cX8_roomsReached 24 = .ok (.getfield 198, 3) := by decide +kernel
theorem dX8_roomsReached_27 : decode cX8_roomsReached 27 = .ok (.iload_n 1, 1) := by decide +kernel
theorem dX8_roomsReached_28 : decode cX8_roomsReached 28 = .ok (.iaload, 1) := by decide +kernel
theorem dX8_roomsReached_29 : decode cX8_roomsReached 29 = .ok (.invokevirtual 247, 3) := by decide +kernel
theorem dX8_roomsReached_32 : decode cX8_roomsReached 32 = .ok (.aload_n 0, 1) := by decide +kernel
theorem dX8_roomsReached_33 : decode cX8_roomsReached 33 = .ok (.getfield 60, 3) := by decide +kernel
theorem dX8_roomsReached_36 : decode cX8_roomsReached 36 = .ok (.invokevirtual 361, 3) := by decide +kernel
theorem dX8_roomsReached_39 : decode cX8_roomsReached 39 = .ok (.ireturn, 1) := by decide +kernel
theorem dX8_isSo_0 : decode cX8_isSo 0 = .ok (.iconst 0, 1) := by decide +kernel
theorem dX8_isSo_1 : decode cX8_isSo 1 = .ok (.istore 5, 2) := by decide +kernel
theorem dX8_isSo_3 : decode cX8_isSo 3 = .ok (.iload 5, 2) := by decide +kernel
theorem dX8_isSo_5 : decode cX8_isSo 5 = .ok (.iload 4, 2) := by decide +kernel
theorem dX8_isSo_7 : decode cX8_isSo 7 = .ok (.if_icmp .ge 52, 3) := by decide +kernel
theorem dX8_isSo_10 : decode cX8_isSo 10 = .ok (.aload_n 2, 1) := by decide +kernel
theorem dX8_isSo_11 : decode cX8_isSo 11 = .ok (.getfield 103, 3) := by decide +kernel
theorem dX8_isSo_14 : decode cX8_isSo 14 = .ok (.iload_n 3, 1) := by decide +kernel
theorem dX8_isSo_15 : decode cX8_isSo 15 = .ok (.iload 5, 2) := by decide +kernel
theorem dX8_isSo_17 : decode cX8_isSo 17 = .ok (.iadd, 1) := by decide +kernel
theorem dX8_isSo_18 : decode cX8_isSo 18 = .ok (.iaload, 1) := by decide +kernel
theorem dX8_isSo_19 : decode cX8_isSo 19 = .ok (.istore 6, 2) := by decide +kernel
theorem dX8_isSo_21 : decode cX8_isSo 21 = .ok (.iload 6, 2) := by decide +kernel
theorem dX8_isSo_23 : decode cX8_isSo 23 = .ok (.iconst (-1), 1) := by decide +kernel
theorem dX8_isSo_24 : decode cX8_isSo 24 = .ok (.if_icmp .eq 29, 3) := by decide +kernel
theorem dX8_isSo_27 : decode cX8_isSo 27 = .ok (.iload 6, 2) := by decide +kernel
theorem dX8_isSo_29 : decode cX8_isSo 29 = .ok (.aload_n 0, 1) := by decide +kernel
theorem dX8_isSo_30 : decode cX8_isSo 30 = .ok (.aload_n 0, 1) := by decide +kernel
theorem dX8_isSo_31 : decode cX8_isSo 31 = .ok (.getfield 43, 3) := by decide +kernel
theorem dX8_isSo_34 : decode cX8_isSo 34 = .ok (.iload_n 1, 1) := by decide +kernel
theorem dX8_isSo_35 : decode cX8_isSo 35 = .ok (.iload 5, 2) := by decide +kernel
theorem dX8_isSo_37 : decode cX8_isSo 37 = .ok (.invokevirtual 165, 3) := by decide +kernel
theorem dX8_isSo_40 : decode cX8_isSo 40 = .ok (.ifCond .eq 7, 3) := by decide +kernel
theorem dX8_isSo_43 : decode cX8_isSo 43 = .ok (.iconst 1, 1) := by decide +kernel
theorem dX8_isSo_44 : decode cX8_isSo 44 = .ok (.goto 4, 3) := by decide +kernel
theorem dX8_isSo_47 : decode cX8_isSo 47 = .ok (.iconst 0, 1) := by decide +kernel
theorem dX8_isSo_48 : decode cX8_isSo 48 = .ok (.if_icmp .eq 5, 3) := by decide +kernel
theorem dX8_isSo_51 : decode cX8_isSo 51 = .ok (.iconst 0, 1) := by decide +kernel
theorem dX8_isSo_52 : decode cX8_isSo 52 = .ok (.ireturn, 1) := by decide +kernel
theorem dX8_isSo_53 : decode cX8_isSo 53 = .ok (.iinc 5 1, 3) := by decide +kernel
theorem dX8_isSo_56 : decode cX8_isSo 56 = .ok (.goto (-53), 3) := by decide +kernel
theorem dX8_isSo_59 : decode cX8_isSo 59 = .ok (.iconst 1, 1) := by decide +kernel
theorem dX8_isSo_60 : decode cX8_isSo 60 = .ok (.ireturn, 1) := by decide +kernel
theorem dX8_casesOf_0 : decode cX8_casesOf 0 = .ok (.lconst 1, 1) := by decide +kernel
theorem dX8_casesOf_1 : decode cX8_casesOf 1 = .ok (.lstore_n 3, 1) := by decide +kernel
theorem dX8_casesOf_2 : decode cX8_casesOf 2 = .ok (.iconst 0, 1) := by decide +kernel
theorem dX8_casesOf_3 : decode cX8_casesOf 3 = .ok (.istore 5, 2) := by decide +kernel
theorem dX8_casesOf_5 : decode cX8_casesOf 5 = .ok (.iload 5, 2) := by decide +kernel
theorem dX8_casesOf_7 : decode cX8_casesOf 7 = .ok (.iload_n 1, 1) := by decide +kernel
theorem dX8_casesOf_8 : decode cX8_casesOf 8 = .ok (.if_icmp .ge 28, 3) := by decide +kernel
theorem dX8_casesOf_11 : decode cX8_casesOf 11 = .ok (.lload_n 3, 1) := by decide +kernel
theorem dX8_casesOf_12 : decode cX8_casesOf 12 = .ok (.iload 5, 2) := by decide +kernel
theorem dX8_casesOf_14 : decode cX8_casesOf 14 = .ok (.iload_n 0, 1) := by decide +kernel
theorem dX8_casesOf_15 : decode cX8_casesOf 15 = .ok (.if_icmp .ge 8, 3) := by decide +kernel
theorem dX8_casesOf_18 : decode cX8_casesOf 18 = .ok (.iload_n 2, 1) := by decide +kernel
theorem dX8_casesOf_19 : decode cX8_casesOf 19 = .ok (.i2l, 1) := by decide +kernel
theorem dX8_casesOf_20 : decode cX8_casesOf 20 = .ok (.goto 8, 3) := by decide +kernel
theorem dX8_casesOf_23 : decode cX8_casesOf 23 = .ok (.bipush 10, 2) := by decide +kernel
theorem dX8_casesOf_25 : decode cX8_casesOf 25 = .ok (.iload_n 2, 1) := by decide +kernel
theorem dX8_casesOf_26 : decode cX8_casesOf 26 = .ok (.isub, 1) := by decide +kernel
theorem dX8_casesOf_27 : decode cX8_casesOf 27 = .ok (.i2l, 1) := by decide +kernel
theorem dX8_casesOf_28 : decode cX8_casesOf 28 = .ok (.lmul, 1) := by decide +kernel
theorem dX8_casesOf_29 : decode cX8_casesOf 29 = .ok (.lstore_n 3, 1) := by decide +kernel
theorem dX8_casesOf_30 : decode cX8_casesOf 30 = .ok (.iinc 5 1, 3) := by decide +kernel
theorem dX8_casesOf_33 : decode cX8_casesOf 33 = .ok (.goto (-28), 3) := by decide +kernel
theorem dX8_casesOf_36 : decode cX8_casesOf 36 = .ok (.lload_n 3, 1) := by decide +kernel
theorem dX8_casesOf_37 : decode cX8_casesOf 37 = .ok (.lreturn, 1) := by decide +kernel
theorem dX8_commonDivisor_0 : decode cX8_commonDivisor 0 = .ok (.iconst 0, 1) := by decide +kernel
theorem dX8_commonDivisor_1 : decode cX8_commonDivisor 1 = .ok (.istore 4, 2) := by decide +kernel
theorem dX8_commonDivisor_3 : decode cX8_commonDivisor 3 = .ok (.iload 4, 2) := by decide +kernel
theorem dX8_commonDivisor_5 : decode cX8_commonDivisor 5 = .ok (.bipush 100, 2) := by decide +kernel
theorem dX8_commonDivisor_7 : decode cX8_commonDivisor 7 = .ok (.if_icmp .ge 25, 3) := by decide +kernel
theorem dX8_commonDivisor_10 : decode cX8_commonDivisor 10 = .ok (.lload_n 2, 1) := by decide +kernel
theorem dX8_commonDivisor_11 : decode cX8_commonDivisor 11 = .ok (.lconst 0, 1) := by decide +kernel
theorem dX8_commonDivisor_12 : decode cX8_commonDivisor 12 = .ok (.lcmp, 1) := by decide +kernel
theorem dX8_commonDivisor_13 : decode cX8_commonDivisor 13 = .ok (.ifCond .eq 19, 3) := by decide +kernel
theorem dX8_commonDivisor_16 : decode cX8_commonDivisor 16 = .ok (.lload_n 0, 1) := by decide +kernel
theorem dX8_commonDivisor_17 : decode cX8_commonDivisor 17 = .ok (.lload_n 2, 1) := by decide +kernel
theorem dX8_commonDivisor_18 : decode cX8_commonDivisor 18 = .ok (.lrem, 1) := by decide +kernel
theorem dX8_commonDivisor_19 : decode cX8_commonDivisor 19 = .ok (.lstore 5, 2) := by decide +kernel
theorem dX8_commonDivisor_21 : decode cX8_commonDivisor 21 = .ok (.lload_n 2, 1) := by decide +kernel
theorem dX8_commonDivisor_22 : decode cX8_commonDivisor 22 = .ok (.lstore_n 0, 1) := by decide +kernel
theorem dX8_commonDivisor_23 : decode cX8_commonDivisor 23 = .ok (.lload 5, 2) := by decide +kernel
theorem dX8_commonDivisor_25 : decode cX8_commonDivisor 25 = .ok (.lstore_n 2, 1) := by decide +kernel
theorem dX8_commonDivisor_26 : decode cX8_commonDivisor 26 = .ok (.iinc 4 1, 3) := by decide +kernel
theorem dX8_commonDivisor_29 : decode cX8_commonDivisor 29 = .ok (.goto (-26), 3) := by decide +kernel
theorem dX8_commonDivisor_32 : decode cX8_commonDivisor 32 = .ok (.lload_n 0, 1) := by decide +kernel
theorem dX8_commonDivisor_33 : decode cX8_commonDivisor 33 = .ok (.lreturn, 1) := by decide +kernel
theorem dX8_isOfKind_0 : decode cX8_isOfKind 0 = .ok (.iload_n 0, 1) := by decide +kernel
theorem dX8_isOfKind_1 : decode cX8_isOfKind 1 = .ok (.istore_n 2, 1) := by decide +kernel
theorem dX8_isOfKind_2 : decode cX8_isOfKind 2 = .ok (.iconst 0, 1) := by decide +kernel
theorem dX8_isOfKind_3 : decode cX8_isOfKind 3 = .ok (.istore_n 3, 1) := by decide +kernel
theorem dX8_isOfKind_4 : decode cX8_isOfKind 4 = .ok (.iload_n 3, 1) := by decide +kernel
theorem dX8_isOfKind_5 : decode cX8_isOfKind 5 = .ok (.bipush 6, 2) := by decide +kernel
theorem dX8_isOfKind_7 : decode cX8_isOfKind 7 = .ok (.if_icmp .ge 29, 3) := by decide +kernel
theorem dX8_isOfKind_10 : decode cX8_isOfKind 10 = .ok (.iload_n 2, 1) := by decide +kernel
theorem dX8_isOfKind_11 : decode cX8_isOfKind 11 = .ok (.iload_n 1, 1) := by decide +kernel
theorem dX8_isOfKind_12 : decode cX8_isOfKind 12 = .ok (.if_icmp .eq 24, 3) := by decide +kernel
theorem dX8_isOfKind_15 : decode cX8_isOfKind 15 = .ok (.iload_n 2, 1) := by decide +kernel
theorem dX8_isOfKind_16 : decode cX8_isOfKind 16 = .ok (.bipush 6, 2) := by decide +kernel
theorem dX8_isOfKind_18 : decode cX8_isOfKind 18 = .ok (.invokestatic 72, 3) := by decide +kernel
theorem dX8_isOfKind_21 : decode cX8_isOfKind 21 = .ok (.ifCond .eq 15, 3) := by decide +kernel
theorem dX8_isOfKind_24 : decode cX8_isOfKind 24 = .ok (.getstatic 364, 3) := by decide +kernel
theorem dX8_isOfKind_27 : decode cX8_isOfKind 27 = .ok (.iload_n 2, 1) := by decide +kernel
theorem dX8_isOfKind_28 : decode cX8_isOfKind 28 = .ok (.iaload, 1) := by decide +kernel
theorem dX8_isOfKind_29 : decode cX8_isOfKind 29 = .ok (.istore_n 2, 1) := by decide +kernel
theorem dX8_isOfKind_30 : decode cX8_isOfKind 30 = .ok (.iinc 3 1, 3) := by decide +kernel
theorem dX8_isOfKind_33 : decode cX8_isOfKind 33 = .ok (.goto (-29), 3) := by decide +kernel
theorem dX8_isOfKind_36 : decode cX8_isOfKind 36 = .ok (.iload_n 2, 1) := by decide +kernel
theorem dX8_isOfKind_37 : decode cX8_isOfKind 37 = .ok (.iload_n 1, 1) := by decide +kernel
theorem dX8_isOfKind_38 : decode cX8_isOfKind 38 = .ok (.if_icmp .ne 7, 3) := by decide +kernel
theorem dX8_isOfKind_41 : decode cX8_isOfKind 41 = .ok (.iconst 1, 1) := by decide +kernel
theorem dX8_isOfKind_42 : decode cX8_isOfKind 42 = .ok (.goto 4, 3) := by decide +kernel
theorem dX8_isOfKind_45 : decode cX8_isOfKind 45 = .ok (.iconst 0, 1) := by decide +kernel
theorem dX8_isOfKind_46 : decode cX8_isOfKind 46 = .ok (.ireturn, 1) := by decide +kernel
theorem dX8_rowsThere_0 : decode cX8_rowsThere 0 = .ok (.iconst 0, 1) := by decide +kernel
theorem dX8_rowsThere_1 : decode cX8_rowsThere 1 = .ok (.istore_n 1, 1) := by decide +kernel
theorem dX8_rowsThere_2 : decode cX8_rowsThere 2 = .ok (.iconst 0, 1) := by decide +kernel
theorem dX8_rowsThere_3 : decode cX8_rowsThere 3 = .ok (.istore_n 2, 1) := by decide +kernel
theorem dX8_rowsThere_4 : decode cX8_rowsThere 4 = .ok (.iload_n 2, 1) := by decide +kernel
theorem dX8_rowsThere_5 : decode cX8_rowsThere 5 = .ok (.bipush 8, 2) := by decide +kernel
theorem dX8_rowsThere_7 : decode cX8_rowsThere 7 = .ok (.if_icmp .ge 24, 3) := by decide +kernel
theorem dX8_rowsThere_10 : decode cX8_rowsThere 10 = .ok (.aload_n 0, 1) := by decide +kernel
theorem dX8_rowsThere_11 : decode cX8_rowsThere 11 = .ok (.getfield 11, 3) := by decide +kernel
theorem dX8_rowsThere_14 : decode cX8_rowsThere 14 = .ok (.iload_n 2, 1) := by decide +kernel
theorem dX8_rowsThere_15 : decode cX8_rowsThere 15 = .ok (.aaload, 1) := by decide +kernel
theorem dX8_rowsThere_16 : decode cX8_rowsThere 16 = .ok (.invokevirtual 95, 3) := by decide +kernel
theorem dX8_rowsThere_19 : decode cX8_rowsThere 19 = .ok (.ifCond .ne 6, 3) := by decide +kernel
theorem dX8_rowsThere_22 : decode cX8_rowsThere 22 = .ok (.iinc 1 1, 3) := by decide +kernel
theorem dX8_rowsThere_25 : decode cX8_rowsThere 25 = .ok (.iinc 2 1, 3) := by decide +kernel
theorem dX8_rowsThere_28 : decode cX8_rowsThere 28 = .ok (.goto (-24), 3) := by decide +kernel
theorem dX8_rowsThere_31 : decode cX8_rowsThere 31 = .ok (.iload_n 1, 1) := by decide +kernel
theorem dX8_rowsThere_32 : decode cX8_rowsThere 32 = .ok (.ireturn, 1) := by decide +kernel
