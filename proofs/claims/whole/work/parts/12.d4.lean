theorem dX9_allTimes_12 : decode cX9_allTimes 12 = .ok (.iconst 0, 1) := by decide +kernel
theorem dX9_allTimes_13 : decode cX9_allTimes 13 = .ok (.iload_n 1, 1) := by decide +kernel
theorem dX9_allTimes_14 : decode cX9_allTimes 14 = .ok (.iload_n 3, 1) := by decide +kernel
theorem dX9_allTimes_15 : decode cX9_allTimes 15 = .ok (.invokevirtual 135, 3) := by decide +kernel
theorem dX9_allTimes_18 : decode cX9_allTimes 18 = .ok (.iadd, 1) := by decide +kernel
theorem dX9_allTimes_19 : decode cX9_allTimes 19 = .ok (.istore_n 2, 1) := by decide +kernel
theorem dX9_allTimes_20 : decode cX9_allTimes 20 = .ok (.iinc 3 1, 3) := by decide +kernel
theorem dX9_allTimes_23 : decode cX9_allTimes 23 = .ok (.goto (-19), 3) := by decide +kernel
theorem dX9_allTimes_26 : decode cX9_allTimes 26 = .ok (.iload_n 2, 1) := by decide +kernel
theorem dX9_allTimes_27 : decode cX9_allTimes 27 = .ok (.ireturn, 1) := by decide +kernel
theorem dX9_person_0 : decode cX9_person 0 = .ok (.aload_n 0, 1) := by decide +kernel
theorem dX9_person_1 : decode cX9_person 1 = .ok (.iload_n 1, 1) := by decide +kernel
theorem dX9_person_2 : decode cX9_person 2 = .ok (.invokevirtual 171, 3) := by decide +kernel
theorem dX9_person_5 : decode cX9_person 5 = .ok (.ifCond .ne 6, 3) := by decide +kernel
theorem dX9_person_8 : decode cX9_person 8 = .ok (.ldc 49, 2) := by decide +kernel
theorem dX9_person_10 : decode cX9_person 10 = .ok (.ireturn, 1) := by decide +kernel
theorem dX9_person_11 : decode cX9_person 11 = .ok (.iload_n 2, 1) := by decide +kernel
theorem dX9_person_12 : decode cX9_person 12 = .ok (.tableswitch 96 0 5 #[40, 50, 60, 70, 76, 86], 40) := by decide +kernel
theorem dX9_person_52 : decode cX9_person 52 = .ok (.aload_n 0, 1) := by decide +kernel
theorem dX9_person_53 : decode cX9_person 53 = .ok (.getfield 7, 3) := by decide +kernel
theorem dX9_person_56 : decode cX9_person 56 = .ok (.bipush 24, 2) := by decide +kernel
theorem dX9_person_58 : decode cX9_person 58 = .ok (.iload_n 1, 1) := by decide +kernel
theorem dX9_person_59 : decode cX9_person 59 = .ok (.iadd, 1) := by decide +kernel
theorem dX9_person_60 : decode cX9_person 60 = .ok (.iaload, 1) := by decide +kernel
theorem dX9_person_61 : decode cX9_person 61 = .ok (.ireturn, 1) := by decide +kernel
theorem dX9_person_62 : decode cX9_person 62 = .ok (.aload_n 0, 1) := by decide +kernel
theorem dX9_person_63 : decode cX9_person 63 = .ok (.getfield 7, 3) := by decide +kernel
theorem dX9_person_66 : decode cX9_person 66 = .ok (.bipush 30, 2) := by decide +kernel
theorem dX9_person_68 : decode cX9_person 68 = .ok (.iload_n 1, 1) := by decide +kernel
theorem dX9_person_69 : decode cX9_person 69 = .ok (.iadd, 1) := by decide +kernel
theorem dX9_person_70 : decode cX9_person 70 = .ok (.iaload, 1) := by decide +kernel
theorem dX9_person_71 : decode cX9_person 71 = .ok (.ireturn, 1) := by decide +kernel
theorem dX9_person_72 : decode cX9_person 72 = .ok (.aload_n 0, 1) := by decide +kernel
theorem dX9_person_73 : decode cX9_person 73 = .ok (.getfield 7, 3) := by decide +kernel
theorem dX9_person_76 : decode cX9_person 76 = .ok (.bipush 36, 2) := by decide +kernel
theorem dX9_person_78 : decode cX9_person 78 = .ok (.iload_n 1, 1) := by decide +kernel
theorem dX9_person_79 : decode cX9_person 79 = .ok (.iadd, 1) := by decide +kernel
theorem dX9_person_80 : decode cX9_person 80 = .ok (.iaload, 1) := by decide +kernel
theorem dX9_person_81 : decode cX9_person 81 = .ok (.ireturn, 1) := by decide +kernel
theorem dX9_person_82 : decode cX9_person 82 = .ok (.aload_n 0, 1) := by decide +kernel
theorem dX9_person_83 : decode cX9_person 83 = .ok (.iload_n 1, 1) := by decide +kernel
theorem dX9_person_84 : decode cX9_person 84 = .ok (.invokevirtual 192, 3) := by decide +kernel
theorem dX9_person_87 : decode cX9_person 87 = .ok (.ireturn, 1) := by decide +kernel
theorem dX9_person_88 : decode cX9_person 88 = .ok (.aload_n 0, 1) := by decide +kernel
theorem dX9_person_89 : decode cX9_person 89 = .ok (.getfield 7, 3) := by decide +kernel
theorem dX9_person_92 : decode cX9_person 92 = .ok (.bipush 42, 2) := by decide +kernel
theorem dX9_person_94 : decode cX9_person 94 = .ok (.iload_n 1, 1) := by decide +kernel
theorem dX9_person_95 : decode cX9_person 95 = .ok (.iadd, 1) := by decide +kernel
theorem dX9_person_96 : decode cX9_person 96 = .ok (.iaload, 1) := by decide +kernel
theorem dX9_person_97 : decode cX9_person 97 = .ok (.ireturn, 1) := by decide +kernel
theorem dX9_person_98 : decode cX9_person 98 = .ok (.aload_n 0, 1) := by decide +kernel
theorem dX9_person_99 : decode cX9_person 99 = .ok (.getfield 7, 3) := by decide +kernel
theorem dX9_person_102 : decode cX9_person 102 = .ok (.bipush 48, 2) := by decide +kernel
theorem dX9_person_104 : decode cX9_person 104 = .ok (.iload_n 1, 1) := by decide +kernel
theorem dX9_person_105 : decode cX9_person 105 = .ok (.iadd, 1) := by decide +kernel
theorem dX9_person_106 : decode cX9_person 106 = .ok (.iaload, 1) := by decide +kernel
theorem dX9_person_107 : decode cX9_person 107 = .ok (.ireturn, 1) := by decide +kernel
theorem dX9_person_108 : decode cX9_person 108 = .ok (.ldc 49, 2) := by decide +kernel
theorem dX9_person_110 : decode cX9_person 110 = .ok (.ireturn, 1) := by decide +kernel
theorem dX9_gone_0 : decode cX9_gone 0 = .ok (.iconst 0, 1) := by decide +kernel
theorem dX9_gone_1 : decode cX9_gone 1 = .ok (.istore_n 2, 1) := by decide +kernel
theorem dX9_gone_2 : decode cX9_gone 2 = .ok (.iconst 0, 1) := by decide +kernel
theorem dX9_gone_3 : decode cX9_gone 3 = .ok (.istore_n 3, 1) := by decide +kernel
theorem dX9_gone_4 : decode cX9_gone 4 = .ok (.iload_n 3, 1) := by decide +kernel
theorem dX9_gone_5 : decode cX9_gone 5 = .ok (.aload_n 0, 1) := by decide +kernel
theorem dX9_gone_6 : decode cX9_gone 6 = .ok (.getfield 7, 3) := by decide +kernel
theorem dX9_gone_9 : decode cX9_gone 9 = .ok (.iconst 3, 1) := by decide +kernel
theorem dX9_gone_10 : decode cX9_gone 10 = .ok (.iaload, 1) := by decide +kernel
theorem dX9_gone_11 : decode cX9_gone 11 = .ok (.if_icmp .ge 29, 3) := by decide +kernel
theorem dX9_gone_14 : decode cX9_gone 14 = .ok (.iload_n 2, 1) := by decide +kernel
theorem dX9_gone_15 : decode cX9_gone 15 = .ok (.aload_n 0, 1) := by decide +kernel
theorem dX9_gone_16 : decode cX9_gone 16 = .ok (.iconst 0, 1) := by decide +kernel
theorem dX9_gone_17 : decode cX9_gone 17 = .ok (.iload_n 3, 1) := by decide +kernel
theorem dX9_gone_18 : decode cX9_gone 18 = .ok (.iload_n 1, 1) := by decide +kernel
theorem dX9_gone_19 : decode cX9_gone 19 = .ok (.invokevirtual 135, 3) := by decide +kernel
theorem dX9_gone_22 : decode cX9_gone 22 = .ok (.ifCond .le 9, 3) := by decide +kernel
theorem dX9_gone_25 : decode cX9_gone 25 = .ok (.iconst 1, 1) := by decide +kernel
theorem dX9_gone_26 : decode cX9_gone 26 = .ok (.iload_n 3, 1) := by decide +kernel
theorem dX9_gone_27 : decode cX9_gone 27 = .ok (.ishl, 1) := by decide +kernel
theorem dX9_gone_28 : decode cX9_gone 28 = .ok (.goto 4, 3) := by decide +kernel
theorem dX9_gone_31 : decode cX9_gone 31 = .ok (.iconst 0, 1) := by decide +kernel
theorem dX9_gone_32 : decode cX9_gone 32 = .ok (.ior, 1) := by decide +kernel
theorem dX9_gone_33 : decode cX9_gone 33 = .ok (.istore_n 2, 1) := by decide +kernel
theorem dX9_gone_34 : decode cX9_gone 34 = .ok (.iinc 3 1, 3) := by decide +kernel
theorem dX9_gone_37 : decode cX9_gone 37 = .ok (.goto (-33), 3) := by decide +kernel
theorem dX9_gone_40 : decode cX9_gone 40 = .ok (.iload_n 2, 1) := by decide +kernel
theorem dX9_gone_41 : decode cX9_gone 41 = .ok (.ireturn, 1) := by decide +kernel
theorem dX9_door_0 : decode cX9_door 0 = .ok (.aload_n 0, 1) := by decide +kernel
theorem dX9_door_1 : decode cX9_door 1 = .ok (.iload_n 1, 1) := by decide +kernel
theorem dX9_door_2 : decode cX9_door 2 = .ok (.invokevirtual 174, 3) := by decide +kernel
theorem dX9_door_5 : decode cX9_door 5 = .ok (.ifCond .ne 8, 3) := by decide +kernel
theorem dX9_door_8 : decode cX9_door 8 = .ok (.ldc 49, 2) := by decide +kernel
theorem dX9_door_10 : decode cX9_door 10 = .ok (.goto 37, 3) := by decide +kernel
theorem dX9_door_13 : decode cX9_door 13 = .ok (.iload_n 2, 1) := by decide +kernel
theorem dX9_door_14 : decode cX9_door 14 = .ok (.ifCond .eq 8, 3) := by decide +kernel
theorem dX9_door_17 : decode cX9_door 17 = .ok (.iload_n 2, 1) := by decide +kernel
theorem dX9_door_18 : decode cX9_door 18 = .ok (.iconst 1, 1) := by decide +kernel
theorem dX9_door_19 : decode cX9_door 19 = .ok (.if_icmp .ne 13, 3) := by decide +kernel
theorem dX9_door_22 : decode cX9_door 22 = .ok (.aload_n 0, 1) := by decide +kernel
theorem dX9_door_23 : decode cX9_door 23 = .ok (.iconst 0, 1) := by decide +kernel
theorem dX9_door_24 : decode cX9_door 24 = .ok (.iload_n 1, 1) := by decide +kernel
theorem dX9_door_25 : decode cX9_door 25 = .ok (.iload_n 2, 1) := by decide +kernel
theorem dX9_door_26 : decode cX9_door 26 = .ok (.invokevirtual 158, 3) := by decide +kernel
theorem dX9_door_29 : decode cX9_door 29 = .ok (.goto 18, 3) := by decide +kernel
theorem dX9_door_32 : decode cX9_door 32 = .ok (.iload_n 2, 1) := by decide +kernel
theorem dX9_door_33 : decode cX9_door 33 = .ok (.iconst 2, 1) := by decide +kernel
theorem dX9_door_34 : decode cX9_door 34 = .ok (.if_icmp .ne 11, 3) := by decide +kernel
theorem dX9_door_37 : decode cX9_door 37 = .ok (.aload_n 0, 1) := by decide +kernel
theorem dX9_door_38 : decode cX9_door 38 = .ok (.iload_n 1, 1) := by decide +kernel
theorem dX9_door_39 : decode cX9_door 39 = .ok (.invokevirtual 195, 3) := by decide +kernel
theorem dX9_door_42 : decode cX9_door 42 = .ok (.goto 5, 3) := by decide +kernel
theorem dX9_door_45 : decode cX9_door 45 = .ok (.ldc 49, 2) := by decide +kernel
theorem dX9_door_47 : decode cX9_door 47 = .ok (.ireturn, 1) := by decide +kernel
theorem dX9_at_0 : decode cX9_at 0 = .ok (.aload_n 0, 1) := by decide +kernel
theorem dX9_at_1 : decode cX9_at 1 = .ok (.iload_n 1, 1) := by decide +kernel
theorem dX9_at_2 : decode cX9_at 2 = .ok (.invokevirtual 171, 3) := by decide +kernel
theorem dX9_at_5 : decode cX9_at 5 = .ok (.ifCond .eq 11, 3) := by decide +kernel
theorem dX9_at_8 : decode cX9_at 8 = .ok (.aload_n 0, 1) := by decide +kernel
theorem dX9_at_9 : decode cX9_at 9 = .ok (.iload_n 2, 1) := by decide +kernel
theorem dX9_at_10 : decode cX9_at 10 = .ok (.invokevirtual 174, 3) := by decide +kernel
theorem dX9_at_13 : decode cX9_at 13 = .ok (.ifCond .ne 6, 3) := by decide +kernel
theorem dX9_at_16 : decode cX9_at 16 = .ok (.ldc 49, 2) := by decide +kernel
theorem dX9_at_18 : decode cX9_at 18 = .ok (.ireturn, 1) := by decide +kernel
theorem dX9_at_19 : decode cX9_at 19 = .ok (.iload_n 3, 1) := by decide +kernel
theorem dX9_at_20 : decode cX9_at 20 = .ok (.tableswitch 117 0 6 #[44, 52, 67, 75, 83, 99, 108], 44) := by decide +kernel
theorem dX9_at_64 : decode cX9_at 64 = .ok (.aload_n 0, 1) := by decide +kernel
theorem dX9_at_65 : decode cX9_at 65 = .ok (.iconst 0, 1) := by decide +kernel
theorem dX9_at_66 : decode cX9_at 66 = .ok (.iload_n 1, 1) := by decide +kernel
theorem dX9_at_67 : decode cX9_at 67 = .ok (.iload_n 2, 1) := by decide +kernel
theorem dX9_at_68 : decode cX9_at 68 = .ok (.invokevirtual 135, 3) := by decide +kernel
theorem dX9_at_71 : decode cX9_at 71 = .ok (.ireturn, 1) := by decide +kernel
theorem dX9_at_72 : decode cX9_at 72 = .ok (.aload_n 0, 1) := by decide +kernel
theorem dX9_at_73 : decode cX9_at 73 = .ok (.getfield 7, 3) := by decide +kernel
theorem dX9_at_76 : decode cX9_at 76 = .ok (.bipush 90, 2) := by decide +kernel
theorem dX9_at_78 : decode cX9_at 78 = .ok (.bipush 6, 2) := by decide +kernel
theorem dX9_at_80 : decode cX9_at 80 = .ok (.iload_n 1, 1) := by decide +kernel
theorem dX9_at_81 : decode cX9_at 81 = .ok (.imul, 1) := by decide +kernel
theorem dX9_at_82 : decode cX9_at 82 = .ok (.iadd, 1) := by decide +kernel
theorem dX9_at_83 : decode cX9_at 83 = .ok (.iload_n 2, 1) := by decide +kernel
theorem dX9_at_84 : decode cX9_at 84 = .ok (.iadd, 1) := by decide +kernel
theorem dX9_at_85 : decode cX9_at 85 = .ok (.iaload, 1) := by decide +kernel
theorem dX9_at_86 : decode cX9_at 86 = .ok (.ireturn, 1) := by decide +kernel
theorem dX9_at_87 : decode cX9_at 87 = .ok (.aload_n 0, 1) := by decide +kernel
theorem dX9_at_88 : decode cX9_at 88 = .ok (.iconst 0, 1) := by decide +kernel
theorem dX9_at_89 : decode cX9_at 89 = .ok (.iload_n 1, 1) := by decide +kernel
theorem dX9_at_90 : decode cX9_at 90 = .ok (.iload_n 2, 1) := by decide +kernel
theorem dX9_at_91 : decode cX9_at 91 = .ok (.invokevirtual 139, 3) := by decide +kernel
theorem dX9_at_94 : decode cX9_at 94 = .ok (.ireturn, 1) := by decide +kernel
theorem dX9_at_95 : decode cX9_at 95 = .ok (.aload_n 0, 1) := by decide +kernel
theorem dX9_at_96 : decode cX9_at 96 = .ok (.iconst 0, 1) := by decide +kernel
theorem dX9_at_97 : decode cX9_at 97 = .ok (.iload_n 1, 1) := by decide +kernel
theorem dX9_at_98 : decode cX9_at 98 = .ok (.iload_n 2, 1) := by decide +kernel
theorem dX9_at_99 : decode cX9_at 99 = .ok (.invokevirtual 151, 3) := by decide +kernel
theorem dX9_at_102 : decode cX9_at 102 = .ok (.ireturn, 1) := by decide +kernel
theorem dX9_at_103 : decode cX9_at 103 = .ok (.aload_n 0, 1) := by decide +kernel
theorem dX9_at_104 : decode cX9_at 104 = .ok (.iconst 0, 1) := by decide +kernel
theorem dX9_at_105 : decode cX9_at 105 = .ok (.iload_n 1, 1) := by decide +kernel
theorem dX9_at_106 : decode cX9_at 106 = .ok (.iload_n 2, 1) := by decide +kernel
theorem dX9_at_107 : decode cX9_at 107 = .ok (.invokevirtual 161, 3) := by decide +kernel
theorem dX9_at_110 : decode cX9_at 110 = .ok (.ifCond .eq 7, 3) := by decide +kernel
theorem dX9_at_113 : decode cX9_at 113 = .ok (.iconst 1, 1) := by decide +kernel
theorem dX9_at_114 : decode cX9_at 114 = .ok (.goto 4, 3) := by decide +kernel
theorem dX9_at_117 : decode cX9_at 117 = .ok (.iconst 0, 1) := by decide +kernel
theorem dX9_at_118 : decode cX9_at 118 = .ok (.ireturn, 1) := by decide +kernel
theorem dX9_at_119 : decode cX9_at 119 = .ok (.aload_n 0, 1) := by decide +kernel
theorem dX9_at_120 : decode cX9_at 120 = .ok (.iconst 0, 1) := by decide +kernel
theorem dX9_at_121 : decode cX9_at 121 = .ok (.iload_n 1, 1) := by decide +kernel
theorem dX9_at_122 : decode cX9_at 122 = .ok (.iload_n 2, 1) := by decide +kernel
theorem dX9_at_123 : decode cX9_at 123 = .ok (.iconst 1, 1) := by decide +kernel
theorem dX9_at_124 : decode cX9_at 124 = .ok (.invokevirtual 154, 3) := by decide +kernel
theorem dX9_at_127 : decode cX9_at 127 = .ok (.ireturn, 1) := by decide +kernel
theorem dX9_at_128 : decode cX9_at 128 = .ok (.aload_n 0, 1) := by decide +kernel
theorem dX9_at_129 : decode cX9_at 129 = .ok (.iconst 0, 1) := by decide +kernel
theorem dX9_at_130 : decode cX9_at 130 = .ok (.iload_n 1, 1) := by decide +kernel
theorem dX9_at_131 : decode cX9_at 131 = .ok (.iload_n 2, 1) := by decide +kernel
theorem dX9_at_132 : decode cX9_at 132 = .ok (.iconst (-1), 1) := by decide +kernel
theorem dX9_at_133 : decode cX9_at 133 = .ok (.invokevirtual 154, 3) := by decide +kernel
theorem dX9_at_136 : decode cX9_at 136 = .ok (.ireturn, 1) := by decide +kernel
theorem dX9_at_137 : decode cX9_at 137 = .ok (.ldc 49, 2) := by decide +kernel
theorem dX9_at_139 : decode cX9_at 139 = .ok (.ireturn, 1) := by decide +kernel
theorem dX9_favour_0 : decode cX9_favour 0 = .ok (.aload_n 0, 1) := by decide +kernel
theorem dX9_favour_1 : decode cX9_favour 1 = .ok (.iload_n 1, 1) := by decide +kernel
theorem dX9_favour_2 : decode cX9_favour 2 = .ok (.invokevirtual 171, 3) := by decide +kernel
theorem dX9_favour_5 : decode cX9_favour 5 = .ok (.ifCond .eq 26, 3) := by decide +kernel
theorem dX9_favour_8 : decode cX9_favour 8 = .ok (.aload_n 0, 1) := by decide +kernel
theorem dX9_favour_9 : decode cX9_favour 9 = .ok (.iload_n 2, 1) := by decide +kernel
theorem dX9_favour_10 : decode cX9_favour 10 = .ok (.invokevirtual 171, 3) := by decide +kernel
theorem dX9_favour_13 : decode cX9_favour 13 = .ok (.ifCond .eq 18, 3) := by decide +kernel
theorem dX9_favour_16 : decode cX9_favour 16 = .ok (.iload_n 1, 1) := by decide +kernel
theorem dX9_favour_17 : decode cX9_favour 17 = .ok (.iload_n 2, 1) := by decide +kernel
theorem dX9_favour_18 : decode cX9_favour 18 = .ok (.if_icmp .eq 13, 3) := by decide +kernel
theorem dX9_favour_21 : decode cX9_favour 21 = .ok (.aload_n 0, 1) := by decide +kernel
theorem dX9_favour_22 : decode cX9_favour 22 = .ok (.iconst 0, 1) := by decide +kernel
theorem dX9_favour_23 : decode cX9_favour 23 = .ok (.iload_n 1, 1) := by decide +kernel
theorem dX9_favour_24 : decode cX9_favour 24 = .ok (.iload_n 2, 1) := by decide +kernel
theorem dX9_favour_25 : decode cX9_favour 25 = .ok (.invokevirtual 148, 3) := by decide +kernel
theorem dX9_favour_28 : decode cX9_favour 28 = .ok (.goto 5, 3) := by decide +kernel
theorem dX9_favour_31 : decode cX9_favour 31 = .ok (.ldc 49, 2) := by decide +kernel
theorem dX9_favour_33 : decode cX9_favour 33 = .ok (.ireturn, 1) := by decide +kernel
theorem dX9_layOpen_0 : decode cX9_layOpen 0 = .ok (.aload_n 0, 1) := by decide +kernel
theorem dX9_layOpen_1 : decode cX9_layOpen 1 = .ok (.iconst 0, 1) := by decide +kernel
theorem dX9_layOpen_2 : decode cX9_layOpen 2 = .ok (.putfield 198, 3) := by decide +kernel
theorem dX9_layOpen_5 : decode cX9_layOpen 5 = .ok (.aload_n 0, 1) := by decide +kernel
theorem dX9_layOpen_6 : decode cX9_layOpen 6 = .ok (.ldc 106, 2) := by decide +kernel
theorem dX9_layOpen_8 : decode cX9_layOpen 8 = .ok (.putfield 201, 3) := by decide +kernel
theorem dX9_layOpen_11 : decode cX9_layOpen 11 = .ok (.aload_n 0, 1) := by decide +kernel
theorem dX9_layOpen_12 : decode cX9_layOpen 12 = .ok (.ldc 106, 2) := by decide +kernel
theorem dX9_layOpen_14 : decode cX9_layOpen 14 = .ok (.putfield 204, 3) := by decide +kernel
theorem dX9_layOpen_17 : decode cX9_layOpen 17 = .ok (.iconst 0, 1) := by decide +kernel
theorem dX9_layOpen_18 : decode cX9_layOpen 18 = .ok (.istore_n 2, 1) := by decide +kernel
theorem dX9_layOpen_19 : decode cX9_layOpen 19 = .ok (.iload_n 2, 1) := by decide +kernel
theorem dX9_layOpen_20 : decode cX9_layOpen 20 = .ok (.aload_n 0, 1) := by decide +kernel
theorem dX9_layOpen_21 : decode cX9_layOpen 21 = .ok (.getfield 7, 3) := by decide +kernel
theorem dX9_layOpen_24 : decode cX9_layOpen 24 = .ok (.iconst 2, 1) := by decide +kernel
theorem dX9_layOpen_25 : decode cX9_layOpen 25 = .ok (.iaload, 1) := by decide +kernel
theorem dX9_layOpen_26 : decode cX9_layOpen 26 = .ok (.if_icmp .ge 35, 3) := by decide +kernel
theorem dX9_layOpen_29 : decode cX9_layOpen 29 = .ok (.aload_n 0, 1) := by decide +kernel
theorem dX9_layOpen_30 : decode cX9_layOpen 30 = .ok (.dup, 1) := by decide +kernel
theorem dX9_layOpen_31 : decode cX9_layOpen 31 = .ok (.getfield 198, 3) := by decide +kernel
theorem dX9_layOpen_34 : decode cX9_layOpen 34 = .ok (.aload_n 0, 1) := by decide +kernel
theorem dX9_layOpen_35 : decode cX9_layOpen 35 = .ok (.iconst 0, 1) := by decide +kernel
theorem dX9_layOpen_36 : decode cX9_layOpen 36 = .ok (.iload_n 1, 1) := by decide +kernel
theorem dX9_layOpen_37 : decode cX9_layOpen 37 = .ok (.iload_n 2, 1) := by decide +kernel
theorem dX9_layOpen_38 : decode cX9_layOpen 38 = .ok (.invokevirtual 161, 3) := by decide +kernel
theorem dX9_layOpen_41 : decode cX9_layOpen 41 = .ok (.ifCond .eq 9, 3) := by decide +kernel
theorem dX9_layOpen_44 : decode cX9_layOpen 44 = .ok (.iconst 1, 1) := by decide +kernel
theorem dX9_layOpen_45 : decode cX9_layOpen 45 = .ok (.iload_n 2, 1) := by decide +kernel
theorem dX9_layOpen_46 : decode cX9_layOpen 46 = .ok (.ishl, 1) := by decide +kernel
theorem dX9_layOpen_47 : decode cX9_layOpen 47 = .ok (.goto 4, 3) := by decide +kernel
theorem dX9_layOpen_50 : decode cX9_layOpen 50 = .ok (.iconst 0, 1) := by decide +kernel
theorem dX9_layOpen_51 : decode cX9_layOpen 51 = .ok (.ior, 1) := by decide +kernel
theorem dX9_layOpen_52 : decode cX9_layOpen 52 = .ok (.putfield 198, 3) := by decide +kernel
theorem dX9_layOpen_55 : decode cX9_layOpen 55 = .ok (.iinc 2 1, 3) := by decide +kernel
theorem dX9_layOpen_58 : decode cX9_layOpen 58 = .ok (.goto (-39), 3) := by decide +kernel
theorem dX9_layOpen_61 : decode cX9_layOpen 61 = .ok (.return_, 1) := by decide +kernel
theorem dX9_further_0 : decode cX9_further 0 = .ok (.iload_n 1, 1) := by decide +kernel
theorem dX9_further_1 : decode cX9_further 1 = .ok (.istore_n 2, 1) := by decide +kernel
theorem dX9_further_2 : decode cX9_further 2 = .ok (.iconst 0, 1) := by decide +kernel
theorem dX9_further_3 : decode cX9_further 3 = .ok (.istore_n 3, 1) := by decide +kernel
theorem dX9_further_4 : decode cX9_further 4 = .ok (.iload_n 3, 1) := by decide +kernel
theorem dX9_further_5 : decode cX9_further 5 = .ok (.aload_n 0, 1) := by decide +kernel
theorem dX9_further_6 : decode cX9_further 6 = .ok (.getfield 7, 3) := by decide +kernel
theorem dX9_further_9 : decode cX9_further 9 = .ok (.iconst 2, 1) := by decide +kernel
theorem dX9_further_10 : decode cX9_further 10 = .ok (.iaload, 1) := by decide +kernel
theorem dX9_further_11 : decode cX9_further 11 = .ok (.if_icmp .ge 69, 3) := by decide +kernel
theorem dX9_further_14 : decode cX9_further 14 = .ok (.iconst 0, 1) := by decide +kernel
theorem dX9_further_15 : decode cX9_further 15 = .ok (.istore 4, 2) := by decide +kernel
theorem dX9_further_17 : decode cX9_further 17 = .ok (.iload 4, 2) := by decide +kernel
theorem dX9_further_19 : decode cX9_further 19 = .ok (.iconst 2, 1) := by decide +kernel
theorem dX9_further_20 : decode cX9_further 20 = .ok (.if_icmp .ge 54, 3) := by decide +kernel
theorem dX9_further_23 : decode cX9_further 23 = .ok (.aload_n 0, 1) := by decide +kernel
theorem dX9_further_24 : decode cX9_further 24 = .ok (.getfield 198, 3) := by decide +kernel
theorem dX9_further_27 : decode cX9_further 27 = .ok (.iload_n 3, 1) := by decide +kernel
theorem dX9_further_28 : decode cX9_further 28 = .ok (.invokestatic 103, 3) := by decide +kernel
theorem dX9_further_31 : decode cX9_further 31 = .ok (.ifCond .eq 43, 3) := by decide +kernel
theorem dX9_further_34 : decode cX9_further 34 = .ok (.iload_n 2, 1) := by decide +kernel
theorem dX9_further_35 : decode cX9_further 35 = .ok (.iload_n 1, 1) := by decide +kernel
theorem dX9_further_36 : decode cX9_further 36 = .ok (.aload_n 0, 1) := by decide +kernel
theorem dX9_further_37 : decode cX9_further 37 = .ok (.iconst 0, 1) := by decide +kernel
theorem dX9_further_38 : decode cX9_further 38 = .ok (.iload_n 3, 1) := by decide +kernel
theorem dX9_further_39 : decode cX9_further 39 = .ok (.iload 4, 2) := by decide +kernel
theorem dX9_further_41 : decode cX9_further 41 = .ok (.invokevirtual 158, 3) := by decide +kernel
theorem dX9_further_44 : decode cX9_further 44 = .ok (.invokestatic 103, 3) := by decide +kernel
theorem dX9_further_47 : decode cX9_further 47 = .ok (.ifCond .eq 18, 3) := by decide +kernel
theorem dX9_further_50 : decode cX9_further 50 = .ok (.iconst 1, 1) := by decide +kernel
theorem dX9_further_51 : decode cX9_further 51 = .ok (.aload_n 0, 1) := by decide +kernel
theorem dX9_further_52 : decode cX9_further 52 = .ok (.iconst 0, 1) := by decide +kernel
theorem dX9_further_53 : decode cX9_further 53 = .ok (.iload_n 3, 1) := by decide +kernel
theorem dX9_further_54 : decode cX9_further 54 = .ok (.iconst 1, 1) := by decide +kernel
theorem dX9_further_55 : decode cX9_further 55 = .ok (.iload 4, 2) := by decide +kernel
theorem dX9_further_57 : decode cX9_further 57 = .ok (.isub, 1) := by decide +kernel
theorem dX9_further_58 : decode cX9_further 58 = .ok (.invokevirtual 158, 3) := by decide +kernel
theorem dX9_further_61 : decode cX9_further 61 = .ok (.ishl, 1) := by decide +kernel
theorem dX9_further_62 : decode cX9_further 62 = .ok (.goto 4, 3) := by decide +kernel
theorem dX9_further_65 : decode cX9_further 65 = .ok (.iconst 0, 1) := by decide +kernel
theorem dX9_further_66 : decode cX9_further 66 = .ok (.ior, 1) := by decide +kernel
theorem dX9_further_67 : decode cX9_further 67 = .ok (.istore_n 2, 1) := by decide +kernel
theorem dX9_further_68 : decode cX9_further 68 = .ok (.iinc 4 1, 3) := by decide +kernel
theorem dX9_further_71 : decode cX9_further 71 = .ok (.goto (-54), 3) := by decide +kernel
theorem dX9_further_74 : decode cX9_further 74 = .ok (.iinc 3 1, 3) := by decide +kernel
theorem dX9_further_77 : decode cX9_further 77 = .ok (.goto (-73), 3) := by decide +kernel
theorem dX9_further_80 : decode cX9_further 80 = .ok (.aload_n 0, 1) := by decide +kernel
theorem dX9_further_81 : decode cX9_further 81 = .ok (.getfield 201, 3) := by decide +kernel
theorem dX9_further_84 : decode cX9_further 84 = .ok (.ldc 106, 2) := by decide +kernel
theorem dX9_further_86 : decode cX9_further 86 = .ok (.if_icmp .eq 51, 3) := by decide +kernel
theorem dX9_further_89 : decode cX9_further 89 = .ok (.iload_n 2, 1) := by decide +kernel
theorem dX9_further_90 : decode cX9_further 90 = .ok (.iload_n 1, 1) := by decide +kernel
theorem dX9_further_91 : decode cX9_further 91 = .ok (.aload_n 0, 1) := by decide +kernel
theorem dX9_further_92 : decode cX9_further 92 = .ok (.getfield 201, 3) := by decide +kernel
theorem dX9_further_95 : decode cX9_further 95 = .ok (.invokestatic 103, 3) := by decide +kernel
theorem dX9_further_98 : decode cX9_further 98 = .ok (.ifCond .eq 12, 3) := by decide +kernel
theorem dX9_further_101 : decode cX9_further 101 = .ok (.iconst 1, 1) := by decide +kernel
theorem dX9_further_102 : decode cX9_further 102 = .ok (.aload_n 0, 1) := by decide +kernel
theorem dX9_further_103 : decode cX9_further 103 = .ok (.getfield 204, 3) := by decide +kernel
theorem dX9_further_106 : decode cX9_further 106 = .ok (.ishl, 1) := by decide +kernel
theorem dX9_further_107 : decode cX9_further 107 = .ok (.goto 4, 3) := by decide +kernel
theorem dX9_further_110 : decode cX9_further 110 = .ok (.iconst 0, 1) := by decide +kernel
theorem dX9_further_111 : decode cX9_further 111 = .ok (.ior, 1) := by decide +kernel
theorem dX9_further_112 : decode cX9_further 112 = .ok (.istore_n 2, 1) := by decide +kernel
theorem dX9_further_113 : decode cX9_further 113 = .ok (.iload_n 2, 1) := by decide +kernel
theorem dX9_further_114 : decode cX9_further 114 = .ok (.iload_n 1, 1) := by decide +kernel
theorem dX9_further_115 : decode cX9_further 115 = .ok (.aload_n 0, 1) := by decide +kernel
theorem dX9_further_116 : decode cX9_further 116 = .ok (.getfield 204, 3) := by decide +kernel
theorem dX9_further_119 : decode cX9_further 119 = .ok (.invokestatic 103, 3) := by decide +kernel
theorem dX9_further_122 : decode cX9_further 122 = .ok (.ifCond .eq 12, 3) := by decide +kernel
theorem dX9_further_125 : decode cX9_further 125 = .ok (.iconst 1, 1) := by decide +kernel
theorem dX9_further_126 : decode cX9_further 126 = .ok (.aload_n 0, 1) := by decide +kernel
theorem dX9_further_127 : decode cX9_further 127 = .ok (.getfield 201, 3) := by decide +kernel
theorem dX9_further_130 : decode cX9_further 130 = .ok (.ishl, 1) := by decide +kernel
theorem dX9_further_131 : decode cX9_further 131 = .ok (.goto 4, 3) := by decide +kernel
theorem dX9_further_134 : decode cX9_further 134 = .ok (.iconst 0, 1) := by decide +kernel
theorem dX9_further_135 : decode cX9_further 135 = .ok (.ior, 1) := by decide +kernel
theorem dX9_further_136 : decode cX9_further 136 = .ok (.istore_n 2, 1) := by decide +kernel
theorem dX9_further_137 : decode cX9_further 137 = .ok (.iload_n 2, 1) := by decide +kernel
theorem dX9_further_138 : decode cX9_further 138 = .ok (.ireturn, 1) := by decide +kernel
theorem dX9_farFrom_0 : decode cX9_farFrom 0 = .ok (.iconst 1, 1) := by decide +kernel
theorem dX9_farFrom_1 : decode cX9_farFrom 1 = .ok (.iload_n 1, 1) := by decide +kernel
theorem dX9_farFrom_2 : decode cX9_farFrom 2 = .ok (.ishl, 1) := by decide +kernel
theorem dX9_farFrom_3 : decode cX9_farFrom 3 = .ok (.istore_n 3, 1) := by decide +kernel
theorem dX9_farFrom_4 : decode cX9_farFrom 4 = .ok (.iconst 0, 1) := by decide +kernel
theorem dX9_farFrom_5 : decode cX9_farFrom 5 = .ok (.istore 4, 2) := by decide +kernel
theorem dX9_farFrom_7 : decode cX9_farFrom 7 = .ok (.iload 4, 2) := by decide +kernel
theorem dX9_farFrom_9 : decode cX9_farFrom 9 = .ok (.bipush 7, 2) := by decide +kernel
theorem dX9_farFrom_11 : decode cX9_farFrom 11 = .ok (.if_icmp .ge 26, 3) := by decide +kernel
theorem dX9_farFrom_14 : decode cX9_farFrom 14 = .ok (.iload_n 3, 1) := by decide +kernel
theorem dX9_farFrom_15 : decode cX9_farFrom 15 = .ok (.iload_n 2, 1) := by decide +kernel
theorem dX9_farFrom_16 : decode cX9_farFrom 16 = .ok (.invokestatic 103, 3) := by decide +kernel
theorem dX9_farFrom_19 : decode cX9_farFrom 19 = .ok (.ifCond .eq 6, 3) := by decide +kernel
theorem dX9_farFrom_22 : decode cX9_farFrom 22 = .ok (.iload 4, 2) := by decide +kernel
theorem dX9_farFrom_24 : decode cX9_farFrom 24 = .ok (.ireturn, 1) := by decide +kernel
theorem dX9_farFrom_25 : decode cX9_farFrom 25 = .ok (.aload_n 0, 1) := by decide +kernel
theorem dX9_farFrom_26 : decode cX9_farFrom 26 = .ok (.iload_n 3, 1) := by decide +kernel
theorem dX9_farFrom_27 : decode cX9_farFrom 27 = .ok (.invokevirtual 207, 3) := by decide +kernel
theorem dX9_farFrom_30 : decode cX9_farFrom 30 = .ok (.istore_n 3, 1) := by decide +kernel
theorem dX9_farFrom_31 : decode cX9_farFrom 31 = .ok (.iinc 4 1, 3) := by decide +kernel
theorem dX9_farFrom_34 : decode cX9_farFrom 34 = .ok (.goto (-27), 3) := by decide +kernel
theorem dX9_farFrom_37 : decode cX9_farFrom 37 = .ok (.ldc 106, 2) := by decide +kernel
theorem dX9_farFrom_39 : decode cX9_farFrom 39 = .ok (.ireturn, 1) := by decide +kernel
theorem dX9_way_0 : decode cX9_way 0 = .ok (.aload_n 0, 1) := by decide +kernel
theorem dX9_way_1 : decode cX9_way 1 = .ok (.iload_n 1, 1) := by decide +kernel
theorem dX9_way_2 : decode cX9_way 2 = .ok (.invokevirtual 171, 3) := by decide +kernel
theorem dX9_way_5 : decode cX9_way 5 = .ok (.ifCond .eq 21, 3) := by decide +kernel
theorem dX9_way_8 : decode cX9_way 8 = .ok (.aload_n 0, 1) := by decide +kernel
theorem dX9_way_9 : decode cX9_way 9 = .ok (.iload_n 2, 1) := by decide +kernel
theorem dX9_way_10 : decode cX9_way 10 = .ok (.invokevirtual 189, 3) := by decide +kernel
theorem dX9_way_13 : decode cX9_way 13 = .ok (.ifCond .eq 13, 3) := by decide +kernel
theorem dX9_way_16 : decode cX9_way 16 = .ok (.iload_n 3, 1) := by decide +kernel
theorem dX9_way_17 : decode cX9_way 17 = .ok (.i2l, 1) := by decide +kernel
theorem dX9_way_18 : decode cX9_way 18 = .ok (.lconst 0, 1) := by decide +kernel
theorem dX9_way_19 : decode cX9_way 19 = .ok (.lconst 1, 1) := by decide +kernel
theorem dX9_way_20 : decode cX9_way 20 = .ok (.invokestatic 39, 3) := by decide +kernel
theorem dX9_way_23 : decode cX9_way 23 = .ok (.ifCond .ne 6, 3) := by decide +kernel
theorem dX9_way_26 : decode cX9_way 26 = .ok (.ldc 49, 2) := by decide +kernel
theorem dX9_way_28 : decode cX9_way 28 = .ok (.ireturn, 1) := by decide +kernel
theorem dX9_way_29 : decode cX9_way 29 = .ok (.aload_n 0, 1) := by decide +kernel
theorem dX9_way_30 : decode cX9_way 30 = .ok (.iload_n 1, 1) := by decide +kernel
theorem dX9_way_31 : decode cX9_way 31 = .ok (.invokevirtual 210, 3) := by decide +kernel
theorem dX9_way_34 : decode cX9_way 34 = .ok (.aload_n 0, 1) := by decide +kernel
theorem dX9_way_35 : decode cX9_way 35 = .ok (.getfield 7, 3) := by decide +kernel
theorem dX9_way_38 : decode cX9_way 38 = .ok (.bipush 24, 2) := by decide +kernel
theorem dX9_way_40 : decode cX9_way 40 = .ok (.iload_n 1, 1) := by decide +kernel
theorem dX9_way_41 : decode cX9_way 41 = .ok (.iadd, 1) := by decide +kernel
theorem dX9_way_42 : decode cX9_way 42 = .ok (.iaload, 1) := by decide +kernel
theorem dX9_way_43 : decode cX9_way 43 = .ok (.istore 4, 2) := by decide +kernel
theorem dX9_way_45 : decode cX9_way 45 = .ok (.aload_n 0, 1) := by decide +kernel
theorem dX9_way_46 : decode cX9_way 46 = .ok (.iload 4, 2) := by decide +kernel
theorem dX9_way_48 : decode cX9_way 48 = .ok (.iload_n 2, 1) := by decide +kernel
theorem dX9_way_49 : decode cX9_way 49 = .ok (.invokevirtual 214, 3) := by decide +kernel
theorem dX9_way_52 : decode cX9_way 52 = .ok (.istore 5, 2) := by decide +kernel
theorem dX9_way_54 : decode cX9_way 54 = .ok (.iload_n 3, 1) := by decide +kernel
theorem dX9_way_55 : decode cX9_way 55 = .ok (.ifCond .eq 10, 3) := by decide +kernel
theorem dX9_way_58 : decode cX9_way 58 = .ok (.iload 5, 2) := by decide +kernel
theorem dX9_way_60 : decode cX9_way 60 = .ok (.ldc 106, 2) := by decide +kernel
theorem dX9_way_62 : decode cX9_way 62 = .ok (.if_icmp .ne 6, 3) := by decide +kernel
theorem dX9_way_65 : decode cX9_way 65 = .ok (.iload 5, 2) := by decide +kernel
theorem dX9_way_67 : decode cX9_way 67 = .ok (.ireturn, 1) := by decide +kernel
theorem dX9_way_68 : decode cX9_way 68 = .ok (.iconst 0, 1) := by decide +kernel
theorem dX9_way_69 : decode cX9_way 69 = .ok (.istore 6, 2) := by decide +kernel
theorem dX9_way_71 : decode cX9_way 71 = .ok (.iload 6, 2) := by decide +kernel
theorem dX9_way_73 : decode cX9_way 73 = .ok (.aload_n 0, 1) := by decide +kernel
theorem dX9_way_74 : decode cX9_way 74 = .ok (.getfield 7, 3) := by decide +kernel
theorem dX9_way_77 : decode cX9_way 77 = .ok (.iconst 2, 1) := by decide +kernel
theorem dX9_way_78 : decode cX9_way 78 = .ok (.iaload, 1) := by decide +kernel
theorem dX9_way_79 : decode cX9_way 79 = .ok (.if_icmp .ge 66, 3) := by decide +kernel
theorem dX9_way_82 : decode cX9_way 82 = .ok (.iload 5, 2) := by decide +kernel
theorem dX9_way_84 : decode cX9_way 84 = .ok (.ifCond .le 61, 3) := by decide +kernel
theorem dX9_way_87 : decode cX9_way 87 = .ok (.aload_n 0, 1) := by decide +kernel
theorem dX9_way_88 : decode cX9_way 88 = .ok (.getfield 198, 3) := by decide +kernel
theorem dX9_way_91 : decode cX9_way 91 = .ok (.iload 6, 2) := by decide +kernel
theorem dX9_way_93 : decode cX9_way 93 = .ok (.invokestatic 103, 3) := by decide +kernel
theorem dX9_way_96 : decode cX9_way 96 = .ok (.ifCond .eq 15, 3) := by decide +kernel
theorem dX9_way_99 : decode cX9_way 99 = .ok (.aload_n 0, 1) := by decide +kernel
theorem dX9_way_100 : decode cX9_way 100 = .ok (.iconst 0, 1) := by decide +kernel
theorem dX9_way_101 : decode cX9_way 101 = .ok (.iload 6, 2) := by decide +kernel
theorem dX9_way_103 : decode cX9_way 103 = .ok (.iload 4, 2) := by decide +kernel
theorem dX9_way_105 : decode cX9_way 105 = .ok (.invokevirtual 164, 3) := by decide +kernel
theorem dX9_way_108 : decode cX9_way 108 = .ok (.goto 5, 3) := by decide +kernel
theorem dX9_way_111 : decode cX9_way 111 = .ok (.ldc 106, 2) := by decide +kernel
theorem dX9_way_113 : decode cX9_way 113 = .ok (.istore 7, 2) := by decide +kernel
theorem dX9_way_115 : decode cX9_way 115 = .ok (.iload 7, 2) := by decide +kernel
theorem dX9_way_117 : decode cX9_way 117 = .ok (.ldc 106, 2) := by decide +kernel
theorem dX9_way_119 : decode cX9_way 119 = .ok (.if_icmp .eq 20, 3) := by decide +kernel
theorem dX9_way_122 : decode cX9_way 122 = .ok (.aload_n 0, 1) := by decide +kernel
theorem dX9_way_123 : decode cX9_way 123 = .ok (.iload 7, 2) := by decide +kernel
theorem dX9_way_125 : decode cX9_way 125 = .ok (.iload_n 2, 1) := by decide +kernel
theorem dX9_way_126 : decode cX9_way 126 = .ok (.invokevirtual 214, 3) := by decide +kernel
theorem dX9_way_129 : decode cX9_way 129 = .ok (.iload 5, 2) := by decide +kernel
theorem dX9_way_131 : decode cX9_way 131 = .ok (.iconst 1, 1) := by decide +kernel
theorem dX9_way_132 : decode cX9_way 132 = .ok (.isub, 1) := by decide +kernel
theorem dX9_way_133 : decode cX9_way 133 = .ok (.if_icmp .ne 6, 3) := by decide +kernel
theorem dX9_way_136 : decode cX9_way 136 = .ok (.iload 6, 2) := by decide +kernel
theorem dX9_way_138 : decode cX9_way 138 = .ok (.ireturn, 1) := by decide +kernel
theorem dX9_way_139 : decode cX9_way 139 = .ok (.iinc 6 1, 3) := by decide +kernel
theorem dX9_way_142 : decode cX9_way 142 = .ok (.goto (-71), 3) := by decide +kernel
theorem dX9_way_145 : decode cX9_way 145 = .ok (.ldc 106, 2) := by decide +kernel
theorem dX9_way_147 : decode cX9_way 147 = .ok (.ireturn, 1) := by decide +kernel
theorem dX9_reachOf_0 : decode cX9_reachOf 0 = .ok (.aload_n 0, 1) := by decide +kernel
theorem dX9_reachOf_1 : decode cX9_reachOf 1 = .ok (.iload_n 1, 1) := by decide +kernel
theorem dX9_reachOf_2 : decode cX9_reachOf 2 = .ok (.invokevirtual 210, 3) := by decide +kernel
theorem dX9_reachOf_5 : decode cX9_reachOf 5 = .ok (.iconst 1, 1) := by decide +kernel
theorem dX9_reachOf_6 : decode cX9_reachOf 6 = .ok (.aload_n 0, 1) := by decide +kernel
theorem dX9_reachOf_7 : decode cX9_reachOf 7 = .ok (.getfield 7, 3) := by decide +kernel
theorem dX9_reachOf_10 : decode cX9_reachOf 10 = .ok (.bipush 24, 2) := by decide +kernel
theorem dX9_reachOf_12 : decode cX9_reachOf 12 = .ok (.iload_n 1, 1) := by decide +kernel
theorem dX9_reachOf_13 : decode cX9_reachOf 13 = .ok (.iadd, 1) := by decide +kernel
theorem dX9_reachOf_14 : decode cX9_reachOf 14 = .ok (.iaload, 1) := by decide +kernel
theorem dX9_reachOf_15 : decode cX9_reachOf 15 = .ok (.ishl, 1) := by decide +kernel
theorem dX9_reachOf_16 : decode cX9_reachOf 16 = .ok (.istore_n 2, 1) := by decide +kernel
theorem dX9_reachOf_17 : decode cX9_reachOf 17 = .ok (.iconst 0, 1) := by decide +kernel
theorem dX9_reachOf_18 : decode cX9_reachOf 18 = .ok (.istore_n 3, 1) := by decide +kernel
theorem dX9_reachOf_19 : decode cX9_reachOf 19 = .ok (.iload_n 3, 1) := by decide +kernel
theorem dX9_reachOf_20 : decode cX9_reachOf 20 = .ok (.bipush 6, 2) := by decide +kernel
theorem dX9_reachOf_22 : decode cX9_reachOf 22 = .ok (.if_icmp .ge 15, 3) := by decide +kernel
theorem dX9_reachOf_25 : decode cX9_reachOf 25 = .ok (.aload_n 0, 1) := by decide +kernel
theorem dX9_reachOf_26 : decode cX9_reachOf 26 = .ok (.iload_n 2, 1) := by decide +kernel
theorem dX9_reachOf_27 : decode cX9_reachOf 27 = .ok (.invokevirtual 207, 3) := by decide +kernel
theorem dX9_reachOf_30 : decode cX9_reachOf 30 = .ok (.istore_n 2, 1) := by decide +kernel
theorem dX9_reachOf_31 : decode cX9_reachOf 31 = .ok (.iinc 3 1, 3) := by decide +kernel
theorem dX9_reachOf_34 : decode cX9_reachOf 34 = .ok (.goto (-15), 3) := by decide +kernel
theorem dX9_reachOf_37 : decode cX9_reachOf 37 = .ok (.iload_n 2, 1) := by decide +kernel
theorem dX9_reachOf_38 : decode cX9_reachOf 38 = .ok (.ireturn, 1) := by decide +kernel
theorem dX9_reach_0 : decode cX9_reach 0 = .ok (.aload_n 0, 1) := by decide +kernel
theorem dX9_reach_1 : decode cX9_reach 1 = .ok (.iload_n 1, 1) := by decide +kernel
theorem dX9_reach_2 : decode cX9_reach 2 = .ok (.invokevirtual 171, 3) := by decide +kernel
theorem dX9_reach_5 : decode cX9_reach 5 = .ok (.ifCond .eq 11, 3) := by decide +kernel
theorem dX9_reach_8 : decode cX9_reach 8 = .ok (.aload_n 0, 1) := by decide +kernel
theorem dX9_reach_9 : decode cX9_reach 9 = .ok (.iload_n 1, 1) := by decide +kernel
theorem dX9_reach_10 : decode cX9_reach 10 = .ok (.invokevirtual 217, 3) := by decide +kernel
theorem dX9_reach_13 : decode cX9_reach 13 = .ok (.goto 5, 3) := by decide +kernel
theorem dX9_reach_16 : decode cX9_reach 16 = .ok (.ldc 49, 2) := by decide +kernel
theorem dX9_reach_18 : decode cX9_reach 18 = .ok (.ireturn, 1) := by decide +kernel
theorem dX9_locked_0 : decode cX9_locked 0 = .ok (.aload_n 0, 1) := by decide +kernel
theorem dX9_locked_1 : decode cX9_locked 1 = .ok (.getfield 7, 3) := by decide +kernel
theorem dX9_locked_4 : decode cX9_locked 4 = .ok (.iconst 3, 1) := by decide +kernel
theorem dX9_locked_5 : decode cX9_locked 5 = .ok (.iaload, 1) := by decide +kernel
theorem dX9_locked_6 : decode cX9_locked 6 = .ok (.ifCond .ne 6, 3) := by decide +kernel
theorem dX9_locked_9 : decode cX9_locked 9 = .ok (.ldc 134, 2) := by decide +kernel
theorem dX9_locked_11 : decode cX9_locked 11 = .ok (.ireturn, 1) := by decide +kernel
theorem dX9_locked_12 : decode cX9_locked 12 = .ok (.iconst 0, 1) := by decide +kernel
theorem dX9_locked_13 : decode cX9_locked 13 = .ok (.istore_n 1, 1) := by decide +kernel
theorem dX9_locked_14 : decode cX9_locked 14 = .ok (.iconst 0, 1) := by decide +kernel
theorem dX9_locked_15 : decode cX9_locked 15 = .ok (.istore_n 2, 1) := by decide +kernel
theorem dX9_locked_16 : decode cX9_locked 16 = .ok (.iload_n 2, 1) := by decide +kernel
theorem dX9_locked_17 : decode cX9_locked 17 = .ok (.aload_n 0, 1) := by decide +kernel
theorem dX9_locked_18 : decode cX9_locked 18 = .ok (.getfield 7, 3) := by decide +kernel
theorem dX9_locked_21 : decode cX9_locked 21 = .ok (.iconst 3, 1) := by decide +kernel
theorem dX9_locked_22 : decode cX9_locked 22 = .ok (.iaload, 1) := by decide +kernel
theorem dX9_locked_23 : decode cX9_locked 23 = .ok (.if_icmp .ge 31, 3) := by decide +kernel
theorem dX9_locked_26 : decode cX9_locked 26 = .ok (.iload_n 1, 1) := by decide +kernel
theorem dX9_locked_27 : decode cX9_locked 27 = .ok (.aload_n 0, 1) := by decide +kernel
theorem dX9_locked_28 : decode cX9_locked 28 = .ok (.iload_n 2, 1) := by decide +kernel
theorem dX9_locked_29 : decode cX9_locked 29 = .ok (.invokevirtual 217, 3) := by decide +kernel
theorem dX9_locked_32 : decode cX9_locked 32 = .ok (.invokestatic 220, 3) := by decide +kernel
theorem dX9_locked_35 : decode cX9_locked 35 = .ok (.iconst 1, 1) := by decide +kernel
theorem dX9_locked_36 : decode cX9_locked 36 = .ok (.if_icmp .ne 9, 3) := by decide +kernel
theorem dX9_locked_39 : decode cX9_locked 39 = .ok (.iconst 1, 1) := by decide +kernel
theorem dX9_locked_40 : decode cX9_locked 40 = .ok (.iload_n 2, 1) := by decide +kernel
theorem dX9_locked_41 : decode cX9_locked 41 = .ok (.ishl, 1) := by decide +kernel
theorem dX9_locked_42 : decode cX9_locked 42 = .ok (.goto 4, 3) := by decide +kernel
theorem dX9_locked_45 : decode cX9_locked 45 = .ok (.iconst 0, 1) := by decide +kernel
theorem dX9_locked_46 : decode cX9_locked 46 = .ok (.ior, 1) := by decide +kernel
theorem dX9_locked_47 : decode cX9_locked 47 = .ok (.istore_n 1, 1) := by decide +kernel
theorem dX9_locked_48 : decode cX9_locked 48 = .ok (.iinc 2 1, 3) := by decide +kernel
theorem dX9_locked_51 : decode cX9_locked 51 = .ok (.goto (-35), 3) := by decide +kernel
theorem dX9_locked_54 : decode cX9_locked 54 = .ok (.iload_n 1, 1) := by decide +kernel
theorem dX9_locked_55 : decode cX9_locked 55 = .ok (.ireturn, 1) := by decide +kernel
theorem dX9_giftsFor_0 : decode cX9_giftsFor 0 = .ok (.aload_n 0, 1) := by decide +kernel
theorem dX9_giftsFor_1 : decode cX9_giftsFor 1 = .ok (.iconst 0, 1) := by decide +kernel
theorem dX9_giftsFor_2 : decode cX9_giftsFor 2 = .ok (.iload_n 1, 1) := by decide +kernel
theorem dX9_giftsFor_3 : decode cX9_giftsFor 3 = .ok (.iload_n 2, 1) := by decide +kernel
theorem dX9_giftsFor_4 : decode cX9_giftsFor 4 = .ok (.invokevirtual 142, 3) := by decide +kernel
theorem dX9_giftsFor_7 : decode cX9_giftsFor 7 = .ok (.istore 4, 2) := by decide +kernel
theorem dX9_giftsFor_9 : decode cX9_giftsFor 9 = .ok (.iload_n 3, 1) := by decide +kernel
theorem dX9_giftsFor_10 : decode cX9_giftsFor 10 = .ok (.ifCond .ne 7, 3) := by decide +kernel
theorem dX9_giftsFor_13 : decode cX9_giftsFor 13 = .ok (.iconst 0, 1) := by decide +kernel
theorem dX9_giftsFor_14 : decode cX9_giftsFor 14 = .ok (.goto 9, 3) := by decide +kernel
theorem dX9_giftsFor_17 : decode cX9_giftsFor 17 = .ok (.iload_n 3, 1) := by decide +kernel
theorem dX9_giftsFor_18 : decode cX9_giftsFor 18 = .ok (.iconst 1, 1) := by decide +kernel
theorem dX9_giftsFor_19 : decode cX9_giftsFor 19 = .ok (.isub, 1) := by decide +kernel
theorem dX9_giftsFor_20 : decode cX9_giftsFor 20 = .ok (.iload 4, 2) := by decide +kernel
theorem dX9_giftsFor_22 : decode cX9_giftsFor 22 = .ok (.isub, 1) := by decide +kernel
theorem dX9_giftsFor_23 : decode cX9_giftsFor 23 = .ok (.istore 5, 2) := by decide +kernel
theorem dX9_giftsFor_25 : decode cX9_giftsFor 25 = .ok (.iload 5, 2) := by decide +kernel
theorem dX9_giftsFor_27 : decode cX9_giftsFor 27 = .ok (.ifCond .ge 7, 3) := by decide +kernel
theorem dX9_giftsFor_30 : decode cX9_giftsFor 30 = .ok (.iconst 0, 1) := by decide +kernel
theorem dX9_giftsFor_31 : decode cX9_giftsFor 31 = .ok (.goto 5, 3) := by decide +kernel
theorem dX9_giftsFor_34 : decode cX9_giftsFor 34 = .ok (.iload 5, 2) := by decide +kernel
theorem dX9_giftsFor_36 : decode cX9_giftsFor 36 = .ok (.ireturn, 1) := by decide +kernel
theorem dX9_pollOf_0 : decode cX9_pollOf 0 = .ok (.iconst 0, 1) := by decide +kernel
theorem dX9_pollOf_1 : decode cX9_pollOf 1 = .ok (.istore 4, 2) := by decide +kernel
theorem dX9_pollOf_3 : decode cX9_pollOf 3 = .ok (.iload_n 3, 1) := by decide +kernel
theorem dX9_pollOf_4 : decode cX9_pollOf 4 = .ok (.istore 5, 2) := by decide +kernel
theorem dX9_pollOf_6 : decode cX9_pollOf 6 = .ok (.iconst 0, 1) := by decide +kernel
theorem dX9_pollOf_7 : decode cX9_pollOf 7 = .ok (.istore 6, 2) := by decide +kernel
theorem dX9_pollOf_9 : decode cX9_pollOf 9 = .ok (.iload 6, 2) := by decide +kernel
theorem dX9_pollOf_11 : decode cX9_pollOf 11 = .ok (.aload_n 0, 1) := by decide +kernel
theorem dX9_pollOf_12 : decode cX9_pollOf 12 = .ok (.getfield 7, 3) := by decide +kernel
theorem dX9_pollOf_15 : decode cX9_pollOf 15 = .ok (.iconst 3, 1) := by decide +kernel
theorem dX9_pollOf_16 : decode cX9_pollOf 16 = .ok (.iaload, 1) := by decide +kernel
theorem dX9_pollOf_17 : decode cX9_pollOf 17 = .ok (.if_icmp .ge 127, 3) := by decide +kernel
theorem dX9_pollOf_20 : decode cX9_pollOf 20 = .ok (.iload 6, 2) := by decide +kernel
theorem dX9_pollOf_22 : decode cX9_pollOf 22 = .ok (.iload_n 1, 1) := by decide +kernel
theorem dX9_pollOf_23 : decode cX9_pollOf 23 = .ok (.if_icmp .ne 7, 3) := by decide +kernel
theorem dX9_pollOf_26 : decode cX9_pollOf 26 = .ok (.iconst 0, 1) := by decide +kernel
theorem dX9_pollOf_27 : decode cX9_pollOf 27 = .ok (.goto 14, 3) := by decide +kernel
theorem dX9_pollOf_30 : decode cX9_pollOf 30 = .ok (.aload_n 0, 1) := by decide +kernel
theorem dX9_pollOf_31 : decode cX9_pollOf 31 = .ok (.iload 6, 2) := by decide +kernel
theorem dX9_pollOf_33 : decode cX9_pollOf 33 = .ok (.iload_n 1, 1) := by decide +kernel
theorem dX9_pollOf_34 : decode cX9_pollOf 34 = .ok (.iload 5, 2) := by decide +kernel
theorem dX9_pollOf_36 : decode cX9_pollOf 36 = .ok (.iconst 3, 1) := by decide +kernel
theorem dX9_pollOf_37 : decode cX9_pollOf 37 = .ok (.irem, 1) := by decide +kernel
theorem dX9_pollOf_38 : decode cX9_pollOf 38 = .ok (.invokevirtual 223, 3) := by decide +kernel
theorem dX9_pollOf_41 : decode cX9_pollOf 41 = .ok (.istore 7, 2) := by decide +kernel
theorem dX9_pollOf_43 : decode cX9_pollOf 43 = .ok (.aload_n 0, 1) := by decide +kernel
theorem dX9_pollOf_44 : decode cX9_pollOf 44 = .ok (.iconst 0, 1) := by decide +kernel
theorem dX9_pollOf_45 : decode cX9_pollOf 45 = .ok (.iload 6, 2) := by decide +kernel
theorem dX9_pollOf_47 : decode cX9_pollOf 47 = .ok (.iload_n 1, 1) := by decide +kernel
theorem dX9_pollOf_48 : decode cX9_pollOf 48 = .ok (.invokevirtual 142, 3) := by decide +kernel
theorem dX9_pollOf_51 : decode cX9_pollOf 51 = .ok (.iload 7, 2) := by decide +kernel
theorem dX9_pollOf_53 : decode cX9_pollOf 53 = .ok (.iadd, 1) := by decide +kernel
theorem dX9_pollOf_54 : decode cX9_pollOf 54 = .ok (.istore 8, 2) := by decide +kernel
theorem dX9_pollOf_56 : decode cX9_pollOf 56 = .ok (.iload 8, 2) := by decide +kernel
theorem dX9_pollOf_58 : decode cX9_pollOf 58 = .ok (.ifCond .ge 21, 3) := by decide +kernel
theorem dX9_pollOf_61 : decode cX9_pollOf 61 = .ok (.aload_n 0, 1) := by decide +kernel
theorem dX9_pollOf_62 : decode cX9_pollOf 62 = .ok (.getfield 7, 3) := by decide +kernel
theorem dX9_pollOf_65 : decode cX9_pollOf 65 = .ok (.bipush 18, 2) := by decide +kernel
theorem dX9_pollOf_67 : decode cX9_pollOf 67 = .ok (.iload 6, 2) := by decide +kernel
theorem dX9_pollOf_69 : decode cX9_pollOf 69 = .ok (.iadd, 1) := by decide +kernel
theorem dX9_pollOf_70 : decode cX9_pollOf 70 = .ok (.iaload, 1) := by decide +kernel
theorem dX9_pollOf_71 : decode cX9_pollOf 71 = .ok (.iconst 5, 1) := by decide +kernel
theorem dX9_pollOf_72 : decode cX9_pollOf 72 = .ok (.if_icmp .ne 7, 3) := by decide +kernel
theorem dX9_pollOf_75 : decode cX9_pollOf 75 = .ok (.iconst 0, 1) := by decide +kernel
theorem dX9_pollOf_76 : decode cX9_pollOf 76 = .ok (.goto 5, 3) := by decide +kernel
theorem dX9_pollOf_79 : decode cX9_pollOf 79 = .ok (.iload 8, 2) := by decide +kernel
theorem dX9_pollOf_81 : decode cX9_pollOf 81 = .ok (.istore 8, 2) := by decide +kernel
theorem dX9_pollOf_83 : decode cX9_pollOf 83 = .ok (.iload 4, 2) := by decide +kernel
theorem dX9_pollOf_85 : decode cX9_pollOf 85 = .ok (.iload 6, 2) := by decide +kernel
theorem dX9_pollOf_87 : decode cX9_pollOf 87 = .ok (.iload_n 1, 1) := by decide +kernel
theorem dX9_pollOf_88 : decode cX9_pollOf 88 = .ok (.if_icmp .ne 7, 3) := by decide +kernel
theorem dX9_pollOf_91 : decode cX9_pollOf 91 = .ok (.iconst 0, 1) := by decide +kernel
theorem dX9_pollOf_92 : decode cX9_pollOf 92 = .ok (.goto 37, 3) := by decide +kernel
theorem dX9_pollOf_95 : decode cX9_pollOf 95 = .ok (.iload 8, 2) := by decide +kernel
theorem dX9_pollOf_97 : decode cX9_pollOf 97 = .ok (.ifCond .le 14, 3) := by decide +kernel
theorem dX9_pollOf_100 : decode cX9_pollOf 100 = .ok (.aload_n 0, 1) := by decide +kernel
theorem dX9_pollOf_101 : decode cX9_pollOf 101 = .ok (.iconst 0, 1) := by decide +kernel
theorem dX9_pollOf_102 : decode cX9_pollOf 102 = .ok (.iload 6, 2) := by decide +kernel
theorem dX9_pollOf_104 : decode cX9_pollOf 104 = .ok (.iload_n 2, 1) := by decide +kernel
theorem dX9_pollOf_105 : decode cX9_pollOf 105 = .ok (.invokevirtual 151, 3) := by decide +kernel
theorem dX9_pollOf_108 : decode cX9_pollOf 108 = .ok (.goto 21, 3) := by decide +kernel
theorem dX9_pollOf_111 : decode cX9_pollOf 111 = .ok (.iload 8, 2) := by decide +kernel
theorem dX9_pollOf_113 : decode cX9_pollOf 113 = .ok (.ifCond .ge 15, 3) := by decide +kernel
theorem dX9_pollOf_116 : decode cX9_pollOf 116 = .ok (.aload_n 0, 1) := by decide +kernel
theorem dX9_pollOf_117 : decode cX9_pollOf 117 = .ok (.iconst 0, 1) := by decide +kernel
theorem dX9_pollOf_118 : decode cX9_pollOf 118 = .ok (.iload 6, 2) := by decide +kernel
theorem dX9_pollOf_120 : decode cX9_pollOf 120 = .ok (.iload_n 2, 1) := by decide +kernel
theorem dX9_pollOf_121 : decode cX9_pollOf 121 = .ok (.invokevirtual 151, 3) := by decide +kernel
theorem dX9_pollOf_124 : decode cX9_pollOf 124 = .ok (.ineg, 1) := by decide +kernel
theorem dX9_pollOf_125 : decode cX9_pollOf 125 = .ok (.goto 4, 3) := by decide +kernel
theorem dX9_pollOf_128 : decode cX9_pollOf 128 = .ok (.iconst 0, 1) := by decide +kernel
theorem dX9_pollOf_129 : decode cX9_pollOf 129 = .ok (.iadd, 1) := by decide +kernel
theorem dX9_pollOf_130 : decode cX9_pollOf 130 = .ok (.istore 4, 2) := by decide +kernel
theorem dX9_pollOf_132 : decode cX9_pollOf 132 = .ok (.iload 5, 2) := by decide +kernel
theorem dX9_pollOf_134 : decode cX9_pollOf 134 = .ok (.iconst 3, 1) := by decide +kernel
theorem dX9_pollOf_135 : decode cX9_pollOf 135 = .ok (.idiv, 1) := by decide +kernel
theorem dX9_pollOf_136 : decode cX9_pollOf 136 = .ok (.istore 5, 2) := by decide +kernel
theorem dX9_pollOf_138 : decode cX9_pollOf 138 = .ok (.iinc 6 1, 3) := by decide +kernel
theorem dX9_pollOf_141 : decode cX9_pollOf 141 = .ok (.goto (-132), 3) := by decide +kernel
theorem dX9_pollOf_144 : decode cX9_pollOf 144 = .ok (.iload 4, 2) := by decide +kernel
theorem dX9_pollOf_146 : decode cX9_pollOf 146 = .ok (.ireturn, 1) := by decide +kernel
theorem dX9_layTaken_0 : decode cX9_layTaken 0 = .ok (.aload_n 0, 1) := by decide +kernel
theorem dX9_layTaken_1 : decode cX9_layTaken 1 = .ok (.iconst 0, 1) := by decide +kernel
theorem dX9_layTaken_2 : decode cX9_layTaken 2 = .ok (.putfield 226, 3) := by decide +kernel
theorem dX9_layTaken_5 : decode cX9_layTaken 5 = .ok (.aload_n 0, 1) := by decide +kernel
theorem dX9_layTaken_6 : decode cX9_layTaken 6 = .ok (.iconst 0, 1) := by decide +kernel
theorem dX9_layTaken_7 : decode cX9_layTaken 7 = .ok (.putfield 229, 3) := by decide +kernel
theorem dX9_layTaken_10 : decode cX9_layTaken 10 = .ok (.iload_n 2, 1) := by decide +kernel
theorem dX9_layTaken_11 : decode cX9_layTaken 11 = .ok (.istore_n 3, 1) := by decide +kernel
theorem dX9_layTaken_12 : decode cX9_layTaken 12 = .ok (.iconst 0, 1) := by decide +kernel
theorem dX9_layTaken_13 : decode cX9_layTaken 13 = .ok (.istore 4, 2) := by decide +kernel
theorem dX9_layTaken_15 : decode cX9_layTaken 15 = .ok (.iload 4, 2) := by decide +kernel
theorem dX9_layTaken_17 : decode cX9_layTaken 17 = .ok (.aload_n 0, 1) := by decide +kernel
theorem dX9_layTaken_18 : decode cX9_layTaken 18 = .ok (.getfield 7, 3) := by decide +kernel
theorem dX9_layTaken_21 : decode cX9_layTaken 21 = .ok (.iconst 3, 1) := by decide +kernel
theorem dX9_layTaken_22 : decode cX9_layTaken 22 = .ok (.iaload, 1) := by decide +kernel
theorem dX9_layTaken_23 : decode cX9_layTaken 23 = .ok (.if_icmp .ge 81, 3) := by decide +kernel
theorem dX9_layTaken_26 : decode cX9_layTaken 26 = .ok (.iload 4, 2) := by decide +kernel
theorem dX9_layTaken_28 : decode cX9_layTaken 28 = .ok (.iload_n 1, 1) := by decide +kernel
theorem dX9_layTaken_29 : decode cX9_layTaken 29 = .ok (.if_icmp .ne 7, 3) := by decide +kernel
theorem dX9_layTaken_32 : decode cX9_layTaken 32 = .ok (.iconst 0, 1) := by decide +kernel
theorem dX9_layTaken_33 : decode cX9_layTaken 33 = .ok (.goto 13, 3) := by decide +kernel
theorem dX9_layTaken_36 : decode cX9_layTaken 36 = .ok (.aload_n 0, 1) := by decide +kernel
theorem dX9_layTaken_37 : decode cX9_layTaken 37 = .ok (.iload 4, 2) := by decide +kernel
theorem dX9_layTaken_39 : decode cX9_layTaken 39 = .ok (.iload_n 1, 1) := by decide +kernel
theorem dX9_layTaken_40 : decode cX9_layTaken 40 = .ok (.iload_n 3, 1) := by decide +kernel
theorem dX9_layTaken_41 : decode cX9_layTaken 41 = .ok (.iconst 3, 1) := by decide +kernel
theorem dX9_layTaken_42 : decode cX9_layTaken 42 = .ok (.irem, 1) := by decide +kernel
theorem dX9_layTaken_43 : decode cX9_layTaken 43 = .ok (.invokevirtual 223, 3) := by decide +kernel
theorem dX9_layTaken_46 : decode cX9_layTaken 46 = .ok (.istore 5, 2) := by decide +kernel
theorem dX9_layTaken_48 : decode cX9_layTaken 48 = .ok (.aload_n 0, 1) := by decide +kernel
theorem dX9_layTaken_49 : decode cX9_layTaken 49 = .ok (.dup, 1) := by decide +kernel
theorem dX9_layTaken_50 : decode cX9_layTaken 50 = .ok (.getfield 226, 3) := by decide +kernel
theorem dX9_layTaken_53 : decode cX9_layTaken 53 = .ok (.iload 5, 2) := by decide +kernel
theorem dX9_layTaken_55 : decode cX9_layTaken 55 = .ok (.bipush 20, 2) := by decide +kernel
theorem dX9_layTaken_57 : decode cX9_layTaken 57 = .ok (.if_icmp .le 9, 3) := by decide +kernel
theorem dX9_layTaken_60 : decode cX9_layTaken 60 = .ok (.sipush 1000, 3) := by decide +kernel
theorem dX9_layTaken_63 : decode cX9_layTaken 63 = .ok (.goto 5, 3) := by decide +kernel
theorem dX9_layTaken_66 : decode cX9_layTaken 66 = .ok (.iload 5, 2) := by decide +kernel
theorem dX9_layTaken_68 : decode cX9_layTaken 68 = .ok (.iadd, 1) := by decide +kernel
theorem dX9_layTaken_69 : decode cX9_layTaken 69 = .ok (.putfield 226, 3) := by decide +kernel
theorem dX9_layTaken_72 : decode cX9_layTaken 72 = .ok (.aload_n 0, 1) := by decide +kernel
theorem dX9_layTaken_73 : decode cX9_layTaken 73 = .ok (.dup, 1) := by decide +kernel
theorem dX9_layTaken_74 : decode cX9_layTaken 74 = .ok (.getfield 229, 3) := by decide +kernel
theorem dX9_layTaken_77 : decode cX9_layTaken 77 = .ok (.iload 5, 2) := by decide +kernel
theorem dX9_layTaken_79 : decode cX9_layTaken 79 = .ok (.ifCond .le 10, 3) := by decide +kernel
theorem dX9_layTaken_82 : decode cX9_layTaken 82 = .ok (.iconst 1, 1) := by decide +kernel
theorem dX9_layTaken_83 : decode cX9_layTaken 83 = .ok (.iload 4, 2) := by decide +kernel
theorem dX9_layTaken_85 : decode cX9_layTaken 85 = .ok (.ishl, 1) := by decide +kernel
theorem dX9_layTaken_86 : decode cX9_layTaken 86 = .ok (.goto 4, 3) := by decide +kernel
theorem dX9_layTaken_89 : decode cX9_layTaken 89 = .ok (.iconst 0, 1) := by decide +kernel
theorem dX9_layTaken_90 : decode cX9_layTaken 90 = .ok (.ior, 1) := by decide +kernel
theorem dX9_layTaken_91 : decode cX9_layTaken 91 = .ok (.putfield 229, 3) := by decide +kernel
theorem dX9_layTaken_94 : decode cX9_layTaken 94 = .ok (.iload_n 3, 1) := by decide +kernel
theorem dX9_layTaken_95 : decode cX9_layTaken 95 = .ok (.iconst 3, 1) := by decide +kernel
theorem dX9_layTaken_96 : decode cX9_layTaken 96 = .ok (.idiv, 1) := by decide +kernel
theorem dX9_layTaken_97 : decode cX9_layTaken 97 = .ok (.istore_n 3, 1) := by decide +kernel
theorem dX9_layTaken_98 : decode cX9_layTaken 98 = .ok (.iinc 4 1, 3) := by decide +kernel
theorem dX9_layTaken_101 : decode cX9_layTaken 101 = .ok (.goto (-86), 3) := by decide +kernel
theorem dX9_layTaken_104 : decode cX9_layTaken 104 = .ok (.return_, 1) := by decide +kernel
theorem dX9_gifts_0 : decode cX9_gifts 0 = .ok (.aload_n 0, 1) := by decide +kernel
theorem dX9_gifts_1 : decode cX9_gifts 1 = .ok (.iload_n 1, 1) := by decide +kernel
theorem dX9_gifts_2 : decode cX9_gifts 2 = .ok (.invokevirtual 171, 3) := by decide +kernel
theorem dX9_gifts_5 : decode cX9_gifts 5 = .ok (.ifCond .eq 21, 3) := by decide +kernel
theorem dX9_gifts_8 : decode cX9_gifts 8 = .ok (.aload_n 0, 1) := by decide +kernel
theorem dX9_gifts_9 : decode cX9_gifts 9 = .ok (.iload_n 2, 1) := by decide +kernel
theorem dX9_gifts_10 : decode cX9_gifts 10 = .ok (.invokevirtual 174, 3) := by decide +kernel
theorem dX9_gifts_13 : decode cX9_gifts 13 = .ok (.ifCond .eq 13, 3) := by decide +kernel
theorem dX9_gifts_16 : decode cX9_gifts 16 = .ok (.iload_n 3, 1) := by decide +kernel
theorem dX9_gifts_17 : decode cX9_gifts 17 = .ok (.i2l, 1) := by decide +kernel
theorem dX9_gifts_18 : decode cX9_gifts 18 = .ok (.lconst 0, 1) := by decide +kernel
theorem dX9_gifts_19 : decode cX9_gifts 19 = .ok (.lconst 1, 1) := by decide +kernel
theorem dX9_gifts_20 : decode cX9_gifts 20 = .ok (.invokestatic 39, 3) := by decide +kernel
theorem dX9_gifts_23 : decode cX9_gifts 23 = .ok (.ifCond .ne 6, 3) := by decide +kernel
theorem dX9_gifts_26 : decode cX9_gifts 26 = .ok (.ldc 49, 2) := by decide +kernel
theorem dX9_gifts_28 : decode cX9_gifts 28 = .ok (.ireturn, 1) := by decide +kernel
theorem dX9_gifts_29 : decode cX9_gifts 29 = .ok (.aload_n 0, 1) := by decide +kernel
theorem dX9_gifts_30 : decode cX9_gifts 30 = .ok (.iconst 0, 1) := by decide +kernel
theorem dX9_gifts_31 : decode cX9_gifts 31 = .ok (.iload_n 1, 1) := by decide +kernel
theorem dX9_gifts_32 : decode cX9_gifts 32 = .ok (.iload_n 2, 1) := by decide +kernel
theorem dX9_gifts_33 : decode cX9_gifts 33 = .ok (.invokevirtual 161, 3) := by decide +kernel
theorem dX9_gifts_36 : decode cX9_gifts 36 = .ok (.ifCond .eq 5, 3) := by decide +kernel
theorem dX9_gifts_39 : decode cX9_gifts 39 = .ok (.iconst 0, 1) := by decide +kernel
theorem dX9_gifts_40 : decode cX9_gifts 40 = .ok (.ireturn, 1) := by decide +kernel
theorem dX9_gifts_41 : decode cX9_gifts 41 = .ok (.bipush 41, 2) := by decide +kernel
theorem dX9_gifts_43 : decode cX9_gifts 43 = .ok (.istore 4, 2) := by decide +kernel
theorem dX9_gifts_45 : decode cX9_gifts 45 = .ok (.ldc 106, 2) := by decide +kernel
theorem dX9_gifts_47 : decode cX9_gifts 47 = .ok (.istore 5, 2) := by decide +kernel
theorem dX9_gifts_49 : decode cX9_gifts 49 = .ok (.iconst 0, 1) := by decide +kernel
theorem dX9_gifts_50 : decode cX9_gifts 50 = .ok (.istore 6, 2) := by decide +kernel
theorem dX9_gifts_52 : decode cX9_gifts 52 = .ok (.iload 6, 2) := by decide +kernel
theorem dX9_gifts_54 : decode cX9_gifts 54 = .ok (.sipush 729, 3) := by decide +kernel
theorem dX9_gifts_57 : decode cX9_gifts 57 = .ok (.if_icmp .ge 102, 3) := by decide +kernel
theorem dX9_gifts_60 : decode cX9_gifts 60 = .ok (.aload_n 0, 1) := by decide +kernel
theorem dX9_gifts_61 : decode cX9_gifts 61 = .ok (.iload_n 1, 1) := by decide +kernel
theorem dX9_gifts_62 : decode cX9_gifts 62 = .ok (.iload_n 2, 1) := by decide +kernel
theorem dX9_gifts_63 : decode cX9_gifts 63 = .ok (.iload 6, 2) := by decide +kernel
theorem dX9_gifts_65 : decode cX9_gifts 65 = .ok (.invokevirtual 232, 3) := by decide +kernel
theorem dX9_gifts_68 : decode cX9_gifts 68 = .ok (.ifCond .le 85, 3) := by decide +kernel
theorem dX9_gifts_71 : decode cX9_gifts 71 = .ok (.aload_n 0, 1) := by decide +kernel
theorem dX9_gifts_72 : decode cX9_gifts 72 = .ok (.iload_n 1, 1) := by decide +kernel
theorem dX9_gifts_73 : decode cX9_gifts 73 = .ok (.iload 6, 2) := by decide +kernel
theorem dX9_gifts_75 : decode cX9_gifts 75 = .ok (.invokevirtual 235, 3) := by decide +kernel
theorem dX9_gifts_78 : decode cX9_gifts 78 = .ok (.aload_n 0, 1) := by decide +kernel
theorem dX9_gifts_79 : decode cX9_gifts 79 = .ok (.getfield 226, 3) := by decide +kernel
theorem dX9_gifts_82 : decode cX9_gifts 82 = .ok (.iload 4, 2) := by decide +kernel
theorem dX9_gifts_84 : decode cX9_gifts 84 = .ok (.if_icmp .lt 30, 3) := by decide +kernel
theorem dX9_gifts_87 : decode cX9_gifts 87 = .ok (.aload_n 0, 1) := by decide +kernel
theorem dX9_gifts_88 : decode cX9_gifts 88 = .ok (.getfield 226, 3) := by decide +kernel
theorem dX9_gifts_91 : decode cX9_gifts 91 = .ok (.iload 4, 2) := by decide +kernel
theorem dX9_gifts_93 : decode cX9_gifts 93 = .ok (.if_icmp .ne 25, 3) := by decide +kernel
theorem dX9_gifts_96 : decode cX9_gifts 96 = .ok (.aload_n 0, 1) := by decide +kernel
theorem dX9_gifts_97 : decode cX9_gifts 97 = .ok (.getfield 226, 3) := by decide +kernel
theorem dX9_gifts_100 : decode cX9_gifts 100 = .ok (.bipush 41, 2) := by decide +kernel
theorem dX9_gifts_102 : decode cX9_gifts 102 = .ok (.if_icmp .ge 16, 3) := by decide +kernel
theorem dX9_gifts_105 : decode cX9_gifts 105 = .ok (.aload_n 0, 1) := by decide +kernel
theorem dX9_gifts_106 : decode cX9_gifts 106 = .ok (.getfield 229, 3) := by decide +kernel
theorem dX9_gifts_109 : decode cX9_gifts 109 = .ok (.iload 5, 2) := by decide +kernel
theorem dX9_gifts_111 : decode cX9_gifts 111 = .ok (.if_icmp .ge 7, 3) := by decide +kernel
theorem dX9_gifts_114 : decode cX9_gifts 114 = .ok (.iconst 1, 1) := by decide +kernel
theorem dX9_gifts_115 : decode cX9_gifts 115 = .ok (.goto 4, 3) := by decide +kernel
theorem dX9_gifts_118 : decode cX9_gifts 118 = .ok (.iconst 0, 1) := by decide +kernel
theorem dX9_gifts_119 : decode cX9_gifts 119 = .ok (.istore 7, 2) := by decide +kernel
theorem dX9_gifts_121 : decode cX9_gifts 121 = .ok (.iload 7, 2) := by decide +kernel
theorem dX9_gifts_123 : decode cX9_gifts 123 = .ok (.ifCond .eq 10, 3) := by decide +kernel
theorem dX9_gifts_126 : decode cX9_gifts 126 = .ok (.aload_n 0, 1) := by decide +kernel
theorem dX9_gifts_127 : decode cX9_gifts 127 = .ok (.getfield 229, 3) := by decide +kernel
theorem dX9_gifts_130 : decode cX9_gifts 130 = .ok (.goto 5, 3) := by decide +kernel
theorem dX9_gifts_133 : decode cX9_gifts 133 = .ok (.iload 5, 2) := by decide +kernel
theorem dX9_gifts_135 : decode cX9_gifts 135 = .ok (.istore 5, 2) := by decide +kernel
theorem dX9_gifts_137 : decode cX9_gifts 137 = .ok (.iload 7, 2) := by decide +kernel
theorem dX9_gifts_139 : decode cX9_gifts 139 = .ok (.ifCond .eq 10, 3) := by decide +kernel
theorem dX9_gifts_142 : decode cX9_gifts 142 = .ok (.aload_n 0, 1) := by decide +kernel
theorem dX9_gifts_143 : decode cX9_gifts 143 = .ok (.getfield 226, 3) := by decide +kernel
theorem dX9_gifts_146 : decode cX9_gifts 146 = .ok (.goto 5, 3) := by decide +kernel
theorem dX9_gifts_149 : decode cX9_gifts 149 = .ok (.iload 4, 2) := by decide +kernel
theorem dX9_gifts_151 : decode cX9_gifts 151 = .ok (.istore 4, 2) := by decide +kernel
theorem dX9_gifts_153 : decode cX9_gifts 153 = .ok (.iinc 6 1, 3) := by decide +kernel
theorem dX9_gifts_156 : decode cX9_gifts 156 = .ok (.goto (-104), 3) := by decide +kernel
theorem dX9_gifts_159 : decode cX9_gifts 159 = .ok (.iload 5, 2) := by decide +kernel
theorem dX9_gifts_161 : decode cX9_gifts 161 = .ok (.ldc 106, 2) := by decide +kernel
theorem dX9_gifts_163 : decode cX9_gifts 163 = .ok (.if_icmp .ne 8, 3) := by decide +kernel
theorem dX9_gifts_166 : decode cX9_gifts 166 = .ok (.ldc 106, 2) := by decide +kernel
theorem dX9_gifts_168 : decode cX9_gifts 168 = .ok (.goto 14, 3) := by decide +kernel
theorem dX9_gifts_171 : decode cX9_gifts 171 = .ok (.iload_n 3, 1) := by decide +kernel
theorem dX9_gifts_172 : decode cX9_gifts 172 = .ok (.ifCond .ne 8, 3) := by decide +kernel
theorem dX9_gifts_175 : decode cX9_gifts 175 = .ok (.iload 4, 2) := by decide +kernel
theorem dX9_gifts_177 : decode cX9_gifts 177 = .ok (.goto 5, 3) := by decide +kernel
theorem dX9_gifts_180 : decode cX9_gifts 180 = .ok (.iload 5, 2) := by decide +kernel
theorem dX9_gifts_182 : decode cX9_gifts 182 = .ok (.ireturn, 1) := by decide +kernel
theorem dX9_parade_0 : decode cX9_parade 0 = .ok (.aload_n 0, 1) := by decide +kernel
theorem dX9_parade_1 : decode cX9_parade 1 = .ok (.iload_n 1, 1) := by decide +kernel
theorem dX9_parade_2 : decode cX9_parade 2 = .ok (.invokevirtual 171, 3) := by decide +kernel
theorem dX9_parade_5 : decode cX9_parade 5 = .ok (.ifCond .eq 21, 3) := by decide +kernel
theorem dX9_parade_8 : decode cX9_parade 8 = .ok (.aload_n 0, 1) := by decide +kernel
theorem dX9_parade_9 : decode cX9_parade 9 = .ok (.iload_n 2, 1) := by decide +kernel
theorem dX9_parade_10 : decode cX9_parade 10 = .ok (.invokevirtual 174, 3) := by decide +kernel
theorem dX9_parade_13 : decode cX9_parade 13 = .ok (.ifCond .eq 13, 3) := by decide +kernel
theorem dX9_parade_16 : decode cX9_parade 16 = .ok (.iload_n 3, 1) := by decide +kernel
theorem dX9_parade_17 : decode cX9_parade 17 = .ok (.i2l, 1) := by decide +kernel
theorem dX9_parade_18 : decode cX9_parade 18 = .ok (.lconst 0, 1) := by decide +kernel
theorem dX9_parade_19 : decode cX9_parade 19 = .ok (.lconst 1, 1) := by decide +kernel
theorem dX9_parade_20 : decode cX9_parade 20 = .ok (.invokestatic 39, 3) := by decide +kernel
theorem dX9_parade_23 : decode cX9_parade 23 = .ok (.ifCond .ne 6, 3) := by decide +kernel
theorem dX9_parade_26 : decode cX9_parade 26 = .ok (.ldc 49, 2) := by decide +kernel
theorem dX9_parade_28 : decode cX9_parade 28 = .ok (.ireturn, 1) := by decide +kernel
theorem dX9_parade_29 : decode cX9_parade 29 = .ok (.ldc 106, 2) := by decide +kernel
theorem dX9_parade_31 : decode cX9_parade 31 = .ok (.istore 4, 2) := by decide +kernel
theorem dX9_parade_33 : decode cX9_parade 33 = .ok (.iconst 0, 1) := by decide +kernel
theorem dX9_parade_34 : decode cX9_parade 34 = .ok (.istore 5, 2) := by decide +kernel
theorem dX9_parade_36 : decode cX9_parade 36 = .ok (.iload 5, 2) := by decide +kernel
theorem dX9_parade_38 : decode cX9_parade 38 = .ok (.iconst 1, 1) := by decide +kernel
theorem dX9_parade_39 : decode cX9_parade 39 = .ok (.aload_n 0, 1) := by decide +kernel
theorem dX9_parade_40 : decode cX9_parade 40 = .ok (.getfield 7, 3) := by decide +kernel
theorem dX9_parade_43 : decode cX9_parade 43 = .ok (.iconst 3, 1) := by decide +kernel
theorem dX9_parade_44 : decode cX9_parade 44 = .ok (.iaload, 1) := by decide +kernel
theorem dX9_parade_45 : decode cX9_parade 45 = .ok (.ishl, 1) := by decide +kernel
theorem dX9_parade_46 : decode cX9_parade 46 = .ok (.if_icmp .ge 107, 3) := by decide +kernel
theorem dX9_parade_49 : decode cX9_parade 49 = .ok (.iload 5, 2) := by decide +kernel
theorem dX9_parade_51 : decode cX9_parade 51 = .ok (.iload_n 1, 1) := by decide +kernel
theorem dX9_parade_52 : decode cX9_parade 52 = .ok (.invokestatic 103, 3) := by decide +kernel
theorem dX9_parade_55 : decode cX9_parade 55 = .ok (.ifCond .ne 92, 3) := by decide +kernel
theorem dX9_parade_58 : decode cX9_parade 58 = .ok (.iload 4, 2) := by decide +kernel
theorem dX9_parade_60 : decode cX9_parade 60 = .ok (.ldc 106, 2) := by decide +kernel
theorem dX9_parade_62 : decode cX9_parade 62 = .ok (.if_icmp .eq 16, 3) := by decide +kernel
theorem dX9_parade_65 : decode cX9_parade 65 = .ok (.iload 5, 2) := by decide +kernel
theorem dX9_parade_67 : decode cX9_parade 67 = .ok (.invokestatic 220, 3) := by decide +kernel
theorem dX9_parade_70 : decode cX9_parade 70 = .ok (.iload 4, 2) := by decide +kernel
theorem dX9_parade_72 : decode cX9_parade 72 = .ok (.invokestatic 220, 3) := by decide +kernel
theorem dX9_parade_75 : decode cX9_parade 75 = .ok (.if_icmp .ge 72, 3) := by decide +kernel
theorem dX9_parade_78 : decode cX9_parade 78 = .ok (.aload_n 0, 1) := by decide +kernel
theorem dX9_parade_79 : decode cX9_parade 79 = .ok (.iconst 0, 1) := by decide +kernel
theorem dX9_parade_80 : decode cX9_parade 80 = .ok (.sipush 3402, 3) := by decide +kernel
theorem dX9_parade_83 : decode cX9_parade 83 = .ok (.invokevirtual 127, 3) := by decide +kernel
theorem dX9_parade_86 : decode cX9_parade 86 = .ok (.iconst 0, 1) := by decide +kernel
theorem dX9_parade_87 : decode cX9_parade 87 = .ok (.istore 6, 2) := by decide +kernel
theorem dX9_parade_89 : decode cX9_parade 89 = .ok (.iload 6, 2) := by decide +kernel
theorem dX9_parade_91 : decode cX9_parade 91 = .ok (.aload_n 0, 1) := by decide +kernel
theorem dX9_parade_92 : decode cX9_parade 92 = .ok (.getfield 7, 3) := by decide +kernel
theorem dX9_parade_95 : decode cX9_parade 95 = .ok (.iconst 3, 1) := by decide +kernel
theorem dX9_parade_96 : decode cX9_parade 96 = .ok (.iaload, 1) := by decide +kernel
theorem dX9_parade_97 : decode cX9_parade 97 = .ok (.if_icmp .ge 29, 3) := by decide +kernel
theorem dX9_parade_100 : decode cX9_parade 100 = .ok (.iload 5, 2) := by decide +kernel
theorem dX9_parade_102 : decode cX9_parade 102 = .ok (.iload 6, 2) := by decide +kernel
theorem dX9_parade_104 : decode cX9_parade 104 = .ok (.invokestatic 103, 3) := by decide +kernel
theorem dX9_parade_107 : decode cX9_parade 107 = .ok (.ifCond .eq 13, 3) := by decide +kernel
theorem dX9_parade_110 : decode cX9_parade 110 = .ok (.aload_n 0, 1) := by decide +kernel
theorem dX9_parade_111 : decode cX9_parade 111 = .ok (.sipush 3402, 3) := by decide +kernel
theorem dX9_parade_114 : decode cX9_parade 114 = .ok (.iload 6, 2) := by decide +kernel
theorem dX9_parade_116 : decode cX9_parade 116 = .ok (.iload_n 2, 1) := by decide +kernel
theorem dX9_parade_117 : decode cX9_parade 117 = .ok (.invokevirtual 167, 3) := by decide +kernel
theorem dX9_parade_120 : decode cX9_parade 120 = .ok (.iinc 6 1, 3) := by decide +kernel
theorem dX9_parade_123 : decode cX9_parade 123 = .ok (.goto (-34), 3) := by decide +kernel
theorem dX9_parade_126 : decode cX9_parade 126 = .ok (.aload_n 0, 1) := by decide +kernel
theorem dX9_parade_127 : decode cX9_parade 127 = .ok (.sipush 3402, 3) := by decide +kernel
theorem dX9_parade_130 : decode cX9_parade 130 = .ok (.iload_n 1, 1) := by decide +kernel
theorem dX9_parade_131 : decode cX9_parade 131 = .ok (.iload_n 2, 1) := by decide +kernel
theorem dX9_parade_132 : decode cX9_parade 132 = .ok (.invokevirtual 161, 3) := by decide +kernel
theorem dX9_parade_135 : decode cX9_parade 135 = .ok (.ifCond .eq 8, 3) := by decide +kernel
theorem dX9_parade_138 : decode cX9_parade 138 = .ok (.iload 5, 2) := by decide +kernel
theorem dX9_parade_140 : decode cX9_parade 140 = .ok (.goto 5, 3) := by decide +kernel
theorem dX9_parade_143 : decode cX9_parade 143 = .ok (.iload 4, 2) := by decide +kernel
theorem dX9_parade_145 : decode cX9_parade 145 = .ok (.istore 4, 2) := by decide +kernel
theorem dX9_parade_147 : decode cX9_parade 147 = .ok (.iinc 5 1, 3) := by decide +kernel
theorem dX9_parade_150 : decode cX9_parade 150 = .ok (.goto (-114), 3) := by decide +kernel
theorem dX9_parade_153 : decode cX9_parade 153 = .ok (.iload 4, 2) := by decide +kernel
theorem dX9_parade_155 : decode cX9_parade 155 = .ok (.ldc 106, 2) := by decide +kernel
theorem dX9_parade_157 : decode cX9_parade 157 = .ok (.if_icmp .eq 8, 3) := by decide +kernel
theorem dX9_parade_160 : decode cX9_parade 160 = .ok (.iload_n 3, 1) := by decide +kernel
theorem dX9_parade_161 : decode cX9_parade 161 = .ok (.iconst 1, 1) := by decide +kernel
theorem dX9_parade_162 : decode cX9_parade 162 = .ok (.if_icmp .ne 8, 3) := by decide +kernel
theorem dX9_parade_165 : decode cX9_parade 165 = .ok (.iload 4, 2) := by decide +kernel
theorem dX9_parade_167 : decode cX9_parade 167 = .ok (.goto 8, 3) := by decide +kernel
theorem dX9_parade_170 : decode cX9_parade 170 = .ok (.iload 4, 2) := by decide +kernel
theorem dX9_parade_172 : decode cX9_parade 172 = .ok (.invokestatic 220, 3) := by decide +kernel
theorem dX9_parade_175 : decode cX9_parade 175 = .ok (.ireturn, 1) := by decide +kernel
theorem dX9_newDoor_0 : decode cX9_newDoor 0 = .ok (.aload_n 0, 1) := by decide +kernel
theorem dX9_newDoor_1 : decode cX9_newDoor 1 = .ok (.iload_n 1, 1) := by decide +kernel
theorem dX9_newDoor_2 : decode cX9_newDoor 2 = .ok (.invokevirtual 171, 3) := by decide +kernel
theorem dX9_newDoor_5 : decode cX9_newDoor 5 = .ok (.ifCond .eq 21, 3) := by decide +kernel
theorem dX9_newDoor_8 : decode cX9_newDoor 8 = .ok (.aload_n 0, 1) := by decide +kernel
theorem dX9_newDoor_9 : decode cX9_newDoor 9 = .ok (.iload_n 2, 1) := by decide +kernel
theorem dX9_newDoor_10 : decode cX9_newDoor 10 = .ok (.invokevirtual 189, 3) := by decide +kernel
theorem dX9_newDoor_13 : decode cX9_newDoor 13 = .ok (.ifCond .eq 13, 3) := by decide +kernel
theorem dX9_newDoor_16 : decode cX9_newDoor 16 = .ok (.iload_n 3, 1) := by decide +kernel
theorem dX9_newDoor_17 : decode cX9_newDoor 17 = .ok (.i2l, 1) := by decide +kernel
theorem dX9_newDoor_18 : decode cX9_newDoor 18 = .ok (.lconst 0, 1) := by decide +kernel
theorem dX9_newDoor_19 : decode cX9_newDoor 19 = .ok (.lconst 1, 1) := by decide +kernel
theorem dX9_newDoor_20 : decode cX9_newDoor 20 = .ok (.invokestatic 39, 3) := by decide +kernel
theorem dX9_newDoor_23 : decode cX9_newDoor 23 = .ok (.ifCond .ne 6, 3) := by decide +kernel
theorem dX9_newDoor_26 : decode cX9_newDoor 26 = .ok (.ldc 49, 2) := by decide +kernel
theorem dX9_newDoor_28 : decode cX9_newDoor 28 = .ok (.ireturn, 1) := by decide +kernel
theorem dX9_newDoor_29 : decode cX9_newDoor 29 = .ok (.aload_n 0, 1) := by decide +kernel
theorem dX9_newDoor_30 : decode cX9_newDoor 30 = .ok (.iload_n 1, 1) := by decide +kernel
theorem dX9_newDoor_31 : decode cX9_newDoor 31 = .ok (.invokevirtual 210, 3) := by decide +kernel
theorem dX9_newDoor_34 : decode cX9_newDoor 34 = .ok (.ldc 106, 2) := by decide +kernel
theorem dX9_newDoor_36 : decode cX9_newDoor 36 = .ok (.istore 4, 2) := by decide +kernel
theorem dX9_newDoor_38 : decode cX9_newDoor 38 = .ok (.bipush 99, 2) := by decide +kernel
theorem dX9_newDoor_40 : decode cX9_newDoor 40 = .ok (.istore 5, 2) := by decide +kernel
theorem dX9_newDoor_42 : decode cX9_newDoor 42 = .ok (.iconst 0, 1) := by decide +kernel
theorem dX9_newDoor_43 : decode cX9_newDoor 43 = .ok (.istore 6, 2) := by decide +kernel
theorem dX9_newDoor_45 : decode cX9_newDoor 45 = .ok (.iload 6, 2) := by decide +kernel
theorem dX9_newDoor_47 : decode cX9_newDoor 47 = .ok (.aload_n 0, 1) := by decide +kernel
theorem dX9_newDoor_48 : decode cX9_newDoor 48 = .ok (.getfield 7, 3) := by decide +kernel
theorem dX9_newDoor_51 : decode cX9_newDoor 51 = .ok (.iconst 0, 1) := by decide +kernel
theorem dX9_newDoor_52 : decode cX9_newDoor 52 = .ok (.iaload, 1) := by decide +kernel
theorem dX9_newDoor_53 : decode cX9_newDoor 53 = .ok (.if_icmp .ge 115, 3) := by decide +kernel
theorem dX9_newDoor_56 : decode cX9_newDoor 56 = .ok (.iload 6, 2) := by decide +kernel
theorem dX9_newDoor_58 : decode cX9_newDoor 58 = .ok (.iconst 1, 1) := by decide +kernel
theorem dX9_newDoor_59 : decode cX9_newDoor 59 = .ok (.iadd, 1) := by decide +kernel
theorem dX9_newDoor_60 : decode cX9_newDoor 60 = .ok (.istore 7, 2) := by decide +kernel
theorem dX9_newDoor_62 : decode cX9_newDoor 62 = .ok (.iload 7, 2) := by decide +kernel
theorem dX9_newDoor_64 : decode cX9_newDoor 64 = .ok (.aload_n 0, 1) := by decide +kernel
theorem dX9_newDoor_65 : decode cX9_newDoor 65 = .ok (.getfield 7, 3) := by decide +kernel
theorem dX9_newDoor_68 : decode cX9_newDoor 68 = .ok (.iconst 0, 1) := by decide +kernel
theorem dX9_newDoor_69 : decode cX9_newDoor 69 = .ok (.iaload, 1) := by decide +kernel
theorem dX9_newDoor_70 : decode cX9_newDoor 70 = .ok (.if_icmp .ge 92, 3) := by decide +kernel
theorem dX9_newDoor_73 : decode cX9_newDoor 73 = .ok (.aload_n 0, 1) := by decide +kernel
theorem dX9_newDoor_74 : decode cX9_newDoor 74 = .ok (.iload 6, 2) := by decide +kernel
theorem dX9_newDoor_76 : decode cX9_newDoor 76 = .ok (.putfield 201, 3) := by decide +kernel
theorem dX9_newDoor_79 : decode cX9_newDoor 79 = .ok (.aload_n 0, 1) := by decide +kernel
theorem dX9_newDoor_80 : decode cX9_newDoor 80 = .ok (.iload 7, 2) := by decide +kernel
theorem dX9_newDoor_82 : decode cX9_newDoor 82 = .ok (.putfield 204, 3) := by decide +kernel
theorem dX9_newDoor_85 : decode cX9_newDoor 85 = .ok (.aload_n 0, 1) := by decide +kernel
theorem dX9_newDoor_86 : decode cX9_newDoor 86 = .ok (.aload_n 0, 1) := by decide +kernel
theorem dX9_newDoor_87 : decode cX9_newDoor 87 = .ok (.getfield 7, 3) := by decide +kernel
theorem dX9_newDoor_90 : decode cX9_newDoor 90 = .ok (.bipush 24, 2) := by decide +kernel
theorem dX9_newDoor_92 : decode cX9_newDoor 92 = .ok (.iload_n 1, 1) := by decide +kernel
theorem dX9_newDoor_93 : decode cX9_newDoor 93 = .ok (.iadd, 1) := by decide +kernel
theorem dX9_newDoor_94 : decode cX9_newDoor 94 = .ok (.iaload, 1) := by decide +kernel
theorem dX9_newDoor_95 : decode cX9_newDoor 95 = .ok (.iload_n 2, 1) := by decide +kernel
theorem dX9_newDoor_96 : decode cX9_newDoor 96 = .ok (.invokevirtual 214, 3) := by decide +kernel
theorem dX9_newDoor_99 : decode cX9_newDoor 99 = .ok (.istore 8, 2) := by decide +kernel
theorem dX9_newDoor_101 : decode cX9_newDoor 101 = .ok (.iload 8, 2) := by decide +kernel
theorem dX9_newDoor_103 : decode cX9_newDoor 103 = .ok (.ldc 106, 2) := by decide +kernel
theorem dX9_newDoor_105 : decode cX9_newDoor 105 = .ok (.if_icmp .eq 14, 3) := by decide +kernel
theorem dX9_newDoor_108 : decode cX9_newDoor 108 = .ok (.iload 8, 2) := by decide +kernel
theorem dX9_newDoor_110 : decode cX9_newDoor 110 = .ok (.iload 5, 2) := by decide +kernel
theorem dX9_newDoor_112 : decode cX9_newDoor 112 = .ok (.if_icmp .ge 7, 3) := by decide +kernel
theorem dX9_newDoor_115 : decode cX9_newDoor 115 = .ok (.iconst 1, 1) := by decide +kernel
theorem dX9_newDoor_116 : decode cX9_newDoor 116 = .ok (.goto 4, 3) := by decide +kernel
theorem dX9_newDoor_119 : decode cX9_newDoor 119 = .ok (.iconst 0, 1) := by decide +kernel
theorem dX9_newDoor_120 : decode cX9_newDoor 120 = .ok (.istore 9, 2) := by decide +kernel
theorem dX9_newDoor_122 : decode cX9_newDoor 122 = .ok (.iload 9, 2) := by decide +kernel
theorem dX9_newDoor_124 : decode cX9_newDoor 124 = .ok (.ifCond .eq 14, 3) := by decide +kernel
theorem dX9_newDoor_127 : decode cX9_newDoor 127 = .ok (.bipush 10, 2) := by decide +kernel
theorem dX9_newDoor_129 : decode cX9_newDoor 129 = .ok (.iload 6, 2) := by decide +kernel
theorem dX9_newDoor_131 : decode cX9_newDoor 131 = .ok (.imul, 1) := by decide +kernel
theorem dX9_newDoor_132 : decode cX9_newDoor 132 = .ok (.iload 7, 2) := by decide +kernel
theorem dX9_newDoor_134 : decode cX9_newDoor 134 = .ok (.iadd, 1) := by decide +kernel
theorem dX9_newDoor_135 : decode cX9_newDoor 135 = .ok (.goto 5, 3) := by decide +kernel
theorem dX9_newDoor_138 : decode cX9_newDoor 138 = .ok (.iload 4, 2) := by decide +kernel
theorem dX9_newDoor_140 : decode cX9_newDoor 140 = .ok (.istore 4, 2) := by decide +kernel
theorem dX9_newDoor_142 : decode cX9_newDoor 142 = .ok (.iload 9, 2) := by decide +kernel
theorem dX9_newDoor_144 : decode cX9_newDoor 144 = .ok (.ifCond .eq 8, 3) := by decide +kernel
theorem dX9_newDoor_147 : decode cX9_newDoor 147 = .ok (.iload 8, 2) := by decide +kernel
theorem dX9_newDoor_149 : decode cX9_newDoor 149 = .ok (.goto 5, 3) := by decide +kernel
theorem dX9_newDoor_152 : decode cX9_newDoor 152 = .ok (.iload 5, 2) := by decide +kernel
theorem dX9_newDoor_154 : decode cX9_newDoor 154 = .ok (.istore 5, 2) := by decide +kernel
theorem dX9_newDoor_156 : decode cX9_newDoor 156 = .ok (.iinc 7 1, 3) := by decide +kernel
theorem dX9_newDoor_159 : decode cX9_newDoor 159 = .ok (.goto (-97), 3) := by decide +kernel
theorem dX9_newDoor_162 : decode cX9_newDoor 162 = .ok (.iinc 6 1, 3) := by decide +kernel
theorem dX9_newDoor_165 : decode cX9_newDoor 165 = .ok (.goto (-120), 3) := by decide +kernel
theorem dX9_newDoor_168 : decode cX9_newDoor 168 = .ok (.iload 4, 2) := by decide +kernel
theorem dX9_newDoor_170 : decode cX9_newDoor 170 = .ok (.ldc 106, 2) := by decide +kernel
theorem dX9_newDoor_172 : decode cX9_newDoor 172 = .ok (.if_icmp .eq 7, 3) := by decide +kernel
theorem dX9_newDoor_175 : decode cX9_newDoor 175 = .ok (.iload_n 3, 1) := by decide +kernel
theorem dX9_newDoor_176 : decode cX9_newDoor 176 = .ok (.ifCond .ne 8, 3) := by decide +kernel
theorem dX9_newDoor_179 : decode cX9_newDoor 179 = .ok (.iload 4, 2) := by decide +kernel
theorem dX9_newDoor_181 : decode cX9_newDoor 181 = .ok (.goto 5, 3) := by decide +kernel
theorem dX9_newDoor_184 : decode cX9_newDoor 184 = .ok (.iload 5, 2) := by decide +kernel
theorem dX9_newDoor_186 : decode cX9_newDoor 186 = .ok (.ireturn, 1) := by decide +kernel
theorem dX9_isSo_0 : decode cX9_isSo 0 = .ok (.iconst 1, 1) := by decide +kernel
theorem dX9_isSo_1 : decode cX9_isSo 1 = .ok (.istore 5, 2) := by decide +kernel
theorem dX9_isSo_3 : decode cX9_isSo 3 = .ok (.iconst 0, 1) := by decide +kernel
theorem dX9_isSo_4 : decode cX9_isSo 4 = .ok (.istore 6, 2) := by decide +kernel
theorem dX9_isSo_6 : decode cX9_isSo 6 = .ok (.iload 6, 2) := by decide +kernel
theorem dX9_isSo_8 : decode cX9_isSo 8 = .ok (.iload 4, 2) := by decide +kernel
theorem dX9_isSo_10 : decode cX9_isSo 10 = .ok (.if_icmp .ge 78, 3) := by decide +kernel
theorem dX9_isSo_13 : decode cX9_isSo 13 = .ok (.iload 5, 2) := by decide +kernel
theorem dX9_isSo_15 : decode cX9_isSo 15 = .ok (.ifCond .eq 73, 3) := by decide +kernel
theorem dX9_isSo_18 : decode cX9_isSo 18 = .ok (.aload_n 0, 1) := by decide +kernel
theorem dX9_isSo_19 : decode cX9_isSo 19 = .ok (.getfield 23, 3) := by decide +kernel
theorem dX9_isSo_22 : decode cX9_isSo 22 = .ok (.bipush 40, 2) := by decide +kernel
theorem dX9_isSo_24 : decode cX9_isSo 24 = .ok (.iload_n 2, 1) := by decide +kernel
theorem dX9_isSo_25 : decode cX9_isSo 25 = .ok (.imul, 1) := by decide +kernel
theorem dX9_isSo_26 : decode cX9_isSo 26 = .ok (.iload_n 3, 1) := by decide +kernel
theorem dX9_isSo_27 : decode cX9_isSo 27 = .ok (.iadd, 1) := by decide +kernel
theorem dX9_isSo_28 : decode cX9_isSo 28 = .ok (.iload 6, 2) := by decide +kernel
theorem dX9_isSo_30 : decode cX9_isSo 30 = .ok (.iadd, 1) := by decide +kernel
theorem dX9_isSo_31 : decode cX9_isSo 31 = .ok (.iaload, 1) := by decide +kernel
theorem dX9_isSo_32 : decode cX9_isSo 32 = .ok (.istore 7, 2) := by decide +kernel
theorem dX9_isSo_34 : decode cX9_isSo 34 = .ok (.iload 7, 2) := by decide +kernel
theorem dX9_isSo_36 : decode cX9_isSo 36 = .ok (.iconst (-1), 1) := by decide +kernel
theorem dX9_isSo_37 : decode cX9_isSo 37 = .ok (.if_icmp .eq 38, 3) := by decide +kernel
theorem dX9_isSo_40 : decode cX9_isSo 40 = .ok (.iload 7, 2) := by decide +kernel
theorem dX9_isSo_42 : decode cX9_isSo 42 = .ok (.ifCond .eq 9, 3) := by decide +kernel
theorem dX9_isSo_45 : decode cX9_isSo 45 = .ok (.iload 7, 2) := by decide +kernel
theorem dX9_isSo_47 : decode cX9_isSo 47 = .ok (.iconst 1, 1) := by decide +kernel
theorem dX9_isSo_48 : decode cX9_isSo 48 = .ok (.if_icmp .ne 31, 3) := by decide +kernel
theorem dX9_isSo_51 : decode cX9_isSo 51 = .ok (.aload_n 0, 1) := by decide +kernel
theorem dX9_isSo_52 : decode cX9_isSo 52 = .ok (.sipush 3402, 3) := by decide +kernel
theorem dX9_isSo_55 : decode cX9_isSo 55 = .ok (.iload_n 1, 1) := by decide +kernel
theorem dX9_isSo_56 : decode cX9_isSo 56 = .ok (.iload 6, 2) := by decide +kernel
theorem dX9_isSo_58 : decode cX9_isSo 58 = .ok (.invokevirtual 161, 3) := by decide +kernel
theorem dX9_isSo_61 : decode cX9_isSo 61 = .ok (.iload 7, 2) := by decide +kernel
theorem dX9_isSo_63 : decode cX9_isSo 63 = .ok (.iconst 1, 1) := by decide +kernel
theorem dX9_isSo_64 : decode cX9_isSo 64 = .ok (.if_icmp .ne 7, 3) := by decide +kernel
theorem dX9_isSo_67 : decode cX9_isSo 67 = .ok (.iconst 1, 1) := by decide +kernel
theorem dX9_isSo_68 : decode cX9_isSo 68 = .ok (.goto 4, 3) := by decide +kernel
theorem dX9_isSo_71 : decode cX9_isSo 71 = .ok (.iconst 0, 1) := by decide +kernel
theorem dX9_isSo_72 : decode cX9_isSo 72 = .ok (.if_icmp .ne 7, 3) := by decide +kernel
theorem dX9_isSo_75 : decode cX9_isSo 75 = .ok (.iconst 1, 1) := by decide +kernel
theorem dX9_isSo_76 : decode cX9_isSo 76 = .ok (.goto 4, 3) := by decide +kernel
theorem dX9_isSo_79 : decode cX9_isSo 79 = .ok (.iconst 0, 1) := by decide +kernel
theorem dX9_isSo_80 : decode cX9_isSo 80 = .ok (.istore 5, 2) := by decide +kernel
theorem dX9_isSo_82 : decode cX9_isSo 82 = .ok (.iinc 6 1, 3) := by decide +kernel
theorem dX9_isSo_85 : decode cX9_isSo 85 = .ok (.goto (-79), 3) := by decide +kernel
theorem dX9_isSo_88 : decode cX9_isSo 88 = .ok (.iload 5, 2) := by decide +kernel
theorem dX9_isSo_90 : decode cX9_isSo 90 = .ok (.ireturn, 1) := by decide +kernel
theorem dX9_isAsked_0 : decode cX9_isAsked 0 = .ok (.aload_n 0, 1) := by decide +kernel
theorem dX9_isAsked_1 : decode cX9_isAsked 1 = .ok (.iload_n 1, 1) := by decide +kernel
theorem dX9_isAsked_2 : decode cX9_isAsked 2 = .ok (.invokevirtual 171, 3) := by decide +kernel
theorem dX9_isAsked_5 : decode cX9_isAsked 5 = .ok (.ifCond .eq 44, 3) := by decide +kernel
theorem dX9_isAsked_8 : decode cX9_isAsked 8 = .ok (.aload_n 0, 1) := by decide +kernel
theorem dX9_isAsked_9 : decode cX9_isAsked 9 = .ok (.iload_n 2, 1) := by decide +kernel
theorem dX9_isAsked_10 : decode cX9_isAsked 10 = .ok (.invokevirtual 171, 3) := by decide +kernel
theorem dX9_isAsked_13 : decode cX9_isAsked 13 = .ok (.ifCond .eq 36, 3) := by decide +kernel
theorem dX9_isAsked_16 : decode cX9_isAsked 16 = .ok (.iload_n 1, 1) := by decide +kernel
theorem dX9_isAsked_17 : decode cX9_isAsked 17 = .ok (.iload_n 2, 1) := by decide +kernel
theorem dX9_isAsked_18 : decode cX9_isAsked 18 = .ok (.if_icmp .eq 31, 3) := by decide +kernel
theorem dX9_isAsked_21 : decode cX9_isAsked 21 = .ok (.iload_n 3, 1) := by decide +kernel
theorem dX9_isAsked_22 : decode cX9_isAsked 22 = .ok (.invokestatic 43, 3) := by decide +kernel
theorem dX9_isAsked_25 : decode cX9_isAsked 25 = .ok (.ifCond .eq 24, 3) := by decide +kernel
theorem dX9_isAsked_28 : decode cX9_isAsked 28 = .ok (.iload 4, 2) := by decide +kernel
theorem dX9_isAsked_30 : decode cX9_isAsked 30 = .ok (.i2l, 1) := by decide +kernel
theorem dX9_isAsked_31 : decode cX9_isAsked 31 = .ok (.lconst 1, 1) := by decide +kernel
theorem dX9_isAsked_32 : decode cX9_isAsked 32 = .ok (.aload_n 0, 1) := by decide +kernel
theorem dX9_isAsked_33 : decode cX9_isAsked 33 = .ok (.getfield 7, 3) := by decide +kernel
theorem dX9_isAsked_36 : decode cX9_isAsked 36 = .ok (.iconst 2, 1) := by decide +kernel
theorem dX9_isAsked_37 : decode cX9_isAsked 37 = .ok (.iaload, 1) := by decide +kernel
theorem dX9_isAsked_38 : decode cX9_isAsked 38 = .ok (.i2l, 1) := by decide +kernel
theorem dX9_isAsked_39 : decode cX9_isAsked 39 = .ok (.invokestatic 39, 3) := by decide +kernel
theorem dX9_isAsked_42 : decode cX9_isAsked 42 = .ok (.ifCond .eq 7, 3) := by decide +kernel
theorem dX9_isAsked_45 : decode cX9_isAsked 45 = .ok (.iconst 1, 1) := by decide +kernel
theorem dX9_isAsked_46 : decode cX9_isAsked 46 = .ok (.goto 4, 3) := by decide +kernel
theorem dX9_isAsked_49 : decode cX9_isAsked 49 = .ok (.iconst 0, 1) := by decide +kernel
theorem dX9_isAsked_50 : decode cX9_isAsked 50 = .ok (.ireturn, 1) := by decide +kernel
theorem dX9_noItems_0 : decode cX9_noItems 0 = .ok (.aload_n 0, 1) := by decide +kernel
theorem dX9_noItems_1 : decode cX9_noItems 1 = .ok (.getfield 20, 3) := by decide +kernel
theorem dX9_noItems_4 : decode cX9_noItems 4 = .ok (.iload_n 1, 1) := by decide +kernel
theorem dX9_noItems_5 : decode cX9_noItems 5 = .ok (.iaload, 1) := by decide +kernel
theorem dX9_noItems_6 : decode cX9_noItems 6 = .ok (.ifCond .ge 11, 3) := by decide +kernel
theorem dX9_noItems_9 : decode cX9_noItems 9 = .ok (.aload_n 0, 1) := by decide +kernel
theorem dX9_noItems_10 : decode cX9_noItems 10 = .ok (.iconst 1, 1) := by decide +kernel
theorem dX9_noItems_11 : decode cX9_noItems 11 = .ok (.invokevirtual 50, 3) := by decide +kernel
theorem dX9_noItems_14 : decode cX9_noItems 14 = .ok (.goto 22, 3) := by decide +kernel
theorem dX9_noItems_17 : decode cX9_noItems 17 = .ok (.aload_n 0, 1) := by decide +kernel
theorem dX9_noItems_18 : decode cX9_noItems 18 = .ok (.iload_n 1, 1) := by decide +kernel
theorem dX9_noItems_19 : decode cX9_noItems 19 = .ok (.iload_n 2, 1) := by decide +kernel
theorem dX9_noItems_20 : decode cX9_noItems 20 = .ok (.iload_n 3, 1) := by decide +kernel
theorem dX9_noItems_21 : decode cX9_noItems 21 = .ok (.invokevirtual 61, 3) := by decide +kernel
theorem dX9_noItems_24 : decode cX9_noItems 24 = .ok (.ifCond .eq 7, 3) := by decide +kernel
theorem dX9_noItems_27 : decode cX9_noItems 27 = .ok (.iconst 0, 1) := by decide +kernel
theorem dX9_noItems_28 : decode cX9_noItems 28 = .ok (.goto 8, 3) := by decide +kernel
theorem dX9_noItems_31 : decode cX9_noItems 31 = .ok (.aload_n 0, 1) := by decide +kernel
theorem dX9_noItems_32 : decode cX9_noItems 32 = .ok (.iconst 2, 1) := by decide +kernel
theorem dX9_noItems_33 : decode cX9_noItems 33 = .ok (.invokevirtual 50, 3) := by decide +kernel
theorem dX9_noItems_36 : decode cX9_noItems 36 = .ok (.ireturn, 1) := by decide +kernel
theorem dX9_bents_0 : decode cX9_bents 0 = .ok (.aload_n 0, 1) := by decide +kernel
theorem dX9_bents_1 : decode cX9_bents 1 = .ok (.iload_n 1, 1) := by decide +kernel
theorem dX9_bents_2 : decode cX9_bents 2 = .ok (.iload_n 2, 1) := by decide +kernel
theorem dX9_bents_3 : decode cX9_bents 3 = .ok (.iload_n 3, 1) := by decide +kernel
theorem dX9_bents_4 : decode cX9_bents 4 = .ok (.iload 5, 2) := by decide +kernel
theorem dX9_bents_6 : decode cX9_bents 6 = .ok (.invokevirtual 238, 3) := by decide +kernel
theorem dX9_bents_9 : decode cX9_bents 9 = .ok (.ifCond .eq 14, 3) := by decide +kernel
theorem dX9_bents_12 : decode cX9_bents 12 = .ok (.iload 6, 2) := by decide +kernel
theorem dX9_bents_14 : decode cX9_bents 14 = .ok (.i2l, 1) := by decide +kernel
theorem dX9_bents_15 : decode cX9_bents 15 = .ok (.lconst 0, 1) := by decide +kernel
theorem dX9_bents_16 : decode cX9_bents 16 = .ok (.lconst 1, 1) := by decide +kernel
theorem dX9_bents_17 : decode cX9_bents 17 = .ok (.invokestatic 39, 3) := by decide +kernel
theorem dX9_bents_20 : decode cX9_bents 20 = .ok (.ifCond .ne 6, 3) := by decide +kernel
theorem dX9_bents_23 : decode cX9_bents 23 = .ok (.ldc 49, 2) := by decide +kernel
theorem dX9_bents_25 : decode cX9_bents 25 = .ok (.ireturn, 1) := by decide +kernel
theorem dX9_bents_26 : decode cX9_bents 26 = .ok (.aload_n 0, 1) := by decide +kernel
theorem dX9_bents_27 : decode cX9_bents 27 = .ok (.iload_n 3, 1) := by decide +kernel
theorem dX9_bents_28 : decode cX9_bents 28 = .ok (.iload 4, 2) := by decide +kernel
theorem dX9_bents_30 : decode cX9_bents 30 = .ok (.iload 5, 2) := by decide +kernel
theorem dX9_bents_32 : decode cX9_bents 32 = .ok (.invokevirtual 242, 3) := by decide +kernel
theorem dX9_bents_35 : decode cX9_bents 35 = .ok (.istore 7, 2) := by decide +kernel
theorem dX9_bents_37 : decode cX9_bents 37 = .ok (.iload 7, 2) := by decide +kernel
theorem dX9_bents_39 : decode cX9_bents 39 = .ok (.ifCond .eq 6, 3) := by decide +kernel
theorem dX9_bents_42 : decode cX9_bents 42 = .ok (.iload 7, 2) := by decide +kernel
theorem dX9_bents_44 : decode cX9_bents 44 = .ok (.ireturn, 1) := by decide +kernel
theorem dX9_bents_45 : decode cX9_bents 45 = .ok (.aload_n 0, 1) := by decide +kernel
theorem dX9_bents_46 : decode cX9_bents 46 = .ok (.iconst 0, 1) := by decide +kernel
theorem dX9_bents_47 : decode cX9_bents 47 = .ok (.sipush 3402, 3) := by decide +kernel
theorem dX9_bents_50 : decode cX9_bents 50 = .ok (.invokevirtual 127, 3) := by decide +kernel
theorem dX9_bents_53 : decode cX9_bents 53 = .ok (.iconst 0, 1) := by decide +kernel
theorem dX9_bents_54 : decode cX9_bents 54 = .ok (.istore 8, 2) := by decide +kernel
theorem dX9_bents_56 : decode cX9_bents 56 = .ok (.ldc 106, 2) := by decide +kernel
theorem dX9_bents_58 : decode cX9_bents 58 = .ok (.istore 9, 2) := by decide +kernel
theorem dX9_bents_60 : decode cX9_bents 60 = .ok (.iconst 0, 1) := by decide +kernel
theorem dX9_bents_61 : decode cX9_bents 61 = .ok (.istore 10, 2) := by decide +kernel
theorem dX9_bents_63 : decode cX9_bents 63 = .ok (.iload 10, 2) := by decide +kernel
theorem dX9_bents_65 : decode cX9_bents 65 = .ok (.bipush 7, 2) := by decide +kernel
theorem dX9_bents_67 : decode cX9_bents 67 = .ok (.if_icmp .ge 67, 3) := by decide +kernel
theorem dX9_bents_70 : decode cX9_bents 70 = .ok (.aload_n 0, 1) := by decide +kernel
theorem dX9_bents_71 : decode cX9_bents 71 = .ok (.getfield 7, 3) := by decide +kernel
theorem dX9_bents_74 : decode cX9_bents 74 = .ok (.sipush 3432, 3) := by decide +kernel
theorem dX9_bents_77 : decode cX9_bents 77 = .ok (.iload_n 1, 1) := by decide +kernel
theorem dX9_bents_78 : decode cX9_bents 78 = .ok (.iadd, 1) := by decide +kernel
theorem dX9_bents_79 : decode cX9_bents 79 = .ok (.iload 10, 2) := by decide +kernel
theorem dX9_bents_81 : decode cX9_bents 81 = .ok (.iastore, 1) := by decide +kernel
theorem dX9_bents_82 : decode cX9_bents 82 = .ok (.aload_n 0, 1) := by decide +kernel
theorem dX9_bents_83 : decode cX9_bents 83 = .ok (.iload_n 2, 1) := by decide +kernel
theorem dX9_bents_84 : decode cX9_bents 84 = .ok (.iload_n 3, 1) := by decide +kernel
theorem dX9_bents_85 : decode cX9_bents 85 = .ok (.iload 4, 2) := by decide +kernel
theorem dX9_bents_87 : decode cX9_bents 87 = .ok (.iload 5, 2) := by decide +kernel
theorem dX9_bents_89 : decode cX9_bents 89 = .ok (.invokevirtual 245, 3) := by decide +kernel
theorem dX9_bents_92 : decode cX9_bents 92 = .ok (.istore 11, 2) := by decide +kernel
theorem dX9_bents_94 : decode cX9_bents 94 = .ok (.iload 11, 2) := by decide +kernel
theorem dX9_bents_96 : decode cX9_bents 96 = .ok (.ifCond .eq 13, 3) := by decide +kernel
theorem dX9_bents_99 : decode cX9_bents 99 = .ok (.iload 8, 2) := by decide +kernel
theorem dX9_bents_101 : decode cX9_bents 101 = .ok (.ifCond .ne 8, 3) := by decide +kernel
theorem dX9_bents_104 : decode cX9_bents 104 = .ok (.iload 10, 2) := by decide +kernel
theorem dX9_bents_106 : decode cX9_bents 106 = .ok (.goto 5, 3) := by decide +kernel
theorem dX9_bents_109 : decode cX9_bents 109 = .ok (.iload 9, 2) := by decide +kernel
theorem dX9_bents_111 : decode cX9_bents 111 = .ok (.istore 9, 2) := by decide +kernel
theorem dX9_bents_113 : decode cX9_bents 113 = .ok (.iload 8, 2) := by decide +kernel
theorem dX9_bents_115 : decode cX9_bents 115 = .ok (.iload 11, 2) := by decide +kernel
theorem dX9_bents_117 : decode cX9_bents 117 = .ok (.ifCond .eq 7, 3) := by decide +kernel
theorem dX9_bents_120 : decode cX9_bents 120 = .ok (.iconst 1, 1) := by decide +kernel
theorem dX9_bents_121 : decode cX9_bents 121 = .ok (.goto 4, 3) := by decide +kernel
theorem dX9_bents_124 : decode cX9_bents 124 = .ok (.iconst 0, 1) := by decide +kernel
theorem dX9_bents_125 : decode cX9_bents 125 = .ok (.iadd, 1) := by decide +kernel
theorem dX9_bents_126 : decode cX9_bents 126 = .ok (.istore 8, 2) := by decide +kernel
theorem dX9_bents_128 : decode cX9_bents 128 = .ok (.iinc 10 1, 3) := by decide +kernel
theorem dX9_bents_131 : decode cX9_bents 131 = .ok (.goto (-68), 3) := by decide +kernel
theorem dX9_bents_134 : decode cX9_bents 134 = .ok (.aload_n 0, 1) := by decide +kernel
theorem dX9_bents_135 : decode cX9_bents 135 = .ok (.iload 6, 2) := by decide +kernel
theorem dX9_bents_137 : decode cX9_bents 137 = .ok (.ifCond .ne 8, 3) := by decide +kernel
theorem dX9_bents_140 : decode cX9_bents 140 = .ok (.iload 8, 2) := by decide +kernel
theorem dX9_bents_142 : decode cX9_bents 142 = .ok (.goto 5, 3) := by decide +kernel
theorem dX9_bents_145 : decode cX9_bents 145 = .ok (.iload 9, 2) := by decide +kernel
theorem dX9_bents_147 : decode cX9_bents 147 = .ok (.invokevirtual 54, 3) := by decide +kernel
theorem dX9_bents_150 : decode cX9_bents 150 = .ok (.ireturn, 1) := by decide +kernel
theorem dX9_who_0 : decode cX9_who 0 = .ok (.aload_n 0, 1) := by decide +kernel
theorem dX9_who_1 : decode cX9_who 1 = .ok (.iload_n 1, 1) := by decide +kernel
theorem dX9_who_2 : decode cX9_who 2 = .ok (.iload_n 2, 1) := by decide +kernel
theorem dX9_who_3 : decode cX9_who 3 = .ok (.iload_n 3, 1) := by decide +kernel
theorem dX9_who_4 : decode cX9_who 4 = .ok (.iload 5, 2) := by decide +kernel
theorem dX9_who_6 : decode cX9_who 6 = .ok (.invokevirtual 238, 3) := by decide +kernel
theorem dX9_who_9 : decode cX9_who 9 = .ok (.ifCond .ne 6, 3) := by decide +kernel
theorem dX9_who_12 : decode cX9_who 12 = .ok (.ldc 49, 2) := by decide +kernel
theorem dX9_who_14 : decode cX9_who 14 = .ok (.ireturn, 1) := by decide +kernel
theorem dX9_who_15 : decode cX9_who 15 = .ok (.aload_n 0, 1) := by decide +kernel
theorem dX9_who_16 : decode cX9_who 16 = .ok (.iload_n 3, 1) := by decide +kernel
theorem dX9_who_17 : decode cX9_who 17 = .ok (.iload 4, 2) := by decide +kernel
theorem dX9_who_19 : decode cX9_who 19 = .ok (.iload 5, 2) := by decide +kernel
theorem dX9_who_21 : decode cX9_who 21 = .ok (.invokevirtual 242, 3) := by decide +kernel
theorem dX9_who_24 : decode cX9_who 24 = .ok (.istore 6, 2) := by decide +kernel
theorem dX9_who_26 : decode cX9_who 26 = .ok (.iload 6, 2) := by decide +kernel
theorem dX9_who_28 : decode cX9_who 28 = .ok (.ifCond .eq 6, 3) := by decide +kernel
theorem dX9_who_31 : decode cX9_who 31 = .ok (.iload 6, 2) := by decide +kernel
theorem dX9_who_33 : decode cX9_who 33 = .ok (.ireturn, 1) := by decide +kernel
theorem dX9_who_34 : decode cX9_who 34 = .ok (.aload_n 0, 1) := by decide +kernel
theorem dX9_who_35 : decode cX9_who 35 = .ok (.iconst 0, 1) := by decide +kernel
theorem dX9_who_36 : decode cX9_who 36 = .ok (.sipush 3402, 3) := by decide +kernel
theorem dX9_who_39 : decode cX9_who 39 = .ok (.invokevirtual 127, 3) := by decide +kernel
theorem dX9_who_42 : decode cX9_who 42 = .ok (.iconst 0, 1) := by decide +kernel
theorem dX9_who_43 : decode cX9_who 43 = .ok (.istore 7, 2) := by decide +kernel
theorem dX9_who_45 : decode cX9_who 45 = .ok (.iconst 1, 1) := by decide +kernel
theorem dX9_who_46 : decode cX9_who 46 = .ok (.istore 8, 2) := by decide +kernel
theorem dX9_who_48 : decode cX9_who 48 = .ok (.iload 8, 2) := by decide +kernel
theorem dX9_who_50 : decode cX9_who 50 = .ok (.bipush 6, 2) := by decide +kernel
theorem dX9_who_52 : decode cX9_who 52 = .ok (.if_icmp .ge 47, 3) := by decide +kernel
theorem dX9_who_55 : decode cX9_who 55 = .ok (.aload_n 0, 1) := by decide +kernel
theorem dX9_who_56 : decode cX9_who 56 = .ok (.getfield 7, 3) := by decide +kernel
theorem dX9_who_59 : decode cX9_who 59 = .ok (.sipush 3420, 3) := by decide +kernel
theorem dX9_who_62 : decode cX9_who 62 = .ok (.iload_n 1, 1) := by decide +kernel
theorem dX9_who_63 : decode cX9_who 63 = .ok (.iadd, 1) := by decide +kernel
theorem dX9_who_64 : decode cX9_who 64 = .ok (.iload 8, 2) := by decide +kernel
theorem dX9_who_66 : decode cX9_who 66 = .ok (.iastore, 1) := by decide +kernel
theorem dX9_who_67 : decode cX9_who 67 = .ok (.iload 7, 2) := by decide +kernel
theorem dX9_who_69 : decode cX9_who 69 = .ok (.aload_n 0, 1) := by decide +kernel
theorem dX9_who_70 : decode cX9_who 70 = .ok (.iload_n 2, 1) := by decide +kernel
theorem dX9_who_71 : decode cX9_who 71 = .ok (.iload_n 3, 1) := by decide +kernel
theorem dX9_who_72 : decode cX9_who 72 = .ok (.iload 4, 2) := by decide +kernel
theorem dX9_who_74 : decode cX9_who 74 = .ok (.iload 5, 2) := by decide +kernel
theorem dX9_who_76 : decode cX9_who 76 = .ok (.invokevirtual 245, 3) := by decide +kernel
theorem dX9_who_79 : decode cX9_who 79 = .ok (.ifCond .eq 10, 3) := by decide +kernel
theorem dX9_who_82 : decode cX9_who 82 = .ok (.iconst 1, 1) := by decide +kernel
theorem dX9_who_83 : decode cX9_who 83 = .ok (.iload 8, 2) := by decide +kernel
theorem dX9_who_85 : decode cX9_who 85 = .ok (.ishl, 1) := by decide +kernel
theorem dX9_who_86 : decode cX9_who 86 = .ok (.goto 4, 3) := by decide +kernel
theorem dX9_who_89 : decode cX9_who 89 = .ok (.iconst 0, 1) := by decide +kernel
theorem dX9_who_90 : decode cX9_who 90 = .ok (.ior, 1) := by decide +kernel
theorem dX9_who_91 : decode cX9_who 91 = .ok (.istore 7, 2) := by decide +kernel
theorem dX9_who_93 : decode cX9_who 93 = .ok (.iinc 8 1, 3) := by decide +kernel
theorem dX9_who_96 : decode cX9_who 96 = .ok (.goto (-48), 3) := by decide +kernel
theorem dX9_who_99 : decode cX9_who 99 = .ok (.aload_n 0, 1) := by decide +kernel
theorem dX9_who_100 : decode cX9_who 100 = .ok (.iload 7, 2) := by decide +kernel
theorem dX9_who_102 : decode cX9_who 102 = .ok (.invokevirtual 54, 3) := by decide +kernel
theorem dX9_who_105 : decode cX9_who 105 = .ok (.ireturn, 1) := by decide +kernel
theorem dX9_awake_0 : decode cX9_awake 0 = .ok (.aload_n 0, 1) := by decide +kernel
theorem dX9_awake_1 : decode cX9_awake 1 = .ok (.iload_n 1, 1) := by decide +kernel
theorem dX9_awake_2 : decode cX9_awake 2 = .ok (.invokevirtual 171, 3) := by decide +kernel
theorem dX9_awake_5 : decode cX9_awake 5 = .ok (.ifCond .eq 34, 3) := by decide +kernel
theorem dX9_awake_8 : decode cX9_awake 8 = .ok (.aload_n 0, 1) := by decide +kernel
theorem dX9_awake_9 : decode cX9_awake 9 = .ok (.iload_n 2, 1) := by decide +kernel
theorem dX9_awake_10 : decode cX9_awake 10 = .ok (.invokevirtual 174, 3) := by decide +kernel
theorem dX9_awake_13 : decode cX9_awake 13 = .ok (.ifCond .eq 26, 3) := by decide +kernel
theorem dX9_awake_16 : decode cX9_awake 16 = .ok (.iload_n 3, 1) := by decide +kernel
theorem dX9_awake_17 : decode cX9_awake 17 = .ok (.i2l, 1) := by decide +kernel
theorem dX9_awake_18 : decode cX9_awake 18 = .ok (.lconst 0, 1) := by decide +kernel
theorem dX9_awake_19 : decode cX9_awake 19 = .ok (.ldc2_w 248, 3) := by decide +kernel
theorem dX9_awake_22 : decode cX9_awake 22 = .ok (.invokestatic 39, 3) := by decide +kernel
theorem dX9_awake_25 : decode cX9_awake 25 = .ok (.ifCond .eq 14, 3) := by decide +kernel
theorem dX9_awake_28 : decode cX9_awake 28 = .ok (.iload 4, 2) := by decide +kernel
theorem dX9_awake_30 : decode cX9_awake 30 = .ok (.i2l, 1) := by decide +kernel
theorem dX9_awake_31 : decode cX9_awake 31 = .ok (.lconst 0, 1) := by decide +kernel
theorem dX9_awake_32 : decode cX9_awake 32 = .ok (.lconst 1, 1) := by decide +kernel
theorem dX9_awake_33 : decode cX9_awake 33 = .ok (.invokestatic 39, 3) := by decide +kernel
theorem dX9_awake_36 : decode cX9_awake 36 = .ok (.ifCond .ne 7, 3) := by decide +kernel
theorem dX9_awake_39 : decode cX9_awake 39 = .ok (.ldc2_w 250, 3) := by decide +kernel
theorem dX9_awake_42 : decode cX9_awake 42 = .ok (.lreturn, 1) := by decide +kernel
theorem dX9_awake_43 : decode cX9_awake 43 = .ok (.lconst 0, 1) := by decide +kernel
theorem dX9_awake_44 : decode cX9_awake 44 = .ok (.lstore 5, 2) := by decide +kernel
theorem dX9_awake_46 : decode cX9_awake 46 = .ok (.lconst 0, 1) := by decide +kernel
theorem dX9_awake_47 : decode cX9_awake 47 = .ok (.lstore 7, 2) := by decide +kernel
theorem dX9_awake_49 : decode cX9_awake 49 = .ok (.iconst 0, 1) := by decide +kernel
theorem dX9_awake_50 : decode cX9_awake 50 = .ok (.istore 9, 2) := by decide +kernel
theorem dX9_awake_52 : decode cX9_awake 52 = .ok (.iload 9, 2) := by decide +kernel
theorem dX9_awake_54 : decode cX9_awake 54 = .ok (.iconst 1, 1) := by decide +kernel
theorem dX9_awake_55 : decode cX9_awake 55 = .ok (.aload_n 0, 1) := by decide +kernel
theorem dX9_awake_56 : decode cX9_awake 56 = .ok (.getfield 7, 3) := by decide +kernel
theorem dX9_awake_59 : decode cX9_awake 59 = .ok (.iconst 3, 1) := by decide +kernel
theorem dX9_awake_60 : decode cX9_awake 60 = .ok (.iaload, 1) := by decide +kernel
theorem dX9_awake_61 : decode cX9_awake 61 = .ok (.ishl, 1) := by decide +kernel
theorem dX9_awake_62 : decode cX9_awake 62 = .ok (.if_icmp .ge 114, 3) := by decide +kernel
theorem dX9_awake_65 : decode cX9_awake 65 = .ok (.iload 9, 2) := by decide +kernel
theorem dX9_awake_67 : decode cX9_awake 67 = .ok (.iload_n 1, 1) := by decide +kernel
theorem dX9_awake_68 : decode cX9_awake 68 = .ok (.invokestatic 103, 3) := by decide +kernel
theorem dX9_awake_71 : decode cX9_awake 71 = .ok (.ifCond .eq 7, 3) := by decide +kernel
theorem dX9_awake_74 : decode cX9_awake 74 = .ok (.lconst 0, 1) := by decide +kernel
theorem dX9_awake_75 : decode cX9_awake 75 = .ok (.goto 4, 3) := by decide +kernel
theorem dX9_awake_78 : decode cX9_awake 78 = .ok (.lconst 1, 1) := by decide +kernel
theorem dX9_awake_79 : decode cX9_awake 79 = .ok (.lstore 10, 2) := by decide +kernel
theorem dX9_awake_81 : decode cX9_awake 81 = .ok (.iconst 0, 1) := by decide +kernel
theorem dX9_awake_82 : decode cX9_awake 82 = .ok (.istore 12, 2) := by decide +kernel
theorem dX9_awake_84 : decode cX9_awake 84 = .ok (.iload 12, 2) := by decide +kernel
theorem dX9_awake_86 : decode cX9_awake 86 = .ok (.aload_n 0, 1) := by decide +kernel
theorem dX9_awake_87 : decode cX9_awake 87 = .ok (.getfield 7, 3) := by decide +kernel
theorem dX9_awake_90 : decode cX9_awake 90 = .ok (.iconst 3, 1) := by decide +kernel
theorem dX9_awake_91 : decode cX9_awake 91 = .ok (.iaload, 1) := by decide +kernel
theorem dX9_awake_92 : decode cX9_awake 92 = .ok (.if_icmp .ge 44, 3) := by decide +kernel
theorem dX9_awake_95 : decode cX9_awake 95 = .ok (.lload 10, 2) := by decide +kernel
theorem dX9_awake_97 : decode cX9_awake 97 = .ok (.iload 12, 2) := by decide +kernel
theorem dX9_awake_99 : decode cX9_awake 99 = .ok (.iload_n 1, 1) := by decide +kernel
theorem dX9_awake_100 : decode cX9_awake 100 = .ok (.if_icmp .ne 7, 3) := by decide +kernel
theorem dX9_awake_103 : decode cX9_awake 103 = .ok (.lconst 1, 1) := by decide +kernel
theorem dX9_awake_104 : decode cX9_awake 104 = .ok (.goto 23, 3) := by decide +kernel
theorem dX9_awake_107 : decode cX9_awake 107 = .ok (.iload 9, 2) := by decide +kernel
theorem dX9_awake_109 : decode cX9_awake 109 = .ok (.iload 12, 2) := by decide +kernel
theorem dX9_awake_111 : decode cX9_awake 111 = .ok (.invokestatic 103, 3) := by decide +kernel
theorem dX9_awake_114 : decode cX9_awake 114 = .ok (.ifCond .eq 11, 3) := by decide +kernel
theorem dX9_awake_117 : decode cX9_awake 117 = .ok (.bipush 10, 2) := by decide +kernel
theorem dX9_awake_119 : decode cX9_awake 119 = .ok (.iload_n 3, 1) := by decide +kernel
theorem dX9_awake_120 : decode cX9_awake 120 = .ok (.isub, 1) := by decide +kernel
theorem dX9_awake_121 : decode cX9_awake 121 = .ok (.i2l, 1) := by decide +kernel
theorem dX9_awake_122 : decode cX9_awake 122 = .ok (.goto 5, 3) := by decide +kernel
theorem dX9_awake_125 : decode cX9_awake 125 = .ok (.iload_n 3, 1) := by decide +kernel
theorem dX9_awake_126 : decode cX9_awake 126 = .ok (.i2l, 1) := by decide +kernel
theorem dX9_awake_127 : decode cX9_awake 127 = .ok (.lmul, 1) := by decide +kernel
theorem dX9_awake_128 : decode cX9_awake 128 = .ok (.lstore 10, 2) := by decide +kernel
theorem dX9_awake_130 : decode cX9_awake 130 = .ok (.iinc 12 1, 3) := by decide +kernel
theorem dX9_awake_133 : decode cX9_awake 133 = .ok (.goto (-49), 3) := by decide +kernel
theorem dX9_awake_136 : decode cX9_awake 136 = .ok (.aload_n 0, 1) := by decide +kernel
theorem dX9_awake_137 : decode cX9_awake 137 = .ok (.iload 9, 2) := by decide +kernel
theorem dX9_awake_139 : decode cX9_awake 139 = .ok (.putfield 145, 3) := by decide +kernel
theorem dX9_awake_142 : decode cX9_awake 142 = .ok (.lload 5, 2) := by decide +kernel
theorem dX9_awake_144 : decode cX9_awake 144 = .ok (.aload_n 0, 1) := by decide +kernel
theorem dX9_awake_145 : decode cX9_awake 145 = .ok (.iconst 0, 1) := by decide +kernel
theorem dX9_awake_146 : decode cX9_awake 146 = .ok (.iload_n 1, 1) := by decide +kernel
theorem dX9_awake_147 : decode cX9_awake 147 = .ok (.iload_n 2, 1) := by decide +kernel
theorem dX9_awake_148 : decode cX9_awake 148 = .ok (.invokevirtual 161, 3) := by decide +kernel
theorem dX9_awake_151 : decode cX9_awake 151 = .ok (.ifCond .eq 8, 3) := by decide +kernel
theorem dX9_awake_154 : decode cX9_awake 154 = .ok (.lload 10, 2) := by decide +kernel
theorem dX9_awake_156 : decode cX9_awake 156 = .ok (.goto 4, 3) := by decide +kernel
theorem dX9_awake_159 : decode cX9_awake 159 = .ok (.lconst 0, 1) := by decide +kernel
theorem dX9_awake_160 : decode cX9_awake 160 = .ok (.ladd, 1) := by decide +kernel
theorem dX9_awake_161 : decode cX9_awake 161 = .ok (.lstore 5, 2) := by decide +kernel
theorem dX9_awake_163 : decode cX9_awake 163 = .ok (.lload 7, 2) := by decide +kernel
theorem dX9_awake_165 : decode cX9_awake 165 = .ok (.lload 10, 2) := by decide +kernel
theorem dX9_awake_167 : decode cX9_awake 167 = .ok (.ladd, 1) := by decide +kernel
theorem dX9_awake_168 : decode cX9_awake 168 = .ok (.lstore 7, 2) := by decide +kernel
theorem dX9_awake_170 : decode cX9_awake 170 = .ok (.iinc 9 1, 3) := by decide +kernel
theorem dX9_awake_173 : decode cX9_awake 173 = .ok (.goto (-121), 3) := by decide +kernel
theorem dX9_awake_176 : decode cX9_awake 176 = .ok (.aload_n 0, 1) := by decide +kernel
theorem dX9_awake_177 : decode cX9_awake 177 = .ok (.iconst 0, 1) := by decide +kernel
theorem dX9_awake_178 : decode cX9_awake 178 = .ok (.putfield 145, 3) := by decide +kernel
theorem dX9_awake_181 : decode cX9_awake 181 = .ok (.lload 5, 2) := by decide +kernel
theorem dX9_awake_183 : decode cX9_awake 183 = .ok (.lstore 9, 2) := by decide +kernel
theorem dX9_awake_185 : decode cX9_awake 185 = .ok (.lload 7, 2) := by decide +kernel
theorem dX9_awake_187 : decode cX9_awake 187 = .ok (.lstore 11, 2) := by decide +kernel
theorem dX9_awake_189 : decode cX9_awake 189 = .ok (.lload 11, 2) := by decide +kernel
theorem dX9_awake_191 : decode cX9_awake 191 = .ok (.lconst 0, 1) := by decide +kernel
theorem dX9_awake_192 : decode cX9_awake 192 = .ok (.lcmp, 1) := by decide +kernel
theorem dX9_awake_193 : decode cX9_awake 193 = .ok (.ifCond .eq 21, 3) := by decide +kernel
theorem dX9_awake_196 : decode cX9_awake 196 = .ok (.lload 9, 2) := by decide +kernel
theorem dX9_awake_198 : decode cX9_awake 198 = .ok (.lload 11, 2) := by decide +kernel
theorem dX9_awake_200 : decode cX9_awake 200 = .ok (.lrem, 1) := by decide +kernel
theorem dX9_awake_201 : decode cX9_awake 201 = .ok (.lstore 13, 2) := by decide +kernel
theorem dX9_awake_203 : decode cX9_awake 203 = .ok (.lload 11, 2) := by decide +kernel
theorem dX9_awake_205 : decode cX9_awake 205 = .ok (.lstore 9, 2) := by decide +kernel
theorem dX9_awake_207 : decode cX9_awake 207 = .ok (.lload 13, 2) := by decide +kernel
theorem dX9_awake_209 : decode cX9_awake 209 = .ok (.lstore 11, 2) := by decide +kernel
theorem dX9_awake_211 : decode cX9_awake 211 = .ok (.goto (-22), 3) := by decide +kernel
theorem dX9_awake_214 : decode cX9_awake 214 = .ok (.iload 4, 2) := by decide +kernel
theorem dX9_awake_216 : decode cX9_awake 216 = .ok (.ifCond .ne 11, 3) := by decide +kernel
theorem dX9_awake_219 : decode cX9_awake 219 = .ok (.lload 5, 2) := by decide +kernel
theorem dX9_awake_221 : decode cX9_awake 221 = .ok (.lload 9, 2) := by decide +kernel
theorem dX9_awake_223 : decode cX9_awake 223 = .ok (.ldiv, 1) := by decide +kernel
theorem dX9_awake_224 : decode cX9_awake 224 = .ok (.goto 8, 3) := by decide +kernel
theorem dX9_awake_227 : decode cX9_awake 227 = .ok (.lload 7, 2) := by decide +kernel
theorem dX9_awake_229 : decode cX9_awake 229 = .ok (.lload 9, 2) := by decide +kernel
theorem dX9_awake_231 : decode cX9_awake 231 = .ok (.ldiv, 1) := by decide +kernel
theorem dX9_awake_232 : decode cX9_awake 232 = .ok (.lreturn, 1) := by decide +kernel
theorem dX9_drawn_0 : decode cX9_drawn 0 = .ok (.aload_n 0, 1) := by decide +kernel
theorem dX9_drawn_1 : decode cX9_drawn 1 = .ok (.getfield 7, 3) := by decide +kernel
theorem dX9_drawn_4 : decode cX9_drawn 4 = .ok (.iconst 3, 1) := by decide +kernel
theorem dX9_drawn_5 : decode cX9_drawn 5 = .ok (.iaload, 1) := by decide +kernel
theorem dX9_drawn_6 : decode cX9_drawn 6 = .ok (.ifCond .ne 6, 3) := by decide +kernel
theorem dX9_drawn_9 : decode cX9_drawn 9 = .ok (.ldc 134, 2) := by decide +kernel
theorem dX9_drawn_11 : decode cX9_drawn 11 = .ok (.ireturn, 1) := by decide +kernel
theorem dX9_drawn_12 : decode cX9_drawn 12 = .ok (.iload_n 1, 1) := by decide +kernel
theorem dX9_drawn_13 : decode cX9_drawn 13 = .ok (.i2l, 1) := by decide +kernel
theorem dX9_drawn_14 : decode cX9_drawn 14 = .ok (.lconst 0, 1) := by decide +kernel
theorem dX9_drawn_15 : decode cX9_drawn 15 = .ok (.ldc2_w 252, 3) := by decide +kernel
theorem dX9_drawn_18 : decode cX9_drawn 18 = .ok (.invokestatic 39, 3) := by decide +kernel
theorem dX9_drawn_21 : decode cX9_drawn 21 = .ok (.ifCond .eq 25, 3) := by decide +kernel
theorem dX9_drawn_24 : decode cX9_drawn 24 = .ok (.iload_n 2, 1) := by decide +kernel
theorem dX9_drawn_25 : decode cX9_drawn 25 = .ok (.i2l, 1) := by decide +kernel
theorem dX9_drawn_26 : decode cX9_drawn 26 = .ok (.lconst 1, 1) := by decide +kernel
theorem dX9_drawn_27 : decode cX9_drawn 27 = .ok (.ldc2_w 254, 3) := by decide +kernel
theorem dX9_drawn_30 : decode cX9_drawn 30 = .ok (.invokestatic 39, 3) := by decide +kernel
theorem dX9_drawn_33 : decode cX9_drawn 33 = .ok (.ifCond .eq 13, 3) := by decide +kernel
theorem dX9_drawn_36 : decode cX9_drawn 36 = .ok (.iload_n 3, 1) := by decide +kernel
theorem dX9_drawn_37 : decode cX9_drawn 37 = .ok (.i2l, 1) := by decide +kernel
theorem dX9_drawn_38 : decode cX9_drawn 38 = .ok (.lconst 0, 1) := by decide +kernel
theorem dX9_drawn_39 : decode cX9_drawn 39 = .ok (.lconst 1, 1) := by decide +kernel
theorem dX9_drawn_40 : decode cX9_drawn 40 = .ok (.invokestatic 39, 3) := by decide +kernel
theorem dX9_drawn_43 : decode cX9_drawn 43 = .ok (.ifCond .ne 6, 3) := by decide +kernel
theorem dX9_drawn_46 : decode cX9_drawn 46 = .ok (.ldc 49, 2) := by decide +kernel
theorem dX9_drawn_48 : decode cX9_drawn 48 = .ok (.ireturn, 1) := by decide +kernel
theorem dX9_drawn_49 : decode cX9_drawn 49 = .ok (.aload_n 0, 1) := by decide +kernel
theorem dX9_drawn_50 : decode cX9_drawn 50 = .ok (.iconst 0, 1) := by decide +kernel
theorem dX9_drawn_51 : decode cX9_drawn 51 = .ok (.sipush 3402, 3) := by decide +kernel
theorem dX9_drawn_54 : decode cX9_drawn 54 = .ok (.invokevirtual 127, 3) := by decide +kernel
theorem dX9_drawn_57 : decode cX9_drawn 57 = .ok (.iload_n 2, 1) := by decide +kernel
theorem dX9_drawn_58 : decode cX9_drawn 58 = .ok (.i2l, 1) := by decide +kernel
theorem dX9_drawn_59 : decode cX9_drawn 59 = .ok (.lstore 4, 2) := by decide +kernel
theorem dX9_drawn_61 : decode cX9_drawn 61 = .ok (.iconst 0, 1) := by decide +kernel
theorem dX9_drawn_62 : decode cX9_drawn 62 = .ok (.istore 6, 2) := by decide +kernel
theorem dX9_drawn_64 : decode cX9_drawn 64 = .ok (.iconst 0, 1) := by decide +kernel
theorem dX9_drawn_65 : decode cX9_drawn 65 = .ok (.istore 7, 2) := by decide +kernel
theorem dX9_drawn_67 : decode cX9_drawn 67 = .ok (.iload 7, 2) := by decide +kernel
theorem dX9_drawn_69 : decode cX9_drawn 69 = .ok (.iload_n 1, 1) := by decide +kernel
theorem dX9_drawn_70 : decode cX9_drawn 70 = .ok (.if_icmp .ge 135, 3) := by decide +kernel
theorem dX9_drawn_73 : decode cX9_drawn 73 = .ok (.lload 4, 2) := by decide +kernel
theorem dX9_drawn_75 : decode cX9_drawn 75 = .ok (.ldc2_w 256, 3) := by decide +kernel
theorem dX9_drawn_78 : decode cX9_drawn 78 = .ok (.lmul, 1) := by decide +kernel
theorem dX9_drawn_79 : decode cX9_drawn 79 = .ok (.ldc2_w 258, 3) := by decide +kernel
theorem dX9_drawn_82 : decode cX9_drawn 82 = .ok (.lrem, 1) := by decide +kernel
theorem dX9_drawn_83 : decode cX9_drawn 83 = .ok (.lstore 4, 2) := by decide +kernel
theorem dX9_drawn_85 : decode cX9_drawn 85 = .ok (.lload 4, 2) := by decide +kernel
theorem dX9_drawn_87 : decode cX9_drawn 87 = .ok (.aload_n 0, 1) := by decide +kernel
theorem dX9_drawn_88 : decode cX9_drawn 88 = .ok (.getfield 7, 3) := by decide +kernel
theorem dX9_drawn_91 : decode cX9_drawn 91 = .ok (.iconst 3, 1) := by decide +kernel
theorem dX9_drawn_92 : decode cX9_drawn 92 = .ok (.iaload, 1) := by decide +kernel
theorem dX9_drawn_93 : decode cX9_drawn 93 = .ok (.i2l, 1) := by decide +kernel
theorem dX9_drawn_94 : decode cX9_drawn 94 = .ok (.lrem, 1) := by decide +kernel
theorem dX9_drawn_95 : decode cX9_drawn 95 = .ok (.l2i, 1) := by decide +kernel
theorem dX9_drawn_96 : decode cX9_drawn 96 = .ok (.istore 8, 2) := by decide +kernel
theorem dX9_drawn_98 : decode cX9_drawn 98 = .ok (.lload 4, 2) := by decide +kernel
theorem dX9_drawn_100 : decode cX9_drawn 100 = .ok (.aload_n 0, 1) := by decide +kernel
theorem dX9_drawn_101 : decode cX9_drawn 101 = .ok (.getfield 7, 3) := by decide +kernel
theorem dX9_drawn_104 : decode cX9_drawn 104 = .ok (.iconst 2, 1) := by decide +kernel
theorem dX9_drawn_105 : decode cX9_drawn 105 = .ok (.iaload, 1) := by decide +kernel
theorem dX9_drawn_106 : decode cX9_drawn 106 = .ok (.i2l, 1) := by decide +kernel
theorem dX9_drawn_107 : decode cX9_drawn 107 = .ok (.lrem, 1) := by decide +kernel
theorem dX9_drawn_108 : decode cX9_drawn 108 = .ok (.l2i, 1) := by decide +kernel
theorem dX9_drawn_109 : decode cX9_drawn 109 = .ok (.istore 9, 2) := by decide +kernel
theorem dX9_drawn_111 : decode cX9_drawn 111 = .ok (.aload_n 0, 1) := by decide +kernel
theorem dX9_drawn_112 : decode cX9_drawn 112 = .ok (.sipush 3402, 3) := by decide +kernel
theorem dX9_drawn_115 : decode cX9_drawn 115 = .ok (.iload 9, 2) := by decide +kernel
theorem dX9_drawn_117 : decode cX9_drawn 117 = .ok (.aload_n 0, 1) := by decide +kernel
theorem dX9_drawn_118 : decode cX9_drawn 118 = .ok (.getfield 7, 3) := by decide +kernel
theorem dX9_drawn_121 : decode cX9_drawn 121 = .ok (.sipush 3426, 3) := by decide +kernel
theorem dX9_drawn_124 : decode cX9_drawn 124 = .ok (.iload 8, 2) := by decide +kernel
theorem dX9_drawn_126 : decode cX9_drawn 126 = .ok (.iadd, 1) := by decide +kernel
theorem dX9_drawn_127 : decode cX9_drawn 127 = .ok (.iaload, 1) := by decide +kernel
theorem dX9_drawn_128 : decode cX9_drawn 128 = .ok (.invokevirtual 164, 3) := by decide +kernel
theorem dX9_drawn_131 : decode cX9_drawn 131 = .ok (.ldc 106, 2) := by decide +kernel
theorem dX9_drawn_133 : decode cX9_drawn 133 = .ok (.if_icmp .eq 7, 3) := by decide +kernel
theorem dX9_drawn_136 : decode cX9_drawn 136 = .ok (.iconst 1, 1) := by decide +kernel
theorem dX9_drawn_137 : decode cX9_drawn 137 = .ok (.goto 4, 3) := by decide +kernel
theorem dX9_drawn_140 : decode cX9_drawn 140 = .ok (.iconst 0, 1) := by decide +kernel
theorem dX9_drawn_141 : decode cX9_drawn 141 = .ok (.istore 10, 2) := by decide +kernel
theorem dX9_drawn_143 : decode cX9_drawn 143 = .ok (.iload 6, 2) := by decide +kernel
theorem dX9_drawn_145 : decode cX9_drawn 145 = .ok (.iload 10, 2) := by decide +kernel
theorem dX9_drawn_147 : decode cX9_drawn 147 = .ok (.ifCond .eq 21, 3) := by decide +kernel
theorem dX9_drawn_150 : decode cX9_drawn 150 = .ok (.aload_n 0, 1) := by decide +kernel
theorem dX9_drawn_151 : decode cX9_drawn 151 = .ok (.sipush 3402, 3) := by decide +kernel
theorem dX9_drawn_154 : decode cX9_drawn 154 = .ok (.iload 8, 2) := by decide +kernel
theorem dX9_drawn_156 : decode cX9_drawn 156 = .ok (.iload 9, 2) := by decide +kernel
theorem dX9_drawn_158 : decode cX9_drawn 158 = .ok (.invokevirtual 180, 3) := by decide +kernel
theorem dX9_drawn_161 : decode cX9_drawn 161 = .ok (.ifCond .eq 7, 3) := by decide +kernel
theorem dX9_drawn_164 : decode cX9_drawn 164 = .ok (.iconst 1, 1) := by decide +kernel
theorem dX9_drawn_165 : decode cX9_drawn 165 = .ok (.goto 4, 3) := by decide +kernel
theorem dX9_drawn_168 : decode cX9_drawn 168 = .ok (.iconst 0, 1) := by decide +kernel
theorem dX9_drawn_169 : decode cX9_drawn 169 = .ok (.iadd, 1) := by decide +kernel
theorem dX9_drawn_170 : decode cX9_drawn 170 = .ok (.istore 6, 2) := by decide +kernel
theorem dX9_drawn_172 : decode cX9_drawn 172 = .ok (.aload_n 0, 1) := by decide +kernel
theorem dX9_drawn_173 : decode cX9_drawn 173 = .ok (.getfield 7, 3) := by decide +kernel
theorem dX9_drawn_176 : decode cX9_drawn 176 = .ok (.sipush 3406, 3) := by decide +kernel
theorem dX9_drawn_179 : decode cX9_drawn 179 = .ok (.dup2, 1) := by decide +kernel
theorem dX9_drawn_180 : decode cX9_drawn 180 = .ok (.iaload, 1) := by decide +kernel
theorem dX9_drawn_181 : decode cX9_drawn 181 = .ok (.lload 4, 2) := by decide +kernel
theorem dX9_drawn_183 : decode cX9_drawn 183 = .ok (.ldc2_w 260, 3) := by decide +kernel
theorem dX9_drawn_186 : decode cX9_drawn 186 = .ok (.lrem, 1) := by decide +kernel
theorem dX9_drawn_187 : decode cX9_drawn 187 = .ok (.lconst 0, 1) := by decide +kernel
theorem dX9_drawn_188 : decode cX9_drawn 188 = .ok (.lcmp, 1) := by decide +kernel
theorem dX9_drawn_189 : decode cX9_drawn 189 = .ok (.ifCond .ne 7, 3) := by decide +kernel
theorem dX9_drawn_192 : decode cX9_drawn 192 = .ok (.iconst 1, 1) := by decide +kernel
theorem dX9_drawn_193 : decode cX9_drawn 193 = .ok (.goto 4, 3) := by decide +kernel
theorem dX9_drawn_196 : decode cX9_drawn 196 = .ok (.iconst 0, 1) := by decide +kernel
theorem dX9_drawn_197 : decode cX9_drawn 197 = .ok (.iadd, 1) := by decide +kernel
theorem dX9_drawn_198 : decode cX9_drawn 198 = .ok (.iastore, 1) := by decide +kernel
theorem dX9_drawn_199 : decode cX9_drawn 199 = .ok (.iinc 7 1, 3) := by decide +kernel
theorem dX9_drawn_202 : decode cX9_drawn 202 = .ok (.goto (-135), 3) := by decide +kernel
theorem dX9_drawn_205 : decode cX9_drawn 205 = .ok (.iconst 0, 1) := by decide +kernel
theorem dX9_drawn_206 : decode cX9_drawn 206 = .ok (.istore 7, 2) := by decide +kernel
theorem dX9_drawn_208 : decode cX9_drawn 208 = .ok (.iconst 0, 1) := by decide +kernel
theorem dX9_drawn_209 : decode cX9_drawn 209 = .ok (.istore 8, 2) := by decide +kernel
theorem dX9_drawn_211 : decode cX9_drawn 211 = .ok (.iload 8, 2) := by decide +kernel
theorem dX9_drawn_213 : decode cX9_drawn 213 = .ok (.aload_n 0, 1) := by decide +kernel
theorem dX9_drawn_214 : decode cX9_drawn 214 = .ok (.getfield 7, 3) := by decide +kernel
theorem dX9_drawn_217 : decode cX9_drawn 217 = .ok (.iconst 3, 1) := by decide +kernel
theorem dX9_drawn_218 : decode cX9_drawn 218 = .ok (.iaload, 1) := by decide +kernel
theorem dX9_drawn_219 : decode cX9_drawn 219 = .ok (.if_icmp .ge 25, 3) := by decide +kernel
theorem dX9_drawn_222 : decode cX9_drawn 222 = .ok (.iload 7, 2) := by decide +kernel
theorem dX9_drawn_224 : decode cX9_drawn 224 = .ok (.aload_n 0, 1) := by decide +kernel
theorem dX9_drawn_225 : decode cX9_drawn 225 = .ok (.getfield 7, 3) := by decide +kernel
theorem dX9_drawn_228 : decode cX9_drawn 228 = .ok (.sipush 3426, 3) := by decide +kernel
theorem dX9_drawn_231 : decode cX9_drawn 231 = .ok (.iload 8, 2) := by decide +kernel
theorem dX9_drawn_233 : decode cX9_drawn 233 = .ok (.iadd, 1) := by decide +kernel
theorem dX9_drawn_234 : decode cX9_drawn 234 = .ok (.iaload, 1) := by decide +kernel
theorem dX9_drawn_235 : decode cX9_drawn 235 = .ok (.iadd, 1) := by decide +kernel
theorem dX9_drawn_236 : decode cX9_drawn 236 = .ok (.istore 7, 2) := by decide +kernel
theorem dX9_drawn_238 : decode cX9_drawn 238 = .ok (.iinc 8 1, 3) := by decide +kernel
theorem dX9_drawn_241 : decode cX9_drawn 241 = .ok (.goto (-30), 3) := by decide +kernel
theorem dX9_drawn_244 : decode cX9_drawn 244 = .ok (.iload_n 3, 1) := by decide +kernel
theorem dX9_drawn_245 : decode cX9_drawn 245 = .ok (.ifCond .ne 8, 3) := by decide +kernel
theorem dX9_drawn_248 : decode cX9_drawn 248 = .ok (.iload 6, 2) := by decide +kernel
theorem dX9_drawn_250 : decode cX9_drawn 250 = .ok (.goto 5, 3) := by decide +kernel
theorem dX9_drawn_253 : decode cX9_drawn 253 = .ok (.iload 7, 2) := by decide +kernel
theorem dX9_drawn_255 : decode cX9_drawn 255 = .ok (.ireturn, 1) := by decide +kernel
theorem dX9_image_0 : decode cX9_image 0 = .ok (.iload_n 1, 1) := by decide +kernel
theorem dX9_image_1 : decode cX9_image 1 = .ok (.i2l, 1) := by decide +kernel
theorem dX9_image_2 : decode cX9_image 2 = .ok (.lconst 0, 1) := by decide +kernel
theorem dX9_image_3 : decode cX9_image 3 = .ok (.lconst 1, 1) := by decide +kernel
theorem dX9_image_4 : decode cX9_image 4 = .ok (.invokestatic 39, 3) := by decide +kernel
theorem dX9_image_7 : decode cX9_image 7 = .ok (.ifCond .ne 6, 3) := by decide +kernel
theorem dX9_image_10 : decode cX9_image 10 = .ok (.ldc 49, 2) := by decide +kernel
theorem dX9_image_12 : decode cX9_image 12 = .ok (.ireturn, 1) := by decide +kernel
theorem dX9_image_13 : decode cX9_image 13 = .ok (.aload_n 0, 1) := by decide +kernel
theorem dX9_image_14 : decode cX9_image 14 = .ok (.getfield 7, 3) := by decide +kernel
theorem dX9_image_17 : decode cX9_image 17 = .ok (.iconst 3, 1) := by decide +kernel
theorem dX9_image_18 : decode cX9_image 18 = .ok (.iaload, 1) := by decide +kernel
theorem dX9_image_19 : decode cX9_image 19 = .ok (.ifCond .ne 6, 3) := by decide +kernel
theorem dX9_image_22 : decode cX9_image 22 = .ok (.ldc 134, 2) := by decide +kernel
theorem dX9_image_24 : decode cX9_image 24 = .ok (.ireturn, 1) := by decide +kernel
theorem dX9_image_25 : decode cX9_image 25 = .ok (.aload_n 0, 1) := by decide +kernel
theorem dX9_image_26 : decode cX9_image 26 = .ok (.iconst 0, 1) := by decide +kernel
theorem dX9_image_27 : decode cX9_image 27 = .ok (.sipush 3150, 3) := by decide +kernel
theorem dX9_image_30 : decode cX9_image 30 = .ok (.bipush 126, 2) := by decide +kernel
theorem dX9_image_32 : decode cX9_image 32 = .ok (.iload_n 1, 1) := by decide +kernel
theorem dX9_image_33 : decode cX9_image 33 = .ok (.imul, 1) := by decide +kernel
theorem dX9_image_34 : decode cX9_image 34 = .ok (.iadd, 1) := by decide +kernel
theorem dX9_image_35 : decode cX9_image 35 = .ok (.invokevirtual 127, 3) := by decide +kernel
theorem dX9_image_38 : decode cX9_image 38 = .ok (.aload_n 0, 1) := by decide +kernel
theorem dX9_image_39 : decode cX9_image 39 = .ok (.getfield 13, 3) := by decide +kernel
theorem dX9_image_42 : decode cX9_image 42 = .ok (.iload_n 1, 1) := by decide +kernel
theorem dX9_image_43 : decode cX9_image 43 = .ok (.iconst 1, 1) := by decide +kernel
theorem dX9_image_44 : decode cX9_image 44 = .ok (.bastore, 1) := by decide +kernel
theorem dX9_image_45 : decode cX9_image 45 = .ok (.iconst 1, 1) := by decide +kernel
theorem dX9_image_46 : decode cX9_image 46 = .ok (.ireturn, 1) := by decide +kernel
theorem dX9_restore_0 : decode cX9_restore 0 = .ok (.iload_n 1, 1) := by decide +kernel
theorem dX9_restore_1 : decode cX9_restore 1 = .ok (.i2l, 1) := by decide +kernel
theorem dX9_restore_2 : decode cX9_restore 2 = .ok (.lconst 0, 1) := by decide +kernel
theorem dX9_restore_3 : decode cX9_restore 3 = .ok (.lconst 1, 1) := by decide +kernel
theorem dX9_restore_4 : decode cX9_restore 4 = .ok (.invokestatic 39, 3) := by decide +kernel
theorem dX9_restore_7 : decode cX9_restore 7 = .ok (.ifCond .ne 6, 3) := by decide +kernel
theorem dX9_restore_10 : decode cX9_restore 10 = .ok (.ldc 49, 2) := by decide +kernel
theorem dX9_restore_12 : decode cX9_restore 12 = .ok (.ireturn, 1) := by decide +kernel
theorem dX9_restore_13 : decode cX9_restore 13 = .ok (.aload_n 0, 1) := by decide +kernel
theorem dX9_restore_14 : decode cX9_restore 14 = .ok (.getfield 13, 3) := by decide +kernel
theorem dX9_restore_17 : decode cX9_restore 17 = .ok (.iload_n 1, 1) := by decide +kernel
theorem dX9_restore_18 : decode cX9_restore 18 = .ok (.baload, 1) := by decide +kernel
theorem dX9_restore_19 : decode cX9_restore 19 = .ok (.ifCond .ne 6, 3) := by decide +kernel
theorem dX9_restore_22 : decode cX9_restore 22 = .ok (.ldc 134, 2) := by decide +kernel
theorem dX9_restore_24 : decode cX9_restore 24 = .ok (.ireturn, 1) := by decide +kernel
theorem dX9_restore_25 : decode cX9_restore 25 = .ok (.aload_n 0, 1) := by decide +kernel
theorem dX9_restore_26 : decode cX9_restore 26 = .ok (.sipush 3150, 3) := by decide +kernel
theorem dX9_restore_29 : decode cX9_restore 29 = .ok (.bipush 126, 2) := by decide +kernel
theorem dX9_restore_31 : decode cX9_restore 31 = .ok (.iload_n 1, 1) := by decide +kernel
theorem dX9_restore_32 : decode cX9_restore 32 = .ok (.imul, 1) := by decide +kernel
theorem dX9_restore_33 : decode cX9_restore 33 = .ok (.iadd, 1) := by decide +kernel
theorem dX9_restore_34 : decode cX9_restore 34 = .ok (.iconst 0, 1) := by decide +kernel
theorem dX9_restore_35 : decode cX9_restore 35 = .ok (.invokevirtual 127, 3) := by decide +kernel
theorem dX9_restore_38 : decode cX9_restore 38 = .ok (.aload_n 0, 1) := by decide +kernel
theorem dX9_restore_39 : decode cX9_restore 39 = .ok (.iconst 0, 1) := by decide +kernel
theorem dX9_restore_40 : decode cX9_restore 40 = .ok (.putfield 131, 3) := by decide +kernel
theorem dX9_restore_43 : decode cX9_restore 43 = .ok (.iconst 1, 1) := by decide +kernel
theorem dX9_restore_44 : decode cX9_restore 44 = .ok (.ireturn, 1) := by decide +kernel
theorem dX9_kind_0 : decode cX9_kind 0 = .ok (.aload_n 0, 1) := by decide +kernel
theorem dX9_kind_1 : decode cX9_kind 1 = .ok (.iload_n 1, 1) := by decide +kernel
theorem dX9_kind_2 : decode cX9_kind 2 = .ok (.invokevirtual 171, 3) := by decide +kernel
theorem dX9_kind_5 : decode cX9_kind 5 = .ok (.ifCond .eq 15, 3) := by decide +kernel
theorem dX9_kind_8 : decode cX9_kind 8 = .ok (.aload_n 0, 1) := by decide +kernel
theorem dX9_kind_9 : decode cX9_kind 9 = .ok (.getfield 7, 3) := by decide +kernel
theorem dX9_kind_12 : decode cX9_kind 12 = .ok (.bipush 18, 2) := by decide +kernel
theorem dX9_kind_14 : decode cX9_kind 14 = .ok (.iload_n 1, 1) := by decide +kernel
theorem dX9_kind_15 : decode cX9_kind 15 = .ok (.iadd, 1) := by decide +kernel
theorem dX9_kind_16 : decode cX9_kind 16 = .ok (.iaload, 1) := by decide +kernel
theorem dX9_kind_17 : decode cX9_kind 17 = .ok (.goto 5, 3) := by decide +kernel
theorem dX9_kind_20 : decode cX9_kind 20 = .ok (.ldc 49, 2) := by decide +kernel
theorem dX9_kind_22 : decode cX9_kind 22 = .ok (.ireturn, 1) := by decide +kernel
theorem dX9_isOf_0 : decode cX9_isOf 0 = .ok (.aload_n 0, 1) := by decide +kernel
theorem dX9_isOf_1 : decode cX9_isOf 1 = .ok (.getfield 7, 3) := by decide +kernel
theorem dX9_isOf_4 : decode cX9_isOf 4 = .ok (.bipush 18, 2) := by decide +kernel
theorem dX9_isOf_6 : decode cX9_isOf 6 = .ok (.iload_n 1, 1) := by decide +kernel
theorem dX9_isOf_7 : decode cX9_isOf 7 = .ok (.iadd, 1) := by decide +kernel
theorem dX9_isOf_8 : decode cX9_isOf 8 = .ok (.iaload, 1) := by decide +kernel
theorem dX9_isOf_9 : decode cX9_isOf 9 = .ok (.istore_n 3, 1) := by decide +kernel
theorem dX9_isOf_10 : decode cX9_isOf 10 = .ok (.iload_n 2, 1) := by decide +kernel
theorem dX9_isOf_11 : decode cX9_isOf 11 = .ok (.ifCond .eq 33, 3) := by decide +kernel
theorem dX9_isOf_14 : decode cX9_isOf 14 = .ok (.iload_n 2, 1) := by decide +kernel
theorem dX9_isOf_15 : decode cX9_isOf 15 = .ok (.iload_n 3, 1) := by decide +kernel
theorem dX9_isOf_16 : decode cX9_isOf 16 = .ok (.if_icmp .eq 28, 3) := by decide +kernel
theorem dX9_isOf_19 : decode cX9_isOf 19 = .ok (.iload_n 2, 1) := by decide +kernel
theorem dX9_isOf_20 : decode cX9_isOf 20 = .ok (.iconst 1, 1) := by decide +kernel
theorem dX9_isOf_21 : decode cX9_isOf 21 = .ok (.if_icmp .ne 13, 3) := by decide +kernel
theorem dX9_isOf_24 : decode cX9_isOf 24 = .ok (.iload_n 3, 1) := by decide +kernel
theorem dX9_isOf_25 : decode cX9_isOf 25 = .ok (.iconst 2, 1) := by decide +kernel
theorem dX9_isOf_26 : decode cX9_isOf 26 = .ok (.if_icmp .eq 18, 3) := by decide +kernel
theorem dX9_isOf_29 : decode cX9_isOf 29 = .ok (.iload_n 3, 1) := by decide +kernel
theorem dX9_isOf_30 : decode cX9_isOf 30 = .ok (.iconst 3, 1) := by decide +kernel
theorem dX9_isOf_31 : decode cX9_isOf 31 = .ok (.if_icmp .eq 13, 3) := by decide +kernel
theorem dX9_isOf_34 : decode cX9_isOf 34 = .ok (.iload_n 2, 1) := by decide +kernel
theorem dX9_isOf_35 : decode cX9_isOf 35 = .ok (.iconst 4, 1) := by decide +kernel
theorem dX9_isOf_36 : decode cX9_isOf 36 = .ok (.if_icmp .ne 12, 3) := by decide +kernel
theorem dX9_isOf_39 : decode cX9_isOf 39 = .ok (.iload_n 3, 1) := by decide +kernel
theorem dX9_isOf_40 : decode cX9_isOf 40 = .ok (.iconst 5, 1) := by decide +kernel
theorem dX9_isOf_41 : decode cX9_isOf 41 = .ok (.if_icmp .ne 7, 3) := by decide +kernel
theorem dX9_isOf_44 : decode cX9_isOf 44 = .ok (.iconst 1, 1) := by decide +kernel
theorem dX9_isOf_45 : decode cX9_isOf 45 = .ok (.goto 4, 3) := by decide +kernel
theorem dX9_isOf_48 : decode cX9_isOf 48 = .ok (.iconst 0, 1) := by decide +kernel
theorem dX9_isOf_49 : decode cX9_isOf 49 = .ok (.ireturn, 1) := by decide +kernel
theorem dX9_as_0 : decode cX9_as 0 = .ok (.aload_n 0, 1) := by decide +kernel
theorem dX9_as_1 : decode cX9_as 1 = .ok (.iload_n 1, 1) := by decide +kernel
theorem dX9_as_2 : decode cX9_as 2 = .ok (.invokevirtual 171, 3) := by decide +kernel
theorem dX9_as_5 : decode cX9_as 5 = .ok (.ifCond .eq 15, 3) := by decide +kernel
theorem dX9_as_8 : decode cX9_as 8 = .ok (.iload_n 2, 1) := by decide +kernel
theorem dX9_as_9 : decode cX9_as 9 = .ok (.i2l, 1) := by decide +kernel
theorem dX9_as_10 : decode cX9_as 10 = .ok (.lconst 0, 1) := by decide +kernel
theorem dX9_as_11 : decode cX9_as 11 = .ok (.ldc2_w 262, 3) := by decide +kernel
theorem dX9_as_14 : decode cX9_as 14 = .ok (.invokestatic 39, 3) := by decide +kernel
theorem dX9_as_17 : decode cX9_as 17 = .ok (.ifCond .ne 6, 3) := by decide +kernel
theorem dX9_as_20 : decode cX9_as 20 = .ok (.ldc 49, 2) := by decide +kernel
theorem dX9_as_22 : decode cX9_as 22 = .ok (.ireturn, 1) := by decide +kernel
theorem dX9_as_23 : decode cX9_as 23 = .ok (.aload_n 0, 1) := by decide +kernel
theorem dX9_as_24 : decode cX9_as 24 = .ok (.iload_n 1, 1) := by decide +kernel
theorem dX9_as_25 : decode cX9_as 25 = .ok (.iload_n 2, 1) := by decide +kernel
theorem dX9_as_26 : decode cX9_as 26 = .ok (.invokevirtual 264, 3) := by decide +kernel
theorem dX9_as_29 : decode cX9_as 29 = .ok (.ifCond .eq 11, 3) := by decide +kernel
theorem dX9_as_32 : decode cX9_as 32 = .ok (.aload_n 0, 1) := by decide +kernel
theorem dX9_as_33 : decode cX9_as 33 = .ok (.iload_n 1, 1) := by decide +kernel
theorem dX9_as_34 : decode cX9_as 34 = .ok (.invokevirtual 54, 3) := by decide +kernel
theorem dX9_as_37 : decode cX9_as 37 = .ok (.goto 8, 3) := by decide +kernel
theorem dX9_as_40 : decode cX9_as 40 = .ok (.aload_n 0, 1) := by decide +kernel
theorem dX9_as_41 : decode cX9_as 41 = .ok (.iconst 3, 1) := by decide +kernel
theorem dX9_as_42 : decode cX9_as 42 = .ok (.invokevirtual 50, 3) := by decide +kernel
theorem dX9_as_45 : decode cX9_as 45 = .ok (.ireturn, 1) := by decide +kernel
theorem dX9_begin_0 : decode cX9_begin 0 = .ok (.aload_n 0, 1) := by decide +kernel
theorem dX9_begin_1 : decode cX9_begin 1 = .ok (.getfield 267, 3) := by decide +kernel
theorem dX9_begin_4 : decode cX9_begin 4 = .ok (.bipush 16, 2) := by decide +kernel
theorem dX9_begin_6 : decode cX9_begin 6 = .ok (.if_icmp .ge 23, 3) := by decide +kernel
theorem dX9_begin_9 : decode cX9_begin 9 = .ok (.aload_n 0, 1) := by decide +kernel
theorem dX9_begin_10 : decode cX9_begin 10 = .ok (.getfield 29, 3) := by decide +kernel
theorem dX9_begin_13 : decode cX9_begin 13 = .ok (.aload_n 0, 1) := by decide +kernel
theorem dX9_begin_14 : decode cX9_begin 14 = .ok (.getfield 267, 3) := by decide +kernel
theorem dX9_begin_17 : decode cX9_begin 17 = .ok (.iload_n 1, 1) := by decide +kernel
theorem dX9_begin_18 : decode cX9_begin 18 = .ok (.iastore, 1) := by decide +kernel
theorem dX9_begin_19 : decode cX9_begin 19 = .ok (.aload_n 0, 1) := by decide +kernel
theorem dX9_begin_20 : decode cX9_begin 20 = .ok (.dup, 1) := by decide +kernel
theorem dX9_begin_21 : decode cX9_begin 21 = .ok (.getfield 267, 3) := by decide +kernel
theorem dX9_begin_24 : decode cX9_begin 24 = .ok (.iconst 1, 1) := by decide +kernel
theorem dX9_begin_25 : decode cX9_begin 25 = .ok (.iadd, 1) := by decide +kernel
theorem dX9_begin_26 : decode cX9_begin 26 = .ok (.putfield 267, 3) := by decide +kernel
theorem dX9_begin_29 : decode cX9_begin 29 = .ok (.return_, 1) := by decide +kernel
theorem dX9_lentSize_0 : decode cX9_lentSize 0 = .ok (.aload_n 0, 1) := by decide +kernel
theorem dX9_lentSize_1 : decode cX9_lentSize 1 = .ok (.bipush 10, 2) := by decide +kernel
theorem dX9_lentSize_3 : decode cX9_lentSize 3 = .ok (.invokevirtual 270, 3) := by decide +kernel
theorem dX9_lentSize_6 : decode cX9_lentSize 6 = .ok (.aload_n 0, 1) := by decide +kernel
theorem dX9_lentSize_7 : decode cX9_lentSize 7 = .ok (.iload_n 1, 1) := by decide +kernel
theorem dX9_lentSize_8 : decode cX9_lentSize 8 = .ok (.invokevirtual 192, 3) := by decide +kernel
theorem dX9_lentSize_11 : decode cX9_lentSize 11 = .ok (.ireturn, 1) := by decide +kernel
theorem dX9_passersSize_0 : decode cX9_passersSize 0 = .ok (.aload_n 0, 1) := by decide +kernel
theorem dX9_passersSize_1 : decode cX9_passersSize 1 = .ok (.bipush 11, 2) := by decide +kernel
theorem dX9_passersSize_3 : decode cX9_passersSize 3 = .ok (.invokevirtual 270, 3) := by decide +kernel
theorem dX9_passersSize_6 : decode cX9_passersSize 6 = .ok (.aload_n 0, 1) := by decide +kernel
theorem dX9_passersSize_7 : decode cX9_passersSize 7 = .ok (.iload_n 1, 1) := by decide +kernel
theorem dX9_passersSize_8 : decode cX9_passersSize 8 = .ok (.invokevirtual 273, 3) := by decide +kernel
theorem dX9_passersSize_11 : decode cX9_passersSize 11 = .ok (.istore_n 2, 1) := by decide +kernel
theorem dX9_passersSize_12 : decode cX9_passersSize 12 = .ok (.iload_n 2, 1) := by decide +kernel
theorem dX9_passersSize_13 : decode cX9_passersSize 13 = .ok (.aload_n 0, 1) := by decide +kernel
theorem dX9_passersSize_14 : decode cX9_passersSize 14 = .ok (.iload_n 1, 1) := by decide +kernel
theorem dX9_passersSize_15 : decode cX9_passersSize 15 = .ok (.invokevirtual 276, 3) := by decide +kernel
theorem dX9_passersSize_18 : decode cX9_passersSize 18 = .ok (.iadd, 1) := by decide +kernel
theorem dX9_passersSize_19 : decode cX9_passersSize 19 = .ok (.ireturn, 1) := by decide +kernel
theorem dX9_childrenSize_0 : decode cX9_childrenSize 0 = .ok (.aload_n 0, 1) := by decide +kernel
theorem dX9_childrenSize_1 : decode cX9_childrenSize 1 = .ok (.bipush 13, 2) := by decide +kernel
theorem dX9_childrenSize_3 : decode cX9_childrenSize 3 = .ok (.invokevirtual 270, 3) := by decide +kernel
theorem dX9_childrenSize_6 : decode cX9_childrenSize 6 = .ok (.aload_n 0, 1) := by decide +kernel
theorem dX9_childrenSize_7 : decode cX9_childrenSize 7 = .ok (.iload_n 1, 1) := by decide +kernel
theorem dX9_childrenSize_8 : decode cX9_childrenSize 8 = .ok (.invokevirtual 273, 3) := by decide +kernel
theorem dX9_childrenSize_11 : decode cX9_childrenSize 11 = .ok (.bipush 100, 2) := by decide +kernel
theorem dX9_childrenSize_13 : decode cX9_childrenSize 13 = .ok (.isub, 1) := by decide +kernel
theorem dX9_childrenSize_14 : decode cX9_childrenSize 14 = .ok (.ireturn, 1) := by decide +kernel
theorem dX9_sizeOf_0 : decode cX9_sizeOf 0 = .ok (.aload_n 0, 1) := by decide +kernel
theorem dX9_sizeOf_1 : decode cX9_sizeOf 1 = .ok (.getfield 7, 3) := by decide +kernel
theorem dX9_sizeOf_4 : decode cX9_sizeOf 4 = .ok (.bipush 18, 2) := by decide +kernel
theorem dX9_sizeOf_6 : decode cX9_sizeOf 6 = .ok (.iload_n 1, 1) := by decide +kernel
theorem dX9_sizeOf_7 : decode cX9_sizeOf 7 = .ok (.iadd, 1) := by decide +kernel
theorem dX9_sizeOf_8 : decode cX9_sizeOf 8 = .ok (.iaload, 1) := by decide +kernel
theorem dX9_sizeOf_9 : decode cX9_sizeOf 9 = .ok (.tableswitch 64 2 5 #[31, 64, 44, 50], 31) := by decide +kernel
theorem dX9_sizeOf_40 : decode cX9_sizeOf 40 = .ok (.aload_n 0, 1) := by decide +kernel
theorem dX9_sizeOf_41 : decode cX9_sizeOf 41 = .ok (.bipush 12, 2) := by decide +kernel
theorem dX9_sizeOf_43 : decode cX9_sizeOf 43 = .ok (.invokevirtual 270, 3) := by decide +kernel
theorem dX9_sizeOf_46 : decode cX9_sizeOf 46 = .ok (.aload_n 0, 1) := by decide +kernel
theorem dX9_sizeOf_47 : decode cX9_sizeOf 47 = .ok (.iload_n 1, 1) := by decide +kernel
theorem dX9_sizeOf_48 : decode cX9_sizeOf 48 = .ok (.invokevirtual 279, 3) := by decide +kernel
theorem dX9_sizeOf_51 : decode cX9_sizeOf 51 = .ok (.ineg, 1) := by decide +kernel
theorem dX9_sizeOf_52 : decode cX9_sizeOf 52 = .ok (.ireturn, 1) := by decide +kernel
theorem dX9_sizeOf_53 : decode cX9_sizeOf 53 = .ok (.aload_n 0, 1) := by decide +kernel
theorem dX9_sizeOf_54 : decode cX9_sizeOf 54 = .ok (.iload_n 1, 1) := by decide +kernel
theorem dX9_sizeOf_55 : decode cX9_sizeOf 55 = .ok (.invokevirtual 282, 3) := by decide +kernel
theorem dX9_sizeOf_58 : decode cX9_sizeOf 58 = .ok (.ireturn, 1) := by decide +kernel
theorem dX9_sizeOf_59 : decode cX9_sizeOf 59 = .ok (.aload_n 0, 1) := by decide +kernel
theorem dX9_sizeOf_60 : decode cX9_sizeOf 60 = .ok (.bipush 14, 2) := by decide +kernel
theorem dX9_sizeOf_62 : decode cX9_sizeOf 62 = .ok (.invokevirtual 270, 3) := by decide +kernel
theorem dX9_sizeOf_65 : decode cX9_sizeOf 65 = .ok (.iconst 2, 1) := by decide +kernel
theorem dX9_sizeOf_66 : decode cX9_sizeOf 66 = .ok (.aload_n 0, 1) := by decide +kernel
theorem dX9_sizeOf_67 : decode cX9_sizeOf 67 = .ok (.iload_n 1, 1) := by decide +kernel
theorem dX9_sizeOf_68 : decode cX9_sizeOf 68 = .ok (.invokevirtual 282, 3) := by decide +kernel
theorem dX9_sizeOf_71 : decode cX9_sizeOf 71 = .ok (.imul, 1) := by decide +kernel
theorem dX9_sizeOf_72 : decode cX9_sizeOf 72 = .ok (.ireturn, 1) := by decide +kernel
theorem dX9_sizeOf_73 : decode cX9_sizeOf 73 = .ok (.aload_n 0, 1) := by decide +kernel
theorem dX9_sizeOf_74 : decode cX9_sizeOf 74 = .ok (.iload_n 1, 1) := by decide +kernel
theorem dX9_sizeOf_75 : decode cX9_sizeOf 75 = .ok (.invokevirtual 279, 3) := by decide +kernel
theorem dX9_sizeOf_78 : decode cX9_sizeOf 78 = .ok (.ireturn, 1) := by decide +kernel
theorem dX9_lentMark_0 : decode cX9_lentMark 0 = .ok (.aload_n 0, 1) := by decide +kernel
theorem dX9_lentMark_1 : decode cX9_lentMark 1 = .ok (.bipush 20, 2) := by decide +kernel
theorem dX9_lentMark_3 : decode cX9_lentMark 3 = .ok (.invokevirtual 270, 3) := by decide +kernel
theorem dX9_lentMark_6 : decode cX9_lentMark 6 = .ok (.iload_n 1, 1) := by decide +kernel
theorem dX9_lentMark_7 : decode cX9_lentMark 7 = .ok (.ireturn, 1) := by decide +kernel
theorem dX9_passersMark_0 : decode cX9_passersMark 0 = .ok (.aload_n 0, 1) := by decide +kernel
theorem dX9_passersMark_1 : decode cX9_passersMark 1 = .ok (.bipush 21, 2) := by decide +kernel
theorem dX9_passersMark_3 : decode cX9_passersMark 3 = .ok (.invokevirtual 270, 3) := by decide +kernel
theorem dX9_passersMark_6 : decode cX9_passersMark 6 = .ok (.aload_n 0, 1) := by decide +kernel
theorem dX9_passersMark_7 : decode cX9_passersMark 7 = .ok (.iload_n 1, 1) := by decide +kernel
theorem dX9_passersMark_8 : decode cX9_passersMark 8 = .ok (.invokevirtual 285, 3) := by decide +kernel
theorem dX9_passersMark_11 : decode cX9_passersMark 11 = .ok (.aload_n 0, 1) := by decide +kernel
theorem dX9_passersMark_12 : decode cX9_passersMark 12 = .ok (.getfield 7, 3) := by decide +kernel
theorem dX9_passersMark_15 : decode cX9_passersMark 15 = .ok (.bipush 30, 2) := by decide +kernel
theorem dX9_passersMark_17 : decode cX9_passersMark 17 = .ok (.iload_n 1, 1) := by decide +kernel
theorem dX9_passersMark_18 : decode cX9_passersMark 18 = .ok (.iadd, 1) := by decide +kernel
theorem dX9_passersMark_19 : decode cX9_passersMark 19 = .ok (.iaload, 1) := by decide +kernel
theorem dX9_passersMark_20 : decode cX9_passersMark 20 = .ok (.iadd, 1) := by decide +kernel
theorem dX9_passersMark_21 : decode cX9_passersMark 21 = .ok (.ireturn, 1) := by decide +kernel
theorem dX9_mark_0 : decode cX9_mark 0 = .ok (.aload_n 0, 1) := by decide +kernel
theorem dX9_mark_1 : decode cX9_mark 1 = .ok (.getfield 7, 3) := by decide +kernel
theorem dX9_mark_4 : decode cX9_mark 4 = .ok (.bipush 18, 2) := by decide +kernel
theorem dX9_mark_6 : decode cX9_mark 6 = .ok (.iload_n 1, 1) := by decide +kernel
theorem dX9_mark_7 : decode cX9_mark 7 = .ok (.iadd, 1) := by decide +kernel
theorem dX9_mark_8 : decode cX9_mark 8 = .ok (.iaload, 1) := by decide +kernel
theorem dX9_mark_9 : decode cX9_mark 9 = .ok (.lookupswitch 57 #[(2, 43), (3, 27)], 27) := by decide +kernel
theorem dX9_mark_36 : decode cX9_mark 36 = .ok (.aload_n 0, 1) := by decide +kernel
theorem dX9_mark_37 : decode cX9_mark 37 = .ok (.bipush 22, 2) := by decide +kernel
theorem dX9_mark_39 : decode cX9_mark 39 = .ok (.invokevirtual 270, 3) := by decide +kernel
theorem dX9_mark_42 : decode cX9_mark 42 = .ok (.aload_n 0, 1) := by decide +kernel
theorem dX9_mark_43 : decode cX9_mark 43 = .ok (.iload_n 1, 1) := by decide +kernel
theorem dX9_mark_44 : decode cX9_mark 44 = .ok (.invokevirtual 288, 3) := by decide +kernel
theorem dX9_mark_47 : decode cX9_mark 47 = .ok (.sipush 1000, 3) := by decide +kernel
theorem dX9_mark_50 : decode cX9_mark 50 = .ok (.isub, 1) := by decide +kernel
theorem dX9_mark_51 : decode cX9_mark 51 = .ok (.ireturn, 1) := by decide +kernel
theorem dX9_mark_52 : decode cX9_mark 52 = .ok (.aload_n 0, 1) := by decide +kernel
theorem dX9_mark_53 : decode cX9_mark 53 = .ok (.bipush 24, 2) := by decide +kernel
theorem dX9_mark_55 : decode cX9_mark 55 = .ok (.invokevirtual 270, 3) := by decide +kernel
theorem dX9_mark_58 : decode cX9_mark 58 = .ok (.iconst 2, 1) := by decide +kernel
theorem dX9_mark_59 : decode cX9_mark 59 = .ok (.aload_n 0, 1) := by decide +kernel
theorem dX9_mark_60 : decode cX9_mark 60 = .ok (.iload_n 1, 1) := by decide +kernel
theorem dX9_mark_61 : decode cX9_mark 61 = .ok (.invokevirtual 288, 3) := by decide +kernel
theorem dX9_mark_64 : decode cX9_mark 64 = .ok (.imul, 1) := by decide +kernel
theorem dX9_mark_65 : decode cX9_mark 65 = .ok (.ireturn, 1) := by decide +kernel
theorem dX9_mark_66 : decode cX9_mark 66 = .ok (.aload_n 0, 1) := by decide +kernel
theorem dX9_mark_67 : decode cX9_mark 67 = .ok (.iload_n 1, 1) := by decide +kernel
theorem dX9_mark_68 : decode cX9_mark 68 = .ok (.invokevirtual 288, 3) := by decide +kernel
theorem dX9_mark_71 : decode cX9_mark 71 = .ok (.ireturn, 1) := by decide +kernel
theorem dX9_childrenMark_0 : decode cX9_childrenMark 0 = .ok (.aload_n 0, 1) := by decide +kernel
theorem dX9_childrenMark_1 : decode cX9_childrenMark 1 = .ok (.bipush 23, 2) := by decide +kernel
theorem dX9_childrenMark_3 : decode cX9_childrenMark 3 = .ok (.invokevirtual 270, 3) := by decide +kernel
theorem dX9_childrenMark_6 : decode cX9_childrenMark 6 = .ok (.aload_n 0, 1) := by decide +kernel
theorem dX9_childrenMark_7 : decode cX9_childrenMark 7 = .ok (.iload_n 1, 1) := by decide +kernel
theorem dX9_childrenMark_8 : decode cX9_childrenMark 8 = .ok (.invokevirtual 285, 3) := by decide +kernel
theorem dX9_childrenMark_11 : decode cX9_childrenMark 11 = .ok (.istore_n 2, 1) := by decide +kernel
theorem dX9_childrenMark_12 : decode cX9_childrenMark 12 = .ok (.iload_n 2, 1) := by decide +kernel
theorem dX9_childrenMark_13 : decode cX9_childrenMark 13 = .ok (.aload_n 0, 1) := by decide +kernel
theorem dX9_childrenMark_14 : decode cX9_childrenMark 14 = .ok (.iload_n 1, 1) := by decide +kernel
theorem dX9_childrenMark_15 : decode cX9_childrenMark 15 = .ok (.invokevirtual 291, 3) := by decide +kernel
theorem dX9_childrenMark_18 : decode cX9_childrenMark 18 = .ok (.isub, 1) := by decide +kernel
theorem dX9_childrenMark_19 : decode cX9_childrenMark 19 = .ok (.ireturn, 1) := by decide +kernel
theorem dX9_ask_0 : decode cX9_ask 0 = .ok (.aload_n 0, 1) := by decide +kernel
theorem dX9_ask_1 : decode cX9_ask 1 = .ok (.iload_n 1, 1) := by decide +kernel
theorem dX9_ask_2 : decode cX9_ask 2 = .ok (.invokevirtual 171, 3) := by decide +kernel
theorem dX9_ask_5 : decode cX9_ask 5 = .ok (.ifCond .eq 13, 3) := by decide +kernel
theorem dX9_ask_8 : decode cX9_ask 8 = .ok (.iload_n 2, 1) := by decide +kernel
theorem dX9_ask_9 : decode cX9_ask 9 = .ok (.i2l, 1) := by decide +kernel
theorem dX9_ask_10 : decode cX9_ask 10 = .ok (.lconst 0, 1) := by decide +kernel
theorem dX9_ask_11 : decode cX9_ask 11 = .ok (.lconst 1, 1) := by decide +kernel
theorem dX9_ask_12 : decode cX9_ask 12 = .ok (.invokestatic 39, 3) := by decide +kernel
theorem dX9_ask_15 : decode cX9_ask 15 = .ok (.ifCond .ne 6, 3) := by decide +kernel
theorem dX9_ask_18 : decode cX9_ask 18 = .ok (.ldc 49, 2) := by decide +kernel
theorem dX9_ask_20 : decode cX9_ask 20 = .ok (.ireturn, 1) := by decide +kernel
theorem dX9_ask_21 : decode cX9_ask 21 = .ok (.aload_n 0, 1) := by decide +kernel
theorem dX9_ask_22 : decode cX9_ask 22 = .ok (.iconst 0, 1) := by decide +kernel
theorem dX9_ask_23 : decode cX9_ask 23 = .ok (.putfield 267, 3) := by decide +kernel
theorem dX9_ask_26 : decode cX9_ask 26 = .ok (.iload_n 2, 1) := by decide +kernel
theorem dX9_ask_27 : decode cX9_ask 27 = .ok (.ifCond .ne 11, 3) := by decide +kernel
theorem dX9_ask_30 : decode cX9_ask 30 = .ok (.aload_n 0, 1) := by decide +kernel
theorem dX9_ask_31 : decode cX9_ask 31 = .ok (.iload_n 1, 1) := by decide +kernel
theorem dX9_ask_32 : decode cX9_ask 32 = .ok (.invokevirtual 291, 3) := by decide +kernel
theorem dX9_ask_35 : decode cX9_ask 35 = .ok (.goto 25, 3) := by decide +kernel
theorem dX9_ask_38 : decode cX9_ask 38 = .ok (.aload_n 0, 1) := by decide +kernel
theorem dX9_ask_39 : decode cX9_ask 39 = .ok (.iload_n 1, 1) := by decide +kernel
theorem dX9_ask_40 : decode cX9_ask 40 = .ok (.iconst 4, 1) := by decide +kernel
theorem dX9_ask_41 : decode cX9_ask 41 = .ok (.invokevirtual 264, 3) := by decide +kernel
theorem dX9_ask_44 : decode cX9_ask 44 = .ok (.ifCond .eq 11, 3) := by decide +kernel
theorem dX9_ask_47 : decode cX9_ask 47 = .ok (.aload_n 0, 1) := by decide +kernel
theorem dX9_ask_48 : decode cX9_ask 48 = .ok (.iload_n 1, 1) := by decide +kernel
theorem dX9_ask_49 : decode cX9_ask 49 = .ok (.invokevirtual 294, 3) := by decide +kernel
theorem dX9_ask_52 : decode cX9_ask 52 = .ok (.goto 8, 3) := by decide +kernel
theorem dX9_ask_55 : decode cX9_ask 55 = .ok (.aload_n 0, 1) := by decide +kernel
theorem dX9_ask_56 : decode cX9_ask 56 = .ok (.iload_n 1, 1) := by decide +kernel
theorem dX9_ask_57 : decode cX9_ask 57 = .ok (.invokevirtual 276, 3) := by decide +kernel
theorem dX9_ask_60 : decode cX9_ask 60 = .ok (.ireturn, 1) := by decide +kernel
theorem dX9_trace_0 : decode cX9_trace 0 = .ok (.iload_n 1, 1) := by decide +kernel
theorem dX9_trace_1 : decode cX9_trace 1 = .ok (.i2l, 1) := by decide +kernel
theorem dX9_trace_2 : decode cX9_trace 2 = .ok (.lconst 0, 1) := by decide +kernel
theorem dX9_trace_3 : decode cX9_trace 3 = .ok (.aload_n 0, 1) := by decide +kernel
theorem dX9_trace_4 : decode cX9_trace 4 = .ok (.getfield 267, 3) := by decide +kernel
theorem dX9_trace_7 : decode cX9_trace 7 = .ok (.iconst 1, 1) := by decide +kernel
theorem dX9_trace_8 : decode cX9_trace 8 = .ok (.isub, 1) := by decide +kernel
theorem dX9_trace_9 : decode cX9_trace 9 = .ok (.i2l, 1) := by decide +kernel
theorem dX9_trace_10 : decode cX9_trace 10 = .ok (.invokestatic 39, 3) := by decide +kernel
theorem dX9_trace_13 : decode cX9_trace 13 = .ok (.ifCond .eq 12, 3) := by decide +kernel
theorem dX9_trace_16 : decode cX9_trace 16 = .ok (.aload_n 0, 1) := by decide +kernel
theorem dX9_trace_17 : decode cX9_trace 17 = .ok (.getfield 29, 3) := by decide +kernel
theorem dX9_trace_20 : decode cX9_trace 20 = .ok (.iload_n 1, 1) := by decide +kernel
theorem dX9_trace_21 : decode cX9_trace 21 = .ok (.iaload, 1) := by decide +kernel
theorem dX9_trace_22 : decode cX9_trace 22 = .ok (.goto 5, 3) := by decide +kernel
theorem dX9_trace_25 : decode cX9_trace 25 = .ok (.ldc 106, 2) := by decide +kernel
theorem dX9_trace_27 : decode cX9_trace 27 = .ok (.ireturn, 1) := by decide +kernel
theorem dX9_count_0 : decode cX9_count 0 = .ok (.iconst 0, 1) := by decide +kernel
theorem dX9_count_1 : decode cX9_count 1 = .ok (.istore_n 2, 1) := by decide +kernel
theorem dX9_count_2 : decode cX9_count 2 = .ok (.iload_n 1, 1) := by decide +kernel
theorem dX9_count_3 : decode cX9_count 3 = .ok (.tableswitch 151 0 8 #[49, 82, 89, 96, 103, 110, 134, 141, 146], 49) := by decide +kernel
theorem dX9_count_52 : decode cX9_count 52 = .ok (.iconst 0, 1) := by decide +kernel
theorem dX9_count_53 : decode cX9_count 53 = .ok (.istore_n 3, 1) := by decide +kernel
theorem dX9_count_54 : decode cX9_count 54 = .ok (.iload_n 3, 1) := by decide +kernel
theorem dX9_count_55 : decode cX9_count 55 = .ok (.bipush 8, 2) := by decide +kernel
theorem dX9_count_57 : decode cX9_count 57 = .ok (.if_icmp .ge 26, 3) := by decide +kernel
theorem dX9_count_60 : decode cX9_count 60 = .ok (.iload_n 2, 1) := by decide +kernel
theorem dX9_count_61 : decode cX9_count 61 = .ok (.aload_n 0, 1) := by decide +kernel
theorem dX9_count_62 : decode cX9_count 62 = .ok (.getfield 20, 3) := by decide +kernel
theorem dX9_count_65 : decode cX9_count 65 = .ok (.iload_n 3, 1) := by decide +kernel
theorem dX9_count_66 : decode cX9_count 66 = .ok (.iaload, 1) := by decide +kernel
theorem dX9_count_67 : decode cX9_count 67 = .ok (.ifCond .ge 7, 3) := by decide +kernel
theorem dX9_count_70 : decode cX9_count 70 = .ok (.iconst 0, 1) := by decide +kernel
theorem dX9_count_71 : decode cX9_count 71 = .ok (.goto 4, 3) := by decide +kernel
theorem dX9_count_74 : decode cX9_count 74 = .ok (.iconst 1, 1) := by decide +kernel
theorem dX9_count_75 : decode cX9_count 75 = .ok (.iadd, 1) := by decide +kernel
theorem dX9_count_76 : decode cX9_count 76 = .ok (.istore_n 2, 1) := by decide +kernel
theorem dX9_count_77 : decode cX9_count 77 = .ok (.iinc 3 1, 3) := by decide +kernel
theorem dX9_count_80 : decode cX9_count 80 = .ok (.goto (-26), 3) := by decide +kernel
theorem dX9_count_83 : decode cX9_count 83 = .ok (.iload_n 2, 1) := by decide +kernel
theorem dX9_count_84 : decode cX9_count 84 = .ok (.ireturn, 1) := by decide +kernel
theorem dX9_count_85 : decode cX9_count 85 = .ok (.aload_n 0, 1) := by decide +kernel
theorem dX9_count_86 : decode cX9_count 86 = .ok (.getfield 7, 3) := by decide +kernel
theorem dX9_count_89 : decode cX9_count 89 = .ok (.iconst 0, 1) := by decide +kernel
theorem dX9_count_90 : decode cX9_count 90 = .ok (.iaload, 1) := by decide +kernel
theorem dX9_count_91 : decode cX9_count 91 = .ok (.ireturn, 1) := by decide +kernel
theorem dX9_count_92 : decode cX9_count 92 = .ok (.aload_n 0, 1) := by decide +kernel
theorem dX9_count_93 : decode cX9_count 93 = .ok (.getfield 7, 3) := by decide +kernel
theorem dX9_count_96 : decode cX9_count 96 = .ok (.iconst 2, 1) := by decide +kernel
theorem dX9_count_97 : decode cX9_count 97 = .ok (.iaload, 1) := by decide +kernel
theorem dX9_count_98 : decode cX9_count 98 = .ok (.ireturn, 1) := by decide +kernel
theorem dX9_count_99 : decode cX9_count 99 = .ok (.aload_n 0, 1) := by decide +kernel
theorem dX9_count_100 : decode cX9_count 100 = .ok (.getfield 7, 3) := by decide +kernel
theorem dX9_count_103 : decode cX9_count 103 = .ok (.iconst 3, 1) := by decide +kernel
theorem dX9_count_104 : decode cX9_count 104 = .ok (.iaload, 1) := by decide +kernel
theorem dX9_count_105 : decode cX9_count 105 = .ok (.ireturn, 1) := by decide +kernel
theorem dX9_count_106 : decode cX9_count 106 = .ok (.aload_n 0, 1) := by decide +kernel
theorem dX9_count_107 : decode cX9_count 107 = .ok (.getfield 7, 3) := by decide +kernel
theorem dX9_count_110 : decode cX9_count 110 = .ok (.iconst 4, 1) := by decide +kernel
theorem dX9_count_111 : decode cX9_count 111 = .ok (.iaload, 1) := by decide +kernel
theorem dX9_count_112 : decode cX9_count 112 = .ok (.ireturn, 1) := by decide +kernel
theorem dX9_count_113 : decode cX9_count 113 = .ok (.iconst 0, 1) := by decide +kernel
theorem dX9_count_114 : decode cX9_count 114 = .ok (.istore_n 3, 1) := by decide +kernel
theorem dX9_count_115 : decode cX9_count 115 = .ok (.iload_n 3, 1) := by decide +kernel
theorem dX9_count_116 : decode cX9_count 116 = .ok (.bipush 6, 2) := by decide +kernel
theorem dX9_count_118 : decode cX9_count 118 = .ok (.if_icmp .ge 17, 3) := by decide +kernel
theorem dX9_count_121 : decode cX9_count 121 = .ok (.iload_n 2, 1) := by decide +kernel
theorem dX9_count_122 : decode cX9_count 122 = .ok (.aload_n 0, 1) := by decide +kernel
theorem dX9_count_123 : decode cX9_count 123 = .ok (.iload_n 3, 1) := by decide +kernel
theorem dX9_count_124 : decode cX9_count 124 = .ok (.invokevirtual 192, 3) := by decide +kernel
theorem dX9_count_127 : decode cX9_count 127 = .ok (.iadd, 1) := by decide +kernel
theorem dX9_count_128 : decode cX9_count 128 = .ok (.istore_n 2, 1) := by decide +kernel
theorem dX9_count_129 : decode cX9_count 129 = .ok (.iinc 3 1, 3) := by decide +kernel
theorem dX9_count_132 : decode cX9_count 132 = .ok (.goto (-17), 3) := by decide +kernel
theorem dX9_count_135 : decode cX9_count 135 = .ok (.iload_n 2, 1) := by decide +kernel
theorem dX9_count_136 : decode cX9_count 136 = .ok (.ireturn, 1) := by decide +kernel
theorem dX9_count_137 : decode cX9_count 137 = .ok (.aload_n 0, 1) := by decide +kernel
theorem dX9_count_138 : decode cX9_count 138 = .ok (.getfield 7, 3) := by decide +kernel
theorem dX9_count_141 : decode cX9_count 141 = .ok (.iconst 5, 1) := by decide +kernel
theorem dX9_count_142 : decode cX9_count 142 = .ok (.iaload, 1) := by decide +kernel
theorem dX9_count_143 : decode cX9_count 143 = .ok (.ireturn, 1) := by decide +kernel
theorem dX9_count_144 : decode cX9_count 144 = .ok (.aload_n 0, 1) := by decide +kernel
theorem dX9_count_145 : decode cX9_count 145 = .ok (.getfield 131, 3) := by decide +kernel
theorem dX9_count_148 : decode cX9_count 148 = .ok (.ireturn, 1) := by decide +kernel
theorem dX9_count_149 : decode cX9_count 149 = .ok (.aload_n 0, 1) := by decide +kernel
theorem dX9_count_150 : decode cX9_count 150 = .ok (.getfield 67, 3) := by decide +kernel
theorem dX9_count_153 : decode cX9_count 153 = .ok (.ireturn, 1) := by decide +kernel
theorem dX9_count_154 : decode cX9_count 154 = .ok (.ldc 49, 2) := by decide +kernel
theorem dX9_count_156 : decode cX9_count 156 = .ok (.ireturn, 1) := by decide +kernel
theorem dX9_status_0 : decode cX9_status 0 = .ok (.aload_n 0, 1) := by decide +kernel
theorem dX9_status_1 : decode cX9_status 1 = .ok (.getfield 32, 3) := by decide +kernel
theorem dX9_status_4 : decode cX9_status 4 = .ok (.ireturn, 1) := by decide +kernel
