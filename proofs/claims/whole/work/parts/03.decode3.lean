theorem dX12_letter_12 : decode cX12_letter 12 = .ok (.lconst 0, 1) := by decide +kernel
theorem dX12_letter_13 : decode cX12_letter 13 = .ok (.aload_n 0, 1) := by decide +kernel
theorem dX12_letter_14 : decode cX12_letter 14 = .ok (.getfield 117, 3) := by decide +kernel
theorem dX12_letter_17 : decode cX12_letter 17 = .ok (.bipush 7, 2) := by decide +kernel
theorem dX12_letter_19 : decode cX12_letter 19 = .ok (.iload_n 1, 1) := by decide +kernel
theorem dX12_letter_20 : decode cX12_letter 20 = .ok (.iadd, 1) := by decide +kernel
theorem dX12_letter_21 : decode cX12_letter 21 = .ok (.iaload, 1) := by decide +kernel
theorem dX12_letter_22 : decode cX12_letter 22 = .ok (.iconst 1, 1) := by decide +kernel
theorem dX12_letter_23 : decode cX12_letter 23 = .ok (.isub, 1) := by decide +kernel
theorem dX12_letter_24 : decode cX12_letter 24 = .ok (.i2l, 1) := by decide +kernel
theorem dX12_letter_25 : decode cX12_letter 25 = .ok (.invokestatic 305, 3) := by decide +kernel
theorem dX12_letter_28 : decode cX12_letter 28 = .ok (.ifCond .eq 15, 3) := by decide +kernel
theorem dX12_letter_31 : decode cX12_letter 31 = .ok (.iload_n 3, 1) := by decide +kernel
theorem dX12_letter_32 : decode cX12_letter 32 = .ok (.i2l, 1) := by decide +kernel
theorem dX12_letter_33 : decode cX12_letter 33 = .ok (.lconst 0, 1) := by decide +kernel
theorem dX12_letter_34 : decode cX12_letter 34 = .ok (.ldc2_w 325, 3) := by decide +kernel
theorem dX12_letter_37 : decode cX12_letter 37 = .ok (.invokestatic 305, 3) := by decide +kernel
theorem dX12_letter_40 : decode cX12_letter 40 = .ok (.ifCond .ne 5, 3) := by decide +kernel
theorem dX12_letter_43 : decode cX12_letter 43 = .ok (.iconst (-1), 1) := by decide +kernel
theorem dX12_letter_44 : decode cX12_letter 44 = .ok (.ireturn, 1) := by decide +kernel
theorem dX12_letter_45 : decode cX12_letter 45 = .ok (.aload_n 0, 1) := by decide +kernel
theorem dX12_letter_46 : decode cX12_letter 46 = .ok (.getfield 120, 3) := by decide +kernel
theorem dX12_letter_49 : decode cX12_letter 49 = .ok (.bipush 16, 2) := by decide +kernel
theorem dX12_letter_51 : decode cX12_letter 51 = .ok (.bipush 8, 2) := by decide +kernel
theorem dX12_letter_53 : decode cX12_letter 53 = .ok (.iload_n 1, 1) := by decide +kernel
theorem dX12_letter_54 : decode cX12_letter 54 = .ok (.imul, 1) := by decide +kernel
theorem dX12_letter_55 : decode cX12_letter 55 = .ok (.iadd, 1) := by decide +kernel
theorem dX12_letter_56 : decode cX12_letter 56 = .ok (.iload_n 2, 1) := by decide +kernel
theorem dX12_letter_57 : decode cX12_letter 57 = .ok (.iadd, 1) := by decide +kernel
theorem dX12_letter_58 : decode cX12_letter 58 = .ok (.laload, 1) := by decide +kernel
theorem dX12_letter_59 : decode cX12_letter 59 = .ok (.lstore 4, 2) := by decide +kernel
theorem dX12_letter_61 : decode cX12_letter 61 = .ok (.iconst 0, 1) := by decide +kernel
theorem dX12_letter_62 : decode cX12_letter 62 = .ok (.istore 6, 2) := by decide +kernel
theorem dX12_letter_64 : decode cX12_letter 64 = .ok (.lload 4, 2) := by decide +kernel
theorem dX12_letter_66 : decode cX12_letter 66 = .ok (.lstore 7, 2) := by decide +kernel
theorem dX12_letter_68 : decode cX12_letter 68 = .ok (.lload 7, 2) := by decide +kernel
theorem dX12_letter_70 : decode cX12_letter 70 = .ok (.lconst 0, 1) := by decide +kernel
theorem dX12_letter_71 : decode cX12_letter 71 = .ok (.lcmp, 1) := by decide +kernel
theorem dX12_letter_72 : decode cX12_letter 72 = .ok (.ifCond .le 17, 3) := by decide +kernel
theorem dX12_letter_75 : decode cX12_letter 75 = .ok (.iinc 6 1, 3) := by decide +kernel
theorem dX12_letter_78 : decode cX12_letter 78 = .ok (.lload 7, 2) := by decide +kernel
theorem dX12_letter_80 : decode cX12_letter 80 = .ok (.ldc2_w 316, 3) := by decide +kernel
theorem dX12_letter_83 : decode cX12_letter 83 = .ok (.ldiv, 1) := by decide +kernel
theorem dX12_letter_84 : decode cX12_letter 84 = .ok (.lstore 7, 2) := by decide +kernel
theorem dX12_letter_86 : decode cX12_letter 86 = .ok (.goto (-18), 3) := by decide +kernel
theorem dX12_letter_89 : decode cX12_letter 89 = .ok (.iload_n 3, 1) := by decide +kernel
theorem dX12_letter_90 : decode cX12_letter 90 = .ok (.iload 6, 2) := by decide +kernel
theorem dX12_letter_92 : decode cX12_letter 92 = .ok (.if_icmp .lt 5, 3) := by decide +kernel
theorem dX12_letter_95 : decode cX12_letter 95 = .ok (.iconst 0, 1) := by decide +kernel
theorem dX12_letter_96 : decode cX12_letter 96 = .ok (.ireturn, 1) := by decide +kernel
theorem dX12_letter_97 : decode cX12_letter 97 = .ok (.iload 6, 2) := by decide +kernel
theorem dX12_letter_99 : decode cX12_letter 99 = .ok (.iconst 1, 1) := by decide +kernel
theorem dX12_letter_100 : decode cX12_letter 100 = .ok (.isub, 1) := by decide +kernel
theorem dX12_letter_101 : decode cX12_letter 101 = .ok (.istore 7, 2) := by decide +kernel
theorem dX12_letter_103 : decode cX12_letter 103 = .ok (.iload 7, 2) := by decide +kernel
theorem dX12_letter_105 : decode cX12_letter 105 = .ok (.iload_n 3, 1) := by decide +kernel
theorem dX12_letter_106 : decode cX12_letter 106 = .ok (.if_icmp .le 17, 3) := by decide +kernel
theorem dX12_letter_109 : decode cX12_letter 109 = .ok (.lload 4, 2) := by decide +kernel
theorem dX12_letter_111 : decode cX12_letter 111 = .ok (.ldc2_w 316, 3) := by decide +kernel
theorem dX12_letter_114 : decode cX12_letter 114 = .ok (.ldiv, 1) := by decide +kernel
theorem dX12_letter_115 : decode cX12_letter 115 = .ok (.lstore 4, 2) := by decide +kernel
theorem dX12_letter_117 : decode cX12_letter 117 = .ok (.iinc 7 (-1), 3) := by decide +kernel
theorem dX12_letter_120 : decode cX12_letter 120 = .ok (.goto (-17), 3) := by decide +kernel
theorem dX12_letter_123 : decode cX12_letter 123 = .ok (.lload 4, 2) := by decide +kernel
theorem dX12_letter_125 : decode cX12_letter 125 = .ok (.ldc2_w 316, 3) := by decide +kernel
theorem dX12_letter_128 : decode cX12_letter 128 = .ok (.lrem, 1) := by decide +kernel
theorem dX12_letter_129 : decode cX12_letter 129 = .ok (.l2i, 1) := by decide +kernel
theorem dX12_letter_130 : decode cX12_letter 130 = .ok (.ireturn, 1) := by decide +kernel
theorem dX12_litOf_0 : decode cX12_litOf 0 = .ok (.iconst 0, 1) := by decide +kernel
theorem dX12_litOf_1 : decode cX12_litOf 1 = .ok (.istore_n 2, 1) := by decide +kernel
theorem dX12_litOf_2 : decode cX12_litOf 2 = .ok (.iconst 0, 1) := by decide +kernel
theorem dX12_litOf_3 : decode cX12_litOf 3 = .ok (.istore_n 3, 1) := by decide +kernel
theorem dX12_litOf_4 : decode cX12_litOf 4 = .ok (.iload_n 3, 1) := by decide +kernel
theorem dX12_litOf_5 : decode cX12_litOf 5 = .ok (.aload_n 0, 1) := by decide +kernel
theorem dX12_litOf_6 : decode cX12_litOf 6 = .ok (.invokevirtual 426, 3) := by decide +kernel
theorem dX12_litOf_9 : decode cX12_litOf 9 = .ok (.if_icmp .ge 29, 3) := by decide +kernel
theorem dX12_litOf_12 : decode cX12_litOf 12 = .ok (.aload_n 0, 1) := by decide +kernel
theorem dX12_litOf_13 : decode cX12_litOf 13 = .ok (.iload_n 3, 1) := by decide +kernel
theorem dX12_litOf_14 : decode cX12_litOf 14 = .ok (.invokevirtual 432, 3) := by decide +kernel
theorem dX12_litOf_17 : decode cX12_litOf 17 = .ok (.ifCond .eq 15, 3) := by decide +kernel
theorem dX12_litOf_20 : decode cX12_litOf 20 = .ok (.aload_n 0, 1) := by decide +kernel
theorem dX12_litOf_21 : decode cX12_litOf 21 = .ok (.iload_n 3, 1) := by decide +kernel
theorem dX12_litOf_22 : decode cX12_litOf 22 = .ok (.invokevirtual 429, 3) := by decide +kernel
theorem dX12_litOf_25 : decode cX12_litOf 25 = .ok (.iload_n 1, 1) := by decide +kernel
theorem dX12_litOf_26 : decode cX12_litOf 26 = .ok (.if_icmp .ne 6, 3) := by decide +kernel
theorem dX12_litOf_29 : decode cX12_litOf 29 = .ok (.iinc 2 1, 3) := by decide +kernel
theorem dX12_litOf_32 : decode cX12_litOf 32 = .ok (.iinc 3 1, 3) := by decide +kernel
theorem dX12_litOf_35 : decode cX12_litOf 35 = .ok (.goto (-31), 3) := by decide +kernel
theorem dX12_litOf_38 : decode cX12_litOf 38 = .ok (.iload_n 2, 1) := by decide +kernel
theorem dX12_litOf_39 : decode cX12_litOf 39 = .ok (.ireturn, 1) := by decide +kernel
theorem dX12_person_0 : decode cX12_person 0 = .ok (.aload_n 0, 1) := by decide +kernel
theorem dX12_person_1 : decode cX12_person 1 = .ok (.iload_n 1, 1) := by decide +kernel
theorem dX12_person_2 : decode cX12_person 2 = .ok (.invokevirtual 522, 3) := by decide +kernel
theorem dX12_person_5 : decode cX12_person 5 = .ok (.ifCond .ne 5, 3) := by decide +kernel
theorem dX12_person_8 : decode cX12_person 8 = .ok (.iconst (-1), 1) := by decide +kernel
theorem dX12_person_9 : decode cX12_person 9 = .ok (.ireturn, 1) := by decide +kernel
theorem dX12_person_10 : decode cX12_person 10 = .ok (.iload_n 2, 1) := by decide +kernel
theorem dX12_person_11 : decode cX12_person 11 = .ok (.ifCond .ne 14, 3) := by decide +kernel
theorem dX12_person_14 : decode cX12_person 14 = .ok (.aload_n 0, 1) := by decide +kernel
theorem dX12_person_15 : decode cX12_person 15 = .ok (.getfield 142, 3) := by decide +kernel
theorem dX12_person_18 : decode cX12_person 18 = .ok (.iconst 2, 1) := by decide +kernel
theorem dX12_person_19 : decode cX12_person 19 = .ok (.iload_n 1, 1) := by decide +kernel
theorem dX12_person_20 : decode cX12_person 20 = .ok (.iadd, 1) := by decide +kernel
theorem dX12_person_21 : decode cX12_person 21 = .ok (.iaload, 1) := by decide +kernel
theorem dX12_person_22 : decode cX12_person 22 = .ok (.goto 36, 3) := by decide +kernel
theorem dX12_person_25 : decode cX12_person 25 = .ok (.iload_n 2, 1) := by decide +kernel
theorem dX12_person_26 : decode cX12_person 26 = .ok (.iconst 1, 1) := by decide +kernel
theorem dX12_person_27 : decode cX12_person 27 = .ok (.if_icmp .ne 17, 3) := by decide +kernel
theorem dX12_person_30 : decode cX12_person 30 = .ok (.aload_n 0, 1) := by decide +kernel
theorem dX12_person_31 : decode cX12_person 31 = .ok (.getfield 124, 3) := by decide +kernel
theorem dX12_person_34 : decode cX12_person 34 = .ok (.bipush 13, 2) := by decide +kernel
theorem dX12_person_36 : decode cX12_person 36 = .ok (.iconst 2, 1) := by decide +kernel
theorem dX12_person_37 : decode cX12_person 37 = .ok (.iload_n 1, 1) := by decide +kernel
theorem dX12_person_38 : decode cX12_person 38 = .ok (.imul, 1) := by decide +kernel
theorem dX12_person_39 : decode cX12_person 39 = .ok (.iadd, 1) := by decide +kernel
theorem dX12_person_40 : decode cX12_person 40 = .ok (.iaload, 1) := by decide +kernel
theorem dX12_person_41 : decode cX12_person 41 = .ok (.goto 17, 3) := by decide +kernel
theorem dX12_person_44 : decode cX12_person 44 = .ok (.iload_n 2, 1) := by decide +kernel
theorem dX12_person_45 : decode cX12_person 45 = .ok (.iconst 2, 1) := by decide +kernel
theorem dX12_person_46 : decode cX12_person 46 = .ok (.if_icmp .ne 11, 3) := by decide +kernel
theorem dX12_person_49 : decode cX12_person 49 = .ok (.aload_n 0, 1) := by decide +kernel
theorem dX12_person_50 : decode cX12_person 50 = .ok (.iload_n 1, 1) := by decide +kernel
theorem dX12_person_51 : decode cX12_person 51 = .ok (.invokevirtual 525, 3) := by decide +kernel
theorem dX12_person_54 : decode cX12_person 54 = .ok (.goto 4, 3) := by decide +kernel
theorem dX12_person_57 : decode cX12_person 57 = .ok (.iconst (-1), 1) := by decide +kernel
theorem dX12_person_58 : decode cX12_person 58 = .ok (.ireturn, 1) := by decide +kernel
theorem dX12_hangingOn_0 : decode cX12_hangingOn 0 = .ok (.iconst 1, 1) := by decide +kernel
theorem dX12_hangingOn_1 : decode cX12_hangingOn 1 = .ok (.iload_n 1, 1) := by decide +kernel
theorem dX12_hangingOn_2 : decode cX12_hangingOn 2 = .ok (.ishl, 1) := by decide +kernel
theorem dX12_hangingOn_3 : decode cX12_hangingOn 3 = .ok (.istore_n 2, 1) := by decide +kernel
theorem dX12_hangingOn_4 : decode cX12_hangingOn 4 = .ok (.iload_n 1, 1) := by decide +kernel
theorem dX12_hangingOn_5 : decode cX12_hangingOn 5 = .ok (.iconst 1, 1) := by decide +kernel
theorem dX12_hangingOn_6 : decode cX12_hangingOn 6 = .ok (.iadd, 1) := by decide +kernel
theorem dX12_hangingOn_7 : decode cX12_hangingOn 7 = .ok (.istore_n 3, 1) := by decide +kernel
theorem dX12_hangingOn_8 : decode cX12_hangingOn 8 = .ok (.iload_n 3, 1) := by decide +kernel
theorem dX12_hangingOn_9 : decode cX12_hangingOn 9 = .ok (.aload_n 0, 1) := by decide +kernel
theorem dX12_hangingOn_10 : decode cX12_hangingOn 10 = .ok (.invokevirtual 426, 3) := by decide +kernel
theorem dX12_hangingOn_13 : decode cX12_hangingOn 13 = .ok (.if_icmp .ge 37, 3) := by decide +kernel
theorem dX12_hangingOn_16 : decode cX12_hangingOn 16 = .ok (.aload_n 0, 1) := by decide +kernel
theorem dX12_hangingOn_17 : decode cX12_hangingOn 17 = .ok (.iload_n 3, 1) := by decide +kernel
theorem dX12_hangingOn_18 : decode cX12_hangingOn 18 = .ok (.invokevirtual 474, 3) := by decide +kernel
theorem dX12_hangingOn_21 : decode cX12_hangingOn 21 = .ok (.iconst (-1), 1) := by decide +kernel
theorem dX12_hangingOn_22 : decode cX12_hangingOn 22 = .ok (.if_icmp .eq 22, 3) := by decide +kernel
theorem dX12_hangingOn_25 : decode cX12_hangingOn 25 = .ok (.iload_n 2, 1) := by decide +kernel
theorem dX12_hangingOn_26 : decode cX12_hangingOn 26 = .ok (.aload_n 0, 1) := by decide +kernel
theorem dX12_hangingOn_27 : decode cX12_hangingOn 27 = .ok (.iload_n 3, 1) := by decide +kernel
theorem dX12_hangingOn_28 : decode cX12_hangingOn 28 = .ok (.invokevirtual 474, 3) := by decide +kernel
theorem dX12_hangingOn_31 : decode cX12_hangingOn 31 = .ok (.ishr, 1) := by decide +kernel
theorem dX12_hangingOn_32 : decode cX12_hangingOn 32 = .ok (.iconst 1, 1) := by decide +kernel
theorem dX12_hangingOn_33 : decode cX12_hangingOn 33 = .ok (.iand, 1) := by decide +kernel
theorem dX12_hangingOn_34 : decode cX12_hangingOn 34 = .ok (.iconst 1, 1) := by decide +kernel
theorem dX12_hangingOn_35 : decode cX12_hangingOn 35 = .ok (.if_icmp .ne 9, 3) := by decide +kernel
theorem dX12_hangingOn_38 : decode cX12_hangingOn 38 = .ok (.iload_n 2, 1) := by decide +kernel
theorem dX12_hangingOn_39 : decode cX12_hangingOn 39 = .ok (.iconst 1, 1) := by decide +kernel
theorem dX12_hangingOn_40 : decode cX12_hangingOn 40 = .ok (.iload_n 3, 1) := by decide +kernel
theorem dX12_hangingOn_41 : decode cX12_hangingOn 41 = .ok (.ishl, 1) := by decide +kernel
theorem dX12_hangingOn_42 : decode cX12_hangingOn 42 = .ok (.ior, 1) := by decide +kernel
theorem dX12_hangingOn_43 : decode cX12_hangingOn 43 = .ok (.istore_n 2, 1) := by decide +kernel
theorem dX12_hangingOn_44 : decode cX12_hangingOn 44 = .ok (.iinc 3 1, 3) := by decide +kernel
theorem dX12_hangingOn_47 : decode cX12_hangingOn 47 = .ok (.goto (-39), 3) := by decide +kernel
theorem dX12_hangingOn_50 : decode cX12_hangingOn 50 = .ok (.iload_n 2, 1) := by decide +kernel
theorem dX12_hangingOn_51 : decode cX12_hangingOn 51 = .ok (.iconst 1, 1) := by decide +kernel
theorem dX12_hangingOn_52 : decode cX12_hangingOn 52 = .ok (.iload_n 1, 1) := by decide +kernel
theorem dX12_hangingOn_53 : decode cX12_hangingOn 53 = .ok (.ishl, 1) := by decide +kernel
theorem dX12_hangingOn_54 : decode cX12_hangingOn 54 = .ok (.iconst (-1), 1) := by decide +kernel
theorem dX12_hangingOn_55 : decode cX12_hangingOn 55 = .ok (.ixor, 1) := by decide +kernel
theorem dX12_hangingOn_56 : decode cX12_hangingOn 56 = .ok (.iand, 1) := by decide +kernel
theorem dX12_hangingOn_57 : decode cX12_hangingOn 57 = .ok (.ireturn, 1) := by decide +kernel
theorem dX12_lie_0 : decode cX12_lie 0 = .ok (.aload_n 0, 1) := by decide +kernel
theorem dX12_lie_1 : decode cX12_lie 1 = .ok (.iload_n 1, 1) := by decide +kernel
theorem dX12_lie_2 : decode cX12_lie 2 = .ok (.i2l, 1) := by decide +kernel
theorem dX12_lie_3 : decode cX12_lie 3 = .ok (.invokevirtual 528, 3) := by decide +kernel
theorem dX12_lie_6 : decode cX12_lie 6 = .ok (.ifCond .ne 5, 3) := by decide +kernel
theorem dX12_lie_9 : decode cX12_lie 9 = .ok (.iconst (-1), 1) := by decide +kernel
theorem dX12_lie_10 : decode cX12_lie 10 = .ok (.ireturn, 1) := by decide +kernel
theorem dX12_lie_11 : decode cX12_lie 11 = .ok (.iload_n 2, 1) := by decide +kernel
theorem dX12_lie_12 : decode cX12_lie 12 = .ok (.tableswitch 102 0 6 #[44, 50, 60, 70, 84, 90, 96], 44) := by decide +kernel
theorem dX12_lie_56 : decode cX12_lie 56 = .ok (.aload_n 0, 1) := by decide +kernel
theorem dX12_lie_57 : decode cX12_lie 57 = .ok (.iload_n 1, 1) := by decide +kernel
theorem dX12_lie_58 : decode cX12_lie 58 = .ok (.invokevirtual 429, 3) := by decide +kernel
theorem dX12_lie_61 : decode cX12_lie 61 = .ok (.ireturn, 1) := by decide +kernel
theorem dX12_lie_62 : decode cX12_lie 62 = .ok (.aload_n 0, 1) := by decide +kernel
theorem dX12_lie_63 : decode cX12_lie 63 = .ok (.getfield 142, 3) := by decide +kernel
theorem dX12_lie_66 : decode cX12_lie 66 = .ok (.bipush 8, 2) := by decide +kernel
theorem dX12_lie_68 : decode cX12_lie 68 = .ok (.iload_n 1, 1) := by decide +kernel
theorem dX12_lie_69 : decode cX12_lie 69 = .ok (.iadd, 1) := by decide +kernel
theorem dX12_lie_70 : decode cX12_lie 70 = .ok (.iaload, 1) := by decide +kernel
theorem dX12_lie_71 : decode cX12_lie 71 = .ok (.ireturn, 1) := by decide +kernel
theorem dX12_lie_72 : decode cX12_lie 72 = .ok (.aload_n 0, 1) := by decide +kernel
theorem dX12_lie_73 : decode cX12_lie 73 = .ok (.getfield 142, 3) := by decide +kernel
theorem dX12_lie_76 : decode cX12_lie 76 = .ok (.bipush 16, 2) := by decide +kernel
theorem dX12_lie_78 : decode cX12_lie 78 = .ok (.iload_n 1, 1) := by decide +kernel
theorem dX12_lie_79 : decode cX12_lie 79 = .ok (.iadd, 1) := by decide +kernel
theorem dX12_lie_80 : decode cX12_lie 80 = .ok (.iaload, 1) := by decide +kernel
theorem dX12_lie_81 : decode cX12_lie 81 = .ok (.ireturn, 1) := by decide +kernel
theorem dX12_lie_82 : decode cX12_lie 82 = .ok (.aload_n 0, 1) := by decide +kernel
theorem dX12_lie_83 : decode cX12_lie 83 = .ok (.iload_n 1, 1) := by decide +kernel
theorem dX12_lie_84 : decode cX12_lie 84 = .ok (.invokevirtual 532, 3) := by decide +kernel
theorem dX12_lie_87 : decode cX12_lie 87 = .ok (.ifCond .eq 7, 3) := by decide +kernel
theorem dX12_lie_90 : decode cX12_lie 90 = .ok (.iconst 1, 1) := by decide +kernel
theorem dX12_lie_91 : decode cX12_lie 91 = .ok (.goto 4, 3) := by decide +kernel
theorem dX12_lie_94 : decode cX12_lie 94 = .ok (.iconst 0, 1) := by decide +kernel
theorem dX12_lie_95 : decode cX12_lie 95 = .ok (.ireturn, 1) := by decide +kernel
theorem dX12_lie_96 : decode cX12_lie 96 = .ok (.aload_n 0, 1) := by decide +kernel
theorem dX12_lie_97 : decode cX12_lie 97 = .ok (.iload_n 1, 1) := by decide +kernel
theorem dX12_lie_98 : decode cX12_lie 98 = .ok (.invokevirtual 474, 3) := by decide +kernel
theorem dX12_lie_101 : decode cX12_lie 101 = .ok (.ireturn, 1) := by decide +kernel
theorem dX12_lie_102 : decode cX12_lie 102 = .ok (.aload_n 0, 1) := by decide +kernel
theorem dX12_lie_103 : decode cX12_lie 103 = .ok (.iload_n 1, 1) := by decide +kernel
theorem dX12_lie_104 : decode cX12_lie 104 = .ok (.invokevirtual 535, 3) := by decide +kernel
theorem dX12_lie_107 : decode cX12_lie 107 = .ok (.ireturn, 1) := by decide +kernel
theorem dX12_lie_108 : decode cX12_lie 108 = .ok (.aload_n 0, 1) := by decide +kernel
theorem dX12_lie_109 : decode cX12_lie 109 = .ok (.iload_n 1, 1) := by decide +kernel
theorem dX12_lie_110 : decode cX12_lie 110 = .ok (.invokevirtual 498, 3) := by decide +kernel
theorem dX12_lie_113 : decode cX12_lie 113 = .ok (.ireturn, 1) := by decide +kernel
theorem dX12_lie_114 : decode cX12_lie 114 = .ok (.iconst (-1), 1) := by decide +kernel
theorem dX12_lie_115 : decode cX12_lie 115 = .ok (.ireturn, 1) := by decide +kernel
theorem dX12_draft_0 : decode cX12_draft 0 = .ok (.aload_n 0, 1) := by decide +kernel
theorem dX12_draft_1 : decode cX12_draft 1 = .ok (.iload_n 1, 1) := by decide +kernel
theorem dX12_draft_2 : decode cX12_draft 2 = .ok (.i2l, 1) := by decide +kernel
theorem dX12_draft_3 : decode cX12_draft 3 = .ok (.invokevirtual 538, 3) := by decide +kernel
theorem dX12_draft_6 : decode cX12_draft 6 = .ok (.ifCond .eq 14, 3) := by decide +kernel
theorem dX12_draft_9 : decode cX12_draft 9 = .ok (.aload_n 0, 1) := by decide +kernel
theorem dX12_draft_10 : decode cX12_draft 10 = .ok (.iload_n 2, 1) := by decide +kernel
theorem dX12_draft_11 : decode cX12_draft 11 = .ok (.iconst 0, 1) := by decide +kernel
theorem dX12_draft_12 : decode cX12_draft 12 = .ok (.bipush 60, 2) := by decide +kernel
theorem dX12_draft_14 : decode cX12_draft 14 = .ok (.invokevirtual 541, 3) := by decide +kernel
theorem dX12_draft_17 : decode cX12_draft 17 = .ok (.ifCond .ne 5, 3) := by decide +kernel
theorem dX12_draft_20 : decode cX12_draft 20 = .ok (.iconst (-1), 1) := by decide +kernel
theorem dX12_draft_21 : decode cX12_draft 21 = .ok (.ireturn, 1) := by decide +kernel
theorem dX12_draft_22 : decode cX12_draft 22 = .ok (.aload_n 0, 1) := by decide +kernel
theorem dX12_draft_23 : decode cX12_draft 23 = .ok (.getfield 142, 3) := by decide +kernel
theorem dX12_draft_26 : decode cX12_draft 26 = .ok (.iconst 0, 1) := by decide +kernel
theorem dX12_draft_27 : decode cX12_draft 27 = .ok (.dup2, 1) := by decide +kernel
theorem dX12_draft_28 : decode cX12_draft 28 = .ok (.iaload, 1) := by decide +kernel
theorem dX12_draft_29 : decode cX12_draft 29 = .ok (.iload_n 2, 1) := by decide +kernel
theorem dX12_draft_30 : decode cX12_draft 30 = .ok (.iadd, 1) := by decide +kernel
theorem dX12_draft_31 : decode cX12_draft 31 = .ok (.iastore, 1) := by decide +kernel
theorem dX12_draft_32 : decode cX12_draft 32 = .ok (.aload_n 0, 1) := by decide +kernel
theorem dX12_draft_33 : decode cX12_draft 33 = .ok (.iload_n 1, 1) := by decide +kernel
theorem dX12_draft_34 : decode cX12_draft 34 = .ok (.invokevirtual 468, 3) := by decide +kernel
theorem dX12_draft_37 : decode cX12_draft 37 = .ok (.istore_n 3, 1) := by decide +kernel
theorem dX12_draft_38 : decode cX12_draft 38 = .ok (.aload_n 0, 1) := by decide +kernel
theorem dX12_draft_39 : decode cX12_draft 39 = .ok (.getfield 142, 3) := by decide +kernel
theorem dX12_draft_42 : decode cX12_draft 42 = .ok (.iconst 0, 1) := by decide +kernel
theorem dX12_draft_43 : decode cX12_draft 43 = .ok (.dup2, 1) := by decide +kernel
theorem dX12_draft_44 : decode cX12_draft 44 = .ok (.iaload, 1) := by decide +kernel
theorem dX12_draft_45 : decode cX12_draft 45 = .ok (.iload_n 2, 1) := by decide +kernel
theorem dX12_draft_46 : decode cX12_draft 46 = .ok (.isub, 1) := by decide +kernel
theorem dX12_draft_47 : decode cX12_draft 47 = .ok (.iastore, 1) := by decide +kernel
theorem dX12_draft_48 : decode cX12_draft 48 = .ok (.iload_n 3, 1) := by decide +kernel
theorem dX12_draft_49 : decode cX12_draft 49 = .ok (.ireturn, 1) := by decide +kernel
theorem dX12_plan_0 : decode cX12_plan 0 = .ok (.iload_n 1, 1) := by decide +kernel
theorem dX12_plan_1 : decode cX12_plan 1 = .ok (.i2l, 1) := by decide +kernel
theorem dX12_plan_2 : decode cX12_plan 2 = .ok (.lconst 0, 1) := by decide +kernel
theorem dX12_plan_3 : decode cX12_plan 3 = .ok (.aload_n 0, 1) := by decide +kernel
theorem dX12_plan_4 : decode cX12_plan 4 = .ok (.invokevirtual 495, 3) := by decide +kernel
theorem dX12_plan_7 : decode cX12_plan 7 = .ok (.iconst 1, 1) := by decide +kernel
theorem dX12_plan_8 : decode cX12_plan 8 = .ok (.isub, 1) := by decide +kernel
theorem dX12_plan_9 : decode cX12_plan 9 = .ok (.i2l, 1) := by decide +kernel
theorem dX12_plan_10 : decode cX12_plan 10 = .ok (.invokestatic 305, 3) := by decide +kernel
theorem dX12_plan_13 : decode cX12_plan 13 = .ok (.ifCond .eq 31, 3) := by decide +kernel
theorem dX12_plan_16 : decode cX12_plan 16 = .ok (.iload_n 2, 1) := by decide +kernel
theorem dX12_plan_17 : decode cX12_plan 17 = .ok (.i2l, 1) := by decide +kernel
theorem dX12_plan_18 : decode cX12_plan 18 = .ok (.lconst 0, 1) := by decide +kernel
theorem dX12_plan_19 : decode cX12_plan 19 = .ok (.ldc2_w 323, 3) := by decide +kernel
theorem dX12_plan_22 : decode cX12_plan 22 = .ok (.invokestatic 305, 3) := by decide +kernel
theorem dX12_plan_25 : decode cX12_plan 25 = .ok (.ifCond .eq 19, 3) := by decide +kernel
theorem dX12_plan_28 : decode cX12_plan 28 = .ok (.aload_n 0, 1) := by decide +kernel
theorem dX12_plan_29 : decode cX12_plan 29 = .ok (.getfield 130, 3) := by decide +kernel
theorem dX12_plan_32 : decode cX12_plan 32 = .ok (.bipush 48, 2) := by decide +kernel
theorem dX12_plan_34 : decode cX12_plan 34 = .ok (.iconst 3, 1) := by decide +kernel
theorem dX12_plan_35 : decode cX12_plan 35 = .ok (.iload_n 1, 1) := by decide +kernel
theorem dX12_plan_36 : decode cX12_plan 36 = .ok (.imul, 1) := by decide +kernel
theorem dX12_plan_37 : decode cX12_plan 37 = .ok (.iadd, 1) := by decide +kernel
theorem dX12_plan_38 : decode cX12_plan 38 = .ok (.iload_n 2, 1) := by decide +kernel
theorem dX12_plan_39 : decode cX12_plan 39 = .ok (.iadd, 1) := by decide +kernel
theorem dX12_plan_40 : decode cX12_plan 40 = .ok (.iaload, 1) := by decide +kernel
theorem dX12_plan_41 : decode cX12_plan 41 = .ok (.goto 4, 3) := by decide +kernel
theorem dX12_plan_44 : decode cX12_plan 44 = .ok (.iconst (-1), 1) := by decide +kernel
theorem dX12_plan_45 : decode cX12_plan 45 = .ok (.ireturn, 1) := by decide +kernel
theorem dX12_kept_0 : decode cX12_kept 0 = .ok (.iload_n 1, 1) := by decide +kernel
theorem dX12_kept_1 : decode cX12_kept 1 = .ok (.i2l, 1) := by decide +kernel
theorem dX12_kept_2 : decode cX12_kept 2 = .ok (.lconst 0, 1) := by decide +kernel
theorem dX12_kept_3 : decode cX12_kept 3 = .ok (.aload_n 0, 1) := by decide +kernel
theorem dX12_kept_4 : decode cX12_kept 4 = .ok (.getfield 142, 3) := by decide +kernel
theorem dX12_kept_7 : decode cX12_kept 7 = .ok (.bipush 24, 2) := by decide +kernel
theorem dX12_kept_9 : decode cX12_kept 9 = .ok (.iaload, 1) := by decide +kernel
theorem dX12_kept_10 : decode cX12_kept 10 = .ok (.iconst 1, 1) := by decide +kernel
theorem dX12_kept_11 : decode cX12_kept 11 = .ok (.isub, 1) := by decide +kernel
theorem dX12_kept_12 : decode cX12_kept 12 = .ok (.i2l, 1) := by decide +kernel
theorem dX12_kept_13 : decode cX12_kept 13 = .ok (.invokestatic 305, 3) := by decide +kernel
theorem dX12_kept_16 : decode cX12_kept 16 = .ok (.ifCond .eq 29, 3) := by decide +kernel
theorem dX12_kept_19 : decode cX12_kept 19 = .ok (.iload_n 2, 1) := by decide +kernel
theorem dX12_kept_20 : decode cX12_kept 20 = .ok (.i2l, 1) := by decide +kernel
theorem dX12_kept_21 : decode cX12_kept 21 = .ok (.lconst 0, 1) := by decide +kernel
theorem dX12_kept_22 : decode cX12_kept 22 = .ok (.lconst 1, 1) := by decide +kernel
theorem dX12_kept_23 : decode cX12_kept 23 = .ok (.invokestatic 305, 3) := by decide +kernel
theorem dX12_kept_26 : decode cX12_kept 26 = .ok (.ifCond .eq 19, 3) := by decide +kernel
theorem dX12_kept_29 : decode cX12_kept 29 = .ok (.aload_n 0, 1) := by decide +kernel
theorem dX12_kept_30 : decode cX12_kept 30 = .ok (.getfield 142, 3) := by decide +kernel
theorem dX12_kept_33 : decode cX12_kept 33 = .ok (.bipush 25, 2) := by decide +kernel
theorem dX12_kept_35 : decode cX12_kept 35 = .ok (.iconst 2, 1) := by decide +kernel
theorem dX12_kept_36 : decode cX12_kept 36 = .ok (.iload_n 1, 1) := by decide +kernel
theorem dX12_kept_37 : decode cX12_kept 37 = .ok (.imul, 1) := by decide +kernel
theorem dX12_kept_38 : decode cX12_kept 38 = .ok (.iadd, 1) := by decide +kernel
theorem dX12_kept_39 : decode cX12_kept 39 = .ok (.iload_n 2, 1) := by decide +kernel
theorem dX12_kept_40 : decode cX12_kept 40 = .ok (.iadd, 1) := by decide +kernel
theorem dX12_kept_41 : decode cX12_kept 41 = .ok (.iaload, 1) := by decide +kernel
theorem dX12_kept_42 : decode cX12_kept 42 = .ok (.goto 4, 3) := by decide +kernel
theorem dX12_kept_45 : decode cX12_kept 45 = .ok (.iconst (-1), 1) := by decide +kernel
theorem dX12_kept_46 : decode cX12_kept 46 = .ok (.ireturn, 1) := by decide +kernel
theorem dX12_later_0 : decode cX12_later 0 = .ok (.aload_n 0, 1) := by decide +kernel
theorem dX12_later_1 : decode cX12_later 1 = .ok (.iload_n 1, 1) := by decide +kernel
theorem dX12_later_2 : decode cX12_later 2 = .ok (.i2l, 1) := by decide +kernel
theorem dX12_later_3 : decode cX12_later 3 = .ok (.invokevirtual 528, 3) := by decide +kernel
theorem dX12_later_6 : decode cX12_later 6 = .ok (.ifCond .eq 14, 3) := by decide +kernel
theorem dX12_later_9 : decode cX12_later 9 = .ok (.aload_n 0, 1) := by decide +kernel
theorem dX12_later_10 : decode cX12_later 10 = .ok (.iload_n 2, 1) := by decide +kernel
theorem dX12_later_11 : decode cX12_later 11 = .ok (.iconst 0, 1) := by decide +kernel
theorem dX12_later_12 : decode cX12_later 12 = .ok (.bipush 60, 2) := by decide +kernel
theorem dX12_later_14 : decode cX12_later 14 = .ok (.invokevirtual 541, 3) := by decide +kernel
theorem dX12_later_17 : decode cX12_later 17 = .ok (.ifCond .ne 5, 3) := by decide +kernel
theorem dX12_later_20 : decode cX12_later 20 = .ok (.iconst (-1), 1) := by decide +kernel
theorem dX12_later_21 : decode cX12_later 21 = .ok (.ireturn, 1) := by decide +kernel
theorem dX12_later_22 : decode cX12_later 22 = .ok (.aload_n 0, 1) := by decide +kernel
theorem dX12_later_23 : decode cX12_later 23 = .ok (.invokevirtual 544, 3) := by decide +kernel
theorem dX12_later_26 : decode cX12_later 26 = .ok (.aload_n 0, 1) := by decide +kernel
theorem dX12_later_27 : decode cX12_later 27 = .ok (.iload_n 2, 1) := by decide +kernel
theorem dX12_later_28 : decode cX12_later 28 = .ok (.invokevirtual 547, 3) := by decide +kernel
theorem dX12_later_31 : decode cX12_later 31 = .ok (.aload_n 0, 1) := by decide +kernel
theorem dX12_later_32 : decode cX12_later 32 = .ok (.getfield 142, 3) := by decide +kernel
theorem dX12_later_35 : decode cX12_later 35 = .ok (.bipush 8, 2) := by decide +kernel
theorem dX12_later_37 : decode cX12_later 37 = .ok (.iload_n 1, 1) := by decide +kernel
theorem dX12_later_38 : decode cX12_later 38 = .ok (.iadd, 1) := by decide +kernel
theorem dX12_later_39 : decode cX12_later 39 = .ok (.iaload, 1) := by decide +kernel
theorem dX12_later_40 : decode cX12_later 40 = .ok (.istore_n 3, 1) := by decide +kernel
theorem dX12_later_41 : decode cX12_later 41 = .ok (.aload_n 0, 1) := by decide +kernel
theorem dX12_later_42 : decode cX12_later 42 = .ok (.invokevirtual 550, 3) := by decide +kernel
theorem dX12_later_45 : decode cX12_later 45 = .ok (.iload_n 3, 1) := by decide +kernel
theorem dX12_later_46 : decode cX12_later 46 = .ok (.ireturn, 1) := by decide +kernel
theorem dX12_held_0 : decode cX12_held 0 = .ok (.aload_n 0, 1) := by decide +kernel
theorem dX12_held_1 : decode cX12_held 1 = .ok (.iload_n 1, 1) := by decide +kernel
theorem dX12_held_2 : decode cX12_held 2 = .ok (.i2l, 1) := by decide +kernel
theorem dX12_held_3 : decode cX12_held 3 = .ok (.invokevirtual 528, 3) := by decide +kernel
theorem dX12_held_6 : decode cX12_held 6 = .ok (.ifCond .eq 14, 3) := by decide +kernel
theorem dX12_held_9 : decode cX12_held 9 = .ok (.aload_n 0, 1) := by decide +kernel
theorem dX12_held_10 : decode cX12_held 10 = .ok (.iload_n 2, 1) := by decide +kernel
theorem dX12_held_11 : decode cX12_held 11 = .ok (.iconst 0, 1) := by decide +kernel
theorem dX12_held_12 : decode cX12_held 12 = .ok (.bipush 60, 2) := by decide +kernel
theorem dX12_held_14 : decode cX12_held 14 = .ok (.invokevirtual 541, 3) := by decide +kernel
theorem dX12_held_17 : decode cX12_held 17 = .ok (.ifCond .ne 5, 3) := by decide +kernel
theorem dX12_held_20 : decode cX12_held 20 = .ok (.iconst (-1), 1) := by decide +kernel
theorem dX12_held_21 : decode cX12_held 21 = .ok (.ireturn, 1) := by decide +kernel
theorem dX12_held_22 : decode cX12_held 22 = .ok (.aload_n 0, 1) := by decide +kernel
theorem dX12_held_23 : decode cX12_held 23 = .ok (.invokevirtual 544, 3) := by decide +kernel
theorem dX12_held_26 : decode cX12_held 26 = .ok (.aload_n 0, 1) := by decide +kernel
theorem dX12_held_27 : decode cX12_held 27 = .ok (.iload_n 2, 1) := by decide +kernel
theorem dX12_held_28 : decode cX12_held 28 = .ok (.invokevirtual 547, 3) := by decide +kernel
theorem dX12_held_31 : decode cX12_held 31 = .ok (.aload_n 0, 1) := by decide +kernel
theorem dX12_held_32 : decode cX12_held 32 = .ok (.iload_n 1, 1) := by decide +kernel
theorem dX12_held_33 : decode cX12_held 33 = .ok (.invokevirtual 532, 3) := by decide +kernel
theorem dX12_held_36 : decode cX12_held 36 = .ok (.istore_n 3, 1) := by decide +kernel
theorem dX12_held_37 : decode cX12_held 37 = .ok (.aload_n 0, 1) := by decide +kernel
theorem dX12_held_38 : decode cX12_held 38 = .ok (.invokevirtual 550, 3) := by decide +kernel
theorem dX12_held_41 : decode cX12_held 41 = .ok (.iload_n 3, 1) := by decide +kernel
theorem dX12_held_42 : decode cX12_held 42 = .ok (.ifCond .eq 7, 3) := by decide +kernel
theorem dX12_held_45 : decode cX12_held 45 = .ok (.iconst 1, 1) := by decide +kernel
theorem dX12_held_46 : decode cX12_held 46 = .ok (.goto 4, 3) := by decide +kernel
theorem dX12_held_49 : decode cX12_held 49 = .ok (.iconst 0, 1) := by decide +kernel
theorem dX12_held_50 : decode cX12_held 50 = .ok (.ireturn, 1) := by decide +kernel
theorem dX12_out_0 : decode cX12_out 0 = .ok (.aload_n 0, 1) := by decide +kernel
theorem dX12_out_1 : decode cX12_out 1 = .ok (.iload_n 1, 1) := by decide +kernel
theorem dX12_out_2 : decode cX12_out 2 = .ok (.i2l, 1) := by decide +kernel
theorem dX12_out_3 : decode cX12_out 3 = .ok (.invokevirtual 528, 3) := by decide +kernel
theorem dX12_out_6 : decode cX12_out 6 = .ok (.ifCond .eq 11, 3) := by decide +kernel
theorem dX12_out_9 : decode cX12_out 9 = .ok (.aload_n 0, 1) := by decide +kernel
theorem dX12_out_10 : decode cX12_out 10 = .ok (.iload_n 1, 1) := by decide +kernel
theorem dX12_out_11 : decode cX12_out 11 = .ok (.invokevirtual 432, 3) := by decide +kernel
theorem dX12_out_14 : decode cX12_out 14 = .ok (.ifCond .ne 5, 3) := by decide +kernel
theorem dX12_out_17 : decode cX12_out 17 = .ok (.iconst (-1), 1) := by decide +kernel
theorem dX12_out_18 : decode cX12_out 18 = .ok (.ireturn, 1) := by decide +kernel
theorem dX12_out_19 : decode cX12_out 19 = .ok (.iconst (-1), 1) := by decide +kernel
theorem dX12_out_20 : decode cX12_out 20 = .ok (.istore_n 2, 1) := by decide +kernel
theorem dX12_out_21 : decode cX12_out 21 = .ok (.aload_n 0, 1) := by decide +kernel
theorem dX12_out_22 : decode cX12_out 22 = .ok (.invokevirtual 544, 3) := by decide +kernel
theorem dX12_out_25 : decode cX12_out 25 = .ok (.iconst 1, 1) := by decide +kernel
theorem dX12_out_26 : decode cX12_out 26 = .ok (.istore_n 3, 1) := by decide +kernel
theorem dX12_out_27 : decode cX12_out 27 = .ok (.iload_n 3, 1) := by decide +kernel
theorem dX12_out_28 : decode cX12_out 28 = .ok (.bipush 60, 2) := by decide +kernel
theorem dX12_out_30 : decode cX12_out 30 = .ok (.if_icmp .gt 40, 3) := by decide +kernel
theorem dX12_out_33 : decode cX12_out 33 = .ok (.aload_n 0, 1) := by decide +kernel
theorem dX12_out_34 : decode cX12_out 34 = .ok (.getfield 142, 3) := by decide +kernel
theorem dX12_out_37 : decode cX12_out 37 = .ok (.iconst 0, 1) := by decide +kernel
theorem dX12_out_38 : decode cX12_out 38 = .ok (.iaload, 1) := by decide +kernel
theorem dX12_out_39 : decode cX12_out 39 = .ok (.sipush 999, 3) := by decide +kernel
theorem dX12_out_42 : decode cX12_out 42 = .ok (.if_icmp .ge 28, 3) := by decide +kernel
theorem dX12_out_45 : decode cX12_out 45 = .ok (.iload_n 2, 1) := by decide +kernel
theorem dX12_out_46 : decode cX12_out 46 = .ok (.iconst (-1), 1) := by decide +kernel
theorem dX12_out_47 : decode cX12_out 47 = .ok (.if_icmp .ne 23, 3) := by decide +kernel
theorem dX12_out_50 : decode cX12_out 50 = .ok (.aload_n 0, 1) := by decide +kernel
theorem dX12_out_51 : decode cX12_out 51 = .ok (.invokevirtual 510, 3) := by decide +kernel
theorem dX12_out_54 : decode cX12_out 54 = .ok (.aload_n 0, 1) := by decide +kernel
theorem dX12_out_55 : decode cX12_out 55 = .ok (.iload_n 1, 1) := by decide +kernel
theorem dX12_out_56 : decode cX12_out 56 = .ok (.invokevirtual 432, 3) := by decide +kernel
theorem dX12_out_59 : decode cX12_out 59 = .ok (.ifCond .ne 5, 3) := by decide +kernel
theorem dX12_out_62 : decode cX12_out 62 = .ok (.iload_n 3, 1) := by decide +kernel
theorem dX12_out_63 : decode cX12_out 63 = .ok (.istore_n 2, 1) := by decide +kernel
theorem dX12_out_64 : decode cX12_out 64 = .ok (.iinc 3 1, 3) := by decide +kernel
theorem dX12_out_67 : decode cX12_out 67 = .ok (.goto (-40), 3) := by decide +kernel
theorem dX12_out_70 : decode cX12_out 70 = .ok (.aload_n 0, 1) := by decide +kernel
theorem dX12_out_71 : decode cX12_out 71 = .ok (.invokevirtual 550, 3) := by decide +kernel
theorem dX12_out_74 : decode cX12_out 74 = .ok (.iload_n 2, 1) := by decide +kernel
theorem dX12_out_75 : decode cX12_out 75 = .ok (.ireturn, 1) := by decide +kernel
theorem dX12_trusted_0 : decode cX12_trusted 0 = .ok (.aload_n 0, 1) := by decide +kernel
theorem dX12_trusted_1 : decode cX12_trusted 1 = .ok (.iload_n 1, 1) := by decide +kernel
theorem dX12_trusted_2 : decode cX12_trusted 2 = .ok (.i2l, 1) := by decide +kernel
theorem dX12_trusted_3 : decode cX12_trusted 3 = .ok (.invokevirtual 528, 3) := by decide +kernel
theorem dX12_trusted_6 : decode cX12_trusted 6 = .ok (.ifCond .eq 13, 3) := by decide +kernel
theorem dX12_trusted_9 : decode cX12_trusted 9 = .ok (.iload_n 2, 1) := by decide +kernel
theorem dX12_trusted_10 : decode cX12_trusted 10 = .ok (.i2l, 1) := by decide +kernel
theorem dX12_trusted_11 : decode cX12_trusted 11 = .ok (.lconst 0, 1) := by decide +kernel
theorem dX12_trusted_12 : decode cX12_trusted 12 = .ok (.lconst 1, 1) := by decide +kernel
theorem dX12_trusted_13 : decode cX12_trusted 13 = .ok (.invokestatic 305, 3) := by decide +kernel
theorem dX12_trusted_16 : decode cX12_trusted 16 = .ok (.ifCond .ne 5, 3) := by decide +kernel
theorem dX12_trusted_19 : decode cX12_trusted 19 = .ok (.iconst (-1), 1) := by decide +kernel
theorem dX12_trusted_20 : decode cX12_trusted 20 = .ok (.ireturn, 1) := by decide +kernel
theorem dX12_trusted_21 : decode cX12_trusted 21 = .ok (.iconst (-1), 1) := by decide +kernel
theorem dX12_trusted_22 : decode cX12_trusted 22 = .ok (.istore_n 3, 1) := by decide +kernel
theorem dX12_trusted_23 : decode cX12_trusted 23 = .ok (.iconst (-1), 1) := by decide +kernel
theorem dX12_trusted_24 : decode cX12_trusted 24 = .ok (.istore 4, 2) := by decide +kernel
theorem dX12_trusted_26 : decode cX12_trusted 26 = .ok (.aload_n 0, 1) := by decide +kernel
theorem dX12_trusted_27 : decode cX12_trusted 27 = .ok (.invokevirtual 544, 3) := by decide +kernel
theorem dX12_trusted_30 : decode cX12_trusted 30 = .ok (.iconst 0, 1) := by decide +kernel
theorem dX12_trusted_31 : decode cX12_trusted 31 = .ok (.istore 5, 2) := by decide +kernel
theorem dX12_trusted_33 : decode cX12_trusted 33 = .ok (.iload 5, 2) := by decide +kernel
theorem dX12_trusted_35 : decode cX12_trusted 35 = .ok (.bipush 60, 2) := by decide +kernel
theorem dX12_trusted_37 : decode cX12_trusted 37 = .ok (.if_icmp .gt 65, 3) := by decide +kernel
theorem dX12_trusted_40 : decode cX12_trusted 40 = .ok (.aload_n 0, 1) := by decide +kernel
theorem dX12_trusted_41 : decode cX12_trusted 41 = .ok (.getfield 142, 3) := by decide +kernel
theorem dX12_trusted_44 : decode cX12_trusted 44 = .ok (.iconst 0, 1) := by decide +kernel
theorem dX12_trusted_45 : decode cX12_trusted 45 = .ok (.iaload, 1) := by decide +kernel
theorem dX12_trusted_46 : decode cX12_trusted 46 = .ok (.sipush 999, 3) := by decide +kernel
theorem dX12_trusted_49 : decode cX12_trusted 49 = .ok (.if_icmp .gt 53, 3) := by decide +kernel
theorem dX12_trusted_52 : decode cX12_trusted 52 = .ok (.iload 4, 2) := by decide +kernel
theorem dX12_trusted_54 : decode cX12_trusted 54 = .ok (.iconst (-1), 1) := by decide +kernel
theorem dX12_trusted_55 : decode cX12_trusted 55 = .ok (.if_icmp .ne 47, 3) := by decide +kernel
theorem dX12_trusted_58 : decode cX12_trusted 58 = .ok (.aload_n 0, 1) := by decide +kernel
theorem dX12_trusted_59 : decode cX12_trusted 59 = .ok (.iload_n 1, 1) := by decide +kernel
theorem dX12_trusted_60 : decode cX12_trusted 60 = .ok (.invokevirtual 532, 3) := by decide +kernel
theorem dX12_trusted_63 : decode cX12_trusted 63 = .ok (.istore 6, 2) := by decide +kernel
theorem dX12_trusted_65 : decode cX12_trusted 65 = .ok (.iload 6, 2) := by decide +kernel
theorem dX12_trusted_67 : decode cX12_trusted 67 = .ok (.ifCond .eq 11, 3) := by decide +kernel
theorem dX12_trusted_70 : decode cX12_trusted 70 = .ok (.iload_n 3, 1) := by decide +kernel
theorem dX12_trusted_71 : decode cX12_trusted 71 = .ok (.iconst (-1), 1) := by decide +kernel
theorem dX12_trusted_72 : decode cX12_trusted 72 = .ok (.if_icmp .ne 6, 3) := by decide +kernel
theorem dX12_trusted_75 : decode cX12_trusted 75 = .ok (.iload 5, 2) := by decide +kernel
theorem dX12_trusted_77 : decode cX12_trusted 77 = .ok (.istore_n 3, 1) := by decide +kernel
theorem dX12_trusted_78 : decode cX12_trusted 78 = .ok (.iload 6, 2) := by decide +kernel
theorem dX12_trusted_80 : decode cX12_trusted 80 = .ok (.ifCond .ne 12, 3) := by decide +kernel
theorem dX12_trusted_83 : decode cX12_trusted 83 = .ok (.iload_n 3, 1) := by decide +kernel
theorem dX12_trusted_84 : decode cX12_trusted 84 = .ok (.iconst (-1), 1) := by decide +kernel
theorem dX12_trusted_85 : decode cX12_trusted 85 = .ok (.if_icmp .eq 7, 3) := by decide +kernel
theorem dX12_trusted_88 : decode cX12_trusted 88 = .ok (.iload 5, 2) := by decide +kernel
theorem dX12_trusted_90 : decode cX12_trusted 90 = .ok (.istore 4, 2) := by decide +kernel
theorem dX12_trusted_92 : decode cX12_trusted 92 = .ok (.aload_n 0, 1) := by decide +kernel
theorem dX12_trusted_93 : decode cX12_trusted 93 = .ok (.invokevirtual 510, 3) := by decide +kernel
theorem dX12_trusted_96 : decode cX12_trusted 96 = .ok (.iinc 5 1, 3) := by decide +kernel
theorem dX12_trusted_99 : decode cX12_trusted 99 = .ok (.goto (-66), 3) := by decide +kernel
theorem dX12_trusted_102 : decode cX12_trusted 102 = .ok (.aload_n 0, 1) := by decide +kernel
theorem dX12_trusted_103 : decode cX12_trusted 103 = .ok (.invokevirtual 550, 3) := by decide +kernel
theorem dX12_trusted_106 : decode cX12_trusted 106 = .ok (.iload_n 2, 1) := by decide +kernel
theorem dX12_trusted_107 : decode cX12_trusted 107 = .ok (.ifCond .ne 7, 3) := by decide +kernel
theorem dX12_trusted_110 : decode cX12_trusted 110 = .ok (.iload_n 3, 1) := by decide +kernel
theorem dX12_trusted_111 : decode cX12_trusted 111 = .ok (.goto 5, 3) := by decide +kernel
theorem dX12_trusted_114 : decode cX12_trusted 114 = .ok (.iload 4, 2) := by decide +kernel
theorem dX12_trusted_116 : decode cX12_trusted 116 = .ok (.ireturn, 1) := by decide +kernel
theorem dX12_isEnough_0 : decode cX12_isEnough 0 = .ok (.iconst 0, 1) := by decide +kernel
theorem dX12_isEnough_1 : decode cX12_isEnough 1 = .ok (.istore 4, 2) := by decide +kernel
theorem dX12_isEnough_3 : decode cX12_isEnough 3 = .ok (.iload 4, 2) := by decide +kernel
theorem dX12_isEnough_5 : decode cX12_isEnough 5 = .ok (.aload_n 0, 1) := by decide +kernel
theorem dX12_isEnough_6 : decode cX12_isEnough 6 = .ok (.invokevirtual 426, 3) := by decide +kernel
theorem dX12_isEnough_9 : decode cX12_isEnough 9 = .ok (.if_icmp .ge 39, 3) := by decide +kernel
theorem dX12_isEnough_12 : decode cX12_isEnough 12 = .ok (.iload_n 1, 1) := by decide +kernel
theorem dX12_isEnough_13 : decode cX12_isEnough 13 = .ok (.iload 4, 2) := by decide +kernel
theorem dX12_isEnough_15 : decode cX12_isEnough 15 = .ok (.ishr, 1) := by decide +kernel
theorem dX12_isEnough_16 : decode cX12_isEnough 16 = .ok (.iconst 1, 1) := by decide +kernel
theorem dX12_isEnough_17 : decode cX12_isEnough 17 = .ok (.iand, 1) := by decide +kernel
theorem dX12_isEnough_18 : decode cX12_isEnough 18 = .ok (.iconst 1, 1) := by decide +kernel
theorem dX12_isEnough_19 : decode cX12_isEnough 19 = .ok (.if_icmp .ne 23, 3) := by decide +kernel
theorem dX12_isEnough_22 : decode cX12_isEnough 22 = .ok (.aload_n 0, 1) := by decide +kernel
theorem dX12_isEnough_23 : decode cX12_isEnough 23 = .ok (.iload 4, 2) := by decide +kernel
theorem dX12_isEnough_25 : decode cX12_isEnough 25 = .ok (.invokevirtual 432, 3) := by decide +kernel
theorem dX12_isEnough_28 : decode cX12_isEnough 28 = .ok (.ifCond .ne 14, 3) := by decide +kernel
theorem dX12_isEnough_31 : decode cX12_isEnough 31 = .ok (.aload_n 0, 1) := by decide +kernel
theorem dX12_isEnough_32 : decode cX12_isEnough 32 = .ok (.getfield 142, 3) := by decide +kernel
theorem dX12_isEnough_35 : decode cX12_isEnough 35 = .ok (.bipush 8, 2) := by decide +kernel
theorem dX12_isEnough_37 : decode cX12_isEnough 37 = .ok (.iload 4, 2) := by decide +kernel
theorem dX12_isEnough_39 : decode cX12_isEnough 39 = .ok (.iadd, 1) := by decide +kernel
theorem dX12_isEnough_40 : decode cX12_isEnough 40 = .ok (.iload_n 2, 1) := by decide +kernel
theorem dX12_isEnough_41 : decode cX12_isEnough 41 = .ok (.iastore, 1) := by decide +kernel
theorem dX12_isEnough_42 : decode cX12_isEnough 42 = .ok (.iinc 4 1, 3) := by decide +kernel
theorem dX12_isEnough_45 : decode cX12_isEnough 45 = .ok (.goto (-42), 3) := by decide +kernel
theorem dX12_isEnough_48 : decode cX12_isEnough 48 = .ok (.aload_n 0, 1) := by decide +kernel
theorem dX12_isEnough_49 : decode cX12_isEnough 49 = .ok (.iload_n 3, 1) := by decide +kernel
theorem dX12_isEnough_50 : decode cX12_isEnough 50 = .ok (.invokevirtual 547, 3) := by decide +kernel
theorem dX12_isEnough_53 : decode cX12_isEnough 53 = .ok (.iload_n 1, 1) := by decide +kernel
theorem dX12_isEnough_54 : decode cX12_isEnough 54 = .ok (.aload_n 0, 1) := by decide +kernel
theorem dX12_isEnough_55 : decode cX12_isEnough 55 = .ok (.invokevirtual 480, 3) := by decide +kernel
theorem dX12_isEnough_58 : decode cX12_isEnough 58 = .ok (.iconst (-1), 1) := by decide +kernel
theorem dX12_isEnough_59 : decode cX12_isEnough 59 = .ok (.ixor, 1) := by decide +kernel
theorem dX12_isEnough_60 : decode cX12_isEnough 60 = .ok (.iand, 1) := by decide +kernel
theorem dX12_isEnough_61 : decode cX12_isEnough 61 = .ok (.ifCond .ne 7, 3) := by decide +kernel
theorem dX12_isEnough_64 : decode cX12_isEnough 64 = .ok (.iconst 1, 1) := by decide +kernel
theorem dX12_isEnough_65 : decode cX12_isEnough 65 = .ok (.goto 4, 3) := by decide +kernel
theorem dX12_isEnough_68 : decode cX12_isEnough 68 = .ok (.iconst 0, 1) := by decide +kernel
theorem dX12_isEnough_69 : decode cX12_isEnough 69 = .ok (.istore 4, 2) := by decide +kernel
theorem dX12_isEnough_71 : decode cX12_isEnough 71 = .ok (.aload_n 0, 1) := by decide +kernel
theorem dX12_isEnough_72 : decode cX12_isEnough 72 = .ok (.invokevirtual 513, 3) := by decide +kernel
theorem dX12_isEnough_75 : decode cX12_isEnough 75 = .ok (.iload 4, 2) := by decide +kernel
theorem dX12_isEnough_77 : decode cX12_isEnough 77 = .ok (.ireturn, 1) := by decide +kernel
theorem dX12_leastFor_0 : decode cX12_leastFor 0 = .ok (.iconst (-1), 1) := by decide +kernel
theorem dX12_leastFor_1 : decode cX12_leastFor 1 = .ok (.istore_n 3, 1) := by decide +kernel
theorem dX12_leastFor_2 : decode cX12_leastFor 2 = .ok (.aload_n 0, 1) := by decide +kernel
theorem dX12_leastFor_3 : decode cX12_leastFor 3 = .ok (.invokevirtual 544, 3) := by decide +kernel
theorem dX12_leastFor_6 : decode cX12_leastFor 6 = .ok (.iconst 1, 1) := by decide +kernel
theorem dX12_leastFor_7 : decode cX12_leastFor 7 = .ok (.istore 4, 2) := by decide +kernel
theorem dX12_leastFor_9 : decode cX12_leastFor 9 = .ok (.iload 4, 2) := by decide +kernel
theorem dX12_leastFor_11 : decode cX12_leastFor 11 = .ok (.bipush 99, 2) := by decide +kernel
theorem dX12_leastFor_13 : decode cX12_leastFor 13 = .ok (.if_icmp .gt 28, 3) := by decide +kernel
theorem dX12_leastFor_16 : decode cX12_leastFor 16 = .ok (.iload_n 3, 1) := by decide +kernel
theorem dX12_leastFor_17 : decode cX12_leastFor 17 = .ok (.iconst (-1), 1) := by decide +kernel
theorem dX12_leastFor_18 : decode cX12_leastFor 18 = .ok (.if_icmp .ne 23, 3) := by decide +kernel
theorem dX12_leastFor_21 : decode cX12_leastFor 21 = .ok (.aload_n 0, 1) := by decide +kernel
theorem dX12_leastFor_22 : decode cX12_leastFor 22 = .ok (.iload_n 1, 1) := by decide +kernel
theorem dX12_leastFor_23 : decode cX12_leastFor 23 = .ok (.iload 4, 2) := by decide +kernel
theorem dX12_leastFor_25 : decode cX12_leastFor 25 = .ok (.iload_n 2, 1) := by decide +kernel
theorem dX12_leastFor_26 : decode cX12_leastFor 26 = .ok (.invokevirtual 553, 3) := by decide +kernel
theorem dX12_leastFor_29 : decode cX12_leastFor 29 = .ok (.ifCond .eq 6, 3) := by decide +kernel
theorem dX12_leastFor_32 : decode cX12_leastFor 32 = .ok (.iload 4, 2) := by decide +kernel
theorem dX12_leastFor_34 : decode cX12_leastFor 34 = .ok (.istore_n 3, 1) := by decide +kernel
theorem dX12_leastFor_35 : decode cX12_leastFor 35 = .ok (.iinc 4 1, 3) := by decide +kernel
theorem dX12_leastFor_38 : decode cX12_leastFor 38 = .ok (.goto (-29), 3) := by decide +kernel
theorem dX12_leastFor_41 : decode cX12_leastFor 41 = .ok (.aload_n 0, 1) := by decide +kernel
theorem dX12_leastFor_42 : decode cX12_leastFor 42 = .ok (.invokevirtual 550, 3) := by decide +kernel
theorem dX12_leastFor_45 : decode cX12_leastFor 45 = .ok (.iload_n 3, 1) := by decide +kernel
theorem dX12_leastFor_46 : decode cX12_leastFor 46 = .ok (.ireturn, 1) := by decide +kernel
theorem dX12_shorts_0 : decode cX12_shorts 0 = .ok (.aload_n 0, 1) := by decide +kernel
theorem dX12_shorts_1 : decode cX12_shorts 1 = .ok (.iload_n 1, 1) := by decide +kernel
theorem dX12_shorts_2 : decode cX12_shorts 2 = .ok (.i2l, 1) := by decide +kernel
theorem dX12_shorts_3 : decode cX12_shorts 3 = .ok (.invokevirtual 528, 3) := by decide +kernel
theorem dX12_shorts_6 : decode cX12_shorts 6 = .ok (.ifCond .eq 33, 3) := by decide +kernel
theorem dX12_shorts_9 : decode cX12_shorts 9 = .ok (.aload_n 0, 1) := by decide +kernel
theorem dX12_shorts_10 : decode cX12_shorts 10 = .ok (.iload_n 1, 1) := by decide +kernel
theorem dX12_shorts_11 : decode cX12_shorts 11 = .ok (.invokevirtual 432, 3) := by decide +kernel
theorem dX12_shorts_14 : decode cX12_shorts 14 = .ok (.ifCond .ne 25, 3) := by decide +kernel
theorem dX12_shorts_17 : decode cX12_shorts 17 = .ok (.aload_n 0, 1) := by decide +kernel
theorem dX12_shorts_18 : decode cX12_shorts 18 = .ok (.iload_n 2, 1) := by decide +kernel
theorem dX12_shorts_19 : decode cX12_shorts 19 = .ok (.iconst 1, 1) := by decide +kernel
theorem dX12_shorts_20 : decode cX12_shorts 20 = .ok (.bipush 40, 2) := by decide +kernel
theorem dX12_shorts_22 : decode cX12_shorts 22 = .ok (.invokevirtual 541, 3) := by decide +kernel
theorem dX12_shorts_25 : decode cX12_shorts 25 = .ok (.ifCond .eq 14, 3) := by decide +kernel
theorem dX12_shorts_28 : decode cX12_shorts 28 = .ok (.aload_n 0, 1) := by decide +kernel
theorem dX12_shorts_29 : decode cX12_shorts 29 = .ok (.iconst 1, 1) := by decide +kernel
theorem dX12_shorts_30 : decode cX12_shorts 30 = .ok (.iload_n 1, 1) := by decide +kernel
theorem dX12_shorts_31 : decode cX12_shorts 31 = .ok (.ishl, 1) := by decide +kernel
theorem dX12_shorts_32 : decode cX12_shorts 32 = .ok (.iload_n 2, 1) := by decide +kernel
theorem dX12_shorts_33 : decode cX12_shorts 33 = .ok (.invokevirtual 556, 3) := by decide +kernel
theorem dX12_shorts_36 : decode cX12_shorts 36 = .ok (.goto 4, 3) := by decide +kernel
theorem dX12_shorts_39 : decode cX12_shorts 39 = .ok (.iconst (-1), 1) := by decide +kernel
theorem dX12_shorts_40 : decode cX12_shorts 40 = .ok (.ireturn, 1) := by decide +kernel
theorem dX12_together_0 : decode cX12_together 0 = .ok (.iload_n 1, 1) := by decide +kernel
theorem dX12_together_1 : decode cX12_together 1 = .ok (.ifCond .le 33, 3) := by decide +kernel
theorem dX12_together_4 : decode cX12_together 4 = .ok (.iload_n 1, 1) := by decide +kernel
theorem dX12_together_5 : decode cX12_together 5 = .ok (.iconst 1, 1) := by decide +kernel
theorem dX12_together_6 : decode cX12_together 6 = .ok (.aload_n 0, 1) := by decide +kernel
theorem dX12_together_7 : decode cX12_together 7 = .ok (.invokevirtual 426, 3) := by decide +kernel
theorem dX12_together_10 : decode cX12_together 10 = .ok (.ishl, 1) := by decide +kernel
theorem dX12_together_11 : decode cX12_together 11 = .ok (.if_icmp .ge 23, 3) := by decide +kernel
theorem dX12_together_14 : decode cX12_together 14 = .ok (.aload_n 0, 1) := by decide +kernel
theorem dX12_together_15 : decode cX12_together 15 = .ok (.iload_n 2, 1) := by decide +kernel
theorem dX12_together_16 : decode cX12_together 16 = .ok (.iconst 1, 1) := by decide +kernel
theorem dX12_together_17 : decode cX12_together 17 = .ok (.bipush 40, 2) := by decide +kernel
theorem dX12_together_19 : decode cX12_together 19 = .ok (.invokevirtual 541, 3) := by decide +kernel
theorem dX12_together_22 : decode cX12_together 22 = .ok (.ifCond .eq 12, 3) := by decide +kernel
theorem dX12_together_25 : decode cX12_together 25 = .ok (.aload_n 0, 1) := by decide +kernel
theorem dX12_together_26 : decode cX12_together 26 = .ok (.iload_n 1, 1) := by decide +kernel
theorem dX12_together_27 : decode cX12_together 27 = .ok (.iload_n 2, 1) := by decide +kernel
theorem dX12_together_28 : decode cX12_together 28 = .ok (.invokevirtual 556, 3) := by decide +kernel
theorem dX12_together_31 : decode cX12_together 31 = .ok (.goto 4, 3) := by decide +kernel
theorem dX12_together_34 : decode cX12_together 34 = .ok (.iconst (-1), 1) := by decide +kernel
theorem dX12_together_35 : decode cX12_together 35 = .ok (.ireturn, 1) := by decide +kernel
theorem dX12_snuffs_0 : decode cX12_snuffs 0 = .ok (.aload_n 0, 1) := by decide +kernel
theorem dX12_snuffs_1 : decode cX12_snuffs 1 = .ok (.getfield 142, 3) := by decide +kernel
theorem dX12_snuffs_4 : decode cX12_snuffs 4 = .ok (.iconst 1, 1) := by decide +kernel
theorem dX12_snuffs_5 : decode cX12_snuffs 5 = .ok (.aload_n 0, 1) := by decide +kernel
theorem dX12_snuffs_6 : decode cX12_snuffs 6 = .ok (.getfield 142, 3) := by decide +kernel
theorem dX12_snuffs_9 : decode cX12_snuffs 9 = .ok (.iconst 1, 1) := by decide +kernel
theorem dX12_snuffs_10 : decode cX12_snuffs 10 = .ok (.iaload, 1) := by decide +kernel
theorem dX12_snuffs_11 : decode cX12_snuffs 11 = .ok (.aload_n 0, 1) := by decide +kernel
theorem dX12_snuffs_12 : decode cX12_snuffs 12 = .ok (.getfield 142, 3) := by decide +kernel
theorem dX12_snuffs_15 : decode cX12_snuffs 15 = .ok (.bipush 8, 2) := by decide +kernel
theorem dX12_snuffs_17 : decode cX12_snuffs 17 = .ok (.iload_n 1, 1) := by decide +kernel
theorem dX12_snuffs_18 : decode cX12_snuffs 18 = .ok (.iadd, 1) := by decide +kernel
theorem dX12_snuffs_19 : decode cX12_snuffs 19 = .ok (.iaload, 1) := by decide +kernel
theorem dX12_snuffs_20 : decode cX12_snuffs 20 = .ok (.iadd, 1) := by decide +kernel
theorem dX12_snuffs_21 : decode cX12_snuffs 21 = .ok (.i2l, 1) := by decide +kernel
theorem dX12_snuffs_22 : decode cX12_snuffs 22 = .ok (.sipush 999, 3) := by decide +kernel
theorem dX12_snuffs_25 : decode cX12_snuffs 25 = .ok (.invokestatic 464, 3) := by decide +kernel
theorem dX12_snuffs_28 : decode cX12_snuffs 28 = .ok (.iastore, 1) := by decide +kernel
theorem dX12_snuffs_29 : decode cX12_snuffs 29 = .ok (.aload_n 0, 1) := by decide +kernel
theorem dX12_snuffs_30 : decode cX12_snuffs 30 = .ok (.iload_n 1, 1) := by decide +kernel
theorem dX12_snuffs_31 : decode cX12_snuffs 31 = .ok (.invokevirtual 486, 3) := by decide +kernel
theorem dX12_snuffs_34 : decode cX12_snuffs 34 = .ok (.return_, 1) := by decide +kernel
theorem dX12_keystone_0 : decode cX12_keystone 0 = .ok (.aload_n 0, 1) := by decide +kernel
theorem dX12_keystone_1 : decode cX12_keystone 1 = .ok (.iload_n 1, 1) := by decide +kernel
theorem dX12_keystone_2 : decode cX12_keystone 2 = .ok (.iconst 1, 1) := by decide +kernel
theorem dX12_keystone_3 : decode cX12_keystone 3 = .ok (.bipush 40, 2) := by decide +kernel
theorem dX12_keystone_5 : decode cX12_keystone 5 = .ok (.invokevirtual 541, 3) := by decide +kernel
theorem dX12_keystone_8 : decode cX12_keystone 8 = .ok (.ifCond .eq 13, 3) := by decide +kernel
theorem dX12_keystone_11 : decode cX12_keystone 11 = .ok (.iload_n 2, 1) := by decide +kernel
theorem dX12_keystone_12 : decode cX12_keystone 12 = .ok (.i2l, 1) := by decide +kernel
theorem dX12_keystone_13 : decode cX12_keystone 13 = .ok (.lconst 0, 1) := by decide +kernel
theorem dX12_keystone_14 : decode cX12_keystone 14 = .ok (.lconst 1, 1) := by decide +kernel
theorem dX12_keystone_15 : decode cX12_keystone 15 = .ok (.invokestatic 305, 3) := by decide +kernel
theorem dX12_keystone_18 : decode cX12_keystone 18 = .ok (.ifCond .ne 5, 3) := by decide +kernel
theorem dX12_keystone_21 : decode cX12_keystone 21 = .ok (.iconst (-1), 1) := by decide +kernel
theorem dX12_keystone_22 : decode cX12_keystone 22 = .ok (.ireturn, 1) := by decide +kernel
theorem dX12_keystone_23 : decode cX12_keystone 23 = .ok (.iconst (-1), 1) := by decide +kernel
theorem dX12_keystone_24 : decode cX12_keystone 24 = .ok (.istore_n 3, 1) := by decide +kernel
theorem dX12_keystone_25 : decode cX12_keystone 25 = .ok (.iconst (-1), 1) := by decide +kernel
theorem dX12_keystone_26 : decode cX12_keystone 26 = .ok (.istore 4, 2) := by decide +kernel
theorem dX12_keystone_28 : decode cX12_keystone 28 = .ok (.aload_n 0, 1) := by decide +kernel
theorem dX12_keystone_29 : decode cX12_keystone 29 = .ok (.invokevirtual 544, 3) := by decide +kernel
theorem dX12_keystone_32 : decode cX12_keystone 32 = .ok (.iconst 0, 1) := by decide +kernel
theorem dX12_keystone_33 : decode cX12_keystone 33 = .ok (.istore 5, 2) := by decide +kernel
theorem dX12_keystone_35 : decode cX12_keystone 35 = .ok (.iload 5, 2) := by decide +kernel
theorem dX12_keystone_37 : decode cX12_keystone 37 = .ok (.aload_n 0, 1) := by decide +kernel
theorem dX12_keystone_38 : decode cX12_keystone 38 = .ok (.invokevirtual 426, 3) := by decide +kernel
theorem dX12_keystone_41 : decode cX12_keystone 41 = .ok (.if_icmp .ge 67, 3) := by decide +kernel
theorem dX12_keystone_44 : decode cX12_keystone 44 = .ok (.aload_n 0, 1) := by decide +kernel
theorem dX12_keystone_45 : decode cX12_keystone 45 = .ok (.iload 5, 2) := by decide +kernel
theorem dX12_keystone_47 : decode cX12_keystone 47 = .ok (.invokevirtual 432, 3) := by decide +kernel
theorem dX12_keystone_50 : decode cX12_keystone 50 = .ok (.ifCond .ne 6, 3) := by decide +kernel
theorem dX12_keystone_53 : decode cX12_keystone 53 = .ok (.goto 49, 3) := by decide +kernel
theorem dX12_keystone_56 : decode cX12_keystone 56 = .ok (.aload_n 0, 1) := by decide +kernel
theorem dX12_keystone_57 : decode cX12_keystone 57 = .ok (.iload 5, 2) := by decide +kernel
theorem dX12_keystone_59 : decode cX12_keystone 59 = .ok (.invokevirtual 559, 3) := by decide +kernel
theorem dX12_keystone_62 : decode cX12_keystone 62 = .ok (.aload_n 0, 1) := by decide +kernel
theorem dX12_keystone_63 : decode cX12_keystone 63 = .ok (.iload_n 1, 1) := by decide +kernel
theorem dX12_keystone_64 : decode cX12_keystone 64 = .ok (.invokevirtual 547, 3) := by decide +kernel
theorem dX12_keystone_67 : decode cX12_keystone 67 = .ok (.aload_n 0, 1) := by decide +kernel
theorem dX12_keystone_68 : decode cX12_keystone 68 = .ok (.invokevirtual 480, 3) := by decide +kernel
theorem dX12_keystone_71 : decode cX12_keystone 71 = .ok (.invokestatic 519, 3) := by decide +kernel
theorem dX12_keystone_74 : decode cX12_keystone 74 = .ok (.istore 6, 2) := by decide +kernel
theorem dX12_keystone_76 : decode cX12_keystone 76 = .ok (.aload_n 0, 1) := by decide +kernel
theorem dX12_keystone_77 : decode cX12_keystone 77 = .ok (.invokevirtual 513, 3) := by decide +kernel
theorem dX12_keystone_80 : decode cX12_keystone 80 = .ok (.iload_n 3, 1) := by decide +kernel
theorem dX12_keystone_81 : decode cX12_keystone 81 = .ok (.iconst (-1), 1) := by decide +kernel
theorem dX12_keystone_82 : decode cX12_keystone 82 = .ok (.if_icmp .eq 13, 3) := by decide +kernel
theorem dX12_keystone_85 : decode cX12_keystone 85 = .ok (.iload 6, 2) := by decide +kernel
theorem dX12_keystone_87 : decode cX12_keystone 87 = .ok (.iload 4, 2) := by decide +kernel
theorem dX12_keystone_89 : decode cX12_keystone 89 = .ok (.if_icmp .lt 6, 3) := by decide +kernel
theorem dX12_keystone_92 : decode cX12_keystone 92 = .ok (.goto 10, 3) := by decide +kernel
theorem dX12_keystone_95 : decode cX12_keystone 95 = .ok (.iload 5, 2) := by decide +kernel
theorem dX12_keystone_97 : decode cX12_keystone 97 = .ok (.istore_n 3, 1) := by decide +kernel
theorem dX12_keystone_98 : decode cX12_keystone 98 = .ok (.iload 6, 2) := by decide +kernel
theorem dX12_keystone_100 : decode cX12_keystone 100 = .ok (.istore 4, 2) := by decide +kernel
theorem dX12_keystone_102 : decode cX12_keystone 102 = .ok (.iinc 5 1, 3) := by decide +kernel
theorem dX12_keystone_105 : decode cX12_keystone 105 = .ok (.goto (-70), 3) := by decide +kernel
theorem dX12_keystone_108 : decode cX12_keystone 108 = .ok (.aload_n 0, 1) := by decide +kernel
theorem dX12_keystone_109 : decode cX12_keystone 109 = .ok (.invokevirtual 550, 3) := by decide +kernel
theorem dX12_keystone_112 : decode cX12_keystone 112 = .ok (.iload_n 2, 1) := by decide +kernel
theorem dX12_keystone_113 : decode cX12_keystone 113 = .ok (.ifCond .ne 7, 3) := by decide +kernel
theorem dX12_keystone_116 : decode cX12_keystone 116 = .ok (.iload_n 3, 1) := by decide +kernel
theorem dX12_keystone_117 : decode cX12_keystone 117 = .ok (.goto 5, 3) := by decide +kernel
theorem dX12_keystone_120 : decode cX12_keystone 120 = .ok (.iload 4, 2) := by decide +kernel
theorem dX12_keystone_122 : decode cX12_keystone 122 = .ok (.ireturn, 1) := by decide +kernel
theorem dX12_change_0 : decode cX12_change 0 = .ok (.aload_n 0, 1) := by decide +kernel
theorem dX12_change_1 : decode cX12_change 1 = .ok (.iload_n 1, 1) := by decide +kernel
theorem dX12_change_2 : decode cX12_change 2 = .ok (.iconst 1, 1) := by decide +kernel
theorem dX12_change_3 : decode cX12_change 3 = .ok (.bipush 40, 2) := by decide +kernel
theorem dX12_change_5 : decode cX12_change 5 = .ok (.invokevirtual 541, 3) := by decide +kernel
theorem dX12_change_8 : decode cX12_change 8 = .ok (.ifCond .eq 15, 3) := by decide +kernel
theorem dX12_change_11 : decode cX12_change 11 = .ok (.iload_n 2, 1) := by decide +kernel
theorem dX12_change_12 : decode cX12_change 12 = .ok (.i2l, 1) := by decide +kernel
theorem dX12_change_13 : decode cX12_change 13 = .ok (.lconst 0, 1) := by decide +kernel
theorem dX12_change_14 : decode cX12_change 14 = .ok (.ldc2_w 323, 3) := by decide +kernel
theorem dX12_change_17 : decode cX12_change 17 = .ok (.invokestatic 305, 3) := by decide +kernel
theorem dX12_change_20 : decode cX12_change 20 = .ok (.ifCond .ne 5, 3) := by decide +kernel
theorem dX12_change_23 : decode cX12_change 23 = .ok (.iconst (-1), 1) := by decide +kernel
theorem dX12_change_24 : decode cX12_change 24 = .ok (.ireturn, 1) := by decide +kernel
theorem dX12_change_25 : decode cX12_change 25 = .ok (.iconst (-1), 1) := by decide +kernel
theorem dX12_change_26 : decode cX12_change 26 = .ok (.istore_n 3, 1) := by decide +kernel
theorem dX12_change_27 : decode cX12_change 27 = .ok (.iconst (-1), 1) := by decide +kernel
theorem dX12_change_28 : decode cX12_change 28 = .ok (.istore 4, 2) := by decide +kernel
theorem dX12_change_30 : decode cX12_change 30 = .ok (.aload_n 0, 1) := by decide +kernel
theorem dX12_change_31 : decode cX12_change 31 = .ok (.invokevirtual 544, 3) := by decide +kernel
theorem dX12_change_34 : decode cX12_change 34 = .ok (.aload_n 0, 1) := by decide +kernel
theorem dX12_change_35 : decode cX12_change 35 = .ok (.iload_n 1, 1) := by decide +kernel
theorem dX12_change_36 : decode cX12_change 36 = .ok (.invokevirtual 547, 3) := by decide +kernel
theorem dX12_change_39 : decode cX12_change 39 = .ok (.aload_n 0, 1) := by decide +kernel
theorem dX12_change_40 : decode cX12_change 40 = .ok (.invokevirtual 480, 3) := by decide +kernel
theorem dX12_change_43 : decode cX12_change 43 = .ok (.invokestatic 519, 3) := by decide +kernel
theorem dX12_change_46 : decode cX12_change 46 = .ok (.istore 5, 2) := by decide +kernel
theorem dX12_change_48 : decode cX12_change 48 = .ok (.aload_n 0, 1) := by decide +kernel
theorem dX12_change_49 : decode cX12_change 49 = .ok (.invokevirtual 513, 3) := by decide +kernel
theorem dX12_change_52 : decode cX12_change 52 = .ok (.iconst 0, 1) := by decide +kernel
theorem dX12_change_53 : decode cX12_change 53 = .ok (.istore 6, 2) := by decide +kernel
theorem dX12_change_55 : decode cX12_change 55 = .ok (.iload 6, 2) := by decide +kernel
theorem dX12_change_57 : decode cX12_change 57 = .ok (.aload_n 0, 1) := by decide +kernel
theorem dX12_change_58 : decode cX12_change 58 = .ok (.invokevirtual 423, 3) := by decide +kernel
theorem dX12_change_61 : decode cX12_change 61 = .ok (.if_icmp .ge 105, 3) := by decide +kernel
theorem dX12_change_64 : decode cX12_change 64 = .ok (.iload 6, 2) := by decide +kernel
theorem dX12_change_66 : decode cX12_change 66 = .ok (.iconst 1, 1) := by decide +kernel
theorem dX12_change_67 : decode cX12_change 67 = .ok (.iadd, 1) := by decide +kernel
theorem dX12_change_68 : decode cX12_change 68 = .ok (.istore 7, 2) := by decide +kernel
theorem dX12_change_70 : decode cX12_change 70 = .ok (.iload 7, 2) := by decide +kernel
theorem dX12_change_72 : decode cX12_change 72 = .ok (.aload_n 0, 1) := by decide +kernel
theorem dX12_change_73 : decode cX12_change 73 = .ok (.invokevirtual 423, 3) := by decide +kernel
theorem dX12_change_76 : decode cX12_change 76 = .ok (.if_icmp .ge 84, 3) := by decide +kernel
theorem dX12_change_79 : decode cX12_change 79 = .ok (.aload_n 0, 1) := by decide +kernel
theorem dX12_change_80 : decode cX12_change 80 = .ok (.getfield 142, 3) := by decide +kernel
theorem dX12_change_83 : decode cX12_change 83 = .ok (.iconst 2, 1) := by decide +kernel
theorem dX12_change_84 : decode cX12_change 84 = .ok (.iload 6, 2) := by decide +kernel
theorem dX12_change_86 : decode cX12_change 86 = .ok (.iadd, 1) := by decide +kernel
theorem dX12_change_87 : decode cX12_change 87 = .ok (.aload_n 0, 1) := by decide +kernel
theorem dX12_change_88 : decode cX12_change 88 = .ok (.getfield 151, 3) := by decide +kernel
theorem dX12_change_91 : decode cX12_change 91 = .ok (.iconst 2, 1) := by decide +kernel
theorem dX12_change_92 : decode cX12_change 92 = .ok (.iload 7, 2) := by decide +kernel
theorem dX12_change_94 : decode cX12_change 94 = .ok (.iadd, 1) := by decide +kernel
theorem dX12_change_95 : decode cX12_change 95 = .ok (.iaload, 1) := by decide +kernel
theorem dX12_change_96 : decode cX12_change 96 = .ok (.iastore, 1) := by decide +kernel
theorem dX12_change_97 : decode cX12_change 97 = .ok (.aload_n 0, 1) := by decide +kernel
theorem dX12_change_98 : decode cX12_change 98 = .ok (.getfield 142, 3) := by decide +kernel
theorem dX12_change_101 : decode cX12_change 101 = .ok (.iconst 2, 1) := by decide +kernel
theorem dX12_change_102 : decode cX12_change 102 = .ok (.iload 7, 2) := by decide +kernel
theorem dX12_change_104 : decode cX12_change 104 = .ok (.iadd, 1) := by decide +kernel
theorem dX12_change_105 : decode cX12_change 105 = .ok (.aload_n 0, 1) := by decide +kernel
theorem dX12_change_106 : decode cX12_change 106 = .ok (.getfield 151, 3) := by decide +kernel
theorem dX12_change_109 : decode cX12_change 109 = .ok (.iconst 2, 1) := by decide +kernel
theorem dX12_change_110 : decode cX12_change 110 = .ok (.iload 6, 2) := by decide +kernel
theorem dX12_change_112 : decode cX12_change 112 = .ok (.iadd, 1) := by decide +kernel
theorem dX12_change_113 : decode cX12_change 113 = .ok (.iaload, 1) := by decide +kernel
theorem dX12_change_114 : decode cX12_change 114 = .ok (.iastore, 1) := by decide +kernel
theorem dX12_change_115 : decode cX12_change 115 = .ok (.aload_n 0, 1) := by decide +kernel
theorem dX12_change_116 : decode cX12_change 116 = .ok (.iload_n 1, 1) := by decide +kernel
theorem dX12_change_117 : decode cX12_change 117 = .ok (.invokevirtual 547, 3) := by decide +kernel
theorem dX12_change_120 : decode cX12_change 120 = .ok (.aload_n 0, 1) := by decide +kernel
theorem dX12_change_121 : decode cX12_change 121 = .ok (.invokevirtual 480, 3) := by decide +kernel
theorem dX12_change_124 : decode cX12_change 124 = .ok (.invokestatic 519, 3) := by decide +kernel
theorem dX12_change_127 : decode cX12_change 127 = .ok (.istore 8, 2) := by decide +kernel
theorem dX12_change_129 : decode cX12_change 129 = .ok (.aload_n 0, 1) := by decide +kernel
theorem dX12_change_130 : decode cX12_change 130 = .ok (.invokevirtual 513, 3) := by decide +kernel
theorem dX12_change_133 : decode cX12_change 133 = .ok (.iload 8, 2) := by decide +kernel
theorem dX12_change_135 : decode cX12_change 135 = .ok (.iload 5, 2) := by decide +kernel
theorem dX12_change_137 : decode cX12_change 137 = .ok (.if_icmp .gt 6, 3) := by decide +kernel
theorem dX12_change_140 : decode cX12_change 140 = .ok (.goto 14, 3) := by decide +kernel
theorem dX12_change_143 : decode cX12_change 143 = .ok (.iload 6, 2) := by decide +kernel
theorem dX12_change_145 : decode cX12_change 145 = .ok (.istore_n 3, 1) := by decide +kernel
theorem dX12_change_146 : decode cX12_change 146 = .ok (.iload 7, 2) := by decide +kernel
theorem dX12_change_148 : decode cX12_change 148 = .ok (.istore 4, 2) := by decide +kernel
theorem dX12_change_150 : decode cX12_change 150 = .ok (.iload 8, 2) := by decide +kernel
theorem dX12_change_152 : decode cX12_change 152 = .ok (.istore 5, 2) := by decide +kernel
theorem dX12_change_154 : decode cX12_change 154 = .ok (.iinc 7 1, 3) := by decide +kernel
theorem dX12_change_157 : decode cX12_change 157 = .ok (.goto (-87), 3) := by decide +kernel
theorem dX12_change_160 : decode cX12_change 160 = .ok (.iinc 6 1, 3) := by decide +kernel
theorem dX12_change_163 : decode cX12_change 163 = .ok (.goto (-108), 3) := by decide +kernel
theorem dX12_change_166 : decode cX12_change 166 = .ok (.aload_n 0, 1) := by decide +kernel
theorem dX12_change_167 : decode cX12_change 167 = .ok (.invokevirtual 550, 3) := by decide +kernel
theorem dX12_change_170 : decode cX12_change 170 = .ok (.iload_n 2, 1) := by decide +kernel
theorem dX12_change_171 : decode cX12_change 171 = .ok (.ifCond .ne 7, 3) := by decide +kernel
theorem dX12_change_174 : decode cX12_change 174 = .ok (.iload_n 3, 1) := by decide +kernel
theorem dX12_change_175 : decode cX12_change 175 = .ok (.goto 15, 3) := by decide +kernel
theorem dX12_change_178 : decode cX12_change 178 = .ok (.iload_n 2, 1) := by decide +kernel
theorem dX12_change_179 : decode cX12_change 179 = .ok (.iconst 1, 1) := by decide +kernel
theorem dX12_change_180 : decode cX12_change 180 = .ok (.if_icmp .ne 8, 3) := by decide +kernel
theorem dX12_change_183 : decode cX12_change 183 = .ok (.iload 4, 2) := by decide +kernel
theorem dX12_change_185 : decode cX12_change 185 = .ok (.goto 5, 3) := by decide +kernel
theorem dX12_change_188 : decode cX12_change 188 = .ok (.iload 5, 2) := by decide +kernel
theorem dX12_change_190 : decode cX12_change 190 = .ok (.ireturn, 1) := by decide +kernel
theorem dX12_odds_0 : decode cX12_odds 0 = .ok (.iload_n 1, 1) := by decide +kernel
theorem dX12_odds_1 : decode cX12_odds 1 = .ok (.iconst (-1), 1) := by decide +kernel
theorem dX12_odds_2 : decode cX12_odds 2 = .ok (.if_icmp .eq 12, 3) := by decide +kernel
theorem dX12_odds_5 : decode cX12_odds 5 = .ok (.aload_n 0, 1) := by decide +kernel
theorem dX12_odds_6 : decode cX12_odds 6 = .ok (.iload_n 1, 1) := by decide +kernel
theorem dX12_odds_7 : decode cX12_odds 7 = .ok (.i2l, 1) := by decide +kernel
theorem dX12_odds_8 : decode cX12_odds 8 = .ok (.invokevirtual 528, 3) := by decide +kernel
theorem dX12_odds_11 : decode cX12_odds 11 = .ok (.ifCond .eq 13, 3) := by decide +kernel
theorem dX12_odds_14 : decode cX12_odds 14 = .ok (.aload_n 0, 1) := by decide +kernel
theorem dX12_odds_15 : decode cX12_odds 15 = .ok (.iconst 1, 1) := by decide +kernel
theorem dX12_odds_16 : decode cX12_odds 16 = .ok (.iconst 1, 1) := by decide +kernel
theorem dX12_odds_17 : decode cX12_odds 17 = .ok (.iconst 1, 1) := by decide +kernel
theorem dX12_odds_18 : decode cX12_odds 18 = .ok (.invokevirtual 541, 3) := by decide +kernel
theorem dX12_odds_21 : decode cX12_odds 21 = .ok (.ifCond .ne 5, 3) := by decide +kernel
theorem dX12_odds_24 : decode cX12_odds 24 = .ok (.iconst (-1), 1) := by decide +kernel
theorem dX12_odds_25 : decode cX12_odds 25 = .ok (.ireturn, 1) := by decide +kernel
theorem dX12_odds_26 : decode cX12_odds 26 = .ok (.iload_n 1, 1) := by decide +kernel
theorem dX12_odds_27 : decode cX12_odds 27 = .ok (.iconst (-1), 1) := by decide +kernel
theorem dX12_odds_28 : decode cX12_odds 28 = .ok (.if_icmp .ne 11, 3) := by decide +kernel
theorem dX12_odds_31 : decode cX12_odds 31 = .ok (.bipush 100, 2) := by decide +kernel
theorem dX12_odds_33 : decode cX12_odds 33 = .ok (.aload_n 0, 1) := by decide +kernel
theorem dX12_odds_34 : decode cX12_odds 34 = .ok (.invokevirtual 420, 3) := by decide +kernel
theorem dX12_odds_37 : decode cX12_odds 37 = .ok (.imul, 1) := by decide +kernel
theorem dX12_odds_38 : decode cX12_odds 38 = .ok (.ireturn, 1) := by decide +kernel
theorem dX12_odds_39 : decode cX12_odds 39 = .ok (.iconst 0, 1) := by decide +kernel
theorem dX12_odds_40 : decode cX12_odds 40 = .ok (.istore_n 2, 1) := by decide +kernel
theorem dX12_odds_41 : decode cX12_odds 41 = .ok (.aload_n 0, 1) := by decide +kernel
theorem dX12_odds_42 : decode cX12_odds 42 = .ok (.invokevirtual 544, 3) := by decide +kernel
theorem dX12_odds_45 : decode cX12_odds 45 = .ok (.iconst (-1), 1) := by decide +kernel
theorem dX12_odds_46 : decode cX12_odds 46 = .ok (.istore_n 3, 1) := by decide +kernel
theorem dX12_odds_47 : decode cX12_odds 47 = .ok (.iload_n 3, 1) := by decide +kernel
theorem dX12_odds_48 : decode cX12_odds 48 = .ok (.aload_n 0, 1) := by decide +kernel
theorem dX12_odds_49 : decode cX12_odds 49 = .ok (.invokevirtual 420, 3) := by decide +kernel
theorem dX12_odds_52 : decode cX12_odds 52 = .ok (.if_icmp .ge 68, 3) := by decide +kernel
theorem dX12_odds_55 : decode cX12_odds 55 = .ok (.iload_n 3, 1) := by decide +kernel
theorem dX12_odds_56 : decode cX12_odds 56 = .ok (.iconst (-1), 1) := by decide +kernel
theorem dX12_odds_57 : decode cX12_odds 57 = .ok (.if_icmp .eq 8, 3) := by decide +kernel
theorem dX12_odds_60 : decode cX12_odds 60 = .ok (.aload_n 0, 1) := by decide +kernel
theorem dX12_odds_61 : decode cX12_odds 61 = .ok (.iload_n 3, 1) := by decide +kernel
theorem dX12_odds_62 : decode cX12_odds 62 = .ok (.invokevirtual 562, 3) := by decide +kernel
theorem dX12_odds_65 : decode cX12_odds 65 = .ok (.aload_n 0, 1) := by decide +kernel
theorem dX12_odds_66 : decode cX12_odds 66 = .ok (.invokevirtual 510, 3) := by decide +kernel
theorem dX12_odds_69 : decode cX12_odds 69 = .ok (.aload_n 0, 1) := by decide +kernel
theorem dX12_odds_70 : decode cX12_odds 70 = .ok (.iload_n 1, 1) := by decide +kernel
theorem dX12_odds_71 : decode cX12_odds 71 = .ok (.invokevirtual 532, 3) := by decide +kernel
theorem dX12_odds_74 : decode cX12_odds 74 = .ok (.ifCond .eq 36, 3) := by decide +kernel
theorem dX12_odds_77 : decode cX12_odds 77 = .ok (.iload_n 2, 1) := by decide +kernel
theorem dX12_odds_78 : decode cX12_odds 78 = .ok (.iload_n 3, 1) := by decide +kernel
theorem dX12_odds_79 : decode cX12_odds 79 = .ok (.iconst (-1), 1) := by decide +kernel
theorem dX12_odds_80 : decode cX12_odds 80 = .ok (.if_icmp .ne 21, 3) := by decide +kernel
theorem dX12_odds_83 : decode cX12_odds 83 = .ok (.bipush 100, 2) := by decide +kernel
theorem dX12_odds_85 : decode cX12_odds 85 = .ok (.aload_n 0, 1) := by decide +kernel
theorem dX12_odds_86 : decode cX12_odds 86 = .ok (.getfield 117, 3) := by decide +kernel
theorem dX12_odds_89 : decode cX12_odds 89 = .ok (.bipush 11, 2) := by decide +kernel
theorem dX12_odds_91 : decode cX12_odds 91 = .ok (.iaload, 1) := by decide +kernel
theorem dX12_odds_92 : decode cX12_odds 92 = .ok (.isub, 1) := by decide +kernel
theorem dX12_odds_93 : decode cX12_odds 93 = .ok (.aload_n 0, 1) := by decide +kernel
theorem dX12_odds_94 : decode cX12_odds 94 = .ok (.invokevirtual 420, 3) := by decide +kernel
theorem dX12_odds_97 : decode cX12_odds 97 = .ok (.imul, 1) := by decide +kernel
theorem dX12_odds_98 : decode cX12_odds 98 = .ok (.goto 10, 3) := by decide +kernel
theorem dX12_odds_101 : decode cX12_odds 101 = .ok (.aload_n 0, 1) := by decide +kernel
theorem dX12_odds_102 : decode cX12_odds 102 = .ok (.getfield 117, 3) := by decide +kernel
theorem dX12_odds_105 : decode cX12_odds 105 = .ok (.bipush 11, 2) := by decide +kernel
theorem dX12_odds_107 : decode cX12_odds 107 = .ok (.iaload, 1) := by decide +kernel
theorem dX12_odds_108 : decode cX12_odds 108 = .ok (.iadd, 1) := by decide +kernel
theorem dX12_odds_109 : decode cX12_odds 109 = .ok (.istore_n 2, 1) := by decide +kernel
theorem dX12_odds_110 : decode cX12_odds 110 = .ok (.aload_n 0, 1) := by decide +kernel
theorem dX12_odds_111 : decode cX12_odds 111 = .ok (.invokevirtual 513, 3) := by decide +kernel
theorem dX12_odds_114 : decode cX12_odds 114 = .ok (.iinc 3 1, 3) := by decide +kernel
theorem dX12_odds_117 : decode cX12_odds 117 = .ok (.goto (-70), 3) := by decide +kernel
theorem dX12_odds_120 : decode cX12_odds 120 = .ok (.aload_n 0, 1) := by decide +kernel
theorem dX12_odds_121 : decode cX12_odds 121 = .ok (.invokevirtual 550, 3) := by decide +kernel
theorem dX12_odds_124 : decode cX12_odds 124 = .ok (.iload_n 2, 1) := by decide +kernel
theorem dX12_odds_125 : decode cX12_odds 125 = .ok (.ireturn, 1) := by decide +kernel
theorem dX12_see_0 : decode cX12_see 0 = .ok (.aload_n 0, 1) := by decide +kernel
theorem dX12_see_1 : decode cX12_see 1 = .ok (.getfield 259, 3) := by decide +kernel
theorem dX12_see_4 : decode cX12_see 4 = .ok (.istore_n 1, 1) := by decide +kernel
theorem dX12_see_5 : decode cX12_see 5 = .ok (.aload_n 0, 1) := by decide +kernel
theorem dX12_see_6 : decode cX12_see 6 = .ok (.iconst 0, 1) := by decide +kernel
theorem dX12_see_7 : decode cX12_see 7 = .ok (.putfield 259, 3) := by decide +kernel
theorem dX12_see_10 : decode cX12_see 10 = .ok (.iload_n 1, 1) := by decide +kernel
theorem dX12_see_11 : decode cX12_see 11 = .ok (.ifCond .le 21, 3) := by decide +kernel
theorem dX12_see_14 : decode cX12_see 14 = .ok (.iload_n 1, 1) := by decide +kernel
theorem dX12_see_15 : decode cX12_see 15 = .ok (.iconst 3, 1) := by decide +kernel
theorem dX12_see_16 : decode cX12_see 16 = .ok (.irem, 1) := by decide +kernel
theorem dX12_see_17 : decode cX12_see 17 = .ok (.ifCond .ne 15, 3) := by decide +kernel
theorem dX12_see_20 : decode cX12_see 20 = .ok (.iload_n 1, 1) := by decide +kernel
theorem dX12_see_21 : decode cX12_see 21 = .ok (.iconst 3, 1) := by decide +kernel
theorem dX12_see_22 : decode cX12_see 22 = .ok (.idiv, 1) := by decide +kernel
theorem dX12_see_23 : decode cX12_see 23 = .ok (.bipush 16, 2) := by decide +kernel
theorem dX12_see_25 : decode cX12_see 25 = .ok (.if_icmp .gt 7, 3) := by decide +kernel
theorem dX12_see_28 : decode cX12_see 28 = .ok (.iconst 1, 1) := by decide +kernel
theorem dX12_see_29 : decode cX12_see 29 = .ok (.goto 4, 3) := by decide +kernel
theorem dX12_see_32 : decode cX12_see 32 = .ok (.iconst 0, 1) := by decide +kernel
theorem dX12_see_33 : decode cX12_see 33 = .ok (.istore_n 2, 1) := by decide +kernel
theorem dX12_see_34 : decode cX12_see 34 = .ok (.iconst 0, 1) := by decide +kernel
theorem dX12_see_35 : decode cX12_see 35 = .ok (.istore_n 3, 1) := by decide +kernel
theorem dX12_see_36 : decode cX12_see 36 = .ok (.iload_n 3, 1) := by decide +kernel
theorem dX12_see_37 : decode cX12_see 37 = .ok (.iload_n 1, 1) := by decide +kernel
theorem dX12_see_38 : decode cX12_see 38 = .ok (.if_icmp .ge 59, 3) := by decide +kernel
theorem dX12_see_41 : decode cX12_see 41 = .ok (.iload_n 2, 1) := by decide +kernel
theorem dX12_see_42 : decode cX12_see 42 = .ok (.ifCond .eq 55, 3) := by decide +kernel
theorem dX12_see_45 : decode cX12_see 45 = .ok (.aload_n 0, 1) := by decide +kernel
theorem dX12_see_46 : decode cX12_see 46 = .ok (.getfield 7, 3) := by decide +kernel
theorem dX12_see_49 : decode cX12_see 49 = .ok (.iload_n 3, 1) := by decide +kernel
theorem dX12_see_50 : decode cX12_see 50 = .ok (.iaload, 1) := by decide +kernel
theorem dX12_see_51 : decode cX12_see 51 = .ok (.bipush 30, 2) := by decide +kernel
theorem dX12_see_53 : decode cX12_see 53 = .ok (.if_icmp .gt 36, 3) := by decide +kernel
theorem dX12_see_56 : decode cX12_see 56 = .ok (.aload_n 0, 1) := by decide +kernel
theorem dX12_see_57 : decode cX12_see 57 = .ok (.aload_n 0, 1) := by decide +kernel
theorem dX12_see_58 : decode cX12_see 58 = .ok (.getfield 7, 3) := by decide +kernel
theorem dX12_see_61 : decode cX12_see 61 = .ok (.iload_n 3, 1) := by decide +kernel
theorem dX12_see_62 : decode cX12_see 62 = .ok (.iconst 1, 1) := by decide +kernel
theorem dX12_see_63 : decode cX12_see 63 = .ok (.iadd, 1) := by decide +kernel
theorem dX12_see_64 : decode cX12_see 64 = .ok (.iaload, 1) := by decide +kernel
theorem dX12_see_65 : decode cX12_see 65 = .ok (.i2l, 1) := by decide +kernel
theorem dX12_see_66 : decode cX12_see 66 = .ok (.invokevirtual 538, 3) := by decide +kernel
theorem dX12_see_69 : decode cX12_see 69 = .ok (.ifCond .eq 20, 3) := by decide +kernel
theorem dX12_see_72 : decode cX12_see 72 = .ok (.aload_n 0, 1) := by decide +kernel
theorem dX12_see_73 : decode cX12_see 73 = .ok (.getfield 7, 3) := by decide +kernel
theorem dX12_see_76 : decode cX12_see 76 = .ok (.iload_n 3, 1) := by decide +kernel
theorem dX12_see_77 : decode cX12_see 77 = .ok (.iconst 2, 1) := by decide +kernel
theorem dX12_see_78 : decode cX12_see 78 = .ok (.iadd, 1) := by decide +kernel
theorem dX12_see_79 : decode cX12_see 79 = .ok (.iaload, 1) := by decide +kernel
theorem dX12_see_80 : decode cX12_see 80 = .ok (.bipush 8, 2) := by decide +kernel
theorem dX12_see_82 : decode cX12_see 82 = .ok (.if_icmp .gt 7, 3) := by decide +kernel
theorem dX12_see_85 : decode cX12_see 85 = .ok (.iconst 1, 1) := by decide +kernel
theorem dX12_see_86 : decode cX12_see 86 = .ok (.goto 4, 3) := by decide +kernel
theorem dX12_see_89 : decode cX12_see 89 = .ok (.iconst 0, 1) := by decide +kernel
theorem dX12_see_90 : decode cX12_see 90 = .ok (.istore_n 2, 1) := by decide +kernel
theorem dX12_see_91 : decode cX12_see 91 = .ok (.iinc 3 3, 3) := by decide +kernel
theorem dX12_see_94 : decode cX12_see 94 = .ok (.goto (-58), 3) := by decide +kernel
theorem dX12_see_97 : decode cX12_see 97 = .ok (.iload_n 2, 1) := by decide +kernel
theorem dX12_see_98 : decode cX12_see 98 = .ok (.ifCond .ne 9, 3) := by decide +kernel
theorem dX12_see_101 : decode cX12_see 101 = .ok (.aload_n 0, 1) := by decide +kernel
theorem dX12_see_102 : decode cX12_see 102 = .ok (.iconst 1, 1) := by decide +kernel
theorem dX12_see_103 : decode cX12_see 103 = .ok (.invokevirtual 404, 3) := by decide +kernel
theorem dX12_see_106 : decode cX12_see 106 = .ok (.ireturn, 1) := by decide +kernel
theorem dX12_see_107 : decode cX12_see 107 = .ok (.iconst 0, 1) := by decide +kernel
theorem dX12_see_108 : decode cX12_see 108 = .ok (.istore_n 3, 1) := by decide +kernel
theorem dX12_see_109 : decode cX12_see 109 = .ok (.iload_n 3, 1) := by decide +kernel
theorem dX12_see_110 : decode cX12_see 110 = .ok (.iload_n 1, 1) := by decide +kernel
theorem dX12_see_111 : decode cX12_see 111 = .ok (.if_icmp .ge 21, 3) := by decide +kernel
theorem dX12_see_114 : decode cX12_see 114 = .ok (.aload_n 0, 1) := by decide +kernel
theorem dX12_see_115 : decode cX12_see 115 = .ok (.getfield 154, 3) := by decide +kernel
theorem dX12_see_118 : decode cX12_see 118 = .ok (.iload_n 3, 1) := by decide +kernel
theorem dX12_see_119 : decode cX12_see 119 = .ok (.aload_n 0, 1) := by decide +kernel
theorem dX12_see_120 : decode cX12_see 120 = .ok (.getfield 7, 3) := by decide +kernel
theorem dX12_see_123 : decode cX12_see 123 = .ok (.iload_n 3, 1) := by decide +kernel
theorem dX12_see_124 : decode cX12_see 124 = .ok (.iaload, 1) := by decide +kernel
theorem dX12_see_125 : decode cX12_see 125 = .ok (.iastore, 1) := by decide +kernel
theorem dX12_see_126 : decode cX12_see 126 = .ok (.iinc 3 1, 3) := by decide +kernel
theorem dX12_see_129 : decode cX12_see 129 = .ok (.goto (-20), 3) := by decide +kernel
theorem dX12_see_132 : decode cX12_see 132 = .ok (.aload_n 0, 1) := by decide +kernel
theorem dX12_see_133 : decode cX12_see 133 = .ok (.iload_n 1, 1) := by decide +kernel
theorem dX12_see_134 : decode cX12_see 134 = .ok (.iconst 3, 1) := by decide +kernel
theorem dX12_see_135 : decode cX12_see 135 = .ok (.idiv, 1) := by decide +kernel
theorem dX12_see_136 : decode cX12_see 136 = .ok (.putfield 417, 3) := by decide +kernel
theorem dX12_see_139 : decode cX12_see 139 = .ok (.aload_n 0, 1) := by decide +kernel
theorem dX12_see_140 : decode cX12_see 140 = .ok (.getfield 417, 3) := by decide +kernel
theorem dX12_see_143 : decode cX12_see 143 = .ok (.ireturn, 1) := by decide +kernel
theorem dX12_isAsSeen_0 : decode cX12_isAsSeen 0 = .ok (.iconst 0, 1) := by decide +kernel
theorem dX12_isAsSeen_1 : decode cX12_isAsSeen 1 = .ok (.istore_n 2, 1) := by decide +kernel
theorem dX12_isAsSeen_2 : decode cX12_isAsSeen 2 = .ok (.iload_n 2, 1) := by decide +kernel
theorem dX12_isAsSeen_3 : decode cX12_isAsSeen 3 = .ok (.aload_n 0, 1) := by decide +kernel
theorem dX12_isAsSeen_4 : decode cX12_isAsSeen 4 = .ok (.getfield 417, 3) := by decide +kernel
theorem dX12_isAsSeen_7 : decode cX12_isAsSeen 7 = .ok (.if_icmp .ge 62, 3) := by decide +kernel
theorem dX12_isAsSeen_10 : decode cX12_isAsSeen 10 = .ok (.aload_n 0, 1) := by decide +kernel
theorem dX12_isAsSeen_11 : decode cX12_isAsSeen 11 = .ok (.getfield 154, 3) := by decide +kernel
theorem dX12_isAsSeen_14 : decode cX12_isAsSeen 14 = .ok (.iconst 3, 1) := by decide +kernel
theorem dX12_isAsSeen_15 : decode cX12_isAsSeen 15 = .ok (.iload_n 2, 1) := by decide +kernel
theorem dX12_isAsSeen_16 : decode cX12_isAsSeen 16 = .ok (.imul, 1) := by decide +kernel
theorem dX12_isAsSeen_17 : decode cX12_isAsSeen 17 = .ok (.iaload, 1) := by decide +kernel
theorem dX12_isAsSeen_18 : decode cX12_isAsSeen 18 = .ok (.iload_n 1, 1) := by decide +kernel
theorem dX12_isAsSeen_19 : decode cX12_isAsSeen 19 = .ok (.if_icmp .ne 44, 3) := by decide +kernel
theorem dX12_isAsSeen_22 : decode cX12_isAsSeen 22 = .ok (.aload_n 0, 1) := by decide +kernel
theorem dX12_isAsSeen_23 : decode cX12_isAsSeen 23 = .ok (.getfield 142, 3) := by decide +kernel
theorem dX12_isAsSeen_26 : decode cX12_isAsSeen 26 = .ok (.iconst 0, 1) := by decide +kernel
theorem dX12_isAsSeen_27 : decode cX12_isAsSeen 27 = .ok (.iaload, 1) := by decide +kernel
theorem dX12_isAsSeen_28 : decode cX12_isAsSeen 28 = .ok (.sipush 999, 3) := by decide +kernel
theorem dX12_isAsSeen_31 : decode cX12_isAsSeen 31 = .ok (.if_icmp .gt 30, 3) := by decide +kernel
theorem dX12_isAsSeen_34 : decode cX12_isAsSeen 34 = .ok (.aload_n 0, 1) := by decide +kernel
theorem dX12_isAsSeen_35 : decode cX12_isAsSeen 35 = .ok (.aload_n 0, 1) := by decide +kernel
theorem dX12_isAsSeen_36 : decode cX12_isAsSeen 36 = .ok (.getfield 154, 3) := by decide +kernel
theorem dX12_isAsSeen_39 : decode cX12_isAsSeen 39 = .ok (.iconst 3, 1) := by decide +kernel
theorem dX12_isAsSeen_40 : decode cX12_isAsSeen 40 = .ok (.iload_n 2, 1) := by decide +kernel
theorem dX12_isAsSeen_41 : decode cX12_isAsSeen 41 = .ok (.imul, 1) := by decide +kernel
theorem dX12_isAsSeen_42 : decode cX12_isAsSeen 42 = .ok (.iconst 1, 1) := by decide +kernel
theorem dX12_isAsSeen_43 : decode cX12_isAsSeen 43 = .ok (.iadd, 1) := by decide +kernel
theorem dX12_isAsSeen_44 : decode cX12_isAsSeen 44 = .ok (.iaload, 1) := by decide +kernel
theorem dX12_isAsSeen_45 : decode cX12_isAsSeen 45 = .ok (.invokevirtual 565, 3) := by decide +kernel
theorem dX12_isAsSeen_48 : decode cX12_isAsSeen 48 = .ok (.aload_n 0, 1) := by decide +kernel
theorem dX12_isAsSeen_49 : decode cX12_isAsSeen 49 = .ok (.getfield 154, 3) := by decide +kernel
theorem dX12_isAsSeen_52 : decode cX12_isAsSeen 52 = .ok (.iconst 3, 1) := by decide +kernel
theorem dX12_isAsSeen_53 : decode cX12_isAsSeen 53 = .ok (.iload_n 2, 1) := by decide +kernel
theorem dX12_isAsSeen_54 : decode cX12_isAsSeen 54 = .ok (.imul, 1) := by decide +kernel
theorem dX12_isAsSeen_55 : decode cX12_isAsSeen 55 = .ok (.iconst 2, 1) := by decide +kernel
theorem dX12_isAsSeen_56 : decode cX12_isAsSeen 56 = .ok (.iadd, 1) := by decide +kernel
theorem dX12_isAsSeen_57 : decode cX12_isAsSeen 57 = .ok (.iaload, 1) := by decide +kernel
theorem dX12_isAsSeen_58 : decode cX12_isAsSeen 58 = .ok (.if_icmp .eq 5, 3) := by decide +kernel
theorem dX12_isAsSeen_61 : decode cX12_isAsSeen 61 = .ok (.iconst 0, 1) := by decide +kernel
theorem dX12_isAsSeen_62 : decode cX12_isAsSeen 62 = .ok (.ireturn, 1) := by decide +kernel
theorem dX12_isAsSeen_63 : decode cX12_isAsSeen 63 = .ok (.iinc 2 1, 3) := by decide +kernel
theorem dX12_isAsSeen_66 : decode cX12_isAsSeen 66 = .ok (.goto (-64), 3) := by decide +kernel
theorem dX12_isAsSeen_69 : decode cX12_isAsSeen 69 = .ok (.iconst 1, 1) := by decide +kernel
theorem dX12_isAsSeen_70 : decode cX12_isAsSeen 70 = .ok (.ireturn, 1) := by decide +kernel
theorem dX12_laysInches_0 : decode cX12_laysInches 0 = .ok (.aload_n 0, 1) := by decide +kernel
theorem dX12_laysInches_1 : decode cX12_laysInches 1 = .ok (.iconst 0, 1) := by decide +kernel
theorem dX12_laysInches_2 : decode cX12_laysInches 2 = .ok (.putfield 568, 3) := by decide +kernel
theorem dX12_laysInches_5 : decode cX12_laysInches 5 = .ok (.aload_n 0, 1) := by decide +kernel
theorem dX12_laysInches_6 : decode cX12_laysInches 6 = .ok (.invokevirtual 544, 3) := by decide +kernel
theorem dX12_laysInches_9 : decode cX12_laysInches 9 = .ok (.iconst 1, 1) := by decide +kernel
theorem dX12_laysInches_10 : decode cX12_laysInches 10 = .ok (.istore_n 2, 1) := by decide +kernel
theorem dX12_laysInches_11 : decode cX12_laysInches 11 = .ok (.iload_n 2, 1) := by decide +kernel
theorem dX12_laysInches_12 : decode cX12_laysInches 12 = .ok (.bipush 99, 2) := by decide +kernel
theorem dX12_laysInches_14 : decode cX12_laysInches 14 = .ok (.if_icmp .gt 137, 3) := by decide +kernel
theorem dX12_laysInches_17 : decode cX12_laysInches 17 = .ok (.aload_n 0, 1) := by decide +kernel
theorem dX12_laysInches_18 : decode cX12_laysInches 18 = .ok (.getfield 142, 3) := by decide +kernel
theorem dX12_laysInches_21 : decode cX12_laysInches 21 = .ok (.bipush 8, 2) := by decide +kernel
theorem dX12_laysInches_23 : decode cX12_laysInches 23 = .ok (.iload_n 1, 1) := by decide +kernel
theorem dX12_laysInches_24 : decode cX12_laysInches 24 = .ok (.iadd, 1) := by decide +kernel
theorem dX12_laysInches_25 : decode cX12_laysInches 25 = .ok (.iload_n 2, 1) := by decide +kernel
theorem dX12_laysInches_26 : decode cX12_laysInches 26 = .ok (.iastore, 1) := by decide +kernel
theorem dX12_laysInches_27 : decode cX12_laysInches 27 = .ok (.aload_n 0, 1) := by decide +kernel
theorem dX12_laysInches_28 : decode cX12_laysInches 28 = .ok (.getfield 157, 3) := by decide +kernel
theorem dX12_laysInches_31 : decode cX12_laysInches 31 = .ok (.iload_n 2, 1) := by decide +kernel
theorem dX12_laysInches_32 : decode cX12_laysInches 32 = .ok (.iconst 1, 1) := by decide +kernel
theorem dX12_laysInches_33 : decode cX12_laysInches 33 = .ok (.bastore, 1) := by decide +kernel
theorem dX12_laysInches_34 : decode cX12_laysInches 34 = .ok (.iconst 0, 1) := by decide +kernel
theorem dX12_laysInches_35 : decode cX12_laysInches 35 = .ok (.istore_n 3, 1) := by decide +kernel
theorem dX12_laysInches_36 : decode cX12_laysInches 36 = .ok (.iload_n 3, 1) := by decide +kernel
theorem dX12_laysInches_37 : decode cX12_laysInches 37 = .ok (.bipush 30, 2) := by decide +kernel
theorem dX12_laysInches_39 : decode cX12_laysInches 39 = .ok (.if_icmp .gt 83, 3) := by decide +kernel
theorem dX12_laysInches_42 : decode cX12_laysInches 42 = .ok (.aload_n 0, 1) := by decide +kernel
theorem dX12_laysInches_43 : decode cX12_laysInches 43 = .ok (.getfield 157, 3) := by decide +kernel
theorem dX12_laysInches_46 : decode cX12_laysInches 46 = .ok (.iload_n 2, 1) := by decide +kernel
theorem dX12_laysInches_47 : decode cX12_laysInches 47 = .ok (.aload_n 0, 1) := by decide +kernel
theorem dX12_laysInches_48 : decode cX12_laysInches 48 = .ok (.getfield 157, 3) := by decide +kernel
theorem dX12_laysInches_51 : decode cX12_laysInches 51 = .ok (.iload_n 2, 1) := by decide +kernel
theorem dX12_laysInches_52 : decode cX12_laysInches 52 = .ok (.baload, 1) := by decide +kernel
theorem dX12_laysInches_53 : decode cX12_laysInches 53 = .ok (.ifCond .eq 15, 3) := by decide +kernel
theorem dX12_laysInches_56 : decode cX12_laysInches 56 = .ok (.aload_n 0, 1) := by decide +kernel
theorem dX12_laysInches_57 : decode cX12_laysInches 57 = .ok (.iload_n 3, 1) := by decide +kernel
theorem dX12_laysInches_58 : decode cX12_laysInches 58 = .ok (.invokevirtual 571, 3) := by decide +kernel
theorem dX12_laysInches_61 : decode cX12_laysInches 61 = .ok (.ifCond .eq 7, 3) := by decide +kernel
theorem dX12_laysInches_64 : decode cX12_laysInches 64 = .ok (.iconst 1, 1) := by decide +kernel
theorem dX12_laysInches_65 : decode cX12_laysInches 65 = .ok (.goto 4, 3) := by decide +kernel
theorem dX12_laysInches_68 : decode cX12_laysInches 68 = .ok (.iconst 0, 1) := by decide +kernel
theorem dX12_laysInches_69 : decode cX12_laysInches 69 = .ok (.bastore, 1) := by decide +kernel
theorem dX12_laysInches_70 : decode cX12_laysInches 70 = .ok (.iconst 0, 1) := by decide +kernel
theorem dX12_laysInches_71 : decode cX12_laysInches 71 = .ok (.istore 4, 2) := by decide +kernel
theorem dX12_laysInches_73 : decode cX12_laysInches 73 = .ok (.iload 4, 2) := by decide +kernel
theorem dX12_laysInches_75 : decode cX12_laysInches 75 = .ok (.aload_n 0, 1) := by decide +kernel
theorem dX12_laysInches_76 : decode cX12_laysInches 76 = .ok (.invokevirtual 420, 3) := by decide +kernel
theorem dX12_laysInches_79 : decode cX12_laysInches 79 = .ok (.if_icmp .ge 33, 3) := by decide +kernel
theorem dX12_laysInches_82 : decode cX12_laysInches 82 = .ok (.aload_n 0, 1) := by decide +kernel
theorem dX12_laysInches_83 : decode cX12_laysInches 83 = .ok (.getfield 162, 3) := by decide +kernel
theorem dX12_laysInches_86 : decode cX12_laysInches 86 = .ok (.sipush 930, 3) := by decide +kernel
theorem dX12_laysInches_89 : decode cX12_laysInches 89 = .ok (.iload_n 2, 1) := by decide +kernel
theorem dX12_laysInches_90 : decode cX12_laysInches 90 = .ok (.imul, 1) := by decide +kernel
theorem dX12_laysInches_91 : decode cX12_laysInches 91 = .ok (.bipush 30, 2) := by decide +kernel
theorem dX12_laysInches_93 : decode cX12_laysInches 93 = .ok (.iload_n 3, 1) := by decide +kernel
theorem dX12_laysInches_94 : decode cX12_laysInches 94 = .ok (.imul, 1) := by decide +kernel
theorem dX12_laysInches_95 : decode cX12_laysInches 95 = .ok (.iadd, 1) := by decide +kernel
theorem dX12_laysInches_96 : decode cX12_laysInches 96 = .ok (.iload 4, 2) := by decide +kernel
theorem dX12_laysInches_98 : decode cX12_laysInches 98 = .ok (.iadd, 1) := by decide +kernel
theorem dX12_laysInches_99 : decode cX12_laysInches 99 = .ok (.aload_n 0, 1) := by decide +kernel
theorem dX12_laysInches_100 : decode cX12_laysInches 100 = .ok (.iload 4, 2) := by decide +kernel
theorem dX12_laysInches_102 : decode cX12_laysInches 102 = .ok (.invokevirtual 565, 3) := by decide +kernel
theorem dX12_laysInches_105 : decode cX12_laysInches 105 = .ok (.iastore, 1) := by decide +kernel
theorem dX12_laysInches_106 : decode cX12_laysInches 106 = .ok (.iinc 4 1, 3) := by decide +kernel
theorem dX12_laysInches_109 : decode cX12_laysInches 109 = .ok (.goto (-36), 3) := by decide +kernel
theorem dX12_laysInches_112 : decode cX12_laysInches 112 = .ok (.aload_n 0, 1) := by decide +kernel
theorem dX12_laysInches_113 : decode cX12_laysInches 113 = .ok (.invokevirtual 510, 3) := by decide +kernel
theorem dX12_laysInches_116 : decode cX12_laysInches 116 = .ok (.iinc 3 1, 3) := by decide +kernel
theorem dX12_laysInches_119 : decode cX12_laysInches 119 = .ok (.goto (-83), 3) := by decide +kernel
theorem dX12_laysInches_122 : decode cX12_laysInches 122 = .ok (.aload_n 0, 1) := by decide +kernel
theorem dX12_laysInches_123 : decode cX12_laysInches 123 = .ok (.invokevirtual 513, 3) := by decide +kernel
theorem dX12_laysInches_126 : decode cX12_laysInches 126 = .ok (.aload_n 0, 1) := by decide +kernel
theorem dX12_laysInches_127 : decode cX12_laysInches 127 = .ok (.getfield 157, 3) := by decide +kernel
theorem dX12_laysInches_130 : decode cX12_laysInches 130 = .ok (.iload_n 2, 1) := by decide +kernel
theorem dX12_laysInches_131 : decode cX12_laysInches 131 = .ok (.baload, 1) := by decide +kernel
theorem dX12_laysInches_132 : decode cX12_laysInches 132 = .ok (.ifCond .eq 13, 3) := by decide +kernel
theorem dX12_laysInches_135 : decode cX12_laysInches 135 = .ok (.aload_n 0, 1) := by decide +kernel
theorem dX12_laysInches_136 : decode cX12_laysInches 136 = .ok (.dup, 1) := by decide +kernel
theorem dX12_laysInches_137 : decode cX12_laysInches 137 = .ok (.getfield 568, 3) := by decide +kernel
theorem dX12_laysInches_140 : decode cX12_laysInches 140 = .ok (.iconst 1, 1) := by decide +kernel
theorem dX12_laysInches_141 : decode cX12_laysInches 141 = .ok (.iadd, 1) := by decide +kernel
theorem dX12_laysInches_142 : decode cX12_laysInches 142 = .ok (.putfield 568, 3) := by decide +kernel
theorem dX12_laysInches_145 : decode cX12_laysInches 145 = .ok (.iinc 2 1, 3) := by decide +kernel
theorem dX12_laysInches_148 : decode cX12_laysInches 148 = .ok (.goto (-137), 3) := by decide +kernel
theorem dX12_laysInches_151 : decode cX12_laysInches 151 = .ok (.aload_n 0, 1) := by decide +kernel
theorem dX12_laysInches_152 : decode cX12_laysInches 152 = .ok (.invokevirtual 550, 3) := by decide +kernel
theorem dX12_laysInches_155 : decode cX12_laysInches 155 = .ok (.return_, 1) := by decide +kernel
theorem dX12_inches_0 : decode cX12_inches 0 = .ok (.aload_n 0, 1) := by decide +kernel
theorem dX12_inches_1 : decode cX12_inches 1 = .ok (.iload_n 1, 1) := by decide +kernel
theorem dX12_inches_2 : decode cX12_inches 2 = .ok (.i2l, 1) := by decide +kernel
theorem dX12_inches_3 : decode cX12_inches 3 = .ok (.invokevirtual 528, 3) := by decide +kernel
theorem dX12_inches_6 : decode cX12_inches 6 = .ok (.ifCond .eq 16, 3) := by decide +kernel
theorem dX12_inches_9 : decode cX12_inches 9 = .ok (.aload_n 0, 1) := by decide +kernel
theorem dX12_inches_10 : decode cX12_inches 10 = .ok (.iload_n 1, 1) := by decide +kernel
theorem dX12_inches_11 : decode cX12_inches 11 = .ok (.invokevirtual 432, 3) := by decide +kernel
theorem dX12_inches_14 : decode cX12_inches 14 = .ok (.ifCond .eq 8, 3) := by decide +kernel
theorem dX12_inches_17 : decode cX12_inches 17 = .ok (.iload_n 2, 1) := by decide +kernel
theorem dX12_inches_18 : decode cX12_inches 18 = .ok (.iconst (-1), 1) := by decide +kernel
theorem dX12_inches_19 : decode cX12_inches 19 = .ok (.if_icmp .ge 5, 3) := by decide +kernel
theorem dX12_inches_22 : decode cX12_inches 22 = .ok (.iconst (-1), 1) := by decide +kernel
theorem dX12_inches_23 : decode cX12_inches 23 = .ok (.ireturn, 1) := by decide +kernel
theorem dX12_inches_24 : decode cX12_inches 24 = .ok (.aload_n 0, 1) := by decide +kernel
theorem dX12_inches_25 : decode cX12_inches 25 = .ok (.iload_n 1, 1) := by decide +kernel
theorem dX12_inches_26 : decode cX12_inches 26 = .ok (.invokevirtual 574, 3) := by decide +kernel
theorem dX12_inches_29 : decode cX12_inches 29 = .ok (.iload_n 2, 1) := by decide +kernel
theorem dX12_inches_30 : decode cX12_inches 30 = .ok (.iconst (-1), 1) := by decide +kernel
theorem dX12_inches_31 : decode cX12_inches 31 = .ok (.if_icmp .ne 8, 3) := by decide +kernel
theorem dX12_inches_34 : decode cX12_inches 34 = .ok (.aload_n 0, 1) := by decide +kernel
theorem dX12_inches_35 : decode cX12_inches 35 = .ok (.getfield 568, 3) := by decide +kernel
theorem dX12_inches_38 : decode cX12_inches 38 = .ok (.ireturn, 1) := by decide +kernel
theorem dX12_inches_39 : decode cX12_inches 39 = .ok (.iconst 0, 1) := by decide +kernel
theorem dX12_inches_40 : decode cX12_inches 40 = .ok (.istore_n 3, 1) := by decide +kernel
theorem dX12_inches_41 : decode cX12_inches 41 = .ok (.iconst 1, 1) := by decide +kernel
theorem dX12_inches_42 : decode cX12_inches 42 = .ok (.istore 4, 2) := by decide +kernel
theorem dX12_inches_44 : decode cX12_inches 44 = .ok (.iload 4, 2) := by decide +kernel
theorem dX12_inches_46 : decode cX12_inches 46 = .ok (.bipush 99, 2) := by decide +kernel
theorem dX12_inches_48 : decode cX12_inches 48 = .ok (.if_icmp .gt 33, 3) := by decide +kernel
theorem dX12_inches_51 : decode cX12_inches 51 = .ok (.aload_n 0, 1) := by decide +kernel
theorem dX12_inches_52 : decode cX12_inches 52 = .ok (.getfield 157, 3) := by decide +kernel
theorem dX12_inches_55 : decode cX12_inches 55 = .ok (.iload 4, 2) := by decide +kernel
theorem dX12_inches_57 : decode cX12_inches 57 = .ok (.baload, 1) := by decide +kernel
theorem dX12_inches_58 : decode cX12_inches 58 = .ok (.ifCond .ne 6, 3) := by decide +kernel
theorem dX12_inches_61 : decode cX12_inches 61 = .ok (.goto 14, 3) := by decide +kernel
theorem dX12_inches_64 : decode cX12_inches 64 = .ok (.iload_n 3, 1) := by decide +kernel
theorem dX12_inches_65 : decode cX12_inches 65 = .ok (.iload_n 2, 1) := by decide +kernel
theorem dX12_inches_66 : decode cX12_inches 66 = .ok (.if_icmp .ne 6, 3) := by decide +kernel
theorem dX12_inches_69 : decode cX12_inches 69 = .ok (.iload 4, 2) := by decide +kernel
theorem dX12_inches_71 : decode cX12_inches 71 = .ok (.ireturn, 1) := by decide +kernel
theorem dX12_inches_72 : decode cX12_inches 72 = .ok (.iinc 3 1, 3) := by decide +kernel
theorem dX12_inches_75 : decode cX12_inches 75 = .ok (.iinc 4 1, 3) := by decide +kernel
theorem dX12_inches_78 : decode cX12_inches 78 = .ok (.goto (-34), 3) := by decide +kernel
theorem dX12_inches_81 : decode cX12_inches 81 = .ok (.iconst (-1), 1) := by decide +kernel
theorem dX12_inches_82 : decode cX12_inches 82 = .ok (.ireturn, 1) := by decide +kernel
theorem dX12_mostAlike_0 : decode cX12_mostAlike 0 = .ok (.iconst 0, 1) := by decide +kernel
theorem dX12_mostAlike_1 : decode cX12_mostAlike 1 = .ok (.istore_n 2, 1) := by decide +kernel
theorem dX12_mostAlike_2 : decode cX12_mostAlike 2 = .ok (.iconst 0, 1) := by decide +kernel
theorem dX12_mostAlike_3 : decode cX12_mostAlike 3 = .ok (.istore_n 3, 1) := by decide +kernel
theorem dX12_mostAlike_4 : decode cX12_mostAlike 4 = .ok (.iload_n 3, 1) := by decide +kernel
theorem dX12_mostAlike_5 : decode cX12_mostAlike 5 = .ok (.bipush 8, 2) := by decide +kernel
theorem dX12_mostAlike_7 : decode cX12_mostAlike 7 = .ok (.if_icmp .gt 16, 3) := by decide +kernel
theorem dX12_mostAlike_10 : decode cX12_mostAlike 10 = .ok (.aload_n 0, 1) := by decide +kernel
theorem dX12_mostAlike_11 : decode cX12_mostAlike 11 = .ok (.getfield 165, 3) := by decide +kernel
theorem dX12_mostAlike_14 : decode cX12_mostAlike 14 = .ok (.iload_n 3, 1) := by decide +kernel
theorem dX12_mostAlike_15 : decode cX12_mostAlike 15 = .ok (.iconst 0, 1) := by decide +kernel
theorem dX12_mostAlike_16 : decode cX12_mostAlike 16 = .ok (.iastore, 1) := by decide +kernel
theorem dX12_mostAlike_17 : decode cX12_mostAlike 17 = .ok (.iinc 3 1, 3) := by decide +kernel
theorem dX12_mostAlike_20 : decode cX12_mostAlike 20 = .ok (.goto (-16), 3) := by decide +kernel
theorem dX12_mostAlike_23 : decode cX12_mostAlike 23 = .ok (.iconst 1, 1) := by decide +kernel
theorem dX12_mostAlike_24 : decode cX12_mostAlike 24 = .ok (.istore_n 3, 1) := by decide +kernel
theorem dX12_mostAlike_25 : decode cX12_mostAlike 25 = .ok (.iload_n 3, 1) := by decide +kernel
theorem dX12_mostAlike_26 : decode cX12_mostAlike 26 = .ok (.bipush 99, 2) := by decide +kernel
theorem dX12_mostAlike_28 : decode cX12_mostAlike 28 = .ok (.if_icmp .gt 65, 3) := by decide +kernel
theorem dX12_mostAlike_31 : decode cX12_mostAlike 31 = .ok (.aload_n 0, 1) := by decide +kernel
theorem dX12_mostAlike_32 : decode cX12_mostAlike 32 = .ok (.getfield 157, 3) := by decide +kernel
theorem dX12_mostAlike_35 : decode cX12_mostAlike 35 = .ok (.iload_n 3, 1) := by decide +kernel
theorem dX12_mostAlike_36 : decode cX12_mostAlike 36 = .ok (.baload, 1) := by decide +kernel
theorem dX12_mostAlike_37 : decode cX12_mostAlike 37 = .ok (.ifCond .ne 6, 3) := by decide +kernel
theorem dX12_mostAlike_40 : decode cX12_mostAlike 40 = .ok (.goto 47, 3) := by decide +kernel
theorem dX12_mostAlike_43 : decode cX12_mostAlike 43 = .ok (.aload_n 0, 1) := by decide +kernel
theorem dX12_mostAlike_44 : decode cX12_mostAlike 44 = .ok (.getfield 162, 3) := by decide +kernel
theorem dX12_mostAlike_47 : decode cX12_mostAlike 47 = .ok (.sipush 930, 3) := by decide +kernel
theorem dX12_mostAlike_50 : decode cX12_mostAlike 50 = .ok (.iload_n 3, 1) := by decide +kernel
theorem dX12_mostAlike_51 : decode cX12_mostAlike 51 = .ok (.imul, 1) := by decide +kernel
theorem dX12_mostAlike_52 : decode cX12_mostAlike 52 = .ok (.iload_n 1, 1) := by decide +kernel
theorem dX12_mostAlike_53 : decode cX12_mostAlike 53 = .ok (.iadd, 1) := by decide +kernel
theorem dX12_mostAlike_54 : decode cX12_mostAlike 54 = .ok (.iaload, 1) := by decide +kernel
theorem dX12_mostAlike_55 : decode cX12_mostAlike 55 = .ok (.istore 4, 2) := by decide +kernel
theorem dX12_mostAlike_57 : decode cX12_mostAlike 57 = .ok (.aload_n 0, 1) := by decide +kernel
theorem dX12_mostAlike_58 : decode cX12_mostAlike 58 = .ok (.getfield 165, 3) := by decide +kernel
theorem dX12_mostAlike_61 : decode cX12_mostAlike 61 = .ok (.iload 4, 2) := by decide +kernel
theorem dX12_mostAlike_63 : decode cX12_mostAlike 63 = .ok (.dup2, 1) := by decide +kernel
theorem dX12_mostAlike_64 : decode cX12_mostAlike 64 = .ok (.iaload, 1) := by decide +kernel
theorem dX12_mostAlike_65 : decode cX12_mostAlike 65 = .ok (.iconst 1, 1) := by decide +kernel
theorem dX12_mostAlike_66 : decode cX12_mostAlike 66 = .ok (.iadd, 1) := by decide +kernel
theorem dX12_mostAlike_67 : decode cX12_mostAlike 67 = .ok (.iastore, 1) := by decide +kernel
theorem dX12_mostAlike_68 : decode cX12_mostAlike 68 = .ok (.aload_n 0, 1) := by decide +kernel
theorem dX12_mostAlike_69 : decode cX12_mostAlike 69 = .ok (.getfield 165, 3) := by decide +kernel
theorem dX12_mostAlike_72 : decode cX12_mostAlike 72 = .ok (.iload 4, 2) := by decide +kernel
theorem dX12_mostAlike_74 : decode cX12_mostAlike 74 = .ok (.iaload, 1) := by decide +kernel
theorem dX12_mostAlike_75 : decode cX12_mostAlike 75 = .ok (.iload_n 2, 1) := by decide +kernel
theorem dX12_mostAlike_76 : decode cX12_mostAlike 76 = .ok (.if_icmp .le 11, 3) := by decide +kernel
theorem dX12_mostAlike_79 : decode cX12_mostAlike 79 = .ok (.aload_n 0, 1) := by decide +kernel
theorem dX12_mostAlike_80 : decode cX12_mostAlike 80 = .ok (.getfield 165, 3) := by decide +kernel
theorem dX12_mostAlike_83 : decode cX12_mostAlike 83 = .ok (.iload 4, 2) := by decide +kernel
theorem dX12_mostAlike_85 : decode cX12_mostAlike 85 = .ok (.iaload, 1) := by decide +kernel
theorem dX12_mostAlike_86 : decode cX12_mostAlike 86 = .ok (.istore_n 2, 1) := by decide +kernel
theorem dX12_mostAlike_87 : decode cX12_mostAlike 87 = .ok (.iinc 3 1, 3) := by decide +kernel
theorem dX12_mostAlike_90 : decode cX12_mostAlike 90 = .ok (.goto (-65), 3) := by decide +kernel
theorem dX12_mostAlike_93 : decode cX12_mostAlike 93 = .ok (.iload_n 2, 1) := by decide +kernel
theorem dX12_mostAlike_94 : decode cX12_mostAlike 94 = .ok (.ireturn, 1) := by decide +kernel
theorem dX12_tells_0 : decode cX12_tells 0 = .ok (.aload_n 0, 1) := by decide +kernel
theorem dX12_tells_1 : decode cX12_tells 1 = .ok (.iload_n 1, 1) := by decide +kernel
theorem dX12_tells_2 : decode cX12_tells 2 = .ok (.i2l, 1) := by decide +kernel
theorem dX12_tells_3 : decode cX12_tells 3 = .ok (.invokevirtual 528, 3) := by decide +kernel
theorem dX12_tells_6 : decode cX12_tells 6 = .ok (.ifCond .eq 23, 3) := by decide +kernel
theorem dX12_tells_9 : decode cX12_tells 9 = .ok (.aload_n 0, 1) := by decide +kernel
theorem dX12_tells_10 : decode cX12_tells 10 = .ok (.iload_n 1, 1) := by decide +kernel
theorem dX12_tells_11 : decode cX12_tells 11 = .ok (.invokevirtual 432, 3) := by decide +kernel
theorem dX12_tells_14 : decode cX12_tells 14 = .ok (.ifCond .eq 15, 3) := by decide +kernel
theorem dX12_tells_17 : decode cX12_tells 17 = .ok (.iload_n 2, 1) := by decide +kernel
theorem dX12_tells_18 : decode cX12_tells 18 = .ok (.i2l, 1) := by decide +kernel
theorem dX12_tells_19 : decode cX12_tells 19 = .ok (.lconst 0, 1) := by decide +kernel
theorem dX12_tells_20 : decode cX12_tells 20 = .ok (.ldc2_w 323, 3) := by decide +kernel
theorem dX12_tells_23 : decode cX12_tells 23 = .ok (.invokestatic 305, 3) := by decide +kernel
theorem dX12_tells_26 : decode cX12_tells 26 = .ok (.ifCond .ne 5, 3) := by decide +kernel
theorem dX12_tells_29 : decode cX12_tells 29 = .ok (.iconst (-1), 1) := by decide +kernel
theorem dX12_tells_30 : decode cX12_tells 30 = .ok (.ireturn, 1) := by decide +kernel
theorem dX12_tells_31 : decode cX12_tells 31 = .ok (.aload_n 0, 1) := by decide +kernel
theorem dX12_tells_32 : decode cX12_tells 32 = .ok (.iload_n 1, 1) := by decide +kernel
theorem dX12_tells_33 : decode cX12_tells 33 = .ok (.invokevirtual 574, 3) := by decide +kernel
theorem dX12_tells_36 : decode cX12_tells 36 = .ok (.iconst (-1), 1) := by decide +kernel
theorem dX12_tells_37 : decode cX12_tells 37 = .ok (.istore_n 3, 1) := by decide +kernel
theorem dX12_tells_38 : decode cX12_tells 38 = .ok (.iconst (-1), 1) := by decide +kernel
theorem dX12_tells_39 : decode cX12_tells 39 = .ok (.istore 4, 2) := by decide +kernel
theorem dX12_tells_41 : decode cX12_tells 41 = .ok (.iconst 0, 1) := by decide +kernel
theorem dX12_tells_42 : decode cX12_tells 42 = .ok (.istore 5, 2) := by decide +kernel
theorem dX12_tells_44 : decode cX12_tells 44 = .ok (.iconst 1, 1) := by decide +kernel
theorem dX12_tells_45 : decode cX12_tells 45 = .ok (.istore 6, 2) := by decide +kernel
theorem dX12_tells_47 : decode cX12_tells 47 = .ok (.aload_n 0, 1) := by decide +kernel
theorem dX12_tells_48 : decode cX12_tells 48 = .ok (.getfield 568, 3) := by decide +kernel
theorem dX12_tells_51 : decode cX12_tells 51 = .ok (.ifCond .le 79, 3) := by decide +kernel
theorem dX12_tells_54 : decode cX12_tells 54 = .ok (.aload_n 0, 1) := by decide +kernel
theorem dX12_tells_55 : decode cX12_tells 55 = .ok (.iload 6, 2) := by decide +kernel
theorem dX12_tells_57 : decode cX12_tells 57 = .ok (.iconst 1, 1) := by decide +kernel
theorem dX12_tells_58 : decode cX12_tells 58 = .ok (.bipush 30, 2) := by decide +kernel
theorem dX12_tells_60 : decode cX12_tells 60 = .ok (.invokevirtual 541, 3) := by decide +kernel
theorem dX12_tells_63 : decode cX12_tells 63 = .ok (.ifCond .eq 67, 3) := by decide +kernel
theorem dX12_tells_66 : decode cX12_tells 66 = .ok (.iconst 0, 1) := by decide +kernel
theorem dX12_tells_67 : decode cX12_tells 67 = .ok (.istore 7, 2) := by decide +kernel
theorem dX12_tells_69 : decode cX12_tells 69 = .ok (.iload 7, 2) := by decide +kernel
theorem dX12_tells_71 : decode cX12_tells 71 = .ok (.aload_n 0, 1) := by decide +kernel
theorem dX12_tells_72 : decode cX12_tells 72 = .ok (.invokevirtual 420, 3) := by decide +kernel
theorem dX12_tells_75 : decode cX12_tells 75 = .ok (.if_icmp .ge 49, 3) := by decide +kernel
theorem dX12_tells_78 : decode cX12_tells 78 = .ok (.aload_n 0, 1) := by decide +kernel
theorem dX12_tells_79 : decode cX12_tells 79 = .ok (.bipush 30, 2) := by decide +kernel
theorem dX12_tells_81 : decode cX12_tells 81 = .ok (.iload 6, 2) := by decide +kernel
theorem dX12_tells_83 : decode cX12_tells 83 = .ok (.imul, 1) := by decide +kernel
theorem dX12_tells_84 : decode cX12_tells 84 = .ok (.iload 7, 2) := by decide +kernel
theorem dX12_tells_86 : decode cX12_tells 86 = .ok (.iadd, 1) := by decide +kernel
theorem dX12_tells_87 : decode cX12_tells 87 = .ok (.invokevirtual 577, 3) := by decide +kernel
theorem dX12_tells_90 : decode cX12_tells 90 = .ok (.istore 8, 2) := by decide +kernel
theorem dX12_tells_92 : decode cX12_tells 92 = .ok (.iload_n 3, 1) := by decide +kernel
theorem dX12_tells_93 : decode cX12_tells 93 = .ok (.iconst (-1), 1) := by decide +kernel
theorem dX12_tells_94 : decode cX12_tells 94 = .ok (.if_icmp .eq 13, 3) := by decide +kernel
theorem dX12_tells_97 : decode cX12_tells 97 = .ok (.iload 8, 2) := by decide +kernel
theorem dX12_tells_99 : decode cX12_tells 99 = .ok (.iload 5, 2) := by decide +kernel
theorem dX12_tells_101 : decode cX12_tells 101 = .ok (.if_icmp .lt 6, 3) := by decide +kernel
theorem dX12_tells_104 : decode cX12_tells 104 = .ok (.goto 14, 3) := by decide +kernel
theorem dX12_tells_107 : decode cX12_tells 107 = .ok (.iload 6, 2) := by decide +kernel
theorem dX12_tells_109 : decode cX12_tells 109 = .ok (.istore_n 3, 1) := by decide +kernel
theorem dX12_tells_110 : decode cX12_tells 110 = .ok (.iload 7, 2) := by decide +kernel
theorem dX12_tells_112 : decode cX12_tells 112 = .ok (.istore 4, 2) := by decide +kernel
theorem dX12_tells_114 : decode cX12_tells 114 = .ok (.iload 8, 2) := by decide +kernel
theorem dX12_tells_116 : decode cX12_tells 116 = .ok (.istore 5, 2) := by decide +kernel
theorem dX12_tells_118 : decode cX12_tells 118 = .ok (.iinc 7 1, 3) := by decide +kernel
theorem dX12_tells_121 : decode cX12_tells 121 = .ok (.goto (-52), 3) := by decide +kernel
theorem dX12_tells_124 : decode cX12_tells 124 = .ok (.iinc 6 1, 3) := by decide +kernel
theorem dX12_tells_127 : decode cX12_tells 127 = .ok (.goto (-80), 3) := by decide +kernel
theorem dX12_tells_130 : decode cX12_tells 130 = .ok (.iload_n 3, 1) := by decide +kernel
theorem dX12_tells_131 : decode cX12_tells 131 = .ok (.iconst (-1), 1) := by decide +kernel
theorem dX12_tells_132 : decode cX12_tells 132 = .ok (.if_icmp .ne 7, 3) := by decide +kernel
theorem dX12_tells_135 : decode cX12_tells 135 = .ok (.iconst (-1), 1) := by decide +kernel
theorem dX12_tells_136 : decode cX12_tells 136 = .ok (.goto 23, 3) := by decide +kernel
theorem dX12_tells_139 : decode cX12_tells 139 = .ok (.iload_n 2, 1) := by decide +kernel
theorem dX12_tells_140 : decode cX12_tells 140 = .ok (.ifCond .ne 7, 3) := by decide +kernel
theorem dX12_tells_143 : decode cX12_tells 143 = .ok (.iload_n 3, 1) := by decide +kernel
theorem dX12_tells_144 : decode cX12_tells 144 = .ok (.goto 15, 3) := by decide +kernel
theorem dX12_tells_147 : decode cX12_tells 147 = .ok (.iload_n 2, 1) := by decide +kernel
theorem dX12_tells_148 : decode cX12_tells 148 = .ok (.iconst 1, 1) := by decide +kernel
theorem dX12_tells_149 : decode cX12_tells 149 = .ok (.if_icmp .ne 8, 3) := by decide +kernel
theorem dX12_tells_152 : decode cX12_tells 152 = .ok (.iload 4, 2) := by decide +kernel
theorem dX12_tells_154 : decode cX12_tells 154 = .ok (.goto 5, 3) := by decide +kernel
theorem dX12_tells_157 : decode cX12_tells 157 = .ok (.iload 5, 2) := by decide +kernel
theorem dX12_tells_159 : decode cX12_tells 159 = .ok (.ireturn, 1) := by decide +kernel
theorem dX12_keeps_0 : decode cX12_keeps 0 = .ok (.aload_n 0, 1) := by decide +kernel
theorem dX12_keeps_1 : decode cX12_keeps 1 = .ok (.aload_n 0, 1) := by decide +kernel
theorem dX12_keeps_2 : decode cX12_keeps 2 = .ok (.getfield 580, 3) := by decide +kernel
theorem dX12_keeps_5 : decode cX12_keeps 5 = .ok (.iconst 1, 1) := by decide +kernel
theorem dX12_keeps_6 : decode cX12_keeps 6 = .ok (.iadd, 1) := by decide +kernel
theorem dX12_keeps_7 : decode cX12_keeps 7 = .ok (.bipush 20, 2) := by decide +kernel
theorem dX12_keeps_9 : decode cX12_keeps 9 = .ok (.irem, 1) := by decide +kernel
theorem dX12_keeps_10 : decode cX12_keeps 10 = .ok (.putfield 580, 3) := by decide +kernel
theorem dX12_keeps_13 : decode cX12_keeps 13 = .ok (.iconst 0, 1) := by decide +kernel
theorem dX12_keeps_14 : decode cX12_keeps 14 = .ok (.istore_n 1, 1) := by decide +kernel
theorem dX12_keeps_15 : decode cX12_keeps 15 = .ok (.iload_n 1, 1) := by decide +kernel
theorem dX12_keeps_16 : decode cX12_keeps 16 = .ok (.bipush 105, 2) := by decide +kernel
theorem dX12_keeps_18 : decode cX12_keeps 18 = .ok (.if_icmp .ge 29, 3) := by decide +kernel
theorem dX12_keeps_21 : decode cX12_keeps 21 = .ok (.aload_n 0, 1) := by decide +kernel
theorem dX12_keeps_22 : decode cX12_keeps 22 = .ok (.getfield 168, 3) := by decide +kernel
theorem dX12_keeps_25 : decode cX12_keeps 25 = .ok (.bipush 105, 2) := by decide +kernel
theorem dX12_keeps_27 : decode cX12_keeps 27 = .ok (.aload_n 0, 1) := by decide +kernel
theorem dX12_keeps_28 : decode cX12_keeps 28 = .ok (.getfield 580, 3) := by decide +kernel
theorem dX12_keeps_31 : decode cX12_keeps 31 = .ok (.imul, 1) := by decide +kernel
theorem dX12_keeps_32 : decode cX12_keeps 32 = .ok (.iload_n 1, 1) := by decide +kernel
theorem dX12_keeps_33 : decode cX12_keeps 33 = .ok (.iadd, 1) := by decide +kernel
theorem dX12_keeps_34 : decode cX12_keeps 34 = .ok (.aload_n 0, 1) := by decide +kernel
theorem dX12_keeps_35 : decode cX12_keeps 35 = .ok (.getfield 142, 3) := by decide +kernel
theorem dX12_keeps_38 : decode cX12_keeps 38 = .ok (.iload_n 1, 1) := by decide +kernel
theorem dX12_keeps_39 : decode cX12_keeps 39 = .ok (.iaload, 1) := by decide +kernel
theorem dX12_keeps_40 : decode cX12_keeps 40 = .ok (.iastore, 1) := by decide +kernel
theorem dX12_keeps_41 : decode cX12_keeps 41 = .ok (.iinc 1 1, 3) := by decide +kernel
theorem dX12_keeps_44 : decode cX12_keeps 44 = .ok (.goto (-29), 3) := by decide +kernel
theorem dX12_keeps_47 : decode cX12_keeps 47 = .ok (.aload_n 0, 1) := by decide +kernel
theorem dX12_keeps_48 : decode cX12_keeps 48 = .ok (.getfield 414, 3) := by decide +kernel
theorem dX12_keeps_51 : decode cX12_keeps 51 = .ok (.bipush 20, 2) := by decide +kernel
theorem dX12_keeps_53 : decode cX12_keeps 53 = .ok (.if_icmp .ge 13, 3) := by decide +kernel
theorem dX12_keeps_56 : decode cX12_keeps 56 = .ok (.aload_n 0, 1) := by decide +kernel
theorem dX12_keeps_57 : decode cX12_keeps 57 = .ok (.dup, 1) := by decide +kernel
theorem dX12_keeps_58 : decode cX12_keeps 58 = .ok (.getfield 414, 3) := by decide +kernel
theorem dX12_keeps_61 : decode cX12_keeps 61 = .ok (.iconst 1, 1) := by decide +kernel
theorem dX12_keeps_62 : decode cX12_keeps 62 = .ok (.iadd, 1) := by decide +kernel
theorem dX12_keeps_63 : decode cX12_keeps 63 = .ok (.putfield 414, 3) := by decide +kernel
theorem dX12_keeps_66 : decode cX12_keeps 66 = .ok (.return_, 1) := by decide +kernel
theorem dX12_undo_0 : decode cX12_undo 0 = .ok (.aload_n 0, 1) := by decide +kernel
theorem dX12_undo_1 : decode cX12_undo 1 = .ok (.getfield 414, 3) := by decide +kernel
theorem dX12_undo_4 : decode cX12_undo 4 = .ok (.ifCond .ne 15, 3) := by decide +kernel
theorem dX12_undo_7 : decode cX12_undo 7 = .ok (.aload_n 0, 1) := by decide +kernel
theorem dX12_undo_8 : decode cX12_undo 8 = .ok (.getfield 17, 3) := by decide +kernel
theorem dX12_undo_11 : decode cX12_undo 11 = .ok (.iconst 4, 1) := by decide +kernel
theorem dX12_undo_12 : decode cX12_undo 12 = .ok (.dup2, 1) := by decide +kernel
theorem dX12_undo_13 : decode cX12_undo 13 = .ok (.iaload, 1) := by decide +kernel
theorem dX12_undo_14 : decode cX12_undo 14 = .ok (.iconst 1, 1) := by decide +kernel
theorem dX12_undo_15 : decode cX12_undo 15 = .ok (.iadd, 1) := by decide +kernel
theorem dX12_undo_16 : decode cX12_undo 16 = .ok (.iastore, 1) := by decide +kernel
theorem dX12_undo_17 : decode cX12_undo 17 = .ok (.iconst 0, 1) := by decide +kernel
theorem dX12_undo_18 : decode cX12_undo 18 = .ok (.ireturn, 1) := by decide +kernel
theorem dX12_undo_19 : decode cX12_undo 19 = .ok (.iconst 0, 1) := by decide +kernel
theorem dX12_undo_20 : decode cX12_undo 20 = .ok (.istore_n 1, 1) := by decide +kernel
theorem dX12_undo_21 : decode cX12_undo 21 = .ok (.iload_n 1, 1) := by decide +kernel
theorem dX12_undo_22 : decode cX12_undo 22 = .ok (.bipush 105, 2) := by decide +kernel
theorem dX12_undo_24 : decode cX12_undo 24 = .ok (.if_icmp .ge 29, 3) := by decide +kernel
theorem dX12_undo_27 : decode cX12_undo 27 = .ok (.aload_n 0, 1) := by decide +kernel
theorem dX12_undo_28 : decode cX12_undo 28 = .ok (.getfield 142, 3) := by decide +kernel
theorem dX12_undo_31 : decode cX12_undo 31 = .ok (.iload_n 1, 1) := by decide +kernel
theorem dX12_undo_32 : decode cX12_undo 32 = .ok (.aload_n 0, 1) := by decide +kernel
theorem dX12_undo_33 : decode cX12_undo 33 = .ok (.getfield 168, 3) := by decide +kernel
theorem dX12_undo_36 : decode cX12_undo 36 = .ok (.bipush 105, 2) := by decide +kernel
theorem dX12_undo_38 : decode cX12_undo 38 = .ok (.aload_n 0, 1) := by decide +kernel
theorem dX12_undo_39 : decode cX12_undo 39 = .ok (.getfield 580, 3) := by decide +kernel
theorem dX12_undo_42 : decode cX12_undo 42 = .ok (.imul, 1) := by decide +kernel
theorem dX12_undo_43 : decode cX12_undo 43 = .ok (.iload_n 1, 1) := by decide +kernel
theorem dX12_undo_44 : decode cX12_undo 44 = .ok (.iadd, 1) := by decide +kernel
theorem dX12_undo_45 : decode cX12_undo 45 = .ok (.iaload, 1) := by decide +kernel
theorem dX12_undo_46 : decode cX12_undo 46 = .ok (.iastore, 1) := by decide +kernel
theorem dX12_undo_47 : decode cX12_undo 47 = .ok (.iinc 1 1, 3) := by decide +kernel
theorem dX12_undo_50 : decode cX12_undo 50 = .ok (.goto (-29), 3) := by decide +kernel
theorem dX12_undo_53 : decode cX12_undo 53 = .ok (.aload_n 0, 1) := by decide +kernel
theorem dX12_undo_54 : decode cX12_undo 54 = .ok (.aload_n 0, 1) := by decide +kernel
theorem dX12_undo_55 : decode cX12_undo 55 = .ok (.getfield 580, 3) := by decide +kernel
theorem dX12_undo_58 : decode cX12_undo 58 = .ok (.bipush 20, 2) := by decide +kernel
theorem dX12_undo_60 : decode cX12_undo 60 = .ok (.iadd, 1) := by decide +kernel
theorem dX12_undo_61 : decode cX12_undo 61 = .ok (.iconst 1, 1) := by decide +kernel
theorem dX12_undo_62 : decode cX12_undo 62 = .ok (.isub, 1) := by decide +kernel
theorem dX12_undo_63 : decode cX12_undo 63 = .ok (.bipush 20, 2) := by decide +kernel
theorem dX12_undo_65 : decode cX12_undo 65 = .ok (.irem, 1) := by decide +kernel
theorem dX12_undo_66 : decode cX12_undo 66 = .ok (.putfield 580, 3) := by decide +kernel
theorem dX12_undo_69 : decode cX12_undo 69 = .ok (.aload_n 0, 1) := by decide +kernel
theorem dX12_undo_70 : decode cX12_undo 70 = .ok (.dup, 1) := by decide +kernel
theorem dX12_undo_71 : decode cX12_undo 71 = .ok (.getfield 414, 3) := by decide +kernel
theorem dX12_undo_74 : decode cX12_undo 74 = .ok (.iconst 1, 1) := by decide +kernel
theorem dX12_undo_75 : decode cX12_undo 75 = .ok (.isub, 1) := by decide +kernel
theorem dX12_undo_76 : decode cX12_undo 76 = .ok (.putfield 414, 3) := by decide +kernel
theorem dX12_undo_79 : decode cX12_undo 79 = .ok (.iconst 1, 1) := by decide +kernel
theorem dX12_undo_80 : decode cX12_undo 80 = .ok (.ireturn, 1) := by decide +kernel
theorem dX12_refuses_0 : decode cX12_refuses 0 = .ok (.aload_n 0, 1) := by decide +kernel
theorem dX12_refuses_1 : decode cX12_refuses 1 = .ok (.getfield 17, 3) := by decide +kernel
theorem dX12_refuses_4 : decode cX12_refuses 4 = .ok (.iload_n 1, 1) := by decide +kernel
theorem dX12_refuses_5 : decode cX12_refuses 5 = .ok (.dup2, 1) := by decide +kernel
theorem dX12_refuses_6 : decode cX12_refuses 6 = .ok (.iaload, 1) := by decide +kernel
theorem dX12_refuses_7 : decode cX12_refuses 7 = .ok (.iconst 1, 1) := by decide +kernel
theorem dX12_refuses_8 : decode cX12_refuses 8 = .ok (.iadd, 1) := by decide +kernel
theorem dX12_refuses_9 : decode cX12_refuses 9 = .ok (.iastore, 1) := by decide +kernel
theorem dX12_refuses_10 : decode cX12_refuses 10 = .ok (.iconst (-1), 1) := by decide +kernel
theorem dX12_refuses_11 : decode cX12_refuses 11 = .ok (.ireturn, 1) := by decide +kernel
theorem dX12_isRefused_0 : decode cX12_isRefused 0 = .ok (.aload_n 0, 1) := by decide +kernel
theorem dX12_isRefused_1 : decode cX12_isRefused 1 = .ok (.getfield 17, 3) := by decide +kernel
theorem dX12_isRefused_4 : decode cX12_isRefused 4 = .ok (.iload_n 1, 1) := by decide +kernel
theorem dX12_isRefused_5 : decode cX12_isRefused 5 = .ok (.dup2, 1) := by decide +kernel
theorem dX12_isRefused_6 : decode cX12_isRefused 6 = .ok (.iaload, 1) := by decide +kernel
theorem dX12_isRefused_7 : decode cX12_isRefused 7 = .ok (.iconst 1, 1) := by decide +kernel
theorem dX12_isRefused_8 : decode cX12_isRefused 8 = .ok (.iadd, 1) := by decide +kernel
theorem dX12_isRefused_9 : decode cX12_isRefused 9 = .ok (.iastore, 1) := by decide +kernel
theorem dX12_isRefused_10 : decode cX12_isRefused 10 = .ok (.iconst 0, 1) := by decide +kernel
theorem dX12_isRefused_11 : decode cX12_isRefused 11 = .ok (.ireturn, 1) := by decide +kernel
theorem dX12_light_0 : decode cX12_light 0 = .ok (.aload_n 0, 1) := by decide +kernel
theorem dX12_light_1 : decode cX12_light 1 = .ok (.iload_n 1, 1) := by decide +kernel
theorem dX12_light_2 : decode cX12_light 2 = .ok (.i2l, 1) := by decide +kernel
theorem dX12_light_3 : decode cX12_light 3 = .ok (.invokevirtual 528, 3) := by decide +kernel
theorem dX12_light_6 : decode cX12_light 6 = .ok (.ifCond .eq 33, 3) := by decide +kernel
theorem dX12_light_9 : decode cX12_light 9 = .ok (.aload_n 0, 1) := by decide +kernel
theorem dX12_light_10 : decode cX12_light 10 = .ok (.iload_n 1, 1) := by decide +kernel
theorem dX12_light_11 : decode cX12_light 11 = .ok (.invokevirtual 432, 3) := by decide +kernel
theorem dX12_light_14 : decode cX12_light 14 = .ok (.ifCond .ne 25, 3) := by decide +kernel
theorem dX12_light_17 : decode cX12_light 17 = .ok (.iload_n 2, 1) := by decide +kernel
theorem dX12_light_18 : decode cX12_light 18 = .ok (.i2l, 1) := by decide +kernel
theorem dX12_light_19 : decode cX12_light 19 = .ok (.lconst 1, 1) := by decide +kernel
theorem dX12_light_20 : decode cX12_light 20 = .ok (.ldc2_w 583, 3) := by decide +kernel
theorem dX12_light_23 : decode cX12_light 23 = .ok (.invokestatic 305, 3) := by decide +kernel
theorem dX12_light_26 : decode cX12_light 26 = .ok (.ifCond .eq 13, 3) := by decide +kernel
theorem dX12_light_29 : decode cX12_light 29 = .ok (.aload_n 0, 1) := by decide +kernel
theorem dX12_light_30 : decode cX12_light 30 = .ok (.getfield 142, 3) := by decide +kernel
theorem dX12_light_33 : decode cX12_light 33 = .ok (.iconst 1, 1) := by decide +kernel
theorem dX12_light_34 : decode cX12_light 34 = .ok (.iaload, 1) := by decide +kernel
theorem dX12_light_35 : decode cX12_light 35 = .ok (.iload_n 2, 1) := by decide +kernel
theorem dX12_light_36 : decode cX12_light 36 = .ok (.if_icmp .ge 9, 3) := by decide +kernel
theorem dX12_light_39 : decode cX12_light 39 = .ok (.aload_n 0, 1) := by decide +kernel
theorem dX12_light_40 : decode cX12_light 40 = .ok (.iconst 2, 1) := by decide +kernel
theorem dX12_light_41 : decode cX12_light 41 = .ok (.invokevirtual 585, 3) := by decide +kernel
theorem dX12_light_44 : decode cX12_light 44 = .ok (.ireturn, 1) := by decide +kernel
theorem dX12_light_45 : decode cX12_light 45 = .ok (.aload_n 0, 1) := by decide +kernel
theorem dX12_light_46 : decode cX12_light 46 = .ok (.invokevirtual 588, 3) := by decide +kernel
theorem dX12_light_49 : decode cX12_light 49 = .ok (.aload_n 0, 1) := by decide +kernel
theorem dX12_light_50 : decode cX12_light 50 = .ok (.getfield 142, 3) := by decide +kernel
theorem dX12_light_53 : decode cX12_light 53 = .ok (.bipush 8, 2) := by decide +kernel
theorem dX12_light_55 : decode cX12_light 55 = .ok (.iload_n 1, 1) := by decide +kernel
theorem dX12_light_56 : decode cX12_light 56 = .ok (.iadd, 1) := by decide +kernel
theorem dX12_light_57 : decode cX12_light 57 = .ok (.iload_n 2, 1) := by decide +kernel
theorem dX12_light_58 : decode cX12_light 58 = .ok (.iastore, 1) := by decide +kernel
theorem dX12_light_59 : decode cX12_light 59 = .ok (.aload_n 0, 1) := by decide +kernel
theorem dX12_light_60 : decode cX12_light 60 = .ok (.getfield 142, 3) := by decide +kernel
theorem dX12_light_63 : decode cX12_light 63 = .ok (.bipush 16, 2) := by decide +kernel
theorem dX12_light_65 : decode cX12_light 65 = .ok (.iload_n 1, 1) := by decide +kernel
theorem dX12_light_66 : decode cX12_light 66 = .ok (.iadd, 1) := by decide +kernel
theorem dX12_light_67 : decode cX12_light 67 = .ok (.iconst 0, 1) := by decide +kernel
theorem dX12_light_68 : decode cX12_light 68 = .ok (.iastore, 1) := by decide +kernel
theorem dX12_light_69 : decode cX12_light 69 = .ok (.aload_n 0, 1) := by decide +kernel
theorem dX12_light_70 : decode cX12_light 70 = .ok (.getfield 142, 3) := by decide +kernel
theorem dX12_light_73 : decode cX12_light 73 = .ok (.iconst 1, 1) := by decide +kernel
theorem dX12_light_74 : decode cX12_light 74 = .ok (.dup2, 1) := by decide +kernel
theorem dX12_light_75 : decode cX12_light 75 = .ok (.iaload, 1) := by decide +kernel
theorem dX12_light_76 : decode cX12_light 76 = .ok (.iload_n 2, 1) := by decide +kernel
theorem dX12_light_77 : decode cX12_light 77 = .ok (.isub, 1) := by decide +kernel
theorem dX12_light_78 : decode cX12_light 78 = .ok (.iastore, 1) := by decide +kernel
theorem dX12_light_79 : decode cX12_light 79 = .ok (.iconst 1, 1) := by decide +kernel
theorem dX12_light_80 : decode cX12_light 80 = .ok (.ireturn, 1) := by decide +kernel
theorem dX12_snuff_0 : decode cX12_snuff 0 = .ok (.aload_n 0, 1) := by decide +kernel
theorem dX12_snuff_1 : decode cX12_snuff 1 = .ok (.iload_n 1, 1) := by decide +kernel
theorem dX12_snuff_2 : decode cX12_snuff 2 = .ok (.i2l, 1) := by decide +kernel
theorem dX12_snuff_3 : decode cX12_snuff 3 = .ok (.invokevirtual 528, 3) := by decide +kernel
theorem dX12_snuff_6 : decode cX12_snuff 6 = .ok (.ifCond .eq 11, 3) := by decide +kernel
theorem dX12_snuff_9 : decode cX12_snuff 9 = .ok (.aload_n 0, 1) := by decide +kernel
theorem dX12_snuff_10 : decode cX12_snuff 10 = .ok (.iload_n 1, 1) := by decide +kernel
theorem dX12_snuff_11 : decode cX12_snuff 11 = .ok (.invokevirtual 432, 3) := by decide +kernel
theorem dX12_snuff_14 : decode cX12_snuff 14 = .ok (.ifCond .ne 9, 3) := by decide +kernel
theorem dX12_snuff_17 : decode cX12_snuff 17 = .ok (.aload_n 0, 1) := by decide +kernel
theorem dX12_snuff_18 : decode cX12_snuff 18 = .ok (.iconst 2, 1) := by decide +kernel
theorem dX12_snuff_19 : decode cX12_snuff 19 = .ok (.invokevirtual 404, 3) := by decide +kernel
theorem dX12_snuff_22 : decode cX12_snuff 22 = .ok (.ireturn, 1) := by decide +kernel
theorem dX12_snuff_23 : decode cX12_snuff 23 = .ok (.aload_n 0, 1) := by decide +kernel
theorem dX12_snuff_24 : decode cX12_snuff 24 = .ok (.invokevirtual 588, 3) := by decide +kernel
theorem dX12_snuff_27 : decode cX12_snuff 27 = .ok (.aload_n 0, 1) := by decide +kernel
theorem dX12_snuff_28 : decode cX12_snuff 28 = .ok (.getfield 142, 3) := by decide +kernel
theorem dX12_snuff_31 : decode cX12_snuff 31 = .ok (.bipush 8, 2) := by decide +kernel
theorem dX12_snuff_33 : decode cX12_snuff 33 = .ok (.iload_n 1, 1) := by decide +kernel
theorem dX12_snuff_34 : decode cX12_snuff 34 = .ok (.iadd, 1) := by decide +kernel
theorem dX12_snuff_35 : decode cX12_snuff 35 = .ok (.iaload, 1) := by decide +kernel
theorem dX12_snuff_36 : decode cX12_snuff 36 = .ok (.istore_n 2, 1) := by decide +kernel
theorem dX12_snuff_37 : decode cX12_snuff 37 = .ok (.aload_n 0, 1) := by decide +kernel
theorem dX12_snuff_38 : decode cX12_snuff 38 = .ok (.iload_n 1, 1) := by decide +kernel
theorem dX12_snuff_39 : decode cX12_snuff 39 = .ok (.invokevirtual 559, 3) := by decide +kernel
theorem dX12_snuff_42 : decode cX12_snuff 42 = .ok (.iload_n 2, 1) := by decide +kernel
theorem dX12_snuff_43 : decode cX12_snuff 43 = .ok (.ireturn, 1) := by decide +kernel
theorem dX12_move_0 : decode cX12_move 0 = .ok (.aload_n 0, 1) := by decide +kernel
theorem dX12_move_1 : decode cX12_move 1 = .ok (.iload_n 1, 1) := by decide +kernel
theorem dX12_move_2 : decode cX12_move 2 = .ok (.invokevirtual 522, 3) := by decide +kernel
theorem dX12_move_5 : decode cX12_move 5 = .ok (.ifCond .eq 24, 3) := by decide +kernel
theorem dX12_move_8 : decode cX12_move 8 = .ok (.aload_n 0, 1) := by decide +kernel
theorem dX12_move_9 : decode cX12_move 9 = .ok (.iload_n 2, 1) := by decide +kernel
theorem dX12_move_10 : decode cX12_move 10 = .ok (.i2l, 1) := by decide +kernel
theorem dX12_move_11 : decode cX12_move 11 = .ok (.invokevirtual 538, 3) := by decide +kernel
theorem dX12_move_14 : decode cX12_move 14 = .ok (.ifCond .eq 15, 3) := by decide +kernel
theorem dX12_move_17 : decode cX12_move 17 = .ok (.aload_n 0, 1) := by decide +kernel
theorem dX12_move_18 : decode cX12_move 18 = .ok (.getfield 142, 3) := by decide +kernel
theorem dX12_move_21 : decode cX12_move 21 = .ok (.iconst 2, 1) := by decide +kernel
theorem dX12_move_22 : decode cX12_move 22 = .ok (.iload_n 1, 1) := by decide +kernel
theorem dX12_move_23 : decode cX12_move 23 = .ok (.iadd, 1) := by decide +kernel
theorem dX12_move_24 : decode cX12_move 24 = .ok (.iaload, 1) := by decide +kernel
theorem dX12_move_25 : decode cX12_move 25 = .ok (.iload_n 2, 1) := by decide +kernel
theorem dX12_move_26 : decode cX12_move 26 = .ok (.if_icmp .ne 9, 3) := by decide +kernel
theorem dX12_move_29 : decode cX12_move 29 = .ok (.aload_n 0, 1) := by decide +kernel
theorem dX12_move_30 : decode cX12_move 30 = .ok (.iconst 2, 1) := by decide +kernel
theorem dX12_move_31 : decode cX12_move 31 = .ok (.invokevirtual 585, 3) := by decide +kernel
theorem dX12_move_34 : decode cX12_move 34 = .ok (.ireturn, 1) := by decide +kernel
theorem dX12_move_35 : decode cX12_move 35 = .ok (.aload_n 0, 1) := by decide +kernel
theorem dX12_move_36 : decode cX12_move 36 = .ok (.invokevirtual 588, 3) := by decide +kernel
theorem dX12_move_39 : decode cX12_move 39 = .ok (.aload_n 0, 1) := by decide +kernel
theorem dX12_move_40 : decode cX12_move 40 = .ok (.getfield 142, 3) := by decide +kernel
theorem dX12_move_43 : decode cX12_move 43 = .ok (.iconst 2, 1) := by decide +kernel
theorem dX12_move_44 : decode cX12_move 44 = .ok (.iload_n 1, 1) := by decide +kernel
theorem dX12_move_45 : decode cX12_move 45 = .ok (.iadd, 1) := by decide +kernel
theorem dX12_move_46 : decode cX12_move 46 = .ok (.iload_n 2, 1) := by decide +kernel
theorem dX12_move_47 : decode cX12_move 47 = .ok (.iastore, 1) := by decide +kernel
theorem dX12_move_48 : decode cX12_move 48 = .ok (.iconst 1, 1) := by decide +kernel
theorem dX12_move_49 : decode cX12_move 49 = .ok (.ireturn, 1) := by decide +kernel
theorem dX12_buy_0 : decode cX12_buy 0 = .ok (.aload_n 0, 1) := by decide +kernel
theorem dX12_buy_1 : decode cX12_buy 1 = .ok (.getfield 410, 3) := by decide +kernel
theorem dX12_buy_4 : decode cX12_buy 4 = .ok (.ifCond .eq 27, 3) := by decide +kernel
theorem dX12_buy_7 : decode cX12_buy 7 = .ok (.iload_n 1, 1) := by decide +kernel
theorem dX12_buy_8 : decode cX12_buy 8 = .ok (.i2l, 1) := by decide +kernel
theorem dX12_buy_9 : decode cX12_buy 9 = .ok (.lconst 1, 1) := by decide +kernel
theorem dX12_buy_10 : decode cX12_buy 10 = .ok (.ldc2_w 591, 3) := by decide +kernel
theorem dX12_buy_13 : decode cX12_buy 13 = .ok (.invokestatic 305, 3) := by decide +kernel
theorem dX12_buy_16 : decode cX12_buy 16 = .ok (.ifCond .eq 15, 3) := by decide +kernel
theorem dX12_buy_19 : decode cX12_buy 19 = .ok (.aload_n 0, 1) := by decide +kernel
theorem dX12_buy_20 : decode cX12_buy 20 = .ok (.getfield 142, 3) := by decide +kernel
theorem dX12_buy_23 : decode cX12_buy 23 = .ok (.iconst 1, 1) := by decide +kernel
theorem dX12_buy_24 : decode cX12_buy 24 = .ok (.iaload, 1) := by decide +kernel
theorem dX12_buy_25 : decode cX12_buy 25 = .ok (.sipush 999, 3) := by decide +kernel
theorem dX12_buy_28 : decode cX12_buy 28 = .ok (.if_icmp .ne 9, 3) := by decide +kernel
theorem dX12_buy_31 : decode cX12_buy 31 = .ok (.aload_n 0, 1) := by decide +kernel
theorem dX12_buy_32 : decode cX12_buy 32 = .ok (.iconst 2, 1) := by decide +kernel
theorem dX12_buy_33 : decode cX12_buy 33 = .ok (.invokevirtual 404, 3) := by decide +kernel
theorem dX12_buy_36 : decode cX12_buy 36 = .ok (.ireturn, 1) := by decide +kernel
theorem dX12_buy_37 : decode cX12_buy 37 = .ok (.aload_n 0, 1) := by decide +kernel
theorem dX12_buy_38 : decode cX12_buy 38 = .ok (.invokevirtual 588, 3) := by decide +kernel
theorem dX12_buy_41 : decode cX12_buy 41 = .ok (.aload_n 0, 1) := by decide +kernel
theorem dX12_buy_42 : decode cX12_buy 42 = .ok (.getfield 142, 3) := by decide +kernel
theorem dX12_buy_45 : decode cX12_buy 45 = .ok (.iconst 1, 1) := by decide +kernel
theorem dX12_buy_46 : decode cX12_buy 46 = .ok (.aload_n 0, 1) := by decide +kernel
theorem dX12_buy_47 : decode cX12_buy 47 = .ok (.getfield 142, 3) := by decide +kernel
theorem dX12_buy_50 : decode cX12_buy 50 = .ok (.iconst 1, 1) := by decide +kernel
theorem dX12_buy_51 : decode cX12_buy 51 = .ok (.iaload, 1) := by decide +kernel
theorem dX12_buy_52 : decode cX12_buy 52 = .ok (.iload_n 1, 1) := by decide +kernel
theorem dX12_buy_53 : decode cX12_buy 53 = .ok (.iadd, 1) := by decide +kernel
theorem dX12_buy_54 : decode cX12_buy 54 = .ok (.i2l, 1) := by decide +kernel
theorem dX12_buy_55 : decode cX12_buy 55 = .ok (.sipush 999, 3) := by decide +kernel
theorem dX12_buy_58 : decode cX12_buy 58 = .ok (.invokestatic 464, 3) := by decide +kernel
theorem dX12_buy_61 : decode cX12_buy 61 = .ok (.iastore, 1) := by decide +kernel
theorem dX12_buy_62 : decode cX12_buy 62 = .ok (.aload_n 0, 1) := by decide +kernel
theorem dX12_buy_63 : decode cX12_buy 63 = .ok (.getfield 142, 3) := by decide +kernel
theorem dX12_buy_66 : decode cX12_buy 66 = .ok (.iconst 1, 1) := by decide +kernel
theorem dX12_buy_67 : decode cX12_buy 67 = .ok (.iaload, 1) := by decide +kernel
theorem dX12_buy_68 : decode cX12_buy 68 = .ok (.ireturn, 1) := by decide +kernel
theorem dX12_hours_0 : decode cX12_hours 0 = .ok (.aload_n 0, 1) := by decide +kernel
theorem dX12_hours_1 : decode cX12_hours 1 = .ok (.iload_n 1, 1) := by decide +kernel
theorem dX12_hours_2 : decode cX12_hours 2 = .ok (.iconst 1, 1) := by decide +kernel
theorem dX12_hours_3 : decode cX12_hours 3 = .ok (.bipush 100, 2) := by decide +kernel
theorem dX12_hours_5 : decode cX12_hours 5 = .ok (.invokevirtual 541, 3) := by decide +kernel
theorem dX12_hours_8 : decode cX12_hours 8 = .ok (.ifCond .ne 9, 3) := by decide +kernel
theorem dX12_hours_11 : decode cX12_hours 11 = .ok (.aload_n 0, 1) := by decide +kernel
theorem dX12_hours_12 : decode cX12_hours 12 = .ok (.iconst 3, 1) := by decide +kernel
theorem dX12_hours_13 : decode cX12_hours 13 = .ok (.invokevirtual 404, 3) := by decide +kernel
theorem dX12_hours_16 : decode cX12_hours 16 = .ok (.ireturn, 1) := by decide +kernel
theorem dX12_hours_17 : decode cX12_hours 17 = .ok (.aload_n 0, 1) := by decide +kernel
theorem dX12_hours_18 : decode cX12_hours 18 = .ok (.invokevirtual 588, 3) := by decide +kernel
theorem dX12_hours_21 : decode cX12_hours 21 = .ok (.aload_n 0, 1) := by decide +kernel
theorem dX12_hours_22 : decode cX12_hours 22 = .ok (.iload_n 1, 1) := by decide +kernel
theorem dX12_hours_23 : decode cX12_hours 23 = .ok (.invokevirtual 547, 3) := by decide +kernel
theorem dX12_hours_26 : decode cX12_hours 26 = .ok (.aload_n 0, 1) := by decide +kernel
theorem dX12_hours_27 : decode cX12_hours 27 = .ok (.getfield 492, 3) := by decide +kernel
theorem dX12_hours_30 : decode cX12_hours 30 = .ok (.ireturn, 1) := by decide +kernel
theorem dX12_seed_0 : decode cX12_seed 0 = .ok (.iload_n 1, 1) := by decide +kernel
theorem dX12_seed_1 : decode cX12_seed 1 = .ok (.ifCond .ge 9, 3) := by decide +kernel
theorem dX12_seed_4 : decode cX12_seed 4 = .ok (.aload_n 0, 1) := by decide +kernel
theorem dX12_seed_5 : decode cX12_seed 5 = .ok (.iconst 5, 1) := by decide +kernel
theorem dX12_seed_6 : decode cX12_seed 6 = .ok (.invokevirtual 585, 3) := by decide +kernel
theorem dX12_seed_9 : decode cX12_seed 9 = .ok (.ireturn, 1) := by decide +kernel
theorem dX12_seed_10 : decode cX12_seed 10 = .ok (.aload_n 0, 1) := by decide +kernel
theorem dX12_seed_11 : decode cX12_seed 11 = .ok (.iload_n 1, 1) := by decide +kernel
theorem dX12_seed_12 : decode cX12_seed 12 = .ok (.i2l, 1) := by decide +kernel
theorem dX12_seed_13 : decode cX12_seed 13 = .ok (.putfield 171, 3) := by decide +kernel
theorem dX12_seed_16 : decode cX12_seed 16 = .ok (.iconst 1, 1) := by decide +kernel
theorem dX12_seed_17 : decode cX12_seed 17 = .ok (.ireturn, 1) := by decide +kernel
theorem dX12_drawOf_0 : decode cX12_drawOf 0 = .ok (.aload_n 0, 1) := by decide +kernel
theorem dX12_drawOf_1 : decode cX12_drawOf 1 = .ok (.ldc2_w 593, 3) := by decide +kernel
theorem dX12_drawOf_4 : decode cX12_drawOf 4 = .ok (.aload_n 0, 1) := by decide +kernel
theorem dX12_drawOf_5 : decode cX12_drawOf 5 = .ok (.getfield 171, 3) := by decide +kernel
theorem dX12_drawOf_8 : decode cX12_drawOf 8 = .ok (.lmul, 1) := by decide +kernel
theorem dX12_drawOf_9 : decode cX12_drawOf 9 = .ok (.ldc2_w 595, 3) := by decide +kernel
theorem dX12_drawOf_12 : decode cX12_drawOf 12 = .ok (.ladd, 1) := by decide +kernel
theorem dX12_drawOf_13 : decode cX12_drawOf 13 = .ok (.ldc2_w 597, 3) := by decide +kernel
theorem dX12_drawOf_16 : decode cX12_drawOf 16 = .ok (.lrem, 1) := by decide +kernel
theorem dX12_drawOf_17 : decode cX12_drawOf 17 = .ok (.putfield 171, 3) := by decide +kernel
theorem dX12_drawOf_20 : decode cX12_drawOf 20 = .ok (.aload_n 0, 1) := by decide +kernel
theorem dX12_drawOf_21 : decode cX12_drawOf 21 = .ok (.getfield 171, 3) := by decide +kernel
theorem dX12_drawOf_24 : decode cX12_drawOf 24 = .ok (.ldc2_w 599, 3) := by decide +kernel
theorem dX12_drawOf_27 : decode cX12_drawOf 27 = .ok (.ldiv, 1) := by decide +kernel
theorem dX12_drawOf_28 : decode cX12_drawOf 28 = .ok (.iload_n 1, 1) := by decide +kernel
theorem dX12_drawOf_29 : decode cX12_drawOf 29 = .ok (.i2l, 1) := by decide +kernel
theorem dX12_drawOf_30 : decode cX12_drawOf 30 = .ok (.lrem, 1) := by decide +kernel
theorem dX12_drawOf_31 : decode cX12_drawOf 31 = .ok (.l2i, 1) := by decide +kernel
theorem dX12_drawOf_32 : decode cX12_drawOf 32 = .ok (.ireturn, 1) := by decide +kernel
theorem dX12_chance_0 : decode cX12_chance 0 = .ok (.aload_n 0, 1) := by decide +kernel
theorem dX12_chance_1 : decode cX12_chance 1 = .ok (.iload_n 1, 1) := by decide +kernel
theorem dX12_chance_2 : decode cX12_chance 2 = .ok (.iconst 1, 1) := by decide +kernel
theorem dX12_chance_3 : decode cX12_chance 3 = .ok (.bipush 100, 2) := by decide +kernel
theorem dX12_chance_5 : decode cX12_chance 5 = .ok (.invokevirtual 541, 3) := by decide +kernel
theorem dX12_chance_8 : decode cX12_chance 8 = .ok (.ifCond .ne 9, 3) := by decide +kernel
theorem dX12_chance_11 : decode cX12_chance 11 = .ok (.aload_n 0, 1) := by decide +kernel
theorem dX12_chance_12 : decode cX12_chance 12 = .ok (.iconst 3, 1) := by decide +kernel
theorem dX12_chance_13 : decode cX12_chance 13 = .ok (.invokevirtual 404, 3) := by decide +kernel
theorem dX12_chance_16 : decode cX12_chance 16 = .ok (.ireturn, 1) := by decide +kernel
theorem dX12_chance_17 : decode cX12_chance 17 = .ok (.aload_n 0, 1) := by decide +kernel
theorem dX12_chance_18 : decode cX12_chance 18 = .ok (.invokevirtual 588, 3) := by decide +kernel
theorem dX12_chance_21 : decode cX12_chance 21 = .ok (.iconst 0, 1) := by decide +kernel
theorem dX12_chance_22 : decode cX12_chance 22 = .ok (.istore_n 2, 1) := by decide +kernel
theorem dX12_chance_23 : decode cX12_chance 23 = .ok (.iconst 0, 1) := by decide +kernel
theorem dX12_chance_24 : decode cX12_chance 24 = .ok (.istore_n 3, 1) := by decide +kernel
theorem dX12_chance_25 : decode cX12_chance 25 = .ok (.iload_n 3, 1) := by decide +kernel
theorem dX12_chance_26 : decode cX12_chance 26 = .ok (.iload_n 1, 1) := by decide +kernel
theorem dX12_chance_27 : decode cX12_chance 27 = .ok (.if_icmp .ge 44, 3) := by decide +kernel
theorem dX12_chance_30 : decode cX12_chance 30 = .ok (.aload_n 0, 1) := by decide +kernel
theorem dX12_chance_31 : decode cX12_chance 31 = .ok (.bipush 100, 2) := by decide +kernel
theorem dX12_chance_33 : decode cX12_chance 33 = .ok (.invokevirtual 601, 3) := by decide +kernel
theorem dX12_chance_36 : decode cX12_chance 36 = .ok (.aload_n 0, 1) := by decide +kernel
theorem dX12_chance_37 : decode cX12_chance 37 = .ok (.getfield 117, 3) := by decide +kernel
theorem dX12_chance_40 : decode cX12_chance 40 = .ok (.bipush 11, 2) := by decide +kernel
theorem dX12_chance_42 : decode cX12_chance 42 = .ok (.iaload, 1) := by decide +kernel
theorem dX12_chance_43 : decode cX12_chance 43 = .ok (.if_icmp .ge 18, 3) := by decide +kernel
theorem dX12_chance_46 : decode cX12_chance 46 = .ok (.aload_n 0, 1) := by decide +kernel
theorem dX12_chance_47 : decode cX12_chance 47 = .ok (.aload_n 0, 1) := by decide +kernel
theorem dX12_chance_48 : decode cX12_chance 48 = .ok (.aload_n 0, 1) := by decide +kernel
theorem dX12_chance_49 : decode cX12_chance 49 = .ok (.invokevirtual 420, 3) := by decide +kernel
theorem dX12_chance_52 : decode cX12_chance 52 = .ok (.invokevirtual 601, 3) := by decide +kernel
theorem dX12_chance_55 : decode cX12_chance 55 = .ok (.invokevirtual 562, 3) := by decide +kernel
theorem dX12_chance_58 : decode cX12_chance 58 = .ok (.iinc 2 1, 3) := by decide +kernel
theorem dX12_chance_61 : decode cX12_chance 61 = .ok (.aload_n 0, 1) := by decide +kernel
theorem dX12_chance_62 : decode cX12_chance 62 = .ok (.invokevirtual 510, 3) := by decide +kernel
theorem dX12_chance_65 : decode cX12_chance 65 = .ok (.iinc 3 1, 3) := by decide +kernel
theorem dX12_chance_68 : decode cX12_chance 68 = .ok (.goto (-43), 3) := by decide +kernel
theorem dX12_chance_71 : decode cX12_chance 71 = .ok (.iload_n 2, 1) := by decide +kernel
theorem dX12_chance_72 : decode cX12_chance 72 = .ok (.ireturn, 1) := by decide +kernel
theorem dX12_qCode_0 : decode cX12_qCode 0 = .ok (.aload_n 0, 1) := by decide +kernel
theorem dX12_qCode_1 : decode cX12_qCode 1 = .ok (.getfield 247, 3) := by decide +kernel
theorem dX12_qCode_4 : decode cX12_qCode 4 = .ok (.aload_n 0, 1) := by decide +kernel
theorem dX12_qCode_5 : decode cX12_qCode 5 = .ok (.getfield 356, 3) := by decide +kernel
theorem dX12_qCode_8 : decode cX12_qCode 8 = .ok (.iload_n 1, 1) := by decide +kernel
theorem dX12_qCode_9 : decode cX12_qCode 9 = .ok (.iastore, 1) := by decide +kernel
theorem dX12_qCode_10 : decode cX12_qCode 10 = .ok (.aload_n 0, 1) := by decide +kernel
theorem dX12_qCode_11 : decode cX12_qCode 11 = .ok (.dup, 1) := by decide +kernel
theorem dX12_qCode_12 : decode cX12_qCode 12 = .ok (.getfield 356, 3) := by decide +kernel
theorem dX12_qCode_15 : decode cX12_qCode 15 = .ok (.iconst 1, 1) := by decide +kernel
theorem dX12_qCode_16 : decode cX12_qCode 16 = .ok (.iadd, 1) := by decide +kernel
theorem dX12_qCode_17 : decode cX12_qCode 17 = .ok (.putfield 356, 3) := by decide +kernel
theorem dX12_qCode_20 : decode cX12_qCode 20 = .ok (.return_, 1) := by decide +kernel
theorem dX12_qOpens_0 : decode cX12_qOpens 0 = .ok (.aload_n 0, 1) := by decide +kernel
theorem dX12_qOpens_1 : decode cX12_qOpens 1 = .ok (.getfield 262, 3) := by decide +kernel
theorem dX12_qOpens_4 : decode cX12_qOpens 4 = .ok (.ifCond .eq 4, 3) := by decide +kernel
theorem dX12_qOpens_7 : decode cX12_qOpens 7 = .ok (.return_, 1) := by decide +kernel
theorem dX12_qOpens_8 : decode cX12_qOpens 8 = .ok (.aload_n 0, 1) := by decide +kernel
theorem dX12_qOpens_9 : decode cX12_qOpens 9 = .ok (.getfield 362, 3) := by decide +kernel
theorem dX12_qOpens_12 : decode cX12_qOpens 12 = .ok (.bipush 6, 2) := by decide +kernel
theorem dX12_qOpens_14 : decode cX12_qOpens 14 = .ok (.if_icmp .ne 10, 3) := by decide +kernel
theorem dX12_qOpens_17 : decode cX12_qOpens 17 = .ok (.aload_n 0, 1) := by decide +kernel
theorem dX12_qOpens_18 : decode cX12_qOpens 18 = .ok (.iconst 4, 1) := by decide +kernel
theorem dX12_qOpens_19 : decode cX12_qOpens 19 = .ok (.iload_n 2, 1) := by decide +kernel
theorem dX12_qOpens_20 : decode cX12_qOpens 20 = .ok (.invokevirtual 292, 3) := by decide +kernel
theorem dX12_qOpens_23 : decode cX12_qOpens 23 = .ok (.return_, 1) := by decide +kernel
theorem dX12_qOpens_24 : decode cX12_qOpens 24 = .ok (.aload_n 0, 1) := by decide +kernel
theorem dX12_qOpens_25 : decode cX12_qOpens 25 = .ok (.dup, 1) := by decide +kernel
theorem dX12_qOpens_26 : decode cX12_qOpens 26 = .ok (.getfield 362, 3) := by decide +kernel
theorem dX12_qOpens_29 : decode cX12_qOpens 29 = .ok (.iconst 1, 1) := by decide +kernel
theorem dX12_qOpens_30 : decode cX12_qOpens 30 = .ok (.iadd, 1) := by decide +kernel
theorem dX12_qOpens_31 : decode cX12_qOpens 31 = .ok (.putfield 362, 3) := by decide +kernel
theorem dX12_qOpens_34 : decode cX12_qOpens 34 = .ok (.aload_n 0, 1) := by decide +kernel
theorem dX12_qOpens_35 : decode cX12_qOpens 35 = .ok (.getfield 250, 3) := by decide +kernel
theorem dX12_qOpens_38 : decode cX12_qOpens 38 = .ok (.aload_n 0, 1) := by decide +kernel
theorem dX12_qOpens_39 : decode cX12_qOpens 39 = .ok (.getfield 359, 3) := by decide +kernel
theorem dX12_qOpens_42 : decode cX12_qOpens 42 = .ok (.iload_n 1, 1) := by decide +kernel
theorem dX12_qOpens_43 : decode cX12_qOpens 43 = .ok (.iastore, 1) := by decide +kernel
theorem dX12_qOpens_44 : decode cX12_qOpens 44 = .ok (.aload_n 0, 1) := by decide +kernel
theorem dX12_qOpens_45 : decode cX12_qOpens 45 = .ok (.dup, 1) := by decide +kernel
theorem dX12_qOpens_46 : decode cX12_qOpens 46 = .ok (.getfield 359, 3) := by decide +kernel
theorem dX12_qOpens_49 : decode cX12_qOpens 49 = .ok (.iconst 1, 1) := by decide +kernel
theorem dX12_qOpens_50 : decode cX12_qOpens 50 = .ok (.iadd, 1) := by decide +kernel
theorem dX12_qOpens_51 : decode cX12_qOpens 51 = .ok (.putfield 359, 3) := by decide +kernel
theorem dX12_qOpens_54 : decode cX12_qOpens 54 = .ok (.return_, 1) := by decide +kernel
theorem dX12_qIsOn_0 : decode cX12_qIsOn 0 = .ok (.aload_n 0, 1) := by decide +kernel
theorem dX12_qIsOn_1 : decode cX12_qIsOn 1 = .ok (.getfield 359, 3) := by decide +kernel
theorem dX12_qIsOn_4 : decode cX12_qIsOn 4 = .ok (.ifCond .le 22, 3) := by decide +kernel
theorem dX12_qIsOn_7 : decode cX12_qIsOn 7 = .ok (.aload_n 0, 1) := by decide +kernel
theorem dX12_qIsOn_8 : decode cX12_qIsOn 8 = .ok (.getfield 250, 3) := by decide +kernel
theorem dX12_qIsOn_11 : decode cX12_qIsOn 11 = .ok (.aload_n 0, 1) := by decide +kernel
theorem dX12_qIsOn_12 : decode cX12_qIsOn 12 = .ok (.getfield 359, 3) := by decide +kernel
theorem dX12_qIsOn_15 : decode cX12_qIsOn 15 = .ok (.iconst 1, 1) := by decide +kernel
theorem dX12_qIsOn_16 : decode cX12_qIsOn 16 = .ok (.isub, 1) := by decide +kernel
theorem dX12_qIsOn_17 : decode cX12_qIsOn 17 = .ok (.iaload, 1) := by decide +kernel
theorem dX12_qIsOn_18 : decode cX12_qIsOn 18 = .ok (.iload_n 1, 1) := by decide +kernel
theorem dX12_qIsOn_19 : decode cX12_qIsOn 19 = .ok (.if_icmp .ne 7, 3) := by decide +kernel
theorem dX12_qIsOn_22 : decode cX12_qIsOn 22 = .ok (.iconst 1, 1) := by decide +kernel
theorem dX12_qIsOn_23 : decode cX12_qIsOn 23 = .ok (.goto 4, 3) := by decide +kernel
theorem dX12_qIsOn_26 : decode cX12_qIsOn 26 = .ok (.iconst 0, 1) := by decide +kernel
theorem dX12_qIsOn_27 : decode cX12_qIsOn 27 = .ok (.ireturn, 1) := by decide +kernel
theorem dX12_qDrops_0 : decode cX12_qDrops 0 = .ok (.aload_n 0, 1) := by decide +kernel
theorem dX12_qDrops_1 : decode cX12_qDrops 1 = .ok (.dup, 1) := by decide +kernel
theorem dX12_qDrops_2 : decode cX12_qDrops 2 = .ok (.getfield 359, 3) := by decide +kernel
theorem dX12_qDrops_5 : decode cX12_qDrops 5 = .ok (.iconst 1, 1) := by decide +kernel
theorem dX12_qDrops_6 : decode cX12_qDrops 6 = .ok (.isub, 1) := by decide +kernel
theorem dX12_qDrops_7 : decode cX12_qDrops 7 = .ok (.putfield 359, 3) := by decide +kernel
theorem dX12_qDrops_10 : decode cX12_qDrops 10 = .ok (.aload_n 0, 1) := by decide +kernel
theorem dX12_qDrops_11 : decode cX12_qDrops 11 = .ok (.aload_n 0, 1) := by decide +kernel
theorem dX12_qDrops_12 : decode cX12_qDrops 12 = .ok (.getfield 250, 3) := by decide +kernel
theorem dX12_qDrops_15 : decode cX12_qDrops 15 = .ok (.aload_n 0, 1) := by decide +kernel
theorem dX12_qDrops_16 : decode cX12_qDrops 16 = .ok (.getfield 359, 3) := by decide +kernel
theorem dX12_qDrops_19 : decode cX12_qDrops 19 = .ok (.iaload, 1) := by decide +kernel
theorem dX12_qDrops_20 : decode cX12_qDrops 20 = .ok (.invokevirtual 604, 3) := by decide +kernel
theorem dX12_qDrops_23 : decode cX12_qDrops 23 = .ok (.return_, 1) := by decide +kernel
theorem dX12_qIsBracket_0 : decode cX12_qIsBracket 0 = .ok (.iload_n 0, 1) := by decide +kernel
theorem dX12_qIsBracket_1 : decode cX12_qIsBracket 1 = .ok (.bipush 20, 2) := by decide +kernel
theorem dX12_qIsBracket_3 : decode cX12_qIsBracket 3 = .ok (.if_icmp .lt 13, 3) := by decide +kernel
theorem dX12_qIsBracket_6 : decode cX12_qIsBracket 6 = .ok (.iload_n 0, 1) := by decide +kernel
theorem dX12_qIsBracket_7 : decode cX12_qIsBracket 7 = .ok (.bipush 24, 2) := by decide +kernel
theorem dX12_qIsBracket_9 : decode cX12_qIsBracket 9 = .ok (.if_icmp .gt 7, 3) := by decide +kernel
theorem dX12_qIsBracket_12 : decode cX12_qIsBracket 12 = .ok (.iconst 1, 1) := by decide +kernel
theorem dX12_qIsBracket_13 : decode cX12_qIsBracket 13 = .ok (.goto 4, 3) := by decide +kernel
theorem dX12_qIsBracket_16 : decode cX12_qIsBracket 16 = .ok (.iconst 0, 1) := by decide +kernel
theorem dX12_qIsBracket_17 : decode cX12_qIsBracket 17 = .ok (.ireturn, 1) := by decide +kernel
theorem dX12_qBracket_0 : decode cX12_qBracket 0 = .ok (.aload_n 0, 1) := by decide +kernel
theorem dX12_qBracket_1 : decode cX12_qBracket 1 = .ok (.getfield 359, 3) := by decide +kernel
theorem dX12_qBracket_4 : decode cX12_qBracket 4 = .ok (.iconst 1, 1) := by decide +kernel
theorem dX12_qBracket_5 : decode cX12_qBracket 5 = .ok (.isub, 1) := by decide +kernel
theorem dX12_qBracket_6 : decode cX12_qBracket 6 = .ok (.istore_n 1, 1) := by decide +kernel
theorem dX12_qBracket_7 : decode cX12_qBracket 7 = .ok (.iload_n 1, 1) := by decide +kernel
theorem dX12_qBracket_8 : decode cX12_qBracket 8 = .ok (.aload_n 0, 1) := by decide +kernel
theorem dX12_qBracket_9 : decode cX12_qBracket 9 = .ok (.getfield 365, 3) := by decide +kernel
theorem dX12_qBracket_12 : decode cX12_qBracket 12 = .ok (.if_icmp .lt 21, 3) := by decide +kernel
theorem dX12_qBracket_15 : decode cX12_qBracket 15 = .ok (.aload_n 0, 1) := by decide +kernel
theorem dX12_qBracket_16 : decode cX12_qBracket 16 = .ok (.getfield 250, 3) := by decide +kernel
theorem dX12_qBracket_19 : decode cX12_qBracket 19 = .ok (.iload_n 1, 1) := by decide +kernel
theorem dX12_qBracket_20 : decode cX12_qBracket 20 = .ok (.iaload, 1) := by decide +kernel
theorem dX12_qBracket_21 : decode cX12_qBracket 21 = .ok (.invokestatic 607, 3) := by decide +kernel
theorem dX12_qBracket_24 : decode cX12_qBracket 24 = .ok (.ifCond .ne 9, 3) := by decide +kernel
theorem dX12_qBracket_27 : decode cX12_qBracket 27 = .ok (.iinc 1 (-1), 3) := by decide +kernel
theorem dX12_qBracket_30 : decode cX12_qBracket 30 = .ok (.goto (-23), 3) := by decide +kernel
theorem dX12_qBracket_33 : decode cX12_qBracket 33 = .ok (.iload_n 1, 1) := by decide +kernel
theorem dX12_qBracket_34 : decode cX12_qBracket 34 = .ok (.aload_n 0, 1) := by decide +kernel
theorem dX12_qBracket_35 : decode cX12_qBracket 35 = .ok (.getfield 365, 3) := by decide +kernel
theorem dX12_qBracket_38 : decode cX12_qBracket 38 = .ok (.if_icmp .lt 12, 3) := by decide +kernel
theorem dX12_qBracket_41 : decode cX12_qBracket 41 = .ok (.aload_n 0, 1) := by decide +kernel
theorem dX12_qBracket_42 : decode cX12_qBracket 42 = .ok (.getfield 250, 3) := by decide +kernel
theorem dX12_qBracket_45 : decode cX12_qBracket 45 = .ok (.iload_n 1, 1) := by decide +kernel
theorem dX12_qBracket_46 : decode cX12_qBracket 46 = .ok (.iaload, 1) := by decide +kernel
theorem dX12_qBracket_47 : decode cX12_qBracket 47 = .ok (.goto 4, 3) := by decide +kernel
theorem dX12_qBracket_50 : decode cX12_qBracket 50 = .ok (.iconst (-1), 1) := by decide +kernel
theorem dX12_qBracket_51 : decode cX12_qBracket 51 = .ok (.ireturn, 1) := by decide +kernel
theorem dX12_qDropsToBracket_0 : decode cX12_qDropsToBracket 0 = .ok (.aload_n 0, 1) := by decide +kernel
theorem dX12_qDropsToBracket_1 : decode cX12_qDropsToBracket 1 = .ok (.getfield 359, 3) := by decide +kernel
theorem dX12_qDropsToBracket_4 : decode cX12_qDropsToBracket 4 = .ok (.aload_n 0, 1) := by decide +kernel
theorem dX12_qDropsToBracket_5 : decode cX12_qDropsToBracket 5 = .ok (.getfield 365, 3) := by decide +kernel
theorem dX12_qDropsToBracket_8 : decode cX12_qDropsToBracket 8 = .ok (.if_icmp .le 27, 3) := by decide +kernel
theorem dX12_qDropsToBracket_11 : decode cX12_qDropsToBracket 11 = .ok (.aload_n 0, 1) := by decide +kernel
theorem dX12_qDropsToBracket_12 : decode cX12_qDropsToBracket 12 = .ok (.getfield 250, 3) := by decide +kernel
theorem dX12_qDropsToBracket_15 : decode cX12_qDropsToBracket 15 = .ok (.aload_n 0, 1) := by decide +kernel
theorem dX12_qDropsToBracket_16 : decode cX12_qDropsToBracket 16 = .ok (.getfield 359, 3) := by decide +kernel
theorem dX12_qDropsToBracket_19 : decode cX12_qDropsToBracket 19 = .ok (.iconst 1, 1) := by decide +kernel
theorem dX12_qDropsToBracket_20 : decode cX12_qDropsToBracket 20 = .ok (.isub, 1) := by decide +kernel
theorem dX12_qDropsToBracket_21 : decode cX12_qDropsToBracket 21 = .ok (.iaload, 1) := by decide +kernel
theorem dX12_qDropsToBracket_22 : decode cX12_qDropsToBracket 22 = .ok (.invokestatic 607, 3) := by decide +kernel
theorem dX12_qDropsToBracket_25 : decode cX12_qDropsToBracket 25 = .ok (.ifCond .ne 10, 3) := by decide +kernel
theorem dX12_qDropsToBracket_28 : decode cX12_qDropsToBracket 28 = .ok (.aload_n 0, 1) := by decide +kernel
theorem dX12_qDropsToBracket_29 : decode cX12_qDropsToBracket 29 = .ok (.invokevirtual 610, 3) := by decide +kernel
theorem dX12_qDropsToBracket_32 : decode cX12_qDropsToBracket 32 = .ok (.goto (-32), 3) := by decide +kernel
theorem dX12_qDropsToBracket_35 : decode cX12_qDropsToBracket 35 = .ok (.return_, 1) := by decide +kernel
theorem dX12_qWordHere_0 : decode cX12_qWordHere 0 = .ok (.aload_n 0, 1) := by decide +kernel
theorem dX12_qWordHere_1 : decode cX12_qWordHere 1 = .ok (.aload_n 0, 1) := by decide +kernel
theorem dX12_qWordHere_2 : decode cX12_qWordHere 2 = .ok (.getfield 211, 3) := by decide +kernel
theorem dX12_qWordHere_5 : decode cX12_qWordHere 5 = .ok (.invokevirtual 285, 3) := by decide +kernel
theorem dX12_qWordHere_8 : decode cX12_qWordHere 8 = .ok (.ifCond .eq 5, 3) := by decide +kernel
theorem dX12_qWordHere_11 : decode cX12_qWordHere 11 = .ok (.iconst 0, 1) := by decide +kernel
theorem dX12_qWordHere_12 : decode cX12_qWordHere 12 = .ok (.ireturn, 1) := by decide +kernel
theorem dX12_qWordHere_13 : decode cX12_qWordHere 13 = .ok (.aload_n 0, 1) := by decide +kernel
theorem dX12_qWordHere_14 : decode cX12_qWordHere 14 = .ok (.aload_n 0, 1) := by decide +kernel
theorem dX12_qWordHere_15 : decode cX12_qWordHere 15 = .ok (.getfield 214, 3) := by decide +kernel
theorem dX12_qWordHere_18 : decode cX12_qWordHere 18 = .ok (.invokevirtual 285, 3) := by decide +kernel
theorem dX12_qWordHere_21 : decode cX12_qWordHere 21 = .ok (.ifCond .eq 5, 3) := by decide +kernel
theorem dX12_qWordHere_24 : decode cX12_qWordHere 24 = .ok (.iconst 1, 1) := by decide +kernel
theorem dX12_qWordHere_25 : decode cX12_qWordHere 25 = .ok (.ireturn, 1) := by decide +kernel
theorem dX12_qWordHere_26 : decode cX12_qWordHere 26 = .ok (.aload_n 0, 1) := by decide +kernel
theorem dX12_qWordHere_27 : decode cX12_qWordHere 27 = .ok (.aload_n 0, 1) := by decide +kernel
theorem dX12_qWordHere_28 : decode cX12_qWordHere 28 = .ok (.getfield 217, 3) := by decide +kernel
theorem dX12_qWordHere_31 : decode cX12_qWordHere 31 = .ok (.invokevirtual 285, 3) := by decide +kernel
theorem dX12_qWordHere_34 : decode cX12_qWordHere 34 = .ok (.ifCond .eq 5, 3) := by decide +kernel
theorem dX12_qWordHere_37 : decode cX12_qWordHere 37 = .ok (.iconst 2, 1) := by decide +kernel
theorem dX12_qWordHere_38 : decode cX12_qWordHere 38 = .ok (.ireturn, 1) := by decide +kernel
theorem dX12_qWordHere_39 : decode cX12_qWordHere 39 = .ok (.aload_n 0, 1) := by decide +kernel
theorem dX12_qWordHere_40 : decode cX12_qWordHere 40 = .ok (.aload_n 0, 1) := by decide +kernel
theorem dX12_qWordHere_41 : decode cX12_qWordHere 41 = .ok (.getfield 220, 3) := by decide +kernel
theorem dX12_qWordHere_44 : decode cX12_qWordHere 44 = .ok (.invokevirtual 285, 3) := by decide +kernel
theorem dX12_qWordHere_47 : decode cX12_qWordHere 47 = .ok (.ifCond .eq 5, 3) := by decide +kernel
theorem dX12_qWordHere_50 : decode cX12_qWordHere 50 = .ok (.iconst 3, 1) := by decide +kernel
theorem dX12_qWordHere_51 : decode cX12_qWordHere 51 = .ok (.ireturn, 1) := by decide +kernel
theorem dX12_qWordHere_52 : decode cX12_qWordHere 52 = .ok (.aload_n 0, 1) := by decide +kernel
theorem dX12_qWordHere_53 : decode cX12_qWordHere 53 = .ok (.aload_n 0, 1) := by decide +kernel
theorem dX12_qWordHere_54 : decode cX12_qWordHere 54 = .ok (.getfield 223, 3) := by decide +kernel
theorem dX12_qWordHere_57 : decode cX12_qWordHere 57 = .ok (.invokevirtual 285, 3) := by decide +kernel
theorem dX12_qWordHere_60 : decode cX12_qWordHere 60 = .ok (.ifCond .eq 5, 3) := by decide +kernel
theorem dX12_qWordHere_63 : decode cX12_qWordHere 63 = .ok (.iconst 4, 1) := by decide +kernel
theorem dX12_qWordHere_64 : decode cX12_qWordHere 64 = .ok (.ireturn, 1) := by decide +kernel
theorem dX12_qWordHere_65 : decode cX12_qWordHere 65 = .ok (.aload_n 0, 1) := by decide +kernel
theorem dX12_qWordHere_66 : decode cX12_qWordHere 66 = .ok (.aload_n 0, 1) := by decide +kernel
theorem dX12_qWordHere_67 : decode cX12_qWordHere 67 = .ok (.getfield 226, 3) := by decide +kernel
theorem dX12_qWordHere_70 : decode cX12_qWordHere 70 = .ok (.invokevirtual 285, 3) := by decide +kernel
theorem dX12_qWordHere_73 : decode cX12_qWordHere 73 = .ok (.ifCond .eq 5, 3) := by decide +kernel
theorem dX12_qWordHere_76 : decode cX12_qWordHere 76 = .ok (.iconst 5, 1) := by decide +kernel
theorem dX12_qWordHere_77 : decode cX12_qWordHere 77 = .ok (.ireturn, 1) := by decide +kernel
theorem dX12_qWordHere_78 : decode cX12_qWordHere 78 = .ok (.aload_n 0, 1) := by decide +kernel
theorem dX12_qWordHere_79 : decode cX12_qWordHere 79 = .ok (.aload_n 0, 1) := by decide +kernel
theorem dX12_qWordHere_80 : decode cX12_qWordHere 80 = .ok (.getfield 229, 3) := by decide +kernel
theorem dX12_qWordHere_83 : decode cX12_qWordHere 83 = .ok (.invokevirtual 285, 3) := by decide +kernel
theorem dX12_qWordHere_86 : decode cX12_qWordHere 86 = .ok (.ifCond .eq 6, 3) := by decide +kernel
theorem dX12_qWordHere_89 : decode cX12_qWordHere 89 = .ok (.bipush 6, 2) := by decide +kernel
theorem dX12_qWordHere_91 : decode cX12_qWordHere 91 = .ok (.ireturn, 1) := by decide +kernel
theorem dX12_qWordHere_92 : decode cX12_qWordHere 92 = .ok (.aload_n 0, 1) := by decide +kernel
theorem dX12_qWordHere_93 : decode cX12_qWordHere 93 = .ok (.aload_n 0, 1) := by decide +kernel
theorem dX12_qWordHere_94 : decode cX12_qWordHere 94 = .ok (.getfield 232, 3) := by decide +kernel
theorem dX12_qWordHere_97 : decode cX12_qWordHere 97 = .ok (.invokevirtual 285, 3) := by decide +kernel
theorem dX12_qWordHere_100 : decode cX12_qWordHere 100 = .ok (.ifCond .eq 6, 3) := by decide +kernel
theorem dX12_qWordHere_103 : decode cX12_qWordHere 103 = .ok (.bipush 7, 2) := by decide +kernel
theorem dX12_qWordHere_105 : decode cX12_qWordHere 105 = .ok (.ireturn, 1) := by decide +kernel
theorem dX12_qWordHere_106 : decode cX12_qWordHere 106 = .ok (.aload_n 0, 1) := by decide +kernel
theorem dX12_qWordHere_107 : decode cX12_qWordHere 107 = .ok (.aload_n 0, 1) := by decide +kernel
theorem dX12_qWordHere_108 : decode cX12_qWordHere 108 = .ok (.getfield 235, 3) := by decide +kernel
theorem dX12_qWordHere_111 : decode cX12_qWordHere 111 = .ok (.invokevirtual 285, 3) := by decide +kernel
theorem dX12_qWordHere_114 : decode cX12_qWordHere 114 = .ok (.ifCond .eq 6, 3) := by decide +kernel
theorem dX12_qWordHere_117 : decode cX12_qWordHere 117 = .ok (.bipush 8, 2) := by decide +kernel
theorem dX12_qWordHere_119 : decode cX12_qWordHere 119 = .ok (.ireturn, 1) := by decide +kernel
theorem dX12_qWordHere_120 : decode cX12_qWordHere 120 = .ok (.aload_n 0, 1) := by decide +kernel
theorem dX12_qWordHere_121 : decode cX12_qWordHere 121 = .ok (.aload_n 0, 1) := by decide +kernel
theorem dX12_qWordHere_122 : decode cX12_qWordHere 122 = .ok (.getfield 238, 3) := by decide +kernel
theorem dX12_qWordHere_125 : decode cX12_qWordHere 125 = .ok (.invokevirtual 285, 3) := by decide +kernel
theorem dX12_qWordHere_128 : decode cX12_qWordHere 128 = .ok (.ifCond .eq 6, 3) := by decide +kernel
theorem dX12_qWordHere_131 : decode cX12_qWordHere 131 = .ok (.bipush 9, 2) := by decide +kernel
theorem dX12_qWordHere_133 : decode cX12_qWordHere 133 = .ok (.ireturn, 1) := by decide +kernel
theorem dX12_qWordHere_134 : decode cX12_qWordHere 134 = .ok (.aload_n 0, 1) := by decide +kernel
theorem dX12_qWordHere_135 : decode cX12_qWordHere 135 = .ok (.aload_n 0, 1) := by decide +kernel
theorem dX12_qWordHere_136 : decode cX12_qWordHere 136 = .ok (.getfield 241, 3) := by decide +kernel
theorem dX12_qWordHere_139 : decode cX12_qWordHere 139 = .ok (.invokevirtual 285, 3) := by decide +kernel
theorem dX12_qWordHere_142 : decode cX12_qWordHere 142 = .ok (.ifCond .eq 6, 3) := by decide +kernel
theorem dX12_qWordHere_145 : decode cX12_qWordHere 145 = .ok (.bipush 10, 2) := by decide +kernel
theorem dX12_qWordHere_147 : decode cX12_qWordHere 147 = .ok (.ireturn, 1) := by decide +kernel
theorem dX12_qWordHere_148 : decode cX12_qWordHere 148 = .ok (.aload_n 0, 1) := by decide +kernel
theorem dX12_qWordHere_149 : decode cX12_qWordHere 149 = .ok (.aload_n 0, 1) := by decide +kernel
theorem dX12_qWordHere_150 : decode cX12_qWordHere 150 = .ok (.getfield 244, 3) := by decide +kernel
theorem dX12_qWordHere_153 : decode cX12_qWordHere 153 = .ok (.invokevirtual 285, 3) := by decide +kernel
theorem dX12_qWordHere_156 : decode cX12_qWordHere 156 = .ok (.ifCond .eq 6, 3) := by decide +kernel
theorem dX12_qWordHere_159 : decode cX12_qWordHere 159 = .ok (.bipush 11, 2) := by decide +kernel
theorem dX12_qWordHere_161 : decode cX12_qWordHere 161 = .ok (.ireturn, 1) := by decide +kernel
theorem dX12_qWordHere_162 : decode cX12_qWordHere 162 = .ok (.iconst (-1), 1) := by decide +kernel
theorem dX12_qWordHere_163 : decode cX12_qWordHere 163 = .ok (.ireturn, 1) := by decide +kernel
theorem dX12_qWordOf_0 : decode cX12_qWordOf 0 = .ok (.aload_n 0, 1) := by decide +kernel
theorem dX12_qWordOf_1 : decode cX12_qWordOf 1 = .ok (.invokevirtual 613, 3) := by decide +kernel
theorem dX12_qWordOf_4 : decode cX12_qWordOf 4 = .ok (.istore_n 3, 1) := by decide +kernel
theorem dX12_qWordOf_5 : decode cX12_qWordOf 5 = .ok (.iload_n 3, 1) := by decide +kernel
theorem dX12_qWordOf_6 : decode cX12_qWordOf 6 = .ok (.iload_n 1, 1) := by decide +kernel
theorem dX12_qWordOf_7 : decode cX12_qWordOf 7 = .ok (.if_icmp .lt 20, 3) := by decide +kernel
theorem dX12_qWordOf_10 : decode cX12_qWordOf 10 = .ok (.iload_n 3, 1) := by decide +kernel
theorem dX12_qWordOf_11 : decode cX12_qWordOf 11 = .ok (.iload_n 2, 1) := by decide +kernel
theorem dX12_qWordOf_12 : decode cX12_qWordOf 12 = .ok (.if_icmp .ge 15, 3) := by decide +kernel
theorem dX12_qWordOf_15 : decode cX12_qWordOf 15 = .ok (.aload_n 0, 1) := by decide +kernel
theorem dX12_qWordOf_16 : decode cX12_qWordOf 16 = .ok (.iload_n 3, 1) := by decide +kernel
theorem dX12_qWordOf_17 : decode cX12_qWordOf 17 = .ok (.invokevirtual 616, 3) := by decide +kernel
theorem dX12_qWordOf_20 : decode cX12_qWordOf 20 = .ok (.ifCond .eq 7, 3) := by decide +kernel
theorem dX12_qWordOf_23 : decode cX12_qWordOf 23 = .ok (.iload_n 3, 1) := by decide +kernel
theorem dX12_qWordOf_24 : decode cX12_qWordOf 24 = .ok (.goto 4, 3) := by decide +kernel
theorem dX12_qWordOf_27 : decode cX12_qWordOf 27 = .ok (.iconst (-1), 1) := by decide +kernel
theorem dX12_qWordOf_28 : decode cX12_qWordOf 28 = .ok (.ireturn, 1) := by decide +kernel
theorem dX12_qAsksWord_0 : decode cX12_qAsksWord 0 = .ok (.iload_n 1, 1) := by decide +kernel
theorem dX12_qAsksWord_1 : decode cX12_qAsksWord 1 = .ok (.tableswitch 180 0 10 #[59, 70, 81, 92, 103, 114, 125, 136, 147, 158, 169], 59) := by decide +kernel
theorem dX12_qAsksWord_60 : decode cX12_qAsksWord 60 = .ok (.aload_n 0, 1) := by decide +kernel
theorem dX12_qAsksWord_61 : decode cX12_qAsksWord 61 = .ok (.aload_n 0, 1) := by decide +kernel
theorem dX12_qAsksWord_62 : decode cX12_qAsksWord 62 = .ok (.getfield 211, 3) := by decide +kernel
theorem dX12_qAsksWord_65 : decode cX12_qAsksWord 65 = .ok (.invokevirtual 329, 3) := by decide +kernel
theorem dX12_qAsksWord_68 : decode cX12_qAsksWord 68 = .ok (.goto 121, 3) := by decide +kernel
theorem dX12_qAsksWord_71 : decode cX12_qAsksWord 71 = .ok (.aload_n 0, 1) := by decide +kernel
theorem dX12_qAsksWord_72 : decode cX12_qAsksWord 72 = .ok (.aload_n 0, 1) := by decide +kernel
theorem dX12_qAsksWord_73 : decode cX12_qAsksWord 73 = .ok (.getfield 214, 3) := by decide +kernel
theorem dX12_qAsksWord_76 : decode cX12_qAsksWord 76 = .ok (.invokevirtual 329, 3) := by decide +kernel
theorem dX12_qAsksWord_79 : decode cX12_qAsksWord 79 = .ok (.goto 110, 3) := by decide +kernel
theorem dX12_qAsksWord_82 : decode cX12_qAsksWord 82 = .ok (.aload_n 0, 1) := by decide +kernel
theorem dX12_qAsksWord_83 : decode cX12_qAsksWord 83 = .ok (.aload_n 0, 1) := by decide +kernel
theorem dX12_qAsksWord_84 : decode cX12_qAsksWord 84 = .ok (.getfield 217, 3) := by decide +kernel
theorem dX12_qAsksWord_87 : decode cX12_qAsksWord 87 = .ok (.invokevirtual 329, 3) := by decide +kernel
theorem dX12_qAsksWord_90 : decode cX12_qAsksWord 90 = .ok (.goto 99, 3) := by decide +kernel
theorem dX12_qAsksWord_93 : decode cX12_qAsksWord 93 = .ok (.aload_n 0, 1) := by decide +kernel
theorem dX12_qAsksWord_94 : decode cX12_qAsksWord 94 = .ok (.aload_n 0, 1) := by decide +kernel
theorem dX12_qAsksWord_95 : decode cX12_qAsksWord 95 = .ok (.getfield 220, 3) := by decide +kernel
theorem dX12_qAsksWord_98 : decode cX12_qAsksWord 98 = .ok (.invokevirtual 329, 3) := by decide +kernel
theorem dX12_qAsksWord_101 : decode cX12_qAsksWord 101 = .ok (.goto 88, 3) := by decide +kernel
theorem dX12_qAsksWord_104 : decode cX12_qAsksWord 104 = .ok (.aload_n 0, 1) := by decide +kernel
theorem dX12_qAsksWord_105 : decode cX12_qAsksWord 105 = .ok (.aload_n 0, 1) := by decide +kernel
theorem dX12_qAsksWord_106 : decode cX12_qAsksWord 106 = .ok (.getfield 223, 3) := by decide +kernel
theorem dX12_qAsksWord_109 : decode cX12_qAsksWord 109 = .ok (.invokevirtual 329, 3) := by decide +kernel
theorem dX12_qAsksWord_112 : decode cX12_qAsksWord 112 = .ok (.goto 77, 3) := by decide +kernel
theorem dX12_qAsksWord_115 : decode cX12_qAsksWord 115 = .ok (.aload_n 0, 1) := by decide +kernel
theorem dX12_qAsksWord_116 : decode cX12_qAsksWord 116 = .ok (.aload_n 0, 1) := by decide +kernel
theorem dX12_qAsksWord_117 : decode cX12_qAsksWord 117 = .ok (.getfield 226, 3) := by decide +kernel
theorem dX12_qAsksWord_120 : decode cX12_qAsksWord 120 = .ok (.invokevirtual 329, 3) := by decide +kernel
theorem dX12_qAsksWord_123 : decode cX12_qAsksWord 123 = .ok (.goto 66, 3) := by decide +kernel
theorem dX12_qAsksWord_126 : decode cX12_qAsksWord 126 = .ok (.aload_n 0, 1) := by decide +kernel
theorem dX12_qAsksWord_127 : decode cX12_qAsksWord 127 = .ok (.aload_n 0, 1) := by decide +kernel
theorem dX12_qAsksWord_128 : decode cX12_qAsksWord 128 = .ok (.getfield 229, 3) := by decide +kernel
theorem dX12_qAsksWord_131 : decode cX12_qAsksWord 131 = .ok (.invokevirtual 329, 3) := by decide +kernel
theorem dX12_qAsksWord_134 : decode cX12_qAsksWord 134 = .ok (.goto 55, 3) := by decide +kernel
theorem dX12_qAsksWord_137 : decode cX12_qAsksWord 137 = .ok (.aload_n 0, 1) := by decide +kernel
theorem dX12_qAsksWord_138 : decode cX12_qAsksWord 138 = .ok (.aload_n 0, 1) := by decide +kernel
theorem dX12_qAsksWord_139 : decode cX12_qAsksWord 139 = .ok (.getfield 232, 3) := by decide +kernel
theorem dX12_qAsksWord_142 : decode cX12_qAsksWord 142 = .ok (.invokevirtual 329, 3) := by decide +kernel
theorem dX12_qAsksWord_145 : decode cX12_qAsksWord 145 = .ok (.goto 44, 3) := by decide +kernel
theorem dX12_qAsksWord_148 : decode cX12_qAsksWord 148 = .ok (.aload_n 0, 1) := by decide +kernel
theorem dX12_qAsksWord_149 : decode cX12_qAsksWord 149 = .ok (.aload_n 0, 1) := by decide +kernel
theorem dX12_qAsksWord_150 : decode cX12_qAsksWord 150 = .ok (.getfield 235, 3) := by decide +kernel
theorem dX12_qAsksWord_153 : decode cX12_qAsksWord 153 = .ok (.invokevirtual 329, 3) := by decide +kernel
theorem dX12_qAsksWord_156 : decode cX12_qAsksWord 156 = .ok (.goto 33, 3) := by decide +kernel
theorem dX12_qAsksWord_159 : decode cX12_qAsksWord 159 = .ok (.aload_n 0, 1) := by decide +kernel
theorem dX12_qAsksWord_160 : decode cX12_qAsksWord 160 = .ok (.aload_n 0, 1) := by decide +kernel
theorem dX12_qAsksWord_161 : decode cX12_qAsksWord 161 = .ok (.getfield 238, 3) := by decide +kernel
theorem dX12_qAsksWord_164 : decode cX12_qAsksWord 164 = .ok (.invokevirtual 329, 3) := by decide +kernel
theorem dX12_qAsksWord_167 : decode cX12_qAsksWord 167 = .ok (.goto 22, 3) := by decide +kernel
theorem dX12_qAsksWord_170 : decode cX12_qAsksWord 170 = .ok (.aload_n 0, 1) := by decide +kernel
theorem dX12_qAsksWord_171 : decode cX12_qAsksWord 171 = .ok (.aload_n 0, 1) := by decide +kernel
theorem dX12_qAsksWord_172 : decode cX12_qAsksWord 172 = .ok (.getfield 241, 3) := by decide +kernel
theorem dX12_qAsksWord_175 : decode cX12_qAsksWord 175 = .ok (.invokevirtual 329, 3) := by decide +kernel
theorem dX12_qAsksWord_178 : decode cX12_qAsksWord 178 = .ok (.goto 11, 3) := by decide +kernel
theorem dX12_qAsksWord_181 : decode cX12_qAsksWord 181 = .ok (.aload_n 0, 1) := by decide +kernel
theorem dX12_qAsksWord_182 : decode cX12_qAsksWord 182 = .ok (.aload_n 0, 1) := by decide +kernel
theorem dX12_qAsksWord_183 : decode cX12_qAsksWord 183 = .ok (.getfield 244, 3) := by decide +kernel
theorem dX12_qAsksWord_186 : decode cX12_qAsksWord 186 = .ok (.invokevirtual 329, 3) := by decide +kernel
theorem dX12_qAsksWord_189 : decode cX12_qAsksWord 189 = .ok (.return_, 1) := by decide +kernel
theorem dX12_qEndsPart_0 : decode cX12_qEndsPart 0 = .ok (.aload_n 0, 1) := by decide +kernel
theorem dX12_qEndsPart_1 : decode cX12_qEndsPart 1 = .ok (.getfield 262, 3) := by decide +kernel
theorem dX12_qEndsPart_4 : decode cX12_qEndsPart 4 = .ok (.ifCond .ne 47, 3) := by decide +kernel
theorem dX12_qEndsPart_7 : decode cX12_qEndsPart 7 = .ok (.aload_n 0, 1) := by decide +kernel
theorem dX12_qEndsPart_8 : decode cX12_qEndsPart 8 = .ok (.getfield 359, 3) := by decide +kernel
theorem dX12_qEndsPart_11 : decode cX12_qEndsPart 11 = .ok (.aload_n 0, 1) := by decide +kernel
theorem dX12_qEndsPart_12 : decode cX12_qEndsPart 12 = .ok (.getfield 365, 3) := by decide +kernel
theorem dX12_qEndsPart_15 : decode cX12_qEndsPart 15 = .ok (.if_icmp .le 36, 3) := by decide +kernel
theorem dX12_qEndsPart_18 : decode cX12_qEndsPart 18 = .ok (.aload_n 0, 1) := by decide +kernel
theorem dX12_qEndsPart_19 : decode cX12_qEndsPart 19 = .ok (.getfield 250, 3) := by decide +kernel
theorem dX12_qEndsPart_22 : decode cX12_qEndsPart 22 = .ok (.aload_n 0, 1) := by decide +kernel
theorem dX12_qEndsPart_23 : decode cX12_qEndsPart 23 = .ok (.getfield 359, 3) := by decide +kernel
theorem dX12_qEndsPart_26 : decode cX12_qEndsPart 26 = .ok (.iconst 1, 1) := by decide +kernel
theorem dX12_qEndsPart_27 : decode cX12_qEndsPart 27 = .ok (.isub, 1) := by decide +kernel
theorem dX12_qEndsPart_28 : decode cX12_qEndsPart 28 = .ok (.iaload, 1) := by decide +kernel
theorem dX12_qEndsPart_29 : decode cX12_qEndsPart 29 = .ok (.bipush 60, 2) := by decide +kernel
theorem dX12_qEndsPart_31 : decode cX12_qEndsPart 31 = .ok (.if_icmp .lt 20, 3) := by decide +kernel
theorem dX12_qEndsPart_34 : decode cX12_qEndsPart 34 = .ok (.aload_n 0, 1) := by decide +kernel
theorem dX12_qEndsPart_35 : decode cX12_qEndsPart 35 = .ok (.dup, 1) := by decide +kernel
theorem dX12_qEndsPart_36 : decode cX12_qEndsPart 36 = .ok (.getfield 362, 3) := by decide +kernel
theorem dX12_qEndsPart_39 : decode cX12_qEndsPart 39 = .ok (.iconst 1, 1) := by decide +kernel
theorem dX12_qEndsPart_40 : decode cX12_qEndsPart 40 = .ok (.isub, 1) := by decide +kernel
theorem dX12_qEndsPart_41 : decode cX12_qEndsPart 41 = .ok (.putfield 362, 3) := by decide +kernel
theorem dX12_qEndsPart_44 : decode cX12_qEndsPart 44 = .ok (.aload_n 0, 1) := by decide +kernel
theorem dX12_qEndsPart_45 : decode cX12_qEndsPart 45 = .ok (.invokevirtual 610, 3) := by decide +kernel
theorem dX12_qEndsPart_48 : decode cX12_qEndsPart 48 = .ok (.goto (-48), 3) := by decide +kernel
theorem dX12_qEndsPart_51 : decode cX12_qEndsPart 51 = .ok (.return_, 1) := by decide +kernel
theorem dX12_qPartTold_0 : decode cX12_qPartTold 0 = .ok (.iconst 1, 1) := by decide +kernel
theorem dX12_qPartTold_1 : decode cX12_qPartTold 1 = .ok (.istore_n 1, 1) := by decide +kernel
theorem dX12_qPartTold_2 : decode cX12_qPartTold 2 = .ok (.iload_n 1, 1) := by decide +kernel
theorem dX12_qPartTold_3 : decode cX12_qPartTold 3 = .ok (.ifCond .eq 183, 3) := by decide +kernel
theorem dX12_qPartTold_6 : decode cX12_qPartTold 6 = .ok (.aload_n 0, 1) := by decide +kernel
theorem dX12_qPartTold_7 : decode cX12_qPartTold 7 = .ok (.getfield 262, 3) := by decide +kernel
theorem dX12_qPartTold_10 : decode cX12_qPartTold 10 = .ok (.ifCond .ne 176, 3) := by decide +kernel
theorem dX12_qPartTold_13 : decode cX12_qPartTold 13 = .ok (.aload_n 0, 1) := by decide +kernel
theorem dX12_qPartTold_14 : decode cX12_qPartTold 14 = .ok (.invokevirtual 274, 3) := by decide +kernel
theorem dX12_qPartTold_17 : decode cX12_qPartTold 17 = .ok (.istore_n 2, 1) := by decide +kernel
theorem dX12_qPartTold_18 : decode cX12_qPartTold 18 = .ok (.aload_n 0, 1) := by decide +kernel
theorem dX12_qPartTold_19 : decode cX12_qPartTold 19 = .ok (.bipush 10, 2) := by decide +kernel
theorem dX12_qPartTold_21 : decode cX12_qPartTold 21 = .ok (.bipush 12, 2) := by decide +kernel
theorem dX12_qPartTold_23 : decode cX12_qPartTold 23 = .ok (.invokevirtual 619, 3) := by decide +kernel
theorem dX12_qPartTold_26 : decode cX12_qPartTold 26 = .ok (.istore_n 3, 1) := by decide +kernel
theorem dX12_qPartTold_27 : decode cX12_qPartTold 27 = .ok (.iload_n 2, 1) := by decide +kernel
theorem dX12_qPartTold_28 : decode cX12_qPartTold 28 = .ok (.bipush 40, 2) := by decide +kernel
theorem dX12_qPartTold_30 : decode cX12_qPartTold 30 = .ok (.if_icmp .ne 26, 3) := by decide +kernel
theorem dX12_qPartTold_33 : decode cX12_qPartTold 33 = .ok (.aload_n 0, 1) := by decide +kernel
theorem dX12_qPartTold_34 : decode cX12_qPartTold 34 = .ok (.bipush 20, 2) := by decide +kernel
theorem dX12_qPartTold_36 : decode cX12_qPartTold 36 = .ok (.aload_n 0, 1) := by decide +kernel
theorem dX12_qPartTold_37 : decode cX12_qPartTold 37 = .ok (.getfield 268, 3) := by decide +kernel
theorem dX12_qPartTold_40 : decode cX12_qPartTold 40 = .ok (.invokevirtual 622, 3) := by decide +kernel
theorem dX12_qPartTold_43 : decode cX12_qPartTold 43 = .ok (.aload_n 0, 1) := by decide +kernel
theorem dX12_qPartTold_44 : decode cX12_qPartTold 44 = .ok (.dup, 1) := by decide +kernel
theorem dX12_qPartTold_45 : decode cX12_qPartTold 45 = .ok (.getfield 268, 3) := by decide +kernel
theorem dX12_qPartTold_48 : decode cX12_qPartTold 48 = .ok (.iconst 1, 1) := by decide +kernel
theorem dX12_qPartTold_49 : decode cX12_qPartTold 49 = .ok (.iadd, 1) := by decide +kernel
theorem dX12_qPartTold_50 : decode cX12_qPartTold 50 = .ok (.putfield 268, 3) := by decide +kernel
theorem dX12_qPartTold_53 : decode cX12_qPartTold 53 = .ok (.goto 130, 3) := by decide +kernel
theorem dX12_qPartTold_56 : decode cX12_qPartTold 56 = .ok (.aload_n 0, 1) := by decide +kernel
theorem dX12_qPartTold_57 : decode cX12_qPartTold 57 = .ok (.aload_n 0, 1) := by decide +kernel
theorem dX12_qPartTold_58 : decode cX12_qPartTold 58 = .ok (.getfield 205, 3) := by decide +kernel
theorem dX12_qPartTold_61 : decode cX12_qPartTold 61 = .ok (.invokevirtual 285, 3) := by decide +kernel
theorem dX12_qPartTold_64 : decode cX12_qPartTold 64 = .ok (.ifCond .ne 14, 3) := by decide +kernel
theorem dX12_qPartTold_67 : decode cX12_qPartTold 67 = .ok (.aload_n 0, 1) := by decide +kernel
theorem dX12_qPartTold_68 : decode cX12_qPartTold 68 = .ok (.aload_n 0, 1) := by decide +kernel
theorem dX12_qPartTold_69 : decode cX12_qPartTold 69 = .ok (.getfield 208, 3) := by decide +kernel
theorem dX12_qPartTold_72 : decode cX12_qPartTold 72 = .ok (.invokevirtual 285, 3) := by decide +kernel
theorem dX12_qPartTold_75 : decode cX12_qPartTold 75 = .ok (.ifCond .eq 78, 3) := by decide +kernel
theorem dX12_qPartTold_78 : decode cX12_qPartTold 78 = .ok (.aload_n 0, 1) := by decide +kernel
theorem dX12_qPartTold_79 : decode cX12_qPartTold 79 = .ok (.aload_n 0, 1) := by decide +kernel
theorem dX12_qPartTold_80 : decode cX12_qPartTold 80 = .ok (.getfield 205, 3) := by decide +kernel
theorem dX12_qPartTold_83 : decode cX12_qPartTold 83 = .ok (.invokevirtual 289, 3) := by decide +kernel
theorem dX12_qPartTold_86 : decode cX12_qPartTold 86 = .ok (.istore 4, 2) := by decide +kernel
theorem dX12_qPartTold_88 : decode cX12_qPartTold 88 = .ok (.iload 4, 2) := by decide +kernel
theorem dX12_qPartTold_90 : decode cX12_qPartTold 90 = .ok (.ifCond .ne 11, 3) := by decide +kernel
theorem dX12_qPartTold_93 : decode cX12_qPartTold 93 = .ok (.aload_n 0, 1) := by decide +kernel
theorem dX12_qPartTold_94 : decode cX12_qPartTold 94 = .ok (.aload_n 0, 1) := by decide +kernel
theorem dX12_qPartTold_95 : decode cX12_qPartTold 95 = .ok (.getfield 208, 3) := by decide +kernel
theorem dX12_qPartTold_98 : decode cX12_qPartTold 98 = .ok (.invokevirtual 329, 3) := by decide +kernel
theorem dX12_qPartTold_101 : decode cX12_qPartTold 101 = .ok (.aload_n 0, 1) := by decide +kernel
theorem dX12_qPartTold_102 : decode cX12_qPartTold 102 = .ok (.invokevirtual 274, 3) := by decide +kernel
theorem dX12_qPartTold_105 : decode cX12_qPartTold 105 = .ok (.bipush 40, 2) := by decide +kernel
theorem dX12_qPartTold_107 : decode cX12_qPartTold 107 = .ok (.if_icmp .ne 10, 3) := by decide +kernel
theorem dX12_qPartTold_110 : decode cX12_qPartTold 110 = .ok (.aload_n 0, 1) := by decide +kernel
theorem dX12_qPartTold_111 : decode cX12_qPartTold 111 = .ok (.getfield 268, 3) := by decide +kernel
theorem dX12_qPartTold_114 : decode cX12_qPartTold 114 = .ok (.goto 4, 3) := by decide +kernel
theorem dX12_qPartTold_117 : decode cX12_qPartTold 117 = .ok (.iconst (-1), 1) := by decide +kernel
theorem dX12_qPartTold_118 : decode cX12_qPartTold 118 = .ok (.istore 5, 2) := by decide +kernel
theorem dX12_qPartTold_120 : decode cX12_qPartTold 120 = .ok (.iload 5, 2) := by decide +kernel
theorem dX12_qPartTold_122 : decode cX12_qPartTold 122 = .ok (.iconst (-1), 1) := by decide +kernel
theorem dX12_qPartTold_123 : decode cX12_qPartTold 123 = .ok (.if_icmp .eq 21, 3) := by decide +kernel
theorem dX12_qPartTold_126 : decode cX12_qPartTold 126 = .ok (.aload_n 0, 1) := by decide +kernel
theorem dX12_qPartTold_127 : decode cX12_qPartTold 127 = .ok (.iload 4, 2) := by decide +kernel
theorem dX12_qPartTold_129 : decode cX12_qPartTold 129 = .ok (.ifCond .eq 8, 3) := by decide +kernel
theorem dX12_qPartTold_132 : decode cX12_qPartTold 132 = .ok (.bipush 21, 2) := by decide +kernel
theorem dX12_qPartTold_134 : decode cX12_qPartTold 134 = .ok (.goto 5, 3) := by decide +kernel
theorem dX12_qPartTold_137 : decode cX12_qPartTold 137 = .ok (.bipush 22, 2) := by decide +kernel
theorem dX12_qPartTold_139 : decode cX12_qPartTold 139 = .ok (.iload 5, 2) := by decide +kernel
theorem dX12_qPartTold_141 : decode cX12_qPartTold 141 = .ok (.invokevirtual 622, 3) := by decide +kernel
theorem dX12_qPartTold_144 : decode cX12_qPartTold 144 = .ok (.aload_n 0, 1) := by decide +kernel
theorem dX12_qPartTold_145 : decode cX12_qPartTold 145 = .ok (.bipush 40, 2) := by decide +kernel
theorem dX12_qPartTold_147 : decode cX12_qPartTold 147 = .ok (.invokevirtual 337, 3) := by decide +kernel
theorem dX12_qPartTold_150 : decode cX12_qPartTold 150 = .ok (.goto 33, 3) := by decide +kernel
theorem dX12_qPartTold_153 : decode cX12_qPartTold 153 = .ok (.iload_n 3, 1) := by decide +kernel
theorem dX12_qPartTold_154 : decode cX12_qPartTold 154 = .ok (.iconst (-1), 1) := by decide +kernel
theorem dX12_qPartTold_155 : decode cX12_qPartTold 155 = .ok (.if_icmp .eq 26, 3) := by decide +kernel
theorem dX12_qPartTold_158 : decode cX12_qPartTold 158 = .ok (.aload_n 0, 1) := by decide +kernel
theorem dX12_qPartTold_159 : decode cX12_qPartTold 159 = .ok (.bipush 60, 2) := by decide +kernel
theorem dX12_qPartTold_161 : decode cX12_qPartTold 161 = .ok (.iload_n 3, 1) := by decide +kernel
theorem dX12_qPartTold_162 : decode cX12_qPartTold 162 = .ok (.iadd, 1) := by decide +kernel
theorem dX12_qPartTold_163 : decode cX12_qPartTold 163 = .ok (.bipush 10, 2) := by decide +kernel
theorem dX12_qPartTold_165 : decode cX12_qPartTold 165 = .ok (.isub, 1) := by decide +kernel
theorem dX12_qPartTold_166 : decode cX12_qPartTold 166 = .ok (.aload_n 0, 1) := by decide +kernel
theorem dX12_qPartTold_167 : decode cX12_qPartTold 167 = .ok (.getfield 268, 3) := by decide +kernel
theorem dX12_qPartTold_170 : decode cX12_qPartTold 170 = .ok (.invokevirtual 622, 3) := by decide +kernel
theorem dX12_qPartTold_173 : decode cX12_qPartTold 173 = .ok (.aload_n 0, 1) := by decide +kernel
theorem dX12_qPartTold_174 : decode cX12_qPartTold 174 = .ok (.iload_n 3, 1) := by decide +kernel
theorem dX12_qPartTold_175 : decode cX12_qPartTold 175 = .ok (.invokevirtual 625, 3) := by decide +kernel
theorem dX12_qPartTold_178 : decode cX12_qPartTold 178 = .ok (.goto 5, 3) := by decide +kernel
theorem dX12_qPartTold_181 : decode cX12_qPartTold 181 = .ok (.iconst 0, 1) := by decide +kernel
theorem dX12_qPartTold_182 : decode cX12_qPartTold 182 = .ok (.istore_n 1, 1) := by decide +kernel
theorem dX12_qPartTold_183 : decode cX12_qPartTold 183 = .ok (.goto (-181), 3) := by decide +kernel
theorem dX12_qPartTold_186 : decode cX12_qPartTold 186 = .ok (.aload_n 0, 1) := by decide +kernel
theorem dX12_qPartTold_187 : decode cX12_qPartTold 187 = .ok (.getfield 262, 3) := by decide +kernel
theorem dX12_qPartTold_190 : decode cX12_qPartTold 190 = .ok (.ifCond .eq 4, 3) := by decide +kernel
theorem dX12_qPartTold_193 : decode cX12_qPartTold 193 = .ok (.return_, 1) := by decide +kernel
theorem dX12_qPartTold_194 : decode cX12_qPartTold 194 = .ok (.aload_n 0, 1) := by decide +kernel
theorem dX12_qPartTold_195 : decode cX12_qPartTold 195 = .ok (.iconst 0, 1) := by decide +kernel
theorem dX12_qPartTold_196 : decode cX12_qPartTold 196 = .ok (.bipush 10, 2) := by decide +kernel
theorem dX12_qPartTold_198 : decode cX12_qPartTold 198 = .ok (.invokevirtual 619, 3) := by decide +kernel
theorem dX12_qPartTold_201 : decode cX12_qPartTold 201 = .ok (.istore_n 2, 1) := by decide +kernel
theorem dX12_qPartTold_202 : decode cX12_qPartTold 202 = .ok (.iload_n 2, 1) := by decide +kernel
theorem dX12_qPartTold_203 : decode cX12_qPartTold 203 = .ok (.iconst (-1), 1) := by decide +kernel
theorem dX12_qPartTold_204 : decode cX12_qPartTold 204 = .ok (.if_icmp .eq 8, 3) := by decide +kernel
theorem dX12_qPartTold_207 : decode cX12_qPartTold 207 = .ok (.aload_n 0, 1) := by decide +kernel
theorem dX12_qPartTold_208 : decode cX12_qPartTold 208 = .ok (.iload_n 2, 1) := by decide +kernel
theorem dX12_qPartTold_209 : decode cX12_qPartTold 209 = .ok (.invokevirtual 625, 3) := by decide +kernel
theorem dX12_qPartTold_212 : decode cX12_qPartTold 212 = .ok (.aload_n 0, 1) := by decide +kernel
theorem dX12_qPartTold_213 : decode cX12_qPartTold 213 = .ok (.iload_n 2, 1) := by decide +kernel
theorem dX12_qPartTold_214 : decode cX12_qPartTold 214 = .ok (.iconst (-1), 1) := by decide +kernel
theorem dX12_qPartTold_215 : decode cX12_qPartTold 215 = .ok (.if_icmp .eq 10, 3) := by decide +kernel
theorem dX12_qPartTold_218 : decode cX12_qPartTold 218 = .ok (.bipush 40, 2) := by decide +kernel
theorem dX12_qPartTold_220 : decode cX12_qPartTold 220 = .ok (.iload_n 2, 1) := by decide +kernel
theorem dX12_qPartTold_221 : decode cX12_qPartTold 221 = .ok (.iadd, 1) := by decide +kernel
theorem dX12_qPartTold_222 : decode cX12_qPartTold 222 = .ok (.goto 15, 3) := by decide +kernel
theorem dX12_qPartTold_225 : decode cX12_qPartTold 225 = .ok (.sipush 1000, 3) := by decide +kernel
theorem dX12_qPartTold_228 : decode cX12_qPartTold 228 = .ok (.aload_n 0, 1) := by decide +kernel
theorem dX12_qPartTold_229 : decode cX12_qPartTold 229 = .ok (.iconst 0, 1) := by decide +kernel
theorem dX12_qPartTold_230 : decode cX12_qPartTold 230 = .ok (.sipush 9999, 3) := by decide +kernel
theorem dX12_qPartTold_233 : decode cX12_qPartTold 233 = .ok (.invokevirtual 333, 3) := by decide +kernel
theorem dX12_qPartTold_236 : decode cX12_qPartTold 236 = .ok (.iadd, 1) := by decide +kernel
theorem dX12_qPartTold_237 : decode cX12_qPartTold 237 = .ok (.invokevirtual 604, 3) := by decide +kernel
theorem dX12_qPartTold_240 : decode cX12_qPartTold 240 = .ok (.aload_n 0, 1) := by decide +kernel
theorem dX12_qPartTold_241 : decode cX12_qPartTold 241 = .ok (.invokevirtual 628, 3) := by decide +kernel
theorem dX12_qPartTold_244 : decode cX12_qPartTold 244 = .ok (.return_, 1) := by decide +kernel
theorem dX12_qGoesOn_0 : decode cX12_qGoesOn 0 = .ok (.aload_n 0, 1) := by decide +kernel
theorem dX12_qGoesOn_1 : decode cX12_qGoesOn 1 = .ok (.getfield 262, 3) := by decide +kernel
theorem dX12_qGoesOn_4 : decode cX12_qGoesOn 4 = .ok (.ifCond .ne 118, 3) := by decide +kernel
theorem dX12_qGoesOn_7 : decode cX12_qGoesOn 7 = .ok (.aload_n 0, 1) := by decide +kernel
theorem dX12_qGoesOn_8 : decode cX12_qGoesOn 8 = .ok (.invokevirtual 274, 3) := by decide +kernel
theorem dX12_qGoesOn_11 : decode cX12_qGoesOn 11 = .ok (.bipush 41, 2) := by decide +kernel
theorem dX12_qGoesOn_13 : decode cX12_qGoesOn 13 = .ok (.if_icmp .ne 109, 3) := by decide +kernel
theorem dX12_qGoesOn_16 : decode cX12_qGoesOn 16 = .ok (.aload_n 0, 1) := by decide +kernel
theorem dX12_qGoesOn_17 : decode cX12_qGoesOn 17 = .ok (.invokevirtual 631, 3) := by decide +kernel
theorem dX12_qGoesOn_20 : decode cX12_qGoesOn 20 = .ok (.bipush 20, 2) := by decide +kernel
theorem dX12_qGoesOn_22 : decode cX12_qGoesOn 22 = .ok (.if_icmp .eq 21, 3) := by decide +kernel
theorem dX12_qGoesOn_25 : decode cX12_qGoesOn 25 = .ok (.aload_n 0, 1) := by decide +kernel
theorem dX12_qGoesOn_26 : decode cX12_qGoesOn 26 = .ok (.invokevirtual 631, 3) := by decide +kernel
theorem dX12_qGoesOn_29 : decode cX12_qGoesOn 29 = .ok (.bipush 23, 2) := by decide +kernel
theorem dX12_qGoesOn_31 : decode cX12_qGoesOn 31 = .ok (.if_icmp .eq 12, 3) := by decide +kernel
theorem dX12_qGoesOn_34 : decode cX12_qGoesOn 34 = .ok (.aload_n 0, 1) := by decide +kernel
theorem dX12_qGoesOn_35 : decode cX12_qGoesOn 35 = .ok (.invokevirtual 631, 3) := by decide +kernel
theorem dX12_qGoesOn_38 : decode cX12_qGoesOn 38 = .ok (.bipush 24, 2) := by decide +kernel
theorem dX12_qGoesOn_40 : decode cX12_qGoesOn 40 = .ok (.if_icmp .ne 82, 3) := by decide +kernel
theorem dX12_qGoesOn_43 : decode cX12_qGoesOn 43 = .ok (.aload_n 0, 1) := by decide +kernel
theorem dX12_qGoesOn_44 : decode cX12_qGoesOn 44 = .ok (.dup, 1) := by decide +kernel
theorem dX12_qGoesOn_45 : decode cX12_qGoesOn 45 = .ok (.getfield 268, 3) := by decide +kernel
theorem dX12_qGoesOn_48 : decode cX12_qGoesOn 48 = .ok (.iconst 1, 1) := by decide +kernel
theorem dX12_qGoesOn_49 : decode cX12_qGoesOn 49 = .ok (.iadd, 1) := by decide +kernel
theorem dX12_qGoesOn_50 : decode cX12_qGoesOn 50 = .ok (.putfield 268, 3) := by decide +kernel
theorem dX12_qGoesOn_53 : decode cX12_qGoesOn 53 = .ok (.aload_n 0, 1) := by decide +kernel
theorem dX12_qGoesOn_54 : decode cX12_qGoesOn 54 = .ok (.invokevirtual 634, 3) := by decide +kernel
theorem dX12_qGoesOn_57 : decode cX12_qGoesOn 57 = .ok (.aload_n 0, 1) := by decide +kernel
theorem dX12_qGoesOn_58 : decode cX12_qGoesOn 58 = .ok (.dup, 1) := by decide +kernel
theorem dX12_qGoesOn_59 : decode cX12_qGoesOn 59 = .ok (.getfield 359, 3) := by decide +kernel
theorem dX12_qGoesOn_62 : decode cX12_qGoesOn 62 = .ok (.iconst 1, 1) := by decide +kernel
theorem dX12_qGoesOn_63 : decode cX12_qGoesOn 63 = .ok (.isub, 1) := by decide +kernel
theorem dX12_qGoesOn_64 : decode cX12_qGoesOn 64 = .ok (.putfield 359, 3) := by decide +kernel
theorem dX12_qGoesOn_67 : decode cX12_qGoesOn 67 = .ok (.aload_n 0, 1) := by decide +kernel
theorem dX12_qGoesOn_68 : decode cX12_qGoesOn 68 = .ok (.dup, 1) := by decide +kernel
theorem dX12_qGoesOn_69 : decode cX12_qGoesOn 69 = .ok (.getfield 362, 3) := by decide +kernel
theorem dX12_qGoesOn_72 : decode cX12_qGoesOn 72 = .ok (.iconst 1, 1) := by decide +kernel
theorem dX12_qGoesOn_73 : decode cX12_qGoesOn 73 = .ok (.isub, 1) := by decide +kernel
theorem dX12_qGoesOn_74 : decode cX12_qGoesOn 74 = .ok (.putfield 362, 3) := by decide +kernel
theorem dX12_qGoesOn_77 : decode cX12_qGoesOn 77 = .ok (.aload_n 0, 1) := by decide +kernel
theorem dX12_qGoesOn_78 : decode cX12_qGoesOn 78 = .ok (.getfield 250, 3) := by decide +kernel
theorem dX12_qGoesOn_81 : decode cX12_qGoesOn 81 = .ok (.aload_n 0, 1) := by decide +kernel
theorem dX12_qGoesOn_82 : decode cX12_qGoesOn 82 = .ok (.getfield 359, 3) := by decide +kernel
theorem dX12_qGoesOn_85 : decode cX12_qGoesOn 85 = .ok (.iaload, 1) := by decide +kernel
theorem dX12_qGoesOn_86 : decode cX12_qGoesOn 86 = .ok (.bipush 20, 2) := by decide +kernel
theorem dX12_qGoesOn_88 : decode cX12_qGoesOn 88 = .ok (.if_icmp .eq 27, 3) := by decide +kernel
theorem dX12_qGoesOn_91 : decode cX12_qGoesOn 91 = .ok (.aload_n 0, 1) := by decide +kernel
theorem dX12_qGoesOn_92 : decode cX12_qGoesOn 92 = .ok (.aload_n 0, 1) := by decide +kernel
theorem dX12_qGoesOn_93 : decode cX12_qGoesOn 93 = .ok (.getfield 250, 3) := by decide +kernel
theorem dX12_qGoesOn_96 : decode cX12_qGoesOn 96 = .ok (.aload_n 0, 1) := by decide +kernel
theorem dX12_qGoesOn_97 : decode cX12_qGoesOn 97 = .ok (.getfield 359, 3) := by decide +kernel
theorem dX12_qGoesOn_100 : decode cX12_qGoesOn 100 = .ok (.iaload, 1) := by decide +kernel
theorem dX12_qGoesOn_101 : decode cX12_qGoesOn 101 = .ok (.bipush 23, 2) := by decide +kernel
theorem dX12_qGoesOn_103 : decode cX12_qGoesOn 103 = .ok (.if_icmp .ne 7, 3) := by decide +kernel
theorem dX12_qGoesOn_106 : decode cX12_qGoesOn 106 = .ok (.iconst 5, 1) := by decide +kernel
theorem dX12_qGoesOn_107 : decode cX12_qGoesOn 107 = .ok (.goto 5, 3) := by decide +kernel
theorem dX12_qGoesOn_110 : decode cX12_qGoesOn 110 = .ok (.bipush 6, 2) := by decide +kernel
theorem dX12_qGoesOn_112 : decode cX12_qGoesOn 112 = .ok (.invokevirtual 604, 3) := by decide +kernel
theorem dX12_qGoesOn_115 : decode cX12_qGoesOn 115 = .ok (.aload_n 0, 1) := by decide +kernel
theorem dX12_qGoesOn_116 : decode cX12_qGoesOn 116 = .ok (.invokevirtual 628, 3) := by decide +kernel
theorem dX12_qGoesOn_119 : decode cX12_qGoesOn 119 = .ok (.goto (-119), 3) := by decide +kernel
theorem dX12_qGoesOn_122 : decode cX12_qGoesOn 122 = .ok (.aload_n 0, 1) := by decide +kernel
theorem dX12_qGoesOn_123 : decode cX12_qGoesOn 123 = .ok (.bipush 42, 2) := by decide +kernel
theorem dX12_qGoesOn_125 : decode cX12_qGoesOn 125 = .ok (.invokevirtual 296, 3) := by decide +kernel
theorem dX12_qGoesOn_128 : decode cX12_qGoesOn 128 = .ok (.ifCond .ne 12, 3) := by decide +kernel
theorem dX12_qGoesOn_131 : decode cX12_qGoesOn 131 = .ok (.aload_n 0, 1) := by decide +kernel
theorem dX12_qGoesOn_132 : decode cX12_qGoesOn 132 = .ok (.bipush 47, 2) := by decide +kernel
theorem dX12_qGoesOn_134 : decode cX12_qGoesOn 134 = .ok (.invokevirtual 296, 3) := by decide +kernel
theorem dX12_qGoesOn_137 : decode cX12_qGoesOn 137 = .ok (.ifCond .eq 70, 3) := by decide +kernel
theorem dX12_qGoesOn_140 : decode cX12_qGoesOn 140 = .ok (.aload_n 0, 1) := by decide +kernel
theorem dX12_qGoesOn_141 : decode cX12_qGoesOn 141 = .ok (.getfield 7, 3) := by decide +kernel
theorem dX12_qGoesOn_144 : decode cX12_qGoesOn 144 = .ok (.aload_n 0, 1) := by decide +kernel
theorem dX12_qGoesOn_145 : decode cX12_qGoesOn 145 = .ok (.getfield 268, 3) := by decide +kernel
theorem dX12_qGoesOn_148 : decode cX12_qGoesOn 148 = .ok (.iconst 1, 1) := by decide +kernel
theorem dX12_qGoesOn_149 : decode cX12_qGoesOn 149 = .ok (.isub, 1) := by decide +kernel
theorem dX12_qGoesOn_150 : decode cX12_qGoesOn 150 = .ok (.iaload, 1) := by decide +kernel
theorem dX12_qGoesOn_151 : decode cX12_qGoesOn 151 = .ok (.bipush 42, 2) := by decide +kernel
theorem dX12_qGoesOn_153 : decode cX12_qGoesOn 153 = .ok (.if_icmp .ne 7, 3) := by decide +kernel
theorem dX12_qGoesOn_156 : decode cX12_qGoesOn 156 = .ok (.iconst 3, 1) := by decide +kernel
theorem dX12_qGoesOn_157 : decode cX12_qGoesOn 157 = .ok (.goto 4, 3) := by decide +kernel
theorem dX12_qGoesOn_160 : decode cX12_qGoesOn 160 = .ok (.iconst 4, 1) := by decide +kernel
theorem dX12_qGoesOn_161 : decode cX12_qGoesOn 161 = .ok (.istore_n 1, 1) := by decide +kernel
theorem dX12_qGoesOn_162 : decode cX12_qGoesOn 162 = .ok (.aload_n 0, 1) := by decide +kernel
theorem dX12_qGoesOn_163 : decode cX12_qGoesOn 163 = .ok (.iconst 3, 1) := by decide +kernel
theorem dX12_qGoesOn_164 : decode cX12_qGoesOn 164 = .ok (.invokevirtual 637, 3) := by decide +kernel
theorem dX12_qGoesOn_167 : decode cX12_qGoesOn 167 = .ok (.ifCond .ne 11, 3) := by decide +kernel
theorem dX12_qGoesOn_170 : decode cX12_qGoesOn 170 = .ok (.aload_n 0, 1) := by decide +kernel
theorem dX12_qGoesOn_171 : decode cX12_qGoesOn 171 = .ok (.iconst 4, 1) := by decide +kernel
theorem dX12_qGoesOn_172 : decode cX12_qGoesOn 172 = .ok (.invokevirtual 637, 3) := by decide +kernel
theorem dX12_qGoesOn_175 : decode cX12_qGoesOn 175 = .ok (.ifCond .eq 10, 3) := by decide +kernel
theorem dX12_qGoesOn_178 : decode cX12_qGoesOn 178 = .ok (.aload_n 0, 1) := by decide +kernel
theorem dX12_qGoesOn_179 : decode cX12_qGoesOn 179 = .ok (.invokevirtual 610, 3) := by decide +kernel
theorem dX12_qGoesOn_182 : decode cX12_qGoesOn 182 = .ok (.goto (-20), 3) := by decide +kernel
theorem dX12_qGoesOn_185 : decode cX12_qGoesOn 185 = .ok (.aload_n 0, 1) := by decide +kernel
theorem dX12_qGoesOn_186 : decode cX12_qGoesOn 186 = .ok (.getfield 250, 3) := by decide +kernel
theorem dX12_qGoesOn_189 : decode cX12_qGoesOn 189 = .ok (.aload_n 0, 1) := by decide +kernel
theorem dX12_qGoesOn_190 : decode cX12_qGoesOn 190 = .ok (.getfield 359, 3) := by decide +kernel
theorem dX12_qGoesOn_193 : decode cX12_qGoesOn 193 = .ok (.iload_n 1, 1) := by decide +kernel
theorem dX12_qGoesOn_194 : decode cX12_qGoesOn 194 = .ok (.iastore, 1) := by decide +kernel
theorem dX12_qGoesOn_195 : decode cX12_qGoesOn 195 = .ok (.aload_n 0, 1) := by decide +kernel
theorem dX12_qGoesOn_196 : decode cX12_qGoesOn 196 = .ok (.dup, 1) := by decide +kernel
theorem dX12_qGoesOn_197 : decode cX12_qGoesOn 197 = .ok (.getfield 359, 3) := by decide +kernel
theorem dX12_qGoesOn_200 : decode cX12_qGoesOn 200 = .ok (.iconst 1, 1) := by decide +kernel
theorem dX12_qGoesOn_201 : decode cX12_qGoesOn 201 = .ok (.iadd, 1) := by decide +kernel
theorem dX12_qGoesOn_202 : decode cX12_qGoesOn 202 = .ok (.putfield 359, 3) := by decide +kernel
theorem dX12_qGoesOn_205 : decode cX12_qGoesOn 205 = .ok (.iconst 1, 1) := by decide +kernel
theorem dX12_qGoesOn_206 : decode cX12_qGoesOn 206 = .ok (.ireturn, 1) := by decide +kernel
theorem dX12_qGoesOn_207 : decode cX12_qGoesOn 207 = .ok (.aload_n 0, 1) := by decide +kernel
theorem dX12_qGoesOn_208 : decode cX12_qGoesOn 208 = .ok (.bipush 43, 2) := by decide +kernel
theorem dX12_qGoesOn_210 : decode cX12_qGoesOn 210 = .ok (.invokevirtual 296, 3) := by decide +kernel
theorem dX12_qGoesOn_213 : decode cX12_qGoesOn 213 = .ok (.ifCond .ne 12, 3) := by decide +kernel
theorem dX12_qGoesOn_216 : decode cX12_qGoesOn 216 = .ok (.aload_n 0, 1) := by decide +kernel
theorem dX12_qGoesOn_217 : decode cX12_qGoesOn 217 = .ok (.bipush 45, 2) := by decide +kernel
theorem dX12_qGoesOn_219 : decode cX12_qGoesOn 219 = .ok (.invokevirtual 296, 3) := by decide +kernel
theorem dX12_qGoesOn_222 : decode cX12_qGoesOn 222 = .ok (.ifCond .eq 86, 3) := by decide +kernel
theorem dX12_qGoesOn_225 : decode cX12_qGoesOn 225 = .ok (.aload_n 0, 1) := by decide +kernel
theorem dX12_qGoesOn_226 : decode cX12_qGoesOn 226 = .ok (.getfield 7, 3) := by decide +kernel
theorem dX12_qGoesOn_229 : decode cX12_qGoesOn 229 = .ok (.aload_n 0, 1) := by decide +kernel
theorem dX12_qGoesOn_230 : decode cX12_qGoesOn 230 = .ok (.getfield 268, 3) := by decide +kernel
theorem dX12_qGoesOn_233 : decode cX12_qGoesOn 233 = .ok (.iconst 1, 1) := by decide +kernel
theorem dX12_qGoesOn_234 : decode cX12_qGoesOn 234 = .ok (.isub, 1) := by decide +kernel
theorem dX12_qGoesOn_235 : decode cX12_qGoesOn 235 = .ok (.iaload, 1) := by decide +kernel
theorem dX12_qGoesOn_236 : decode cX12_qGoesOn 236 = .ok (.bipush 43, 2) := by decide +kernel
theorem dX12_qGoesOn_238 : decode cX12_qGoesOn 238 = .ok (.if_icmp .ne 7, 3) := by decide +kernel
theorem dX12_qGoesOn_241 : decode cX12_qGoesOn 241 = .ok (.iconst 1, 1) := by decide +kernel
theorem dX12_qGoesOn_242 : decode cX12_qGoesOn 242 = .ok (.goto 4, 3) := by decide +kernel
theorem dX12_qGoesOn_245 : decode cX12_qGoesOn 245 = .ok (.iconst 2, 1) := by decide +kernel
theorem dX12_qGoesOn_246 : decode cX12_qGoesOn 246 = .ok (.istore_n 1, 1) := by decide +kernel
theorem dX12_qGoesOn_247 : decode cX12_qGoesOn 247 = .ok (.aload_n 0, 1) := by decide +kernel
theorem dX12_qGoesOn_248 : decode cX12_qGoesOn 248 = .ok (.iconst 3, 1) := by decide +kernel
theorem dX12_qGoesOn_249 : decode cX12_qGoesOn 249 = .ok (.invokevirtual 637, 3) := by decide +kernel
theorem dX12_qGoesOn_252 : decode cX12_qGoesOn 252 = .ok (.ifCond .ne 27, 3) := by decide +kernel
theorem dX12_qGoesOn_255 : decode cX12_qGoesOn 255 = .ok (.aload_n 0, 1) := by decide +kernel
theorem dX12_qGoesOn_256 : decode cX12_qGoesOn 256 = .ok (.iconst 4, 1) := by decide +kernel
theorem dX12_qGoesOn_257 : decode cX12_qGoesOn 257 = .ok (.invokevirtual 637, 3) := by decide +kernel
theorem dX12_qGoesOn_260 : decode cX12_qGoesOn 260 = .ok (.ifCond .ne 19, 3) := by decide +kernel
theorem dX12_qGoesOn_263 : decode cX12_qGoesOn 263 = .ok (.aload_n 0, 1) := by decide +kernel
theorem dX12_qGoesOn_264 : decode cX12_qGoesOn 264 = .ok (.iconst 1, 1) := by decide +kernel
theorem dX12_qGoesOn_265 : decode cX12_qGoesOn 265 = .ok (.invokevirtual 637, 3) := by decide +kernel
theorem dX12_qGoesOn_268 : decode cX12_qGoesOn 268 = .ok (.ifCond .ne 11, 3) := by decide +kernel
theorem dX12_qGoesOn_271 : decode cX12_qGoesOn 271 = .ok (.aload_n 0, 1) := by decide +kernel
theorem dX12_qGoesOn_272 : decode cX12_qGoesOn 272 = .ok (.iconst 2, 1) := by decide +kernel
theorem dX12_qGoesOn_273 : decode cX12_qGoesOn 273 = .ok (.invokevirtual 637, 3) := by decide +kernel
theorem dX12_qGoesOn_276 : decode cX12_qGoesOn 276 = .ok (.ifCond .eq 10, 3) := by decide +kernel
theorem dX12_qGoesOn_279 : decode cX12_qGoesOn 279 = .ok (.aload_n 0, 1) := by decide +kernel
theorem dX12_qGoesOn_280 : decode cX12_qGoesOn 280 = .ok (.invokevirtual 610, 3) := by decide +kernel
theorem dX12_qGoesOn_283 : decode cX12_qGoesOn 283 = .ok (.goto (-36), 3) := by decide +kernel
theorem dX12_qGoesOn_286 : decode cX12_qGoesOn 286 = .ok (.aload_n 0, 1) := by decide +kernel
theorem dX12_qGoesOn_287 : decode cX12_qGoesOn 287 = .ok (.getfield 250, 3) := by decide +kernel
theorem dX12_qGoesOn_290 : decode cX12_qGoesOn 290 = .ok (.aload_n 0, 1) := by decide +kernel
theorem dX12_qGoesOn_291 : decode cX12_qGoesOn 291 = .ok (.getfield 359, 3) := by decide +kernel
theorem dX12_qGoesOn_294 : decode cX12_qGoesOn 294 = .ok (.iload_n 1, 1) := by decide +kernel
theorem dX12_qGoesOn_295 : decode cX12_qGoesOn 295 = .ok (.iastore, 1) := by decide +kernel
theorem dX12_qGoesOn_296 : decode cX12_qGoesOn 296 = .ok (.aload_n 0, 1) := by decide +kernel
theorem dX12_qGoesOn_297 : decode cX12_qGoesOn 297 = .ok (.dup, 1) := by decide +kernel
theorem dX12_qGoesOn_298 : decode cX12_qGoesOn 298 = .ok (.getfield 359, 3) := by decide +kernel
theorem dX12_qGoesOn_301 : decode cX12_qGoesOn 301 = .ok (.iconst 1, 1) := by decide +kernel
theorem dX12_qGoesOn_302 : decode cX12_qGoesOn 302 = .ok (.iadd, 1) := by decide +kernel
theorem dX12_qGoesOn_303 : decode cX12_qGoesOn 303 = .ok (.putfield 359, 3) := by decide +kernel
theorem dX12_qGoesOn_306 : decode cX12_qGoesOn 306 = .ok (.iconst 1, 1) := by decide +kernel
theorem dX12_qGoesOn_307 : decode cX12_qGoesOn 307 = .ok (.ireturn, 1) := by decide +kernel
theorem dX12_qGoesOn_308 : decode cX12_qGoesOn 308 = .ok (.aload_n 0, 1) := by decide +kernel
theorem dX12_qGoesOn_309 : decode cX12_qGoesOn 309 = .ok (.invokevirtual 631, 3) := by decide +kernel
theorem dX12_qGoesOn_312 : decode cX12_qGoesOn 312 = .ok (.bipush 21, 2) := by decide +kernel
theorem dX12_qGoesOn_314 : decode cX12_qGoesOn 314 = .ok (.if_icmp .eq 12, 3) := by decide +kernel
theorem dX12_qGoesOn_317 : decode cX12_qGoesOn 317 = .ok (.aload_n 0, 1) := by decide +kernel
theorem dX12_qGoesOn_318 : decode cX12_qGoesOn 318 = .ok (.invokevirtual 631, 3) := by decide +kernel
theorem dX12_qGoesOn_321 : decode cX12_qGoesOn 321 = .ok (.bipush 22, 2) := by decide +kernel
theorem dX12_qGoesOn_323 : decode cX12_qGoesOn 323 = .ok (.if_icmp .ne 39, 3) := by decide +kernel
theorem dX12_qGoesOn_326 : decode cX12_qGoesOn 326 = .ok (.aload_n 0, 1) := by decide +kernel
theorem dX12_qGoesOn_327 : decode cX12_qGoesOn 327 = .ok (.bipush 44, 2) := by decide +kernel
theorem dX12_qGoesOn_329 : decode cX12_qGoesOn 329 = .ok (.invokevirtual 337, 3) := by decide +kernel
theorem dX12_qGoesOn_332 : decode cX12_qGoesOn 332 = .ok (.aload_n 0, 1) := by decide +kernel
theorem dX12_qGoesOn_333 : decode cX12_qGoesOn 333 = .ok (.getfield 262, 3) := by decide +kernel
theorem dX12_qGoesOn_336 : decode cX12_qGoesOn 336 = .ok (.ifCond .eq 5, 3) := by decide +kernel
theorem dX12_qGoesOn_339 : decode cX12_qGoesOn 339 = .ok (.iconst 0, 1) := by decide +kernel
theorem dX12_qGoesOn_340 : decode cX12_qGoesOn 340 = .ok (.ireturn, 1) := by decide +kernel
theorem dX12_qGoesOn_341 : decode cX12_qGoesOn 341 = .ok (.aload_n 0, 1) := by decide +kernel
theorem dX12_qGoesOn_342 : decode cX12_qGoesOn 342 = .ok (.invokevirtual 634, 3) := by decide +kernel
theorem dX12_qGoesOn_345 : decode cX12_qGoesOn 345 = .ok (.aload_n 0, 1) := by decide +kernel
theorem dX12_qGoesOn_346 : decode cX12_qGoesOn 346 = .ok (.getfield 250, 3) := by decide +kernel
theorem dX12_qGoesOn_349 : decode cX12_qGoesOn 349 = .ok (.aload_n 0, 1) := by decide +kernel
theorem dX12_qGoesOn_350 : decode cX12_qGoesOn 350 = .ok (.getfield 359, 3) := by decide +kernel
theorem dX12_qGoesOn_353 : decode cX12_qGoesOn 353 = .ok (.iconst 1, 1) := by decide +kernel
theorem dX12_qGoesOn_354 : decode cX12_qGoesOn 354 = .ok (.isub, 1) := by decide +kernel
theorem dX12_qGoesOn_355 : decode cX12_qGoesOn 355 = .ok (.dup2, 1) := by decide +kernel
theorem dX12_qGoesOn_356 : decode cX12_qGoesOn 356 = .ok (.iaload, 1) := by decide +kernel
theorem dX12_qGoesOn_357 : decode cX12_qGoesOn 357 = .ok (.iconst 2, 1) := by decide +kernel
theorem dX12_qGoesOn_358 : decode cX12_qGoesOn 358 = .ok (.iadd, 1) := by decide +kernel
theorem dX12_qGoesOn_359 : decode cX12_qGoesOn 359 = .ok (.iastore, 1) := by decide +kernel
theorem dX12_qGoesOn_360 : decode cX12_qGoesOn 360 = .ok (.iconst 1, 1) := by decide +kernel
theorem dX12_qGoesOn_361 : decode cX12_qGoesOn 361 = .ok (.ireturn, 1) := by decide +kernel
theorem dX12_qGoesOn_362 : decode cX12_qGoesOn 362 = .ok (.aload_n 0, 1) := by decide +kernel
theorem dX12_qGoesOn_363 : decode cX12_qGoesOn 363 = .ok (.invokevirtual 631, 3) := by decide +kernel
theorem dX12_qGoesOn_366 : decode cX12_qGoesOn 366 = .ok (.iconst (-1), 1) := by decide +kernel
theorem dX12_qGoesOn_367 : decode cX12_qGoesOn 367 = .ok (.if_icmp .eq 19, 3) := by decide +kernel
theorem dX12_qGoesOn_370 : decode cX12_qGoesOn 370 = .ok (.aload_n 0, 1) := by decide +kernel
theorem dX12_qGoesOn_371 : decode cX12_qGoesOn 371 = .ok (.getfield 262, 3) := by decide +kernel
theorem dX12_qGoesOn_374 : decode cX12_qGoesOn 374 = .ok (.ifCond .ne 12, 3) := by decide +kernel
theorem dX12_qGoesOn_377 : decode cX12_qGoesOn 377 = .ok (.aload_n 0, 1) := by decide +kernel
theorem dX12_qGoesOn_378 : decode cX12_qGoesOn 378 = .ok (.iconst 1, 1) := by decide +kernel
theorem dX12_qGoesOn_379 : decode cX12_qGoesOn 379 = .ok (.aload_n 0, 1) := by decide +kernel
theorem dX12_qGoesOn_380 : decode cX12_qGoesOn 380 = .ok (.getfield 268, 3) := by decide +kernel
theorem dX12_qGoesOn_383 : decode cX12_qGoesOn 383 = .ok (.invokevirtual 292, 3) := by decide +kernel
theorem dX12_qGoesOn_386 : decode cX12_qGoesOn 386 = .ok (.iconst 0, 1) := by decide +kernel
theorem dX12_qGoesOn_387 : decode cX12_qGoesOn 387 = .ok (.ireturn, 1) := by decide +kernel
theorem dX12_qSums_0 : decode cX12_qSums 0 = .ok (.aload_n 0, 1) := by decide +kernel
theorem dX12_qSums_1 : decode cX12_qSums 1 = .ok (.getfield 365, 3) := by decide +kernel
theorem dX12_qSums_4 : decode cX12_qSums 4 = .ok (.istore_n 1, 1) := by decide +kernel
theorem dX12_qSums_5 : decode cX12_qSums 5 = .ok (.aload_n 0, 1) := by decide +kernel
theorem dX12_qSums_6 : decode cX12_qSums 6 = .ok (.aload_n 0, 1) := by decide +kernel
theorem dX12_qSums_7 : decode cX12_qSums 7 = .ok (.getfield 359, 3) := by decide +kernel
theorem dX12_qSums_10 : decode cX12_qSums 10 = .ok (.putfield 365, 3) := by decide +kernel
theorem dX12_qSums_13 : decode cX12_qSums 13 = .ok (.iconst 1, 1) := by decide +kernel
theorem dX12_qSums_14 : decode cX12_qSums 14 = .ok (.istore_n 2, 1) := by decide +kernel
theorem dX12_qSums_15 : decode cX12_qSums 15 = .ok (.iload_n 2, 1) := by decide +kernel
theorem dX12_qSums_16 : decode cX12_qSums 16 = .ok (.ifCond .eq 37, 3) := by decide +kernel
theorem dX12_qSums_19 : decode cX12_qSums 19 = .ok (.aload_n 0, 1) := by decide +kernel
theorem dX12_qSums_20 : decode cX12_qSums 20 = .ok (.getfield 262, 3) := by decide +kernel
theorem dX12_qSums_23 : decode cX12_qSums 23 = .ok (.ifCond .ne 30, 3) := by decide +kernel
theorem dX12_qSums_26 : decode cX12_qSums 26 = .ok (.aload_n 0, 1) := by decide +kernel
theorem dX12_qSums_27 : decode cX12_qSums 27 = .ok (.invokevirtual 640, 3) := by decide +kernel
theorem dX12_qSums_30 : decode cX12_qSums 30 = .ok (.aload_n 0, 1) := by decide +kernel
theorem dX12_qSums_31 : decode cX12_qSums 31 = .ok (.getfield 262, 3) := by decide +kernel
theorem dX12_qSums_34 : decode cX12_qSums 34 = .ok (.ifCond .ne 14, 3) := by decide +kernel
theorem dX12_qSums_37 : decode cX12_qSums 37 = .ok (.aload_n 0, 1) := by decide +kernel
theorem dX12_qSums_38 : decode cX12_qSums 38 = .ok (.invokevirtual 643, 3) := by decide +kernel
theorem dX12_qSums_41 : decode cX12_qSums 41 = .ok (.ifCond .eq 7, 3) := by decide +kernel
theorem dX12_qSums_44 : decode cX12_qSums 44 = .ok (.iconst 1, 1) := by decide +kernel
theorem dX12_qSums_45 : decode cX12_qSums 45 = .ok (.goto 4, 3) := by decide +kernel
theorem dX12_qSums_48 : decode cX12_qSums 48 = .ok (.iconst 0, 1) := by decide +kernel
theorem dX12_qSums_49 : decode cX12_qSums 49 = .ok (.istore_n 2, 1) := by decide +kernel
theorem dX12_qSums_50 : decode cX12_qSums 50 = .ok (.goto (-35), 3) := by decide +kernel
theorem dX12_qSums_53 : decode cX12_qSums 53 = .ok (.aload_n 0, 1) := by decide +kernel
theorem dX12_qSums_54 : decode cX12_qSums 54 = .ok (.getfield 262, 3) := by decide +kernel
theorem dX12_qSums_57 : decode cX12_qSums 57 = .ok (.ifCond .ne 21, 3) := by decide +kernel
theorem dX12_qSums_60 : decode cX12_qSums 60 = .ok (.aload_n 0, 1) := by decide +kernel
theorem dX12_qSums_61 : decode cX12_qSums 61 = .ok (.getfield 359, 3) := by decide +kernel
theorem dX12_qSums_64 : decode cX12_qSums 64 = .ok (.aload_n 0, 1) := by decide +kernel
theorem dX12_qSums_65 : decode cX12_qSums 65 = .ok (.getfield 365, 3) := by decide +kernel
theorem dX12_qSums_68 : decode cX12_qSums 68 = .ok (.if_icmp .le 10, 3) := by decide +kernel
theorem dX12_qSums_71 : decode cX12_qSums 71 = .ok (.aload_n 0, 1) := by decide +kernel
theorem dX12_qSums_72 : decode cX12_qSums 72 = .ok (.invokevirtual 610, 3) := by decide +kernel
theorem dX12_qSums_75 : decode cX12_qSums 75 = .ok (.goto (-22), 3) := by decide +kernel
theorem dX12_qSums_78 : decode cX12_qSums 78 = .ok (.aload_n 0, 1) := by decide +kernel
theorem dX12_qSums_79 : decode cX12_qSums 79 = .ok (.iload_n 1, 1) := by decide +kernel
theorem dX12_qSums_80 : decode cX12_qSums 80 = .ok (.putfield 365, 3) := by decide +kernel
theorem dX12_qSums_83 : decode cX12_qSums 83 = .ok (.return_, 1) := by decide +kernel
theorem dX12_qFact_0 : decode cX12_qFact 0 = .ok (.aload_n 0, 1) := by decide +kernel
theorem dX12_qFact_1 : decode cX12_qFact 1 = .ok (.aload_n 0, 1) := by decide +kernel
theorem dX12_qFact_2 : decode cX12_qFact 2 = .ok (.getfield 202, 3) := by decide +kernel
theorem dX12_qFact_5 : decode cX12_qFact 5 = .ok (.invokevirtual 289, 3) := by decide +kernel
theorem dX12_qFact_8 : decode cX12_qFact 8 = .ok (.ifCond .eq 10, 3) := by decide +kernel
theorem dX12_qFact_11 : decode cX12_qFact 11 = .ok (.aload_n 0, 1) := by decide +kernel
theorem dX12_qFact_12 : decode cX12_qFact 12 = .ok (.bipush 13, 2) := by decide +kernel
theorem dX12_qFact_14 : decode cX12_qFact 14 = .ok (.invokevirtual 604, 3) := by decide +kernel
theorem dX12_qFact_17 : decode cX12_qFact 17 = .ok (.return_, 1) := by decide +kernel
theorem dX12_qFact_18 : decode cX12_qFact 18 = .ok (.aload_n 0, 1) := by decide +kernel
theorem dX12_qFact_19 : decode cX12_qFact 19 = .ok (.invokevirtual 371, 3) := by decide +kernel
theorem dX12_qFact_22 : decode cX12_qFact 22 = .ok (.aload_n 0, 1) := by decide +kernel
theorem dX12_qFact_23 : decode cX12_qFact 23 = .ok (.getfield 262, 3) := by decide +kernel
theorem dX12_qFact_26 : decode cX12_qFact 26 = .ok (.ifCond .eq 4, 3) := by decide +kernel
theorem dX12_qFact_29 : decode cX12_qFact 29 = .ok (.return_, 1) := by decide +kernel
theorem dX12_qFact_30 : decode cX12_qFact 30 = .ok (.aload_n 0, 1) := by decide +kernel
theorem dX12_qFact_31 : decode cX12_qFact 31 = .ok (.invokevirtual 274, 3) := by decide +kernel
theorem dX12_qFact_34 : decode cX12_qFact 34 = .ok (.istore_n 1, 1) := by decide +kernel
theorem dX12_qFact_35 : decode cX12_qFact 35 = .ok (.iload_n 1, 1) := by decide +kernel
theorem dX12_qFact_36 : decode cX12_qFact 36 = .ok (.bipush 60, 2) := by decide +kernel
theorem dX12_qFact_38 : decode cX12_qFact 38 = .ok (.if_icmp .eq 25, 3) := by decide +kernel
theorem dX12_qFact_41 : decode cX12_qFact 41 = .ok (.iload_n 1, 1) := by decide +kernel
theorem dX12_qFact_42 : decode cX12_qFact 42 = .ok (.bipush 62, 2) := by decide +kernel
theorem dX12_qFact_44 : decode cX12_qFact 44 = .ok (.if_icmp .eq 19, 3) := by decide +kernel
theorem dX12_qFact_47 : decode cX12_qFact 47 = .ok (.iload_n 1, 1) := by decide +kernel
theorem dX12_qFact_48 : decode cX12_qFact 48 = .ok (.bipush 61, 2) := by decide +kernel
theorem dX12_qFact_50 : decode cX12_qFact 50 = .ok (.if_icmp .eq 13, 3) := by decide +kernel
theorem dX12_qFact_53 : decode cX12_qFact 53 = .ok (.aload_n 0, 1) := by decide +kernel
theorem dX12_qFact_54 : decode cX12_qFact 54 = .ok (.iconst 1, 1) := by decide +kernel
theorem dX12_qFact_55 : decode cX12_qFact 55 = .ok (.aload_n 0, 1) := by decide +kernel
theorem dX12_qFact_56 : decode cX12_qFact 56 = .ok (.getfield 268, 3) := by decide +kernel
theorem dX12_qFact_59 : decode cX12_qFact 59 = .ok (.invokevirtual 292, 3) := by decide +kernel
theorem dX12_qFact_62 : decode cX12_qFact 62 = .ok (.return_, 1) := by decide +kernel
theorem dX12_qFact_63 : decode cX12_qFact 63 = .ok (.aload_n 0, 1) := by decide +kernel
theorem dX12_qFact_64 : decode cX12_qFact 64 = .ok (.dup, 1) := by decide +kernel
theorem dX12_qFact_65 : decode cX12_qFact 65 = .ok (.getfield 268, 3) := by decide +kernel
theorem dX12_qFact_68 : decode cX12_qFact 68 = .ok (.iconst 1, 1) := by decide +kernel
theorem dX12_qFact_69 : decode cX12_qFact 69 = .ok (.iadd, 1) := by decide +kernel
theorem dX12_qFact_70 : decode cX12_qFact 70 = .ok (.putfield 268, 3) := by decide +kernel
theorem dX12_qFact_73 : decode cX12_qFact 73 = .ok (.aload_n 0, 1) := by decide +kernel
theorem dX12_qFact_74 : decode cX12_qFact 74 = .ok (.invokevirtual 371, 3) := by decide +kernel
theorem dX12_qFact_77 : decode cX12_qFact 77 = .ok (.aload_n 0, 1) := by decide +kernel
theorem dX12_qFact_78 : decode cX12_qFact 78 = .ok (.iload_n 1, 1) := by decide +kernel
theorem dX12_qFact_79 : decode cX12_qFact 79 = .ok (.bipush 60, 2) := by decide +kernel
theorem dX12_qFact_81 : decode cX12_qFact 81 = .ok (.if_icmp .ne 8, 3) := by decide +kernel
theorem dX12_qFact_84 : decode cX12_qFact 84 = .ok (.bipush 7, 2) := by decide +kernel
theorem dX12_qFact_86 : decode cX12_qFact 86 = .ok (.goto 16, 3) := by decide +kernel
theorem dX12_qFact_89 : decode cX12_qFact 89 = .ok (.iload_n 1, 1) := by decide +kernel
theorem dX12_qFact_90 : decode cX12_qFact 90 = .ok (.bipush 62, 2) := by decide +kernel
theorem dX12_qFact_92 : decode cX12_qFact 92 = .ok (.if_icmp .ne 8, 3) := by decide +kernel
theorem dX12_qFact_95 : decode cX12_qFact 95 = .ok (.bipush 8, 2) := by decide +kernel
theorem dX12_qFact_97 : decode cX12_qFact 97 = .ok (.goto 5, 3) := by decide +kernel
theorem dX12_qFact_100 : decode cX12_qFact 100 = .ok (.bipush 9, 2) := by decide +kernel
theorem dX12_qFact_102 : decode cX12_qFact 102 = .ok (.invokevirtual 604, 3) := by decide +kernel
theorem dX12_qFact_105 : decode cX12_qFact 105 = .ok (.return_, 1) := by decide +kernel
theorem dX12_qHasSquare_0 : decode cX12_qHasSquare 0 = .ok (.iconst 0, 1) := by decide +kernel
theorem dX12_qHasSquare_1 : decode cX12_qHasSquare 1 = .ok (.istore_n 1, 1) := by decide +kernel
theorem dX12_qHasSquare_2 : decode cX12_qHasSquare 2 = .ok (.iload_n 1, 1) := by decide +kernel
theorem dX12_qHasSquare_3 : decode cX12_qHasSquare 3 = .ok (.aload_n 0, 1) := by decide +kernel
theorem dX12_qHasSquare_4 : decode cX12_qHasSquare 4 = .ok (.getfield 359, 3) := by decide +kernel
theorem dX12_qHasSquare_7 : decode cX12_qHasSquare 7 = .ok (.if_icmp .ge 22, 3) := by decide +kernel
theorem dX12_qHasSquare_10 : decode cX12_qHasSquare 10 = .ok (.aload_n 0, 1) := by decide +kernel
theorem dX12_qHasSquare_11 : decode cX12_qHasSquare 11 = .ok (.getfield 250, 3) := by decide +kernel
theorem dX12_qHasSquare_14 : decode cX12_qHasSquare 14 = .ok (.iload_n 1, 1) := by decide +kernel
theorem dX12_qHasSquare_15 : decode cX12_qHasSquare 15 = .ok (.iaload, 1) := by decide +kernel
theorem dX12_qHasSquare_16 : decode cX12_qHasSquare 16 = .ok (.bipush 25, 2) := by decide +kernel
theorem dX12_qHasSquare_18 : decode cX12_qHasSquare 18 = .ok (.if_icmp .ne 5, 3) := by decide +kernel
theorem dX12_qHasSquare_21 : decode cX12_qHasSquare 21 = .ok (.iconst 1, 1) := by decide +kernel
theorem dX12_qHasSquare_22 : decode cX12_qHasSquare 22 = .ok (.ireturn, 1) := by decide +kernel
theorem dX12_qHasSquare_23 : decode cX12_qHasSquare 23 = .ok (.iinc 1 1, 3) := by decide +kernel
theorem dX12_qHasSquare_26 : decode cX12_qHasSquare 26 = .ok (.goto (-24), 3) := by decide +kernel
theorem dX12_qHasSquare_29 : decode cX12_qHasSquare 29 = .ok (.iconst 0, 1) := by decide +kernel
theorem dX12_qHasSquare_30 : decode cX12_qHasSquare 30 = .ok (.ireturn, 1) := by decide +kernel
theorem dX12_qDropsNots_0 : decode cX12_qDropsNots 0 = .ok (.aload_n 0, 1) := by decide +kernel
theorem dX12_qDropsNots_1 : decode cX12_qDropsNots 1 = .ok (.getfield 262, 3) := by decide +kernel
theorem dX12_qDropsNots_4 : decode cX12_qDropsNots 4 = .ok (.ifCond .ne 29, 3) := by decide +kernel
theorem dX12_qDropsNots_7 : decode cX12_qDropsNots 7 = .ok (.aload_n 0, 1) := by decide +kernel
theorem dX12_qDropsNots_8 : decode cX12_qDropsNots 8 = .ok (.bipush 12, 2) := by decide +kernel
theorem dX12_qDropsNots_10 : decode cX12_qDropsNots 10 = .ok (.invokevirtual 637, 3) := by decide +kernel
theorem dX12_qDropsNots_13 : decode cX12_qDropsNots 13 = .ok (.ifCond .eq 20, 3) := by decide +kernel
theorem dX12_qDropsNots_16 : decode cX12_qDropsNots 16 = .ok (.aload_n 0, 1) := by decide +kernel
theorem dX12_qDropsNots_17 : decode cX12_qDropsNots 17 = .ok (.dup, 1) := by decide +kernel
theorem dX12_qDropsNots_18 : decode cX12_qDropsNots 18 = .ok (.getfield 362, 3) := by decide +kernel
theorem dX12_qDropsNots_21 : decode cX12_qDropsNots 21 = .ok (.iconst 1, 1) := by decide +kernel
theorem dX12_qDropsNots_22 : decode cX12_qDropsNots 22 = .ok (.isub, 1) := by decide +kernel
theorem dX12_qDropsNots_23 : decode cX12_qDropsNots 23 = .ok (.putfield 362, 3) := by decide +kernel
theorem dX12_qDropsNots_26 : decode cX12_qDropsNots 26 = .ok (.aload_n 0, 1) := by decide +kernel
theorem dX12_qDropsNots_27 : decode cX12_qDropsNots 27 = .ok (.invokevirtual 610, 3) := by decide +kernel
theorem dX12_qDropsNots_30 : decode cX12_qDropsNots 30 = .ok (.goto (-30), 3) := by decide +kernel
theorem dX12_qDropsNots_33 : decode cX12_qDropsNots 33 = .ok (.return_, 1) := by decide +kernel
theorem dX12_qTest_0 : decode cX12_qTest 0 = .ok (.iconst 1, 1) := by decide +kernel
theorem dX12_qTest_1 : decode cX12_qTest 1 = .ok (.istore_n 1, 1) := by decide +kernel
theorem dX12_qTest_2 : decode cX12_qTest 2 = .ok (.iload_n 1, 1) := by decide +kernel
theorem dX12_qTest_3 : decode cX12_qTest 3 = .ok (.ifCond .eq 107, 3) := by decide +kernel
theorem dX12_qTest_6 : decode cX12_qTest 6 = .ok (.aload_n 0, 1) := by decide +kernel
theorem dX12_qTest_7 : decode cX12_qTest 7 = .ok (.getfield 262, 3) := by decide +kernel
theorem dX12_qTest_10 : decode cX12_qTest 10 = .ok (.ifCond .ne 100, 3) := by decide +kernel
theorem dX12_qTest_13 : decode cX12_qTest 13 = .ok (.aload_n 0, 1) := by decide +kernel
theorem dX12_qTest_14 : decode cX12_qTest 14 = .ok (.invokevirtual 274, 3) := by decide +kernel
theorem dX12_qTest_17 : decode cX12_qTest 17 = .ok (.istore_n 2, 1) := by decide +kernel
theorem dX12_qTest_18 : decode cX12_qTest 18 = .ok (.iload_n 2, 1) := by decide +kernel
theorem dX12_qTest_19 : decode cX12_qTest 19 = .ok (.bipush 91, 2) := by decide +kernel
theorem dX12_qTest_21 : decode cX12_qTest 21 = .ok (.if_icmp .ne 26, 3) := by decide +kernel
theorem dX12_qTest_24 : decode cX12_qTest 24 = .ok (.aload_n 0, 1) := by decide +kernel
theorem dX12_qTest_25 : decode cX12_qTest 25 = .ok (.bipush 25, 2) := by decide +kernel
theorem dX12_qTest_27 : decode cX12_qTest 27 = .ok (.aload_n 0, 1) := by decide +kernel
theorem dX12_qTest_28 : decode cX12_qTest 28 = .ok (.getfield 268, 3) := by decide +kernel
theorem dX12_qTest_31 : decode cX12_qTest 31 = .ok (.invokevirtual 622, 3) := by decide +kernel
theorem dX12_qTest_34 : decode cX12_qTest 34 = .ok (.aload_n 0, 1) := by decide +kernel
theorem dX12_qTest_35 : decode cX12_qTest 35 = .ok (.dup, 1) := by decide +kernel
theorem dX12_qTest_36 : decode cX12_qTest 36 = .ok (.getfield 268, 3) := by decide +kernel
theorem dX12_qTest_39 : decode cX12_qTest 39 = .ok (.iconst 1, 1) := by decide +kernel
theorem dX12_qTest_40 : decode cX12_qTest 40 = .ok (.iadd, 1) := by decide +kernel
theorem dX12_qTest_41 : decode cX12_qTest 41 = .ok (.putfield 268, 3) := by decide +kernel
theorem dX12_qTest_44 : decode cX12_qTest 44 = .ok (.goto (-42), 3) := by decide +kernel
theorem dX12_qTest_47 : decode cX12_qTest 47 = .ok (.aload_n 0, 1) := by decide +kernel
theorem dX12_qTest_48 : decode cX12_qTest 48 = .ok (.aload_n 0, 1) := by decide +kernel
theorem dX12_qTest_49 : decode cX12_qTest 49 = .ok (.getfield 193, 3) := by decide +kernel
theorem dX12_qTest_52 : decode cX12_qTest 52 = .ok (.invokevirtual 285, 3) := by decide +kernel
theorem dX12_qTest_55 : decode cX12_qTest 55 = .ok (.ifCond .eq 24, 3) := by decide +kernel
theorem dX12_qTest_58 : decode cX12_qTest 58 = .ok (.aload_n 0, 1) := by decide +kernel
theorem dX12_qTest_59 : decode cX12_qTest 59 = .ok (.bipush 12, 2) := by decide +kernel
theorem dX12_qTest_61 : decode cX12_qTest 61 = .ok (.aload_n 0, 1) := by decide +kernel
theorem dX12_qTest_62 : decode cX12_qTest 62 = .ok (.getfield 268, 3) := by decide +kernel
theorem dX12_qTest_65 : decode cX12_qTest 65 = .ok (.invokevirtual 622, 3) := by decide +kernel
theorem dX12_qTest_68 : decode cX12_qTest 68 = .ok (.aload_n 0, 1) := by decide +kernel
theorem dX12_qTest_69 : decode cX12_qTest 69 = .ok (.aload_n 0, 1) := by decide +kernel
theorem dX12_qTest_70 : decode cX12_qTest 70 = .ok (.getfield 193, 3) := by decide +kernel
theorem dX12_qTest_73 : decode cX12_qTest 73 = .ok (.invokevirtual 329, 3) := by decide +kernel
theorem dX12_qTest_76 : decode cX12_qTest 76 = .ok (.goto (-74), 3) := by decide +kernel
theorem dX12_qTest_79 : decode cX12_qTest 79 = .ok (.aload_n 0, 1) := by decide +kernel
theorem dX12_qTest_80 : decode cX12_qTest 80 = .ok (.invokevirtual 646, 3) := by decide +kernel
theorem dX12_qTest_83 : decode cX12_qTest 83 = .ok (.aload_n 0, 1) := by decide +kernel
theorem dX12_qTest_84 : decode cX12_qTest 84 = .ok (.invokevirtual 649, 3) := by decide +kernel
theorem dX12_qTest_87 : decode cX12_qTest 87 = .ok (.aload_n 0, 1) := by decide +kernel
theorem dX12_qTest_88 : decode cX12_qTest 88 = .ok (.getfield 262, 3) := by decide +kernel
theorem dX12_qTest_91 : decode cX12_qTest 91 = .ok (.ifCond .ne 14, 3) := by decide +kernel
theorem dX12_qTest_94 : decode cX12_qTest 94 = .ok (.aload_n 0, 1) := by decide +kernel
theorem dX12_qTest_95 : decode cX12_qTest 95 = .ok (.invokevirtual 652, 3) := by decide +kernel
theorem dX12_qTest_98 : decode cX12_qTest 98 = .ok (.ifCond .eq 7, 3) := by decide +kernel
theorem dX12_qTest_101 : decode cX12_qTest 101 = .ok (.iconst 1, 1) := by decide +kernel
theorem dX12_qTest_102 : decode cX12_qTest 102 = .ok (.goto 4, 3) := by decide +kernel
theorem dX12_qTest_105 : decode cX12_qTest 105 = .ok (.iconst 0, 1) := by decide +kernel
theorem dX12_qTest_106 : decode cX12_qTest 106 = .ok (.istore_n 1, 1) := by decide +kernel
theorem dX12_qTest_107 : decode cX12_qTest 107 = .ok (.goto (-105), 3) := by decide +kernel
theorem dX12_qTest_110 : decode cX12_qTest 110 = .ok (.aload_n 0, 1) := by decide +kernel
theorem dX12_qTest_111 : decode cX12_qTest 111 = .ok (.getfield 262, 3) := by decide +kernel
theorem dX12_qTest_114 : decode cX12_qTest 114 = .ok (.ifCond .ne 17, 3) := by decide +kernel
theorem dX12_qTest_117 : decode cX12_qTest 117 = .ok (.aload_n 0, 1) := by decide +kernel
theorem dX12_qTest_118 : decode cX12_qTest 118 = .ok (.getfield 359, 3) := by decide +kernel
theorem dX12_qTest_121 : decode cX12_qTest 121 = .ok (.ifCond .le 10, 3) := by decide +kernel
theorem dX12_qTest_124 : decode cX12_qTest 124 = .ok (.aload_n 0, 1) := by decide +kernel
theorem dX12_qTest_125 : decode cX12_qTest 125 = .ok (.invokevirtual 610, 3) := by decide +kernel
theorem dX12_qTest_128 : decode cX12_qTest 128 = .ok (.goto (-18), 3) := by decide +kernel
theorem dX12_qTest_131 : decode cX12_qTest 131 = .ok (.return_, 1) := by decide +kernel
theorem dX12_qGoesOnTest_0 : decode cX12_qGoesOnTest 0 = .ok (.aload_n 0, 1) := by decide +kernel
theorem dX12_qGoesOnTest_1 : decode cX12_qGoesOnTest 1 = .ok (.getfield 262, 3) := by decide +kernel
theorem dX12_qGoesOnTest_4 : decode cX12_qGoesOnTest 4 = .ok (.ifCond .ne 72, 3) := by decide +kernel
theorem dX12_qGoesOnTest_7 : decode cX12_qGoesOnTest 7 = .ok (.aload_n 0, 1) := by decide +kernel
theorem dX12_qGoesOnTest_8 : decode cX12_qGoesOnTest 8 = .ok (.invokevirtual 274, 3) := by decide +kernel
theorem dX12_qGoesOnTest_11 : decode cX12_qGoesOnTest 11 = .ok (.bipush 93, 2) := by decide +kernel
theorem dX12_qGoesOnTest_13 : decode cX12_qGoesOnTest 13 = .ok (.if_icmp .ne 63, 3) := by decide +kernel
theorem dX12_qGoesOnTest_16 : decode cX12_qGoesOnTest 16 = .ok (.aload_n 0, 1) := by decide +kernel
theorem dX12_qGoesOnTest_17 : decode cX12_qGoesOnTest 17 = .ok (.invokevirtual 655, 3) := by decide +kernel
theorem dX12_qGoesOnTest_20 : decode cX12_qGoesOnTest 20 = .ok (.ifCond .eq 56, 3) := by decide +kernel
theorem dX12_qGoesOnTest_23 : decode cX12_qGoesOnTest 23 = .ok (.aload_n 0, 1) := by decide +kernel
theorem dX12_qGoesOnTest_24 : decode cX12_qGoesOnTest 24 = .ok (.dup, 1) := by decide +kernel
theorem dX12_qGoesOnTest_25 : decode cX12_qGoesOnTest 25 = .ok (.getfield 268, 3) := by decide +kernel
theorem dX12_qGoesOnTest_28 : decode cX12_qGoesOnTest 28 = .ok (.iconst 1, 1) := by decide +kernel
theorem dX12_qGoesOnTest_29 : decode cX12_qGoesOnTest 29 = .ok (.iadd, 1) := by decide +kernel
theorem dX12_qGoesOnTest_30 : decode cX12_qGoesOnTest 30 = .ok (.putfield 268, 3) := by decide +kernel
theorem dX12_qGoesOnTest_33 : decode cX12_qGoesOnTest 33 = .ok (.aload_n 0, 1) := by decide +kernel
theorem dX12_qGoesOnTest_34 : decode cX12_qGoesOnTest 34 = .ok (.bipush 25, 2) := by decide +kernel
theorem dX12_qGoesOnTest_36 : decode cX12_qGoesOnTest 36 = .ok (.invokevirtual 637, 3) := by decide +kernel
theorem dX12_qGoesOnTest_39 : decode cX12_qGoesOnTest 39 = .ok (.ifCond .ne 10, 3) := by decide +kernel
theorem dX12_qGoesOnTest_42 : decode cX12_qGoesOnTest 42 = .ok (.aload_n 0, 1) := by decide +kernel
theorem dX12_qGoesOnTest_43 : decode cX12_qGoesOnTest 43 = .ok (.invokevirtual 610, 3) := by decide +kernel
theorem dX12_qGoesOnTest_46 : decode cX12_qGoesOnTest 46 = .ok (.goto (-13), 3) := by decide +kernel
theorem dX12_qGoesOnTest_49 : decode cX12_qGoesOnTest 49 = .ok (.aload_n 0, 1) := by decide +kernel
theorem dX12_qGoesOnTest_50 : decode cX12_qGoesOnTest 50 = .ok (.dup, 1) := by decide +kernel
theorem dX12_qGoesOnTest_51 : decode cX12_qGoesOnTest 51 = .ok (.getfield 359, 3) := by decide +kernel
theorem dX12_qGoesOnTest_54 : decode cX12_qGoesOnTest 54 = .ok (.iconst 1, 1) := by decide +kernel
theorem dX12_qGoesOnTest_55 : decode cX12_qGoesOnTest 55 = .ok (.isub, 1) := by decide +kernel
theorem dX12_qGoesOnTest_56 : decode cX12_qGoesOnTest 56 = .ok (.putfield 359, 3) := by decide +kernel
theorem dX12_qGoesOnTest_59 : decode cX12_qGoesOnTest 59 = .ok (.aload_n 0, 1) := by decide +kernel
theorem dX12_qGoesOnTest_60 : decode cX12_qGoesOnTest 60 = .ok (.dup, 1) := by decide +kernel
theorem dX12_qGoesOnTest_61 : decode cX12_qGoesOnTest 61 = .ok (.getfield 362, 3) := by decide +kernel
theorem dX12_qGoesOnTest_64 : decode cX12_qGoesOnTest 64 = .ok (.iconst 1, 1) := by decide +kernel
theorem dX12_qGoesOnTest_65 : decode cX12_qGoesOnTest 65 = .ok (.isub, 1) := by decide +kernel
theorem dX12_qGoesOnTest_66 : decode cX12_qGoesOnTest 66 = .ok (.putfield 362, 3) := by decide +kernel
theorem dX12_qGoesOnTest_69 : decode cX12_qGoesOnTest 69 = .ok (.aload_n 0, 1) := by decide +kernel
theorem dX12_qGoesOnTest_70 : decode cX12_qGoesOnTest 70 = .ok (.invokevirtual 649, 3) := by decide +kernel
theorem dX12_qGoesOnTest_73 : decode cX12_qGoesOnTest 73 = .ok (.goto (-73), 3) := by decide +kernel
theorem dX12_qGoesOnTest_76 : decode cX12_qGoesOnTest 76 = .ok (.aload_n 0, 1) := by decide +kernel
theorem dX12_qGoesOnTest_77 : decode cX12_qGoesOnTest 77 = .ok (.aload_n 0, 1) := by decide +kernel
theorem dX12_qGoesOnTest_78 : decode cX12_qGoesOnTest 78 = .ok (.getfield 196, 3) := by decide +kernel
theorem dX12_qGoesOnTest_81 : decode cX12_qGoesOnTest 81 = .ok (.invokevirtual 289, 3) := by decide +kernel
theorem dX12_qGoesOnTest_84 : decode cX12_qGoesOnTest 84 = .ok (.ifCond .eq 42, 3) := by decide +kernel
theorem dX12_qGoesOnTest_87 : decode cX12_qGoesOnTest 87 = .ok (.aload_n 0, 1) := by decide +kernel
theorem dX12_qGoesOnTest_88 : decode cX12_qGoesOnTest 88 = .ok (.bipush 10, 2) := by decide +kernel
theorem dX12_qGoesOnTest_90 : decode cX12_qGoesOnTest 90 = .ok (.invokevirtual 637, 3) := by decide +kernel
theorem dX12_qGoesOnTest_93 : decode cX12_qGoesOnTest 93 = .ok (.ifCond .eq 10, 3) := by decide +kernel
theorem dX12_qGoesOnTest_96 : decode cX12_qGoesOnTest 96 = .ok (.aload_n 0, 1) := by decide +kernel
theorem dX12_qGoesOnTest_97 : decode cX12_qGoesOnTest 97 = .ok (.invokevirtual 610, 3) := by decide +kernel
theorem dX12_qGoesOnTest_100 : decode cX12_qGoesOnTest 100 = .ok (.goto (-13), 3) := by decide +kernel
theorem dX12_qGoesOnTest_103 : decode cX12_qGoesOnTest 103 = .ok (.aload_n 0, 1) := by decide +kernel
theorem dX12_qGoesOnTest_104 : decode cX12_qGoesOnTest 104 = .ok (.getfield 250, 3) := by decide +kernel
theorem dX12_qGoesOnTest_107 : decode cX12_qGoesOnTest 107 = .ok (.aload_n 0, 1) := by decide +kernel
theorem dX12_qGoesOnTest_108 : decode cX12_qGoesOnTest 108 = .ok (.getfield 359, 3) := by decide +kernel
theorem dX12_qGoesOnTest_111 : decode cX12_qGoesOnTest 111 = .ok (.bipush 10, 2) := by decide +kernel
theorem dX12_qGoesOnTest_113 : decode cX12_qGoesOnTest 113 = .ok (.iastore, 1) := by decide +kernel
theorem dX12_qGoesOnTest_114 : decode cX12_qGoesOnTest 114 = .ok (.aload_n 0, 1) := by decide +kernel
theorem dX12_qGoesOnTest_115 : decode cX12_qGoesOnTest 115 = .ok (.dup, 1) := by decide +kernel
theorem dX12_qGoesOnTest_116 : decode cX12_qGoesOnTest 116 = .ok (.getfield 359, 3) := by decide +kernel
theorem dX12_qGoesOnTest_119 : decode cX12_qGoesOnTest 119 = .ok (.iconst 1, 1) := by decide +kernel
theorem dX12_qGoesOnTest_120 : decode cX12_qGoesOnTest 120 = .ok (.iadd, 1) := by decide +kernel
theorem dX12_qGoesOnTest_121 : decode cX12_qGoesOnTest 121 = .ok (.putfield 359, 3) := by decide +kernel
theorem dX12_qGoesOnTest_124 : decode cX12_qGoesOnTest 124 = .ok (.iconst 1, 1) := by decide +kernel
theorem dX12_qGoesOnTest_125 : decode cX12_qGoesOnTest 125 = .ok (.ireturn, 1) := by decide +kernel
theorem dX12_qGoesOnTest_126 : decode cX12_qGoesOnTest 126 = .ok (.aload_n 0, 1) := by decide +kernel
theorem dX12_qGoesOnTest_127 : decode cX12_qGoesOnTest 127 = .ok (.aload_n 0, 1) := by decide +kernel
theorem dX12_qGoesOnTest_128 : decode cX12_qGoesOnTest 128 = .ok (.getfield 199, 3) := by decide +kernel
theorem dX12_qGoesOnTest_131 : decode cX12_qGoesOnTest 131 = .ok (.invokevirtual 289, 3) := by decide +kernel
theorem dX12_qGoesOnTest_134 : decode cX12_qGoesOnTest 134 = .ok (.ifCond .eq 51, 3) := by decide +kernel
theorem dX12_qGoesOnTest_137 : decode cX12_qGoesOnTest 137 = .ok (.aload_n 0, 1) := by decide +kernel
theorem dX12_qGoesOnTest_138 : decode cX12_qGoesOnTest 138 = .ok (.bipush 10, 2) := by decide +kernel
theorem dX12_qGoesOnTest_140 : decode cX12_qGoesOnTest 140 = .ok (.invokevirtual 637, 3) := by decide +kernel
theorem dX12_qGoesOnTest_143 : decode cX12_qGoesOnTest 143 = .ok (.ifCond .ne 12, 3) := by decide +kernel
theorem dX12_qGoesOnTest_146 : decode cX12_qGoesOnTest 146 = .ok (.aload_n 0, 1) := by decide +kernel
theorem dX12_qGoesOnTest_147 : decode cX12_qGoesOnTest 147 = .ok (.bipush 11, 2) := by decide +kernel
theorem dX12_qGoesOnTest_149 : decode cX12_qGoesOnTest 149 = .ok (.invokevirtual 637, 3) := by decide +kernel
theorem dX12_qGoesOnTest_152 : decode cX12_qGoesOnTest 152 = .ok (.ifCond .eq 10, 3) := by decide +kernel
theorem dX12_qGoesOnTest_155 : decode cX12_qGoesOnTest 155 = .ok (.aload_n 0, 1) := by decide +kernel
theorem dX12_qGoesOnTest_156 : decode cX12_qGoesOnTest 156 = .ok (.invokevirtual 610, 3) := by decide +kernel
theorem dX12_qGoesOnTest_159 : decode cX12_qGoesOnTest 159 = .ok (.goto (-22), 3) := by decide +kernel
theorem dX12_qGoesOnTest_162 : decode cX12_qGoesOnTest 162 = .ok (.aload_n 0, 1) := by decide +kernel
theorem dX12_qGoesOnTest_163 : decode cX12_qGoesOnTest 163 = .ok (.getfield 250, 3) := by decide +kernel
theorem dX12_qGoesOnTest_166 : decode cX12_qGoesOnTest 166 = .ok (.aload_n 0, 1) := by decide +kernel
theorem dX12_qGoesOnTest_167 : decode cX12_qGoesOnTest 167 = .ok (.getfield 359, 3) := by decide +kernel
theorem dX12_qGoesOnTest_170 : decode cX12_qGoesOnTest 170 = .ok (.bipush 11, 2) := by decide +kernel
theorem dX12_qGoesOnTest_172 : decode cX12_qGoesOnTest 172 = .ok (.iastore, 1) := by decide +kernel
theorem dX12_qGoesOnTest_173 : decode cX12_qGoesOnTest 173 = .ok (.aload_n 0, 1) := by decide +kernel
theorem dX12_qGoesOnTest_174 : decode cX12_qGoesOnTest 174 = .ok (.dup, 1) := by decide +kernel
theorem dX12_qGoesOnTest_175 : decode cX12_qGoesOnTest 175 = .ok (.getfield 359, 3) := by decide +kernel
theorem dX12_qGoesOnTest_178 : decode cX12_qGoesOnTest 178 = .ok (.iconst 1, 1) := by decide +kernel
theorem dX12_qGoesOnTest_179 : decode cX12_qGoesOnTest 179 = .ok (.iadd, 1) := by decide +kernel
theorem dX12_qGoesOnTest_180 : decode cX12_qGoesOnTest 180 = .ok (.putfield 359, 3) := by decide +kernel
theorem dX12_qGoesOnTest_183 : decode cX12_qGoesOnTest 183 = .ok (.iconst 1, 1) := by decide +kernel
theorem dX12_qGoesOnTest_184 : decode cX12_qGoesOnTest 184 = .ok (.ireturn, 1) := by decide +kernel
theorem dX12_qGoesOnTest_185 : decode cX12_qGoesOnTest 185 = .ok (.aload_n 0, 1) := by decide +kernel
theorem dX12_qGoesOnTest_186 : decode cX12_qGoesOnTest 186 = .ok (.getfield 262, 3) := by decide +kernel
theorem dX12_qGoesOnTest_189 : decode cX12_qGoesOnTest 189 = .ok (.ifCond .ne 19, 3) := by decide +kernel
theorem dX12_qGoesOnTest_192 : decode cX12_qGoesOnTest 192 = .ok (.aload_n 0, 1) := by decide +kernel
theorem dX12_qGoesOnTest_193 : decode cX12_qGoesOnTest 193 = .ok (.invokevirtual 655, 3) := by decide +kernel
theorem dX12_qGoesOnTest_196 : decode cX12_qGoesOnTest 196 = .ok (.ifCond .eq 12, 3) := by decide +kernel
theorem dX12_qGoesOnTest_199 : decode cX12_qGoesOnTest 199 = .ok (.aload_n 0, 1) := by decide +kernel
theorem dX12_qGoesOnTest_200 : decode cX12_qGoesOnTest 200 = .ok (.iconst 1, 1) := by decide +kernel
theorem dX12_qGoesOnTest_201 : decode cX12_qGoesOnTest 201 = .ok (.aload_n 0, 1) := by decide +kernel
theorem dX12_qGoesOnTest_202 : decode cX12_qGoesOnTest 202 = .ok (.getfield 268, 3) := by decide +kernel
theorem dX12_qGoesOnTest_205 : decode cX12_qGoesOnTest 205 = .ok (.invokevirtual 292, 3) := by decide +kernel
theorem dX12_qGoesOnTest_208 : decode cX12_qGoesOnTest 208 = .ok (.iconst 0, 1) := by decide +kernel
theorem dX12_qGoesOnTest_209 : decode cX12_qGoesOnTest 209 = .ok (.ireturn, 1) := by decide +kernel
theorem dX12_qClip_0 : decode cX12_qClip 0 = .ok (.lload_n 0, 1) := by decide +kernel
theorem dX12_qClip_1 : decode cX12_qClip 1 = .ok (.ldc2_w 658, 3) := by decide +kernel
theorem dX12_qClip_4 : decode cX12_qClip 4 = .ok (.lcmp, 1) := by decide +kernel
theorem dX12_qClip_5 : decode cX12_qClip 5 = .ok (.ifCond .le 9, 3) := by decide +kernel
theorem dX12_qClip_8 : decode cX12_qClip 8 = .ok (.ldc2_w 658, 3) := by decide +kernel
theorem dX12_qClip_11 : decode cX12_qClip 11 = .ok (.goto 18, 3) := by decide +kernel
theorem dX12_qClip_14 : decode cX12_qClip 14 = .ok (.lload_n 0, 1) := by decide +kernel
theorem dX12_qClip_15 : decode cX12_qClip 15 = .ok (.ldc2_w 660, 3) := by decide +kernel
theorem dX12_qClip_18 : decode cX12_qClip 18 = .ok (.lcmp, 1) := by decide +kernel
theorem dX12_qClip_19 : decode cX12_qClip 19 = .ok (.ifCond .ge 9, 3) := by decide +kernel
theorem dX12_qClip_22 : decode cX12_qClip 22 = .ok (.ldc2_w 660, 3) := by decide +kernel
theorem dX12_qClip_25 : decode cX12_qClip 25 = .ok (.goto 4, 3) := by decide +kernel
theorem dX12_qClip_28 : decode cX12_qClip 28 = .ok (.lload_n 0, 1) := by decide +kernel
theorem dX12_qClip_29 : decode cX12_qClip 29 = .ok (.lreturn, 1) := by decide +kernel
theorem dX12_qFloor_0 : decode cX12_qFloor 0 = .ok (.lload_n 2, 1) := by decide +kernel
theorem dX12_qFloor_1 : decode cX12_qFloor 1 = .ok (.lconst 0, 1) := by decide +kernel
theorem dX12_qFloor_2 : decode cX12_qFloor 2 = .ok (.lcmp, 1) := by decide +kernel
theorem dX12_qFloor_3 : decode cX12_qFloor 3 = .ok (.ifCond .ne 5, 3) := by decide +kernel
theorem dX12_qFloor_6 : decode cX12_qFloor 6 = .ok (.lconst 0, 1) := by decide +kernel
theorem dX12_qFloor_7 : decode cX12_qFloor 7 = .ok (.lreturn, 1) := by decide +kernel
theorem dX12_qFloor_8 : decode cX12_qFloor 8 = .ok (.lload_n 0, 1) := by decide +kernel
theorem dX12_qFloor_9 : decode cX12_qFloor 9 = .ok (.lload_n 2, 1) := by decide +kernel
theorem dX12_qFloor_10 : decode cX12_qFloor 10 = .ok (.ldiv, 1) := by decide +kernel
theorem dX12_qFloor_11 : decode cX12_qFloor 11 = .ok (.lstore 4, 2) := by decide +kernel
theorem dX12_qFloor_13 : decode cX12_qFloor 13 = .ok (.lload_n 0, 1) := by decide +kernel
theorem dX12_qFloor_14 : decode cX12_qFloor 14 = .ok (.lload_n 2, 1) := by decide +kernel
theorem dX12_qFloor_15 : decode cX12_qFloor 15 = .ok (.lrem, 1) := by decide +kernel
theorem dX12_qFloor_16 : decode cX12_qFloor 16 = .ok (.lconst 0, 1) := by decide +kernel
theorem dX12_qFloor_17 : decode cX12_qFloor 17 = .ok (.lcmp, 1) := by decide +kernel
theorem dX12_qFloor_18 : decode cX12_qFloor 18 = .ok (.ifCond .eq 35, 3) := by decide +kernel
theorem dX12_qFloor_21 : decode cX12_qFloor 21 = .ok (.lload_n 0, 1) := by decide +kernel
theorem dX12_qFloor_22 : decode cX12_qFloor 22 = .ok (.lconst 0, 1) := by decide +kernel
theorem dX12_qFloor_23 : decode cX12_qFloor 23 = .ok (.lcmp, 1) := by decide +kernel
theorem dX12_qFloor_24 : decode cX12_qFloor 24 = .ok (.ifCond .ge 7, 3) := by decide +kernel
theorem dX12_qFloor_27 : decode cX12_qFloor 27 = .ok (.iconst 1, 1) := by decide +kernel
theorem dX12_qFloor_28 : decode cX12_qFloor 28 = .ok (.goto 4, 3) := by decide +kernel
theorem dX12_qFloor_31 : decode cX12_qFloor 31 = .ok (.iconst 0, 1) := by decide +kernel
theorem dX12_qFloor_32 : decode cX12_qFloor 32 = .ok (.lload_n 2, 1) := by decide +kernel
theorem dX12_qFloor_33 : decode cX12_qFloor 33 = .ok (.lconst 0, 1) := by decide +kernel
theorem dX12_qFloor_34 : decode cX12_qFloor 34 = .ok (.lcmp, 1) := by decide +kernel
theorem dX12_qFloor_35 : decode cX12_qFloor 35 = .ok (.ifCond .ge 7, 3) := by decide +kernel
theorem dX12_qFloor_38 : decode cX12_qFloor 38 = .ok (.iconst 1, 1) := by decide +kernel
theorem dX12_qFloor_39 : decode cX12_qFloor 39 = .ok (.goto 4, 3) := by decide +kernel
theorem dX12_qFloor_42 : decode cX12_qFloor 42 = .ok (.iconst 0, 1) := by decide +kernel
theorem dX12_qFloor_43 : decode cX12_qFloor 43 = .ok (.if_icmp .eq 10, 3) := by decide +kernel
theorem dX12_qFloor_46 : decode cX12_qFloor 46 = .ok (.lload 4, 2) := by decide +kernel
theorem dX12_qFloor_48 : decode cX12_qFloor 48 = .ok (.lconst 1, 1) := by decide +kernel
theorem dX12_qFloor_49 : decode cX12_qFloor 49 = .ok (.lsub, 1) := by decide +kernel
theorem dX12_qFloor_50 : decode cX12_qFloor 50 = .ok (.goto 5, 3) := by decide +kernel
theorem dX12_qFloor_53 : decode cX12_qFloor 53 = .ok (.lload 4, 2) := by decide +kernel
theorem dX12_qFloor_55 : decode cX12_qFloor 55 = .ok (.lreturn, 1) := by decide +kernel
theorem dX12_qPuts_0 : decode cX12_qPuts 0 = .ok (.aload_n 0, 1) := by decide +kernel
theorem dX12_qPuts_1 : decode cX12_qPuts 1 = .ok (.getfield 253, 3) := by decide +kernel
theorem dX12_qPuts_4 : decode cX12_qPuts 4 = .ok (.aload_n 0, 1) := by decide +kernel
theorem dX12_qPuts_5 : decode cX12_qPuts 5 = .ok (.getfield 440, 3) := by decide +kernel
theorem dX12_qPuts_8 : decode cX12_qPuts 8 = .ok (.lload_n 1, 1) := by decide +kernel
theorem dX12_qPuts_9 : decode cX12_qPuts 9 = .ok (.lastore, 1) := by decide +kernel
theorem dX12_qPuts_10 : decode cX12_qPuts 10 = .ok (.aload_n 0, 1) := by decide +kernel
theorem dX12_qPuts_11 : decode cX12_qPuts 11 = .ok (.dup, 1) := by decide +kernel
theorem dX12_qPuts_12 : decode cX12_qPuts 12 = .ok (.getfield 440, 3) := by decide +kernel
theorem dX12_qPuts_15 : decode cX12_qPuts 15 = .ok (.iconst 1, 1) := by decide +kernel
theorem dX12_qPuts_16 : decode cX12_qPuts 16 = .ok (.iadd, 1) := by decide +kernel
theorem dX12_qPuts_17 : decode cX12_qPuts 17 = .ok (.putfield 440, 3) := by decide +kernel
theorem dX12_qPuts_20 : decode cX12_qPuts 20 = .ok (.return_, 1) := by decide +kernel
theorem dX12_qJoins_0 : decode cX12_qJoins 0 = .ok (.aload_n 0, 1) := by decide +kernel
theorem dX12_qJoins_1 : decode cX12_qJoins 1 = .ok (.getfield 253, 3) := by decide +kernel
theorem dX12_qJoins_4 : decode cX12_qJoins 4 = .ok (.aload_n 0, 1) := by decide +kernel
theorem dX12_qJoins_5 : decode cX12_qJoins 5 = .ok (.getfield 440, 3) := by decide +kernel
theorem dX12_qJoins_8 : decode cX12_qJoins 8 = .ok (.iconst 1, 1) := by decide +kernel
theorem dX12_qJoins_9 : decode cX12_qJoins 9 = .ok (.isub, 1) := by decide +kernel
theorem dX12_qJoins_10 : decode cX12_qJoins 10 = .ok (.laload, 1) := by decide +kernel
theorem dX12_qJoins_11 : decode cX12_qJoins 11 = .ok (.lstore_n 2, 1) := by decide +kernel
theorem dX12_qJoins_12 : decode cX12_qJoins 12 = .ok (.aload_n 0, 1) := by decide +kernel
theorem dX12_qJoins_13 : decode cX12_qJoins 13 = .ok (.getfield 253, 3) := by decide +kernel
theorem dX12_qJoins_16 : decode cX12_qJoins 16 = .ok (.aload_n 0, 1) := by decide +kernel
theorem dX12_qJoins_17 : decode cX12_qJoins 17 = .ok (.getfield 440, 3) := by decide +kernel
theorem dX12_qJoins_20 : decode cX12_qJoins 20 = .ok (.iconst 2, 1) := by decide +kernel
theorem dX12_qJoins_21 : decode cX12_qJoins 21 = .ok (.isub, 1) := by decide +kernel
theorem dX12_qJoins_22 : decode cX12_qJoins 22 = .ok (.laload, 1) := by decide +kernel
theorem dX12_qJoins_23 : decode cX12_qJoins 23 = .ok (.lstore 4, 2) := by decide +kernel
theorem dX12_qJoins_25 : decode cX12_qJoins 25 = .ok (.aload_n 0, 1) := by decide +kernel
theorem dX12_qJoins_26 : decode cX12_qJoins 26 = .ok (.dup, 1) := by decide +kernel
theorem dX12_qJoins_27 : decode cX12_qJoins 27 = .ok (.getfield 440, 3) := by decide +kernel
theorem dX12_qJoins_30 : decode cX12_qJoins 30 = .ok (.iconst 2, 1) := by decide +kernel
theorem dX12_qJoins_31 : decode cX12_qJoins 31 = .ok (.isub, 1) := by decide +kernel
theorem dX12_qJoins_32 : decode cX12_qJoins 32 = .ok (.putfield 440, 3) := by decide +kernel
theorem dX12_qJoins_35 : decode cX12_qJoins 35 = .ok (.iload_n 1, 1) := by decide +kernel
theorem dX12_qJoins_36 : decode cX12_qJoins 36 = .ok (.tableswitch 219 1 10 #[56, 70, 84, 98, 111, 131, 151, 170, 189, 208], 56) := by decide +kernel
theorem dX12_qJoins_92 : decode cX12_qJoins 92 = .ok (.aload_n 0, 1) := by decide +kernel
theorem dX12_qJoins_93 : decode cX12_qJoins 93 = .ok (.lload 4, 2) := by decide +kernel
theorem dX12_qJoins_95 : decode cX12_qJoins 95 = .ok (.lload_n 2, 1) := by decide +kernel
theorem dX12_qJoins_96 : decode cX12_qJoins 96 = .ok (.ladd, 1) := by decide +kernel
theorem dX12_qJoins_97 : decode cX12_qJoins 97 = .ok (.invokestatic 662, 3) := by decide +kernel
theorem dX12_qJoins_100 : decode cX12_qJoins 100 = .ok (.invokevirtual 443, 3) := by decide +kernel
theorem dX12_qJoins_103 : decode cX12_qJoins 103 = .ok (.goto 170, 3) := by decide +kernel
theorem dX12_qJoins_106 : decode cX12_qJoins 106 = .ok (.aload_n 0, 1) := by decide +kernel
theorem dX12_qJoins_107 : decode cX12_qJoins 107 = .ok (.lload 4, 2) := by decide +kernel
theorem dX12_qJoins_109 : decode cX12_qJoins 109 = .ok (.lload_n 2, 1) := by decide +kernel
theorem dX12_qJoins_110 : decode cX12_qJoins 110 = .ok (.lsub, 1) := by decide +kernel
theorem dX12_qJoins_111 : decode cX12_qJoins 111 = .ok (.invokestatic 662, 3) := by decide +kernel
theorem dX12_qJoins_114 : decode cX12_qJoins 114 = .ok (.invokevirtual 443, 3) := by decide +kernel
theorem dX12_qJoins_117 : decode cX12_qJoins 117 = .ok (.goto 156, 3) := by decide +kernel
theorem dX12_qJoins_120 : decode cX12_qJoins 120 = .ok (.aload_n 0, 1) := by decide +kernel
theorem dX12_qJoins_121 : decode cX12_qJoins 121 = .ok (.lload 4, 2) := by decide +kernel
theorem dX12_qJoins_123 : decode cX12_qJoins 123 = .ok (.lload_n 2, 1) := by decide +kernel
theorem dX12_qJoins_124 : decode cX12_qJoins 124 = .ok (.lmul, 1) := by decide +kernel
theorem dX12_qJoins_125 : decode cX12_qJoins 125 = .ok (.invokestatic 662, 3) := by decide +kernel
theorem dX12_qJoins_128 : decode cX12_qJoins 128 = .ok (.invokevirtual 443, 3) := by decide +kernel
theorem dX12_qJoins_131 : decode cX12_qJoins 131 = .ok (.goto 142, 3) := by decide +kernel
theorem dX12_qJoins_134 : decode cX12_qJoins 134 = .ok (.aload_n 0, 1) := by decide +kernel
theorem dX12_qJoins_135 : decode cX12_qJoins 135 = .ok (.lload 4, 2) := by decide +kernel
theorem dX12_qJoins_137 : decode cX12_qJoins 137 = .ok (.lload_n 2, 1) := by decide +kernel
theorem dX12_qJoins_138 : decode cX12_qJoins 138 = .ok (.invokestatic 666, 3) := by decide +kernel
theorem dX12_qJoins_141 : decode cX12_qJoins 141 = .ok (.invokevirtual 443, 3) := by decide +kernel
theorem dX12_qJoins_144 : decode cX12_qJoins 144 = .ok (.goto 129, 3) := by decide +kernel
theorem dX12_qJoins_147 : decode cX12_qJoins 147 = .ok (.aload_n 0, 1) := by decide +kernel
theorem dX12_qJoins_148 : decode cX12_qJoins 148 = .ok (.lload 4, 2) := by decide +kernel
theorem dX12_qJoins_150 : decode cX12_qJoins 150 = .ok (.lload_n 2, 1) := by decide +kernel
theorem dX12_qJoins_151 : decode cX12_qJoins 151 = .ok (.lcmp, 1) := by decide +kernel
theorem dX12_qJoins_152 : decode cX12_qJoins 152 = .ok (.ifCond .ge 8, 3) := by decide +kernel
theorem dX12_qJoins_155 : decode cX12_qJoins 155 = .ok (.lload 4, 2) := by decide +kernel
theorem dX12_qJoins_157 : decode cX12_qJoins 157 = .ok (.goto 4, 3) := by decide +kernel
theorem dX12_qJoins_160 : decode cX12_qJoins 160 = .ok (.lload_n 2, 1) := by decide +kernel
theorem dX12_qJoins_161 : decode cX12_qJoins 161 = .ok (.invokevirtual 443, 3) := by decide +kernel
theorem dX12_qJoins_164 : decode cX12_qJoins 164 = .ok (.goto 109, 3) := by decide +kernel
theorem dX12_qJoins_167 : decode cX12_qJoins 167 = .ok (.aload_n 0, 1) := by decide +kernel
theorem dX12_qJoins_168 : decode cX12_qJoins 168 = .ok (.lload 4, 2) := by decide +kernel
theorem dX12_qJoins_170 : decode cX12_qJoins 170 = .ok (.lload_n 2, 1) := by decide +kernel
theorem dX12_qJoins_171 : decode cX12_qJoins 171 = .ok (.lcmp, 1) := by decide +kernel
theorem dX12_qJoins_172 : decode cX12_qJoins 172 = .ok (.ifCond .le 8, 3) := by decide +kernel
theorem dX12_qJoins_175 : decode cX12_qJoins 175 = .ok (.lload 4, 2) := by decide +kernel
theorem dX12_qJoins_177 : decode cX12_qJoins 177 = .ok (.goto 4, 3) := by decide +kernel
theorem dX12_qJoins_180 : decode cX12_qJoins 180 = .ok (.lload_n 2, 1) := by decide +kernel
theorem dX12_qJoins_181 : decode cX12_qJoins 181 = .ok (.invokevirtual 443, 3) := by decide +kernel
theorem dX12_qJoins_184 : decode cX12_qJoins 184 = .ok (.goto 89, 3) := by decide +kernel
theorem dX12_qJoins_187 : decode cX12_qJoins 187 = .ok (.aload_n 0, 1) := by decide +kernel
theorem dX12_qJoins_188 : decode cX12_qJoins 188 = .ok (.lload 4, 2) := by decide +kernel
theorem dX12_qJoins_190 : decode cX12_qJoins 190 = .ok (.lload_n 2, 1) := by decide +kernel
theorem dX12_qJoins_191 : decode cX12_qJoins 191 = .ok (.lcmp, 1) := by decide +kernel
theorem dX12_qJoins_192 : decode cX12_qJoins 192 = .ok (.ifCond .ge 7, 3) := by decide +kernel
theorem dX12_qJoins_195 : decode cX12_qJoins 195 = .ok (.lconst 1, 1) := by decide +kernel
theorem dX12_qJoins_196 : decode cX12_qJoins 196 = .ok (.goto 4, 3) := by decide +kernel
theorem dX12_qJoins_199 : decode cX12_qJoins 199 = .ok (.lconst 0, 1) := by decide +kernel
theorem dX12_qJoins_200 : decode cX12_qJoins 200 = .ok (.invokevirtual 443, 3) := by decide +kernel
theorem dX12_qJoins_203 : decode cX12_qJoins 203 = .ok (.goto 70, 3) := by decide +kernel
theorem dX12_qJoins_206 : decode cX12_qJoins 206 = .ok (.aload_n 0, 1) := by decide +kernel
theorem dX12_qJoins_207 : decode cX12_qJoins 207 = .ok (.lload 4, 2) := by decide +kernel
theorem dX12_qJoins_209 : decode cX12_qJoins 209 = .ok (.lload_n 2, 1) := by decide +kernel
theorem dX12_qJoins_210 : decode cX12_qJoins 210 = .ok (.lcmp, 1) := by decide +kernel
theorem dX12_qJoins_211 : decode cX12_qJoins 211 = .ok (.ifCond .le 7, 3) := by decide +kernel
theorem dX12_qJoins_214 : decode cX12_qJoins 214 = .ok (.lconst 1, 1) := by decide +kernel
theorem dX12_qJoins_215 : decode cX12_qJoins 215 = .ok (.goto 4, 3) := by decide +kernel
theorem dX12_qJoins_218 : decode cX12_qJoins 218 = .ok (.lconst 0, 1) := by decide +kernel
theorem dX12_qJoins_219 : decode cX12_qJoins 219 = .ok (.invokevirtual 443, 3) := by decide +kernel
theorem dX12_qJoins_222 : decode cX12_qJoins 222 = .ok (.goto 51, 3) := by decide +kernel
theorem dX12_qJoins_225 : decode cX12_qJoins 225 = .ok (.aload_n 0, 1) := by decide +kernel
theorem dX12_qJoins_226 : decode cX12_qJoins 226 = .ok (.lload 4, 2) := by decide +kernel
theorem dX12_qJoins_228 : decode cX12_qJoins 228 = .ok (.lload_n 2, 1) := by decide +kernel
theorem dX12_qJoins_229 : decode cX12_qJoins 229 = .ok (.lcmp, 1) := by decide +kernel
theorem dX12_qJoins_230 : decode cX12_qJoins 230 = .ok (.ifCond .ne 7, 3) := by decide +kernel
theorem dX12_qJoins_233 : decode cX12_qJoins 233 = .ok (.lconst 1, 1) := by decide +kernel
theorem dX12_qJoins_234 : decode cX12_qJoins 234 = .ok (.goto 4, 3) := by decide +kernel
theorem dX12_qJoins_237 : decode cX12_qJoins 237 = .ok (.lconst 0, 1) := by decide +kernel
theorem dX12_qJoins_238 : decode cX12_qJoins 238 = .ok (.invokevirtual 443, 3) := by decide +kernel
theorem dX12_qJoins_241 : decode cX12_qJoins 241 = .ok (.goto 32, 3) := by decide +kernel
theorem dX12_qJoins_244 : decode cX12_qJoins 244 = .ok (.aload_n 0, 1) := by decide +kernel
theorem dX12_qJoins_245 : decode cX12_qJoins 245 = .ok (.lload 4, 2) := by decide +kernel
theorem dX12_qJoins_247 : decode cX12_qJoins 247 = .ok (.lload_n 2, 1) := by decide +kernel
theorem dX12_qJoins_248 : decode cX12_qJoins 248 = .ok (.lmul, 1) := by decide +kernel
theorem dX12_qJoins_249 : decode cX12_qJoins 249 = .ok (.invokevirtual 443, 3) := by decide +kernel
theorem dX12_qJoins_252 : decode cX12_qJoins 252 = .ok (.goto 21, 3) := by decide +kernel
theorem dX12_qJoins_255 : decode cX12_qJoins 255 = .ok (.aload_n 0, 1) := by decide +kernel
theorem dX12_qJoins_256 : decode cX12_qJoins 256 = .ok (.lload 4, 2) := by decide +kernel
theorem dX12_qJoins_258 : decode cX12_qJoins 258 = .ok (.lload_n 2, 1) := by decide +kernel
theorem dX12_qJoins_259 : decode cX12_qJoins 259 = .ok (.ladd, 1) := by decide +kernel
theorem dX12_qJoins_260 : decode cX12_qJoins 260 = .ok (.lconst 0, 1) := by decide +kernel
theorem dX12_qJoins_261 : decode cX12_qJoins 261 = .ok (.lcmp, 1) := by decide +kernel
theorem dX12_qJoins_262 : decode cX12_qJoins 262 = .ok (.ifCond .le 7, 3) := by decide +kernel
theorem dX12_qJoins_265 : decode cX12_qJoins 265 = .ok (.lconst 1, 1) := by decide +kernel
theorem dX12_qJoins_266 : decode cX12_qJoins 266 = .ok (.goto 4, 3) := by decide +kernel
theorem dX12_qJoins_269 : decode cX12_qJoins 269 = .ok (.lconst 0, 1) := by decide +kernel
theorem dX12_qJoins_270 : decode cX12_qJoins 270 = .ok (.invokevirtual 443, 3) := by decide +kernel
theorem dX12_qJoins_273 : decode cX12_qJoins 273 = .ok (.return_, 1) := by decide +kernel
theorem dX12_qPartOf_0 : decode cX12_qPartOf 0 = .ok (.iload_n 1, 1) := by decide +kernel
theorem dX12_qPartOf_1 : decode cX12_qPartOf 1 = .ok (.tableswitch 161 0 8 #[51, 59, 65, 79, 89, 104, 118, 138, 144], 51) := by decide +kernel
theorem dX12_qPartOf_52 : decode cX12_qPartOf 52 = .ok (.aload_n 0, 1) := by decide +kernel
theorem dX12_qPartOf_53 : decode cX12_qPartOf 53 = .ok (.getfield 142, 3) := by decide +kernel
theorem dX12_qPartOf_56 : decode cX12_qPartOf 56 = .ok (.iconst 0, 1) := by decide +kernel
theorem dX12_qPartOf_57 : decode cX12_qPartOf 57 = .ok (.iaload, 1) := by decide +kernel
theorem dX12_qPartOf_58 : decode cX12_qPartOf 58 = .ok (.i2l, 1) := by decide +kernel
theorem dX12_qPartOf_59 : decode cX12_qPartOf 59 = .ok (.lreturn, 1) := by decide +kernel
theorem dX12_qPartOf_60 : decode cX12_qPartOf 60 = .ok (.aload_n 0, 1) := by decide +kernel
theorem dX12_qPartOf_61 : decode cX12_qPartOf 61 = .ok (.getfield 457, 3) := by decide +kernel
theorem dX12_qPartOf_64 : decode cX12_qPartOf 64 = .ok (.i2l, 1) := by decide +kernel
theorem dX12_qPartOf_65 : decode cX12_qPartOf 65 = .ok (.lreturn, 1) := by decide +kernel
theorem dX12_qPartOf_66 : decode cX12_qPartOf 66 = .ok (.aload_n 0, 1) := by decide +kernel
theorem dX12_qPartOf_67 : decode cX12_qPartOf 67 = .ok (.getfield 142, 3) := by decide +kernel
theorem dX12_qPartOf_70 : decode cX12_qPartOf 70 = .ok (.bipush 8, 2) := by decide +kernel
theorem dX12_qPartOf_72 : decode cX12_qPartOf 72 = .ok (.aload_n 0, 1) := by decide +kernel
theorem dX12_qPartOf_73 : decode cX12_qPartOf 73 = .ok (.getfield 477, 3) := by decide +kernel
theorem dX12_qPartOf_76 : decode cX12_qPartOf 76 = .ok (.iadd, 1) := by decide +kernel
theorem dX12_qPartOf_77 : decode cX12_qPartOf 77 = .ok (.iaload, 1) := by decide +kernel
theorem dX12_qPartOf_78 : decode cX12_qPartOf 78 = .ok (.i2l, 1) := by decide +kernel
theorem dX12_qPartOf_79 : decode cX12_qPartOf 79 = .ok (.lreturn, 1) := by decide +kernel
theorem dX12_qPartOf_80 : decode cX12_qPartOf 80 = .ok (.aload_n 0, 1) := by decide +kernel
theorem dX12_qPartOf_81 : decode cX12_qPartOf 81 = .ok (.aload_n 0, 1) := by decide +kernel
theorem dX12_qPartOf_82 : decode cX12_qPartOf 82 = .ok (.getfield 477, 3) := by decide +kernel
theorem dX12_qPartOf_85 : decode cX12_qPartOf 85 = .ok (.invokevirtual 498, 3) := by decide +kernel
theorem dX12_qPartOf_88 : decode cX12_qPartOf 88 = .ok (.i2l, 1) := by decide +kernel
theorem dX12_qPartOf_89 : decode cX12_qPartOf 89 = .ok (.lreturn, 1) := by decide +kernel
theorem dX12_qPartOf_90 : decode cX12_qPartOf 90 = .ok (.aload_n 0, 1) := by decide +kernel
theorem dX12_qPartOf_91 : decode cX12_qPartOf 91 = .ok (.getfield 145, 3) := by decide +kernel
theorem dX12_qPartOf_94 : decode cX12_qPartOf 94 = .ok (.aload_n 0, 1) := by decide +kernel
theorem dX12_qPartOf_95 : decode cX12_qPartOf 95 = .ok (.aload_n 0, 1) := by decide +kernel
theorem dX12_qPartOf_96 : decode cX12_qPartOf 96 = .ok (.getfield 477, 3) := by decide +kernel
theorem dX12_qPartOf_99 : decode cX12_qPartOf 99 = .ok (.invokevirtual 435, 3) := by decide +kernel
theorem dX12_qPartOf_102 : decode cX12_qPartOf 102 = .ok (.iaload, 1) := by decide +kernel
theorem dX12_qPartOf_103 : decode cX12_qPartOf 103 = .ok (.i2l, 1) := by decide +kernel
theorem dX12_qPartOf_104 : decode cX12_qPartOf 104 = .ok (.lreturn, 1) := by decide +kernel
theorem dX12_qPartOf_105 : decode cX12_qPartOf 105 = .ok (.aload_n 0, 1) := by decide +kernel
theorem dX12_qPartOf_106 : decode cX12_qPartOf 106 = .ok (.getfield 142, 3) := by decide +kernel
theorem dX12_qPartOf_109 : decode cX12_qPartOf 109 = .ok (.bipush 16, 2) := by decide +kernel
theorem dX12_qPartOf_111 : decode cX12_qPartOf 111 = .ok (.aload_n 0, 1) := by decide +kernel
theorem dX12_qPartOf_112 : decode cX12_qPartOf 112 = .ok (.getfield 477, 3) := by decide +kernel
theorem dX12_qPartOf_115 : decode cX12_qPartOf 115 = .ok (.iadd, 1) := by decide +kernel
theorem dX12_qPartOf_116 : decode cX12_qPartOf 116 = .ok (.iaload, 1) := by decide +kernel
theorem dX12_qPartOf_117 : decode cX12_qPartOf 117 = .ok (.i2l, 1) := by decide +kernel
theorem dX12_qPartOf_118 : decode cX12_qPartOf 118 = .ok (.lreturn, 1) := by decide +kernel
theorem dX12_qPartOf_119 : decode cX12_qPartOf 119 = .ok (.aload_n 0, 1) := by decide +kernel
theorem dX12_qPartOf_120 : decode cX12_qPartOf 120 = .ok (.getfield 124, 3) := by decide +kernel
theorem dX12_qPartOf_123 : decode cX12_qPartOf 123 = .ok (.bipush 13, 2) := by decide +kernel
theorem dX12_qPartOf_125 : decode cX12_qPartOf 125 = .ok (.iconst 2, 1) := by decide +kernel
theorem dX12_qPartOf_126 : decode cX12_qPartOf 126 = .ok (.aload_n 0, 1) := by decide +kernel
theorem dX12_qPartOf_127 : decode cX12_qPartOf 127 = .ok (.aload_n 0, 1) := by decide +kernel
theorem dX12_qPartOf_128 : decode cX12_qPartOf 128 = .ok (.getfield 477, 3) := by decide +kernel
theorem dX12_qPartOf_131 : decode cX12_qPartOf 131 = .ok (.invokevirtual 429, 3) := by decide +kernel
theorem dX12_qPartOf_134 : decode cX12_qPartOf 134 = .ok (.imul, 1) := by decide +kernel
theorem dX12_qPartOf_135 : decode cX12_qPartOf 135 = .ok (.iadd, 1) := by decide +kernel
theorem dX12_qPartOf_136 : decode cX12_qPartOf 136 = .ok (.iaload, 1) := by decide +kernel
theorem dX12_qPartOf_137 : decode cX12_qPartOf 137 = .ok (.i2l, 1) := by decide +kernel
theorem dX12_qPartOf_138 : decode cX12_qPartOf 138 = .ok (.lreturn, 1) := by decide +kernel
theorem dX12_qPartOf_139 : decode cX12_qPartOf 139 = .ok (.aload_n 0, 1) := by decide +kernel
theorem dX12_qPartOf_140 : decode cX12_qPartOf 140 = .ok (.getfield 477, 3) := by decide +kernel
theorem dX12_qPartOf_143 : decode cX12_qPartOf 143 = .ok (.i2l, 1) := by decide +kernel
theorem dX12_qPartOf_144 : decode cX12_qPartOf 144 = .ok (.lreturn, 1) := by decide +kernel
theorem dX12_qPartOf_145 : decode cX12_qPartOf 145 = .ok (.aload_n 0, 1) := by decide +kernel
theorem dX12_qPartOf_146 : decode cX12_qPartOf 146 = .ok (.aload_n 0, 1) := by decide +kernel
theorem dX12_qPartOf_147 : decode cX12_qPartOf 147 = .ok (.getfield 477, 3) := by decide +kernel
theorem dX12_qPartOf_150 : decode cX12_qPartOf 150 = .ok (.invokevirtual 432, 3) := by decide +kernel
theorem dX12_qPartOf_153 : decode cX12_qPartOf 153 = .ok (.ifCond .eq 7, 3) := by decide +kernel
theorem dX12_qPartOf_156 : decode cX12_qPartOf 156 = .ok (.lconst 1, 1) := by decide +kernel
theorem dX12_qPartOf_157 : decode cX12_qPartOf 157 = .ok (.goto 4, 3) := by decide +kernel
theorem dX12_qPartOf_160 : decode cX12_qPartOf 160 = .ok (.lconst 0, 1) := by decide +kernel
theorem dX12_qPartOf_161 : decode cX12_qPartOf 161 = .ok (.lreturn, 1) := by decide +kernel
theorem dX12_qPartOf_162 : decode cX12_qPartOf 162 = .ok (.aload_n 0, 1) := by decide +kernel
theorem dX12_qPartOf_163 : decode cX12_qPartOf 163 = .ok (.getfield 670, 3) := by decide +kernel
theorem dX12_qPartOf_166 : decode cX12_qPartOf 166 = .ok (.aload_n 0, 1) := by decide +kernel
theorem dX12_qPartOf_167 : decode cX12_qPartOf 167 = .ok (.getfield 477, 3) := by decide +kernel
theorem dX12_qPartOf_170 : decode cX12_qPartOf 170 = .ok (.ishr, 1) := by decide +kernel
theorem dX12_qPartOf_171 : decode cX12_qPartOf 171 = .ok (.iconst 1, 1) := by decide +kernel
theorem dX12_qPartOf_172 : decode cX12_qPartOf 172 = .ok (.iand, 1) := by decide +kernel
theorem dX12_qPartOf_173 : decode cX12_qPartOf 173 = .ok (.i2l, 1) := by decide +kernel
theorem dX12_qPartOf_174 : decode cX12_qPartOf 174 = .ok (.lreturn, 1) := by decide +kernel
theorem dX12_qOf_0 : decode cX12_qOf 0 = .ok (.iload_n 1, 1) := by decide +kernel
theorem dX12_qOf_1 : decode cX12_qOf 1 = .ok (.lookupswitch 43 #[(0, 19)], 19) := by decide +kernel
theorem dX12_qOf_20 : decode cX12_qOf 20 = .ok (.aload_n 0, 1) := by decide +kernel
theorem dX12_qOf_21 : decode cX12_qOf 21 = .ok (.lload_n 2, 1) := by decide +kernel
theorem dX12_qOf_22 : decode cX12_qOf 22 = .ok (.invokevirtual 528, 3) := by decide +kernel
theorem dX12_qOf_25 : decode cX12_qOf 25 = .ok (.ifCond .eq 17, 3) := by decide +kernel
theorem dX12_qOf_28 : decode cX12_qOf 28 = .ok (.aload_n 0, 1) := by decide +kernel
theorem dX12_qOf_29 : decode cX12_qOf 29 = .ok (.getfield 142, 3) := by decide +kernel
theorem dX12_qOf_32 : decode cX12_qOf 32 = .ok (.bipush 8, 2) := by decide +kernel
theorem dX12_qOf_34 : decode cX12_qOf 34 = .ok (.lload_n 2, 1) := by decide +kernel
theorem dX12_qOf_35 : decode cX12_qOf 35 = .ok (.l2i, 1) := by decide +kernel
theorem dX12_qOf_36 : decode cX12_qOf 36 = .ok (.iadd, 1) := by decide +kernel
theorem dX12_qOf_37 : decode cX12_qOf 37 = .ok (.iaload, 1) := by decide +kernel
theorem dX12_qOf_38 : decode cX12_qOf 38 = .ok (.i2l, 1) := by decide +kernel
theorem dX12_qOf_39 : decode cX12_qOf 39 = .ok (.goto 4, 3) := by decide +kernel
theorem dX12_qOf_42 : decode cX12_qOf 42 = .ok (.lconst 0, 1) := by decide +kernel
theorem dX12_qOf_43 : decode cX12_qOf 43 = .ok (.lreturn, 1) := by decide +kernel
theorem dX12_qOf_44 : decode cX12_qOf 44 = .ok (.aload_n 0, 1) := by decide +kernel
theorem dX12_qOf_45 : decode cX12_qOf 45 = .ok (.lload_n 2, 1) := by decide +kernel
theorem dX12_qOf_46 : decode cX12_qOf 46 = .ok (.invokevirtual 538, 3) := by decide +kernel
theorem dX12_qOf_49 : decode cX12_qOf 49 = .ok (.ifCond .eq 13, 3) := by decide +kernel
theorem dX12_qOf_52 : decode cX12_qOf 52 = .ok (.aload_n 0, 1) := by decide +kernel
theorem dX12_qOf_53 : decode cX12_qOf 53 = .ok (.lload_n 2, 1) := by decide +kernel
theorem dX12_qOf_54 : decode cX12_qOf 54 = .ok (.l2i, 1) := by decide +kernel
theorem dX12_qOf_55 : decode cX12_qOf 55 = .ok (.invokevirtual 565, 3) := by decide +kernel
theorem dX12_qOf_58 : decode cX12_qOf 58 = .ok (.i2l, 1) := by decide +kernel
theorem dX12_qOf_59 : decode cX12_qOf 59 = .ok (.goto 4, 3) := by decide +kernel
theorem dX12_qOf_62 : decode cX12_qOf 62 = .ok (.lconst 0, 1) := by decide +kernel
theorem dX12_qOf_63 : decode cX12_qOf 63 = .ok (.lreturn, 1) := by decide +kernel
theorem dX12_qTold_0 : decode cX12_qTold 0 = .ok (.aload_n 0, 1) := by decide +kernel
theorem dX12_qTold_1 : decode cX12_qTold 1 = .ok (.iconst 0, 1) := by decide +kernel
theorem dX12_qTold_2 : decode cX12_qTold 2 = .ok (.putfield 440, 3) := by decide +kernel
theorem dX12_qTold_5 : decode cX12_qTold 5 = .ok (.iconst 0, 1) := by decide +kernel
theorem dX12_qTold_6 : decode cX12_qTold 6 = .ok (.istore_n 2, 1) := by decide +kernel
theorem dX12_qTold_7 : decode cX12_qTold 7 = .ok (.iload_n 2, 1) := by decide +kernel
theorem dX12_qTold_8 : decode cX12_qTold 8 = .ok (.aload_n 0, 1) := by decide +kernel
theorem dX12_qTold_9 : decode cX12_qTold 9 = .ok (.getfield 356, 3) := by decide +kernel
theorem dX12_qTold_12 : decode cX12_qTold 12 = .ok (.if_icmp .ge 156, 3) := by decide +kernel
theorem dX12_qTold_15 : decode cX12_qTold 15 = .ok (.aload_n 0, 1) := by decide +kernel
theorem dX12_qTold_16 : decode cX12_qTold 16 = .ok (.getfield 247, 3) := by decide +kernel
theorem dX12_qTold_19 : decode cX12_qTold 19 = .ok (.iload_n 2, 1) := by decide +kernel
theorem dX12_qTold_20 : decode cX12_qTold 20 = .ok (.iaload, 1) := by decide +kernel
theorem dX12_qTold_21 : decode cX12_qTold 21 = .ok (.istore_n 3, 1) := by decide +kernel
theorem dX12_qTold_22 : decode cX12_qTold 22 = .ok (.iload_n 3, 1) := by decide +kernel
theorem dX12_qTold_23 : decode cX12_qTold 23 = .ok (.sipush 1000, 3) := by decide +kernel
theorem dX12_qTold_26 : decode cX12_qTold 26 = .ok (.if_icmp .lt 16, 3) := by decide +kernel
theorem dX12_qTold_29 : decode cX12_qTold 29 = .ok (.aload_n 0, 1) := by decide +kernel
theorem dX12_qTold_30 : decode cX12_qTold 30 = .ok (.iload_n 3, 1) := by decide +kernel
theorem dX12_qTold_31 : decode cX12_qTold 31 = .ok (.sipush 1000, 3) := by decide +kernel
theorem dX12_qTold_34 : decode cX12_qTold 34 = .ok (.isub, 1) := by decide +kernel
theorem dX12_qTold_35 : decode cX12_qTold 35 = .ok (.i2l, 1) := by decide +kernel
theorem dX12_qTold_36 : decode cX12_qTold 36 = .ok (.invokevirtual 443, 3) := by decide +kernel
theorem dX12_qTold_39 : decode cX12_qTold 39 = .ok (.goto 123, 3) := by decide +kernel
theorem dX12_qTold_42 : decode cX12_qTold 42 = .ok (.iload_n 3, 1) := by decide +kernel
theorem dX12_qTold_43 : decode cX12_qTold 43 = .ok (.bipush 60, 2) := by decide +kernel
theorem dX12_qTold_45 : decode cX12_qTold 45 = .ok (.if_icmp .lt 40, 3) := by decide +kernel
theorem dX12_qTold_48 : decode cX12_qTold 48 = .ok (.aload_n 0, 1) := by decide +kernel
theorem dX12_qTold_49 : decode cX12_qTold 49 = .ok (.getfield 253, 3) := by decide +kernel
theorem dX12_qTold_52 : decode cX12_qTold 52 = .ok (.aload_n 0, 1) := by decide +kernel
theorem dX12_qTold_53 : decode cX12_qTold 53 = .ok (.getfield 440, 3) := by decide +kernel
theorem dX12_qTold_56 : decode cX12_qTold 56 = .ok (.iconst 1, 1) := by decide +kernel
theorem dX12_qTold_57 : decode cX12_qTold 57 = .ok (.isub, 1) := by decide +kernel
theorem dX12_qTold_58 : decode cX12_qTold 58 = .ok (.aload_n 0, 1) := by decide +kernel
theorem dX12_qTold_59 : decode cX12_qTold 59 = .ok (.iload_n 3, 1) := by decide +kernel
theorem dX12_qTold_60 : decode cX12_qTold 60 = .ok (.bipush 60, 2) := by decide +kernel
theorem dX12_qTold_62 : decode cX12_qTold 62 = .ok (.isub, 1) := by decide +kernel
theorem dX12_qTold_63 : decode cX12_qTold 63 = .ok (.aload_n 0, 1) := by decide +kernel
theorem dX12_qTold_64 : decode cX12_qTold 64 = .ok (.getfield 253, 3) := by decide +kernel
theorem dX12_qTold_67 : decode cX12_qTold 67 = .ok (.aload_n 0, 1) := by decide +kernel
theorem dX12_qTold_68 : decode cX12_qTold 68 = .ok (.getfield 440, 3) := by decide +kernel
theorem dX12_qTold_71 : decode cX12_qTold 71 = .ok (.iconst 1, 1) := by decide +kernel
theorem dX12_qTold_72 : decode cX12_qTold 72 = .ok (.isub, 1) := by decide +kernel
theorem dX12_qTold_73 : decode cX12_qTold 73 = .ok (.laload, 1) := by decide +kernel
theorem dX12_qTold_74 : decode cX12_qTold 74 = .ok (.iload_n 1, 1) := by decide +kernel
theorem dX12_qTold_75 : decode cX12_qTold 75 = .ok (.invokevirtual 673, 3) := by decide +kernel
theorem dX12_qTold_78 : decode cX12_qTold 78 = .ok (.invokestatic 662, 3) := by decide +kernel
theorem dX12_qTold_81 : decode cX12_qTold 81 = .ok (.lastore, 1) := by decide +kernel
theorem dX12_qTold_82 : decode cX12_qTold 82 = .ok (.goto 80, 3) := by decide +kernel
theorem dX12_qTold_85 : decode cX12_qTold 85 = .ok (.iload_n 3, 1) := by decide +kernel
theorem dX12_qTold_86 : decode cX12_qTold 86 = .ok (.bipush 40, 2) := by decide +kernel
theorem dX12_qTold_88 : decode cX12_qTold 88 = .ok (.if_icmp .lt 22, 3) := by decide +kernel
theorem dX12_qTold_91 : decode cX12_qTold 91 = .ok (.aload_n 0, 1) := by decide +kernel
theorem dX12_qTold_92 : decode cX12_qTold 92 = .ok (.aload_n 0, 1) := by decide +kernel
theorem dX12_qTold_93 : decode cX12_qTold 93 = .ok (.iload_n 3, 1) := by decide +kernel
theorem dX12_qTold_94 : decode cX12_qTold 94 = .ok (.bipush 40, 2) := by decide +kernel
theorem dX12_qTold_96 : decode cX12_qTold 96 = .ok (.isub, 1) := by decide +kernel
theorem dX12_qTold_97 : decode cX12_qTold 97 = .ok (.iload_n 1, 1) := by decide +kernel
theorem dX12_qTold_98 : decode cX12_qTold 98 = .ok (.invokevirtual 447, 3) := by decide +kernel
theorem dX12_qTold_101 : decode cX12_qTold 101 = .ok (.invokestatic 662, 3) := by decide +kernel
theorem dX12_qTold_104 : decode cX12_qTold 104 = .ok (.invokevirtual 443, 3) := by decide +kernel
theorem dX12_qTold_107 : decode cX12_qTold 107 = .ok (.goto 55, 3) := by decide +kernel
theorem dX12_qTold_110 : decode cX12_qTold 110 = .ok (.iload_n 3, 1) := by decide +kernel
theorem dX12_qTold_111 : decode cX12_qTold 111 = .ok (.bipush 13, 2) := by decide +kernel
theorem dX12_qTold_113 : decode cX12_qTold 113 = .ok (.if_icmp .ne 11, 3) := by decide +kernel
theorem dX12_qTold_116 : decode cX12_qTold 116 = .ok (.aload_n 0, 1) := by decide +kernel
theorem dX12_qTold_117 : decode cX12_qTold 117 = .ok (.lconst 1, 1) := by decide +kernel
theorem dX12_qTold_118 : decode cX12_qTold 118 = .ok (.invokevirtual 443, 3) := by decide +kernel
theorem dX12_qTold_121 : decode cX12_qTold 121 = .ok (.goto 41, 3) := by decide +kernel
theorem dX12_qTold_124 : decode cX12_qTold 124 = .ok (.iload_n 3, 1) := by decide +kernel
theorem dX12_qTold_125 : decode cX12_qTold 125 = .ok (.bipush 12, 2) := by decide +kernel
theorem dX12_qTold_127 : decode cX12_qTold 127 = .ok (.if_icmp .ne 30, 3) := by decide +kernel
theorem dX12_qTold_130 : decode cX12_qTold 130 = .ok (.aload_n 0, 1) := by decide +kernel
theorem dX12_qTold_131 : decode cX12_qTold 131 = .ok (.getfield 253, 3) := by decide +kernel
theorem dX12_qTold_134 : decode cX12_qTold 134 = .ok (.aload_n 0, 1) := by decide +kernel
theorem dX12_qTold_135 : decode cX12_qTold 135 = .ok (.getfield 440, 3) := by decide +kernel
theorem dX12_qTold_138 : decode cX12_qTold 138 = .ok (.iconst 1, 1) := by decide +kernel
theorem dX12_qTold_139 : decode cX12_qTold 139 = .ok (.isub, 1) := by decide +kernel
theorem dX12_qTold_140 : decode cX12_qTold 140 = .ok (.lconst 1, 1) := by decide +kernel
theorem dX12_qTold_141 : decode cX12_qTold 141 = .ok (.aload_n 0, 1) := by decide +kernel
theorem dX12_qTold_142 : decode cX12_qTold 142 = .ok (.getfield 253, 3) := by decide +kernel
theorem dX12_qTold_145 : decode cX12_qTold 145 = .ok (.aload_n 0, 1) := by decide +kernel
theorem dX12_qTold_146 : decode cX12_qTold 146 = .ok (.getfield 440, 3) := by decide +kernel
theorem dX12_qTold_149 : decode cX12_qTold 149 = .ok (.iconst 1, 1) := by decide +kernel
theorem dX12_qTold_150 : decode cX12_qTold 150 = .ok (.isub, 1) := by decide +kernel
theorem dX12_qTold_151 : decode cX12_qTold 151 = .ok (.laload, 1) := by decide +kernel
theorem dX12_qTold_152 : decode cX12_qTold 152 = .ok (.lsub, 1) := by decide +kernel
theorem dX12_qTold_153 : decode cX12_qTold 153 = .ok (.lastore, 1) := by decide +kernel
theorem dX12_qTold_154 : decode cX12_qTold 154 = .ok (.goto 8, 3) := by decide +kernel
theorem dX12_qTold_157 : decode cX12_qTold 157 = .ok (.aload_n 0, 1) := by decide +kernel
theorem dX12_qTold_158 : decode cX12_qTold 158 = .ok (.iload_n 3, 1) := by decide +kernel
theorem dX12_qTold_159 : decode cX12_qTold 159 = .ok (.invokevirtual 451, 3) := by decide +kernel
theorem dX12_qTold_162 : decode cX12_qTold 162 = .ok (.iinc 2 1, 3) := by decide +kernel
theorem dX12_qTold_165 : decode cX12_qTold 165 = .ok (.goto (-158), 3) := by decide +kernel
theorem dX12_qTold_168 : decode cX12_qTold 168 = .ok (.aload_n 0, 1) := by decide +kernel
theorem dX12_qTold_169 : decode cX12_qTold 169 = .ok (.getfield 253, 3) := by decide +kernel
theorem dX12_qTold_172 : decode cX12_qTold 172 = .ok (.iconst 0, 1) := by decide +kernel
theorem dX12_qTold_173 : decode cX12_qTold 173 = .ok (.laload, 1) := by decide +kernel
theorem dX12_qTold_174 : decode cX12_qTold 174 = .ok (.lreturn, 1) := by decide +kernel
theorem dX12_qKind_0 : decode cX12_qKind 0 = .ok (.aload_n 0, 1) := by decide +kernel
theorem dX12_qKind_1 : decode cX12_qKind 1 = .ok (.aload_n 0, 1) := by decide +kernel
theorem dX12_qKind_2 : decode cX12_qKind 2 = .ok (.getfield 175, 3) := by decide +kernel
theorem dX12_qKind_5 : decode cX12_qKind 5 = .ok (.invokevirtual 289, 3) := by decide +kernel
theorem dX12_qKind_8 : decode cX12_qKind 8 = .ok (.ifCond .eq 7, 3) := by decide +kernel
theorem dX12_qKind_11 : decode cX12_qKind 11 = .ok (.iconst 0, 1) := by decide +kernel
theorem dX12_qKind_12 : decode cX12_qKind 12 = .ok (.goto 64, 3) := by decide +kernel
theorem dX12_qKind_15 : decode cX12_qKind 15 = .ok (.aload_n 0, 1) := by decide +kernel
theorem dX12_qKind_16 : decode cX12_qKind 16 = .ok (.aload_n 0, 1) := by decide +kernel
theorem dX12_qKind_17 : decode cX12_qKind 17 = .ok (.getfield 178, 3) := by decide +kernel
theorem dX12_qKind_20 : decode cX12_qKind 20 = .ok (.invokevirtual 289, 3) := by decide +kernel
theorem dX12_qKind_23 : decode cX12_qKind 23 = .ok (.ifCond .eq 7, 3) := by decide +kernel
theorem dX12_qKind_26 : decode cX12_qKind 26 = .ok (.iconst 1, 1) := by decide +kernel
theorem dX12_qKind_27 : decode cX12_qKind 27 = .ok (.goto 49, 3) := by decide +kernel
theorem dX12_qKind_30 : decode cX12_qKind 30 = .ok (.aload_n 0, 1) := by decide +kernel
theorem dX12_qKind_31 : decode cX12_qKind 31 = .ok (.aload_n 0, 1) := by decide +kernel
theorem dX12_qKind_32 : decode cX12_qKind 32 = .ok (.getfield 181, 3) := by decide +kernel
theorem dX12_qKind_35 : decode cX12_qKind 35 = .ok (.invokevirtual 289, 3) := by decide +kernel
theorem dX12_qKind_38 : decode cX12_qKind 38 = .ok (.ifCond .eq 7, 3) := by decide +kernel
theorem dX12_qKind_41 : decode cX12_qKind 41 = .ok (.iconst 2, 1) := by decide +kernel
theorem dX12_qKind_42 : decode cX12_qKind 42 = .ok (.goto 34, 3) := by decide +kernel
theorem dX12_qKind_45 : decode cX12_qKind 45 = .ok (.aload_n 0, 1) := by decide +kernel
theorem dX12_qKind_46 : decode cX12_qKind 46 = .ok (.aload_n 0, 1) := by decide +kernel
theorem dX12_qKind_47 : decode cX12_qKind 47 = .ok (.getfield 184, 3) := by decide +kernel
theorem dX12_qKind_50 : decode cX12_qKind 50 = .ok (.invokevirtual 289, 3) := by decide +kernel
theorem dX12_qKind_53 : decode cX12_qKind 53 = .ok (.ifCond .eq 7, 3) := by decide +kernel
theorem dX12_qKind_56 : decode cX12_qKind 56 = .ok (.iconst 3, 1) := by decide +kernel
theorem dX12_qKind_57 : decode cX12_qKind 57 = .ok (.goto 19, 3) := by decide +kernel
theorem dX12_qKind_60 : decode cX12_qKind 60 = .ok (.aload_n 0, 1) := by decide +kernel
theorem dX12_qKind_61 : decode cX12_qKind 61 = .ok (.aload_n 0, 1) := by decide +kernel
theorem dX12_qKind_62 : decode cX12_qKind 62 = .ok (.getfield 187, 3) := by decide +kernel
theorem dX12_qKind_65 : decode cX12_qKind 65 = .ok (.invokevirtual 289, 3) := by decide +kernel
theorem dX12_qKind_68 : decode cX12_qKind 68 = .ok (.ifCond .eq 7, 3) := by decide +kernel
theorem dX12_qKind_71 : decode cX12_qKind 71 = .ok (.iconst 4, 1) := by decide +kernel
theorem dX12_qKind_72 : decode cX12_qKind 72 = .ok (.goto 4, 3) := by decide +kernel
theorem dX12_qKind_75 : decode cX12_qKind 75 = .ok (.iconst 5, 1) := by decide +kernel
theorem dX12_qKind_76 : decode cX12_qKind 76 = .ok (.istore_n 1, 1) := by decide +kernel
theorem dX12_qKind_77 : decode cX12_qKind 77 = .ok (.iload_n 1, 1) := by decide +kernel
theorem dX12_qKind_78 : decode cX12_qKind 78 = .ok (.iconst 5, 1) := by decide +kernel
theorem dX12_qKind_79 : decode cX12_qKind 79 = .ok (.if_icmp .ne 11, 3) := by decide +kernel
theorem dX12_qKind_82 : decode cX12_qKind 82 = .ok (.aload_n 0, 1) := by decide +kernel
theorem dX12_qKind_83 : decode cX12_qKind 83 = .ok (.aload_n 0, 1) := by decide +kernel
theorem dX12_qKind_84 : decode cX12_qKind 84 = .ok (.getfield 190, 3) := by decide +kernel
theorem dX12_qKind_87 : decode cX12_qKind 87 = .ok (.invokevirtual 329, 3) := by decide +kernel
theorem dX12_qKind_90 : decode cX12_qKind 90 = .ok (.iload_n 1, 1) := by decide +kernel
theorem dX12_qKind_91 : decode cX12_qKind 91 = .ok (.ireturn, 1) := by decide +kernel
theorem dX12_qTakes_0 : decode cX12_qTakes 0 = .ok (.iload_n 1, 1) := by decide +kernel
theorem dX12_qTakes_1 : decode cX12_qTakes 1 = .ok (.iconst 3, 1) := by decide +kernel
theorem dX12_qTakes_2 : decode cX12_qTakes 2 = .ok (.if_icmp .ge 13, 3) := by decide +kernel
theorem dX12_qTakes_5 : decode cX12_qTakes 5 = .ok (.lload_n 2, 1) := by decide +kernel
theorem dX12_qTakes_6 : decode cX12_qTakes 6 = .ok (.lconst 1, 1) := by decide +kernel
theorem dX12_qTakes_7 : decode cX12_qTakes 7 = .ok (.lcmp, 1) := by decide +kernel
theorem dX12_qTakes_8 : decode cX12_qTakes 8 = .ok (.ifCond .ne 7, 3) := by decide +kernel
theorem dX12_qTakes_11 : decode cX12_qTakes 11 = .ok (.iconst 1, 1) := by decide +kernel
theorem dX12_qTakes_12 : decode cX12_qTakes 12 = .ok (.goto 4, 3) := by decide +kernel
theorem dX12_qTakes_15 : decode cX12_qTakes 15 = .ok (.iconst 0, 1) := by decide +kernel
theorem dX12_qTakes_16 : decode cX12_qTakes 16 = .ok (.istore 5, 2) := by decide +kernel
theorem dX12_qTakes_18 : decode cX12_qTakes 18 = .ok (.iload_n 1, 1) := by decide +kernel
theorem dX12_qTakes_19 : decode cX12_qTakes 19 = .ok (.ifCond .ne 19, 3) := by decide +kernel
theorem dX12_qTakes_22 : decode cX12_qTakes 22 = .ok (.iload 5, 2) := by decide +kernel
theorem dX12_qTakes_24 : decode cX12_qTakes 24 = .ok (.ifCond .eq 14, 3) := by decide +kernel
theorem dX12_qTakes_27 : decode cX12_qTakes 27 = .ok (.aload_n 0, 1) := by decide +kernel
theorem dX12_qTakes_28 : decode cX12_qTakes 28 = .ok (.getfield 677, 3) := by decide +kernel
theorem dX12_qTakes_31 : decode cX12_qTakes 31 = .ok (.ldc2_w 438, 3) := by decide +kernel
theorem dX12_qTakes_34 : decode cX12_qTakes 34 = .ok (.lcmp, 1) := by decide +kernel
theorem dX12_qTakes_35 : decode cX12_qTakes 35 = .ok (.ifCond .eq 13, 3) := by decide +kernel
theorem dX12_qTakes_38 : decode cX12_qTakes 38 = .ok (.iload_n 1, 1) := by decide +kernel
theorem dX12_qTakes_39 : decode cX12_qTakes 39 = .ok (.iconst 1, 1) := by decide +kernel
theorem dX12_qTakes_40 : decode cX12_qTakes 40 = .ok (.if_icmp .ne 15, 3) := by decide +kernel
theorem dX12_qTakes_43 : decode cX12_qTakes 43 = .ok (.iload 5, 2) := by decide +kernel
theorem dX12_qTakes_45 : decode cX12_qTakes 45 = .ok (.ifCond .eq 10, 3) := by decide +kernel
theorem dX12_qTakes_48 : decode cX12_qTakes 48 = .ok (.aload_n 0, 1) := by decide +kernel
theorem dX12_qTakes_49 : decode cX12_qTakes 49 = .ok (.iload 4, 2) := by decide +kernel
theorem dX12_qTakes_51 : decode cX12_qTakes 51 = .ok (.i2l, 1) := by decide +kernel
theorem dX12_qTakes_52 : decode cX12_qTakes 52 = .ok (.putfield 677, 3) := by decide +kernel
theorem dX12_qTakes_55 : decode cX12_qTakes 55 = .ok (.iload_n 1, 1) := by decide +kernel
theorem dX12_qTakes_56 : decode cX12_qTakes 56 = .ok (.iconst 2, 1) := by decide +kernel
theorem dX12_qTakes_57 : decode cX12_qTakes 57 = .ok (.if_icmp .ne 18, 3) := by decide +kernel
theorem dX12_qTakes_60 : decode cX12_qTakes 60 = .ok (.iload 5, 2) := by decide +kernel
theorem dX12_qTakes_62 : decode cX12_qTakes 62 = .ok (.ifCond .eq 13, 3) := by decide +kernel
theorem dX12_qTakes_65 : decode cX12_qTakes 65 = .ok (.aload_n 0, 1) := by decide +kernel
theorem dX12_qTakes_66 : decode cX12_qTakes 66 = .ok (.dup, 1) := by decide +kernel
theorem dX12_qTakes_67 : decode cX12_qTakes 67 = .ok (.getfield 677, 3) := by decide +kernel
theorem dX12_qTakes_70 : decode cX12_qTakes 70 = .ok (.lconst 1, 1) := by decide +kernel
theorem dX12_qTakes_71 : decode cX12_qTakes 71 = .ok (.ladd, 1) := by decide +kernel
theorem dX12_qTakes_72 : decode cX12_qTakes 72 = .ok (.putfield 677, 3) := by decide +kernel
theorem dX12_qTakes_75 : decode cX12_qTakes 75 = .ok (.iload_n 1, 1) := by decide +kernel
theorem dX12_qTakes_76 : decode cX12_qTakes 76 = .ok (.iconst 3, 1) := by decide +kernel
theorem dX12_qTakes_77 : decode cX12_qTakes 77 = .ok (.if_icmp .ne 13, 3) := by decide +kernel
theorem dX12_qTakes_80 : decode cX12_qTakes 80 = .ok (.aload_n 0, 1) := by decide +kernel
theorem dX12_qTakes_81 : decode cX12_qTakes 81 = .ok (.dup, 1) := by decide +kernel
theorem dX12_qTakes_82 : decode cX12_qTakes 82 = .ok (.getfield 677, 3) := by decide +kernel
theorem dX12_qTakes_85 : decode cX12_qTakes 85 = .ok (.lload_n 2, 1) := by decide +kernel
theorem dX12_qTakes_86 : decode cX12_qTakes 86 = .ok (.ladd, 1) := by decide +kernel
theorem dX12_qTakes_87 : decode cX12_qTakes 87 = .ok (.putfield 677, 3) := by decide +kernel
theorem dX12_qTakes_90 : decode cX12_qTakes 90 = .ok (.iload_n 1, 1) := by decide +kernel
theorem dX12_qTakes_91 : decode cX12_qTakes 91 = .ok (.iconst 3, 1) := by decide +kernel
theorem dX12_qTakes_92 : decode cX12_qTakes 92 = .ok (.if_icmp .le 41, 3) := by decide +kernel
theorem dX12_qTakes_95 : decode cX12_qTakes 95 = .ok (.aload_n 0, 1) := by decide +kernel
theorem dX12_qTakes_96 : decode cX12_qTakes 96 = .ok (.getfield 680, 3) := by decide +kernel
theorem dX12_qTakes_99 : decode cX12_qTakes 99 = .ok (.ifCond .ne 29, 3) := by decide +kernel
theorem dX12_qTakes_102 : decode cX12_qTakes 102 = .ok (.iload_n 1, 1) := by decide +kernel
theorem dX12_qTakes_103 : decode cX12_qTakes 103 = .ok (.iconst 4, 1) := by decide +kernel
theorem dX12_qTakes_104 : decode cX12_qTakes 104 = .ok (.if_icmp .ne 15, 3) := by decide +kernel
theorem dX12_qTakes_107 : decode cX12_qTakes 107 = .ok (.lload_n 2, 1) := by decide +kernel
theorem dX12_qTakes_108 : decode cX12_qTakes 108 = .ok (.aload_n 0, 1) := by decide +kernel
theorem dX12_qTakes_109 : decode cX12_qTakes 109 = .ok (.getfield 677, 3) := by decide +kernel
theorem dX12_qTakes_112 : decode cX12_qTakes 112 = .ok (.lcmp, 1) := by decide +kernel
theorem dX12_qTakes_113 : decode cX12_qTakes 113 = .ok (.ifCond .le 20, 3) := by decide +kernel
theorem dX12_qTakes_116 : decode cX12_qTakes 116 = .ok (.goto 12, 3) := by decide +kernel
theorem dX12_qTakes_119 : decode cX12_qTakes 119 = .ok (.lload_n 2, 1) := by decide +kernel
theorem dX12_qTakes_120 : decode cX12_qTakes 120 = .ok (.aload_n 0, 1) := by decide +kernel
theorem dX12_qTakes_121 : decode cX12_qTakes 121 = .ok (.getfield 677, 3) := by decide +kernel
theorem dX12_qTakes_124 : decode cX12_qTakes 124 = .ok (.lcmp, 1) := by decide +kernel
theorem dX12_qTakes_125 : decode cX12_qTakes 125 = .ok (.ifCond .ge 8, 3) := by decide +kernel
theorem dX12_qTakes_128 : decode cX12_qTakes 128 = .ok (.aload_n 0, 1) := by decide +kernel
theorem dX12_qTakes_129 : decode cX12_qTakes 129 = .ok (.lload_n 2, 1) := by decide +kernel
theorem dX12_qTakes_130 : decode cX12_qTakes 130 = .ok (.putfield 677, 3) := by decide +kernel
theorem dX12_qTakes_133 : decode cX12_qTakes 133 = .ok (.aload_n 0, 1) := by decide +kernel
theorem dX12_qTakes_134 : decode cX12_qTakes 134 = .ok (.iconst 0, 1) := by decide +kernel
theorem dX12_qTakes_135 : decode cX12_qTakes 135 = .ok (.putfield 680, 3) := by decide +kernel
theorem dX12_qTakes_138 : decode cX12_qTakes 138 = .ok (.return_, 1) := by decide +kernel
theorem dX12_ask_0 : decode cX12_ask 0 = .ok (.aload_n 0, 1) := by decide +kernel
theorem dX12_ask_1 : decode cX12_ask 1 = .ok (.getfield 410, 3) := by decide +kernel
theorem dX12_ask_4 : decode cX12_ask 4 = .ok (.ifCond .ne 12, 3) := by decide +kernel
theorem dX12_ask_7 : decode cX12_ask 7 = .ok (.aload_n 0, 1) := by decide +kernel
theorem dX12_ask_8 : decode cX12_ask 8 = .ok (.iconst 0, 1) := by decide +kernel
theorem dX12_ask_9 : decode cX12_ask 9 = .ok (.putfield 259, 3) := by decide +kernel
theorem dX12_ask_12 : decode cX12_ask 12 = .ok (.ldc2_w 683, 3) := by decide +kernel
theorem dX12_ask_15 : decode cX12_ask 15 = .ok (.lreturn, 1) := by decide +kernel
theorem dX12_ask_16 : decode cX12_ask 16 = .ok (.aload_n 0, 1) := by decide +kernel
theorem dX12_ask_17 : decode cX12_ask 17 = .ok (.aload_n 0, 1) := by decide +kernel
theorem dX12_ask_18 : decode cX12_ask 18 = .ok (.getfield 259, 3) := by decide +kernel
theorem dX12_ask_21 : decode cX12_ask 21 = .ok (.putfield 271, 3) := by decide +kernel
theorem dX12_ask_24 : decode cX12_ask 24 = .ok (.aload_n 0, 1) := by decide +kernel
theorem dX12_ask_25 : decode cX12_ask 25 = .ok (.iconst 0, 1) := by decide +kernel
theorem dX12_ask_26 : decode cX12_ask 26 = .ok (.putfield 259, 3) := by decide +kernel
theorem dX12_ask_29 : decode cX12_ask 29 = .ok (.aload_n 0, 1) := by decide +kernel
theorem dX12_ask_30 : decode cX12_ask 30 = .ok (.iconst 0, 1) := by decide +kernel
theorem dX12_ask_31 : decode cX12_ask 31 = .ok (.putfield 268, 3) := by decide +kernel
theorem dX12_ask_34 : decode cX12_ask 34 = .ok (.aload_n 0, 1) := by decide +kernel
theorem dX12_ask_35 : decode cX12_ask 35 = .ok (.iconst (-1), 1) := by decide +kernel
theorem dX12_ask_36 : decode cX12_ask 36 = .ok (.putfield 282, 3) := by decide +kernel
theorem dX12_ask_39 : decode cX12_ask 39 = .ok (.aload_n 0, 1) := by decide +kernel
theorem dX12_ask_40 : decode cX12_ask 40 = .ok (.iconst 0, 1) := by decide +kernel
theorem dX12_ask_41 : decode cX12_ask 41 = .ok (.putfield 262, 3) := by decide +kernel
theorem dX12_ask_44 : decode cX12_ask 44 = .ok (.aload_n 0, 1) := by decide +kernel
theorem dX12_ask_45 : decode cX12_ask 45 = .ok (.iconst (-1), 1) := by decide +kernel
theorem dX12_ask_46 : decode cX12_ask 46 = .ok (.putfield 265, 3) := by decide +kernel
theorem dX12_ask_49 : decode cX12_ask 49 = .ok (.aload_n 0, 1) := by decide +kernel
theorem dX12_ask_50 : decode cX12_ask 50 = .ok (.iconst 3, 1) := by decide +kernel
theorem dX12_ask_51 : decode cX12_ask 51 = .ok (.putfield 320, 3) := by decide +kernel
theorem dX12_ask_54 : decode cX12_ask 54 = .ok (.aload_n 0, 1) := by decide +kernel
theorem dX12_ask_55 : decode cX12_ask 55 = .ok (.iconst 0, 1) := by decide +kernel
theorem dX12_ask_56 : decode cX12_ask 56 = .ok (.putfield 356, 3) := by decide +kernel
theorem dX12_ask_59 : decode cX12_ask 59 = .ok (.aload_n 0, 1) := by decide +kernel
theorem dX12_ask_60 : decode cX12_ask 60 = .ok (.iconst 0, 1) := by decide +kernel
theorem dX12_ask_61 : decode cX12_ask 61 = .ok (.putfield 359, 3) := by decide +kernel
theorem dX12_ask_64 : decode cX12_ask 64 = .ok (.aload_n 0, 1) := by decide +kernel
theorem dX12_ask_65 : decode cX12_ask 65 = .ok (.iconst 0, 1) := by decide +kernel
theorem dX12_ask_66 : decode cX12_ask 66 = .ok (.putfield 362, 3) := by decide +kernel
theorem dX12_ask_69 : decode cX12_ask 69 = .ok (.aload_n 0, 1) := by decide +kernel
theorem dX12_ask_70 : decode cX12_ask 70 = .ok (.iconst 0, 1) := by decide +kernel
theorem dX12_ask_71 : decode cX12_ask 71 = .ok (.putfield 365, 3) := by decide +kernel
theorem dX12_ask_74 : decode cX12_ask 74 = .ok (.aload_n 0, 1) := by decide +kernel
theorem dX12_ask_75 : decode cX12_ask 75 = .ok (.invokevirtual 685, 3) := by decide +kernel
theorem dX12_ask_78 : decode cX12_ask 78 = .ok (.istore_n 1, 1) := by decide +kernel
theorem dX12_ask_79 : decode cX12_ask 79 = .ok (.aload_n 0, 1) := by decide +kernel
theorem dX12_ask_80 : decode cX12_ask 80 = .ok (.getfield 262, 3) := by decide +kernel
theorem dX12_ask_83 : decode cX12_ask 83 = .ok (.ifCond .ne 15, 3) := by decide +kernel
theorem dX12_ask_86 : decode cX12_ask 86 = .ok (.iload_n 1, 1) := by decide +kernel
theorem dX12_ask_87 : decode cX12_ask 87 = .ok (.iconst 3, 1) := by decide +kernel
theorem dX12_ask_88 : decode cX12_ask 88 = .ok (.if_icmp .ge 10, 3) := by decide +kernel
theorem dX12_ask_91 : decode cX12_ask 91 = .ok (.aload_n 0, 1) := by decide +kernel
theorem dX12_ask_92 : decode cX12_ask 92 = .ok (.invokevirtual 368, 3) := by decide +kernel
theorem dX12_ask_95 : decode cX12_ask 95 = .ok (.goto 14, 3) := by decide +kernel
theorem dX12_ask_98 : decode cX12_ask 98 = .ok (.aload_n 0, 1) := by decide +kernel
theorem dX12_ask_99 : decode cX12_ask 99 = .ok (.getfield 262, 3) := by decide +kernel
theorem dX12_ask_102 : decode cX12_ask 102 = .ok (.ifCond .ne 7, 3) := by decide +kernel
theorem dX12_ask_105 : decode cX12_ask 105 = .ok (.aload_n 0, 1) := by decide +kernel
theorem dX12_ask_106 : decode cX12_ask 106 = .ok (.invokevirtual 371, 3) := by decide +kernel
theorem dX12_ask_109 : decode cX12_ask 109 = .ok (.aload_n 0, 1) := by decide +kernel
theorem dX12_ask_110 : decode cX12_ask 110 = .ok (.getfield 262, 3) := by decide +kernel
theorem dX12_ask_113 : decode cX12_ask 113 = .ok (.ifCond .ne 20, 3) := by decide +kernel
theorem dX12_ask_116 : decode cX12_ask 116 = .ok (.aload_n 0, 1) := by decide +kernel
theorem dX12_ask_117 : decode cX12_ask 117 = .ok (.invokevirtual 274, 3) := by decide +kernel
theorem dX12_ask_120 : decode cX12_ask 120 = .ok (.iconst (-1), 1) := by decide +kernel
theorem dX12_ask_121 : decode cX12_ask 121 = .ok (.if_icmp .eq 12, 3) := by decide +kernel
theorem dX12_ask_124 : decode cX12_ask 124 = .ok (.aload_n 0, 1) := by decide +kernel
theorem dX12_ask_125 : decode cX12_ask 125 = .ok (.iconst 1, 1) := by decide +kernel
theorem dX12_ask_126 : decode cX12_ask 126 = .ok (.aload_n 0, 1) := by decide +kernel
theorem dX12_ask_127 : decode cX12_ask 127 = .ok (.getfield 268, 3) := by decide +kernel
theorem dX12_ask_130 : decode cX12_ask 130 = .ok (.invokevirtual 292, 3) := by decide +kernel
theorem dX12_ask_133 : decode cX12_ask 133 = .ok (.aload_n 0, 1) := by decide +kernel
theorem dX12_ask_134 : decode cX12_ask 134 = .ok (.aload_n 0, 1) := by decide +kernel
theorem dX12_ask_135 : decode cX12_ask 135 = .ok (.getfield 262, 3) := by decide +kernel
theorem dX12_ask_138 : decode cX12_ask 138 = .ok (.putfield 401, 3) := by decide +kernel
theorem dX12_ask_141 : decode cX12_ask 141 = .ok (.aload_n 0, 1) := by decide +kernel
theorem dX12_ask_142 : decode cX12_ask 142 = .ok (.aload_n 0, 1) := by decide +kernel
theorem dX12_ask_143 : decode cX12_ask 143 = .ok (.getfield 265, 3) := by decide +kernel
theorem dX12_ask_146 : decode cX12_ask 146 = .ok (.putfield 13, 3) := by decide +kernel
theorem dX12_ask_149 : decode cX12_ask 149 = .ok (.aload_n 0, 1) := by decide +kernel
theorem dX12_ask_150 : decode cX12_ask 150 = .ok (.getfield 262, 3) := by decide +kernel
theorem dX12_ask_153 : decode cX12_ask 153 = .ok (.ifCond .eq 7, 3) := by decide +kernel
theorem dX12_ask_156 : decode cX12_ask 156 = .ok (.ldc2_w 683, 3) := by decide +kernel
theorem dX12_ask_159 : decode cX12_ask 159 = .ok (.lreturn, 1) := by decide +kernel
theorem dX12_ask_160 : decode cX12_ask 160 = .ok (.aload_n 0, 1) := by decide +kernel
theorem dX12_ask_161 : decode cX12_ask 161 = .ok (.iload_n 1, 1) := by decide +kernel
theorem dX12_ask_162 : decode cX12_ask 162 = .ok (.iconst 2, 1) := by decide +kernel
theorem dX12_ask_163 : decode cX12_ask 163 = .ok (.if_icmp .ge 9, 3) := by decide +kernel
theorem dX12_ask_166 : decode cX12_ask 166 = .ok (.ldc2_w 438, 3) := by decide +kernel
theorem dX12_ask_169 : decode cX12_ask 169 = .ok (.goto 4, 3) := by decide +kernel
theorem dX12_ask_172 : decode cX12_ask 172 = .ok (.lconst 0, 1) := by decide +kernel
theorem dX12_ask_173 : decode cX12_ask 173 = .ok (.putfield 677, 3) := by decide +kernel
theorem dX12_ask_176 : decode cX12_ask 176 = .ok (.aload_n 0, 1) := by decide +kernel
theorem dX12_ask_177 : decode cX12_ask 177 = .ok (.iconst 1, 1) := by decide +kernel
theorem dX12_ask_178 : decode cX12_ask 178 = .ok (.putfield 680, 3) := by decide +kernel
theorem dX12_ask_181 : decode cX12_ask 181 = .ok (.aload_n 0, 1) := by decide +kernel
theorem dX12_ask_182 : decode cX12_ask 182 = .ok (.aload_n 0, 1) := by decide +kernel
theorem dX12_ask_183 : decode cX12_ask 183 = .ok (.invokevirtual 480, 3) := by decide +kernel
theorem dX12_ask_186 : decode cX12_ask 186 = .ok (.putfield 670, 3) := by decide +kernel
theorem dX12_ask_189 : decode cX12_ask 189 = .ok (.iconst 0, 1) := by decide +kernel
theorem dX12_ask_190 : decode cX12_ask 190 = .ok (.istore_n 2, 1) := by decide +kernel
theorem dX12_ask_191 : decode cX12_ask 191 = .ok (.iload_n 2, 1) := by decide +kernel
theorem dX12_ask_192 : decode cX12_ask 192 = .ok (.aload_n 0, 1) := by decide +kernel
theorem dX12_ask_193 : decode cX12_ask 193 = .ok (.invokevirtual 426, 3) := by decide +kernel
theorem dX12_ask_196 : decode cX12_ask 196 = .ok (.if_icmp .ge 34, 3) := by decide +kernel
theorem dX12_ask_199 : decode cX12_ask 199 = .ok (.aload_n 0, 1) := by decide +kernel
theorem dX12_ask_200 : decode cX12_ask 200 = .ok (.iload_n 2, 1) := by decide +kernel
theorem dX12_ask_201 : decode cX12_ask 201 = .ok (.putfield 477, 3) := by decide +kernel
theorem dX12_ask_204 : decode cX12_ask 204 = .ok (.aload_n 0, 1) := by decide +kernel
theorem dX12_ask_205 : decode cX12_ask 205 = .ok (.aload_n 0, 1) := by decide +kernel
theorem dX12_ask_206 : decode cX12_ask 206 = .ok (.iload_n 2, 1) := by decide +kernel
theorem dX12_ask_207 : decode cX12_ask 207 = .ok (.invokevirtual 435, 3) := by decide +kernel
theorem dX12_ask_210 : decode cX12_ask 210 = .ok (.putfield 457, 3) := by decide +kernel
theorem dX12_ask_213 : decode cX12_ask 213 = .ok (.aload_n 0, 1) := by decide +kernel
theorem dX12_ask_214 : decode cX12_ask 214 = .ok (.iload_n 1, 1) := by decide +kernel
theorem dX12_ask_215 : decode cX12_ask 215 = .ok (.aload_n 0, 1) := by decide +kernel
theorem dX12_ask_216 : decode cX12_ask 216 = .ok (.iload_n 2, 1) := by decide +kernel
theorem dX12_ask_217 : decode cX12_ask 217 = .ok (.invokevirtual 688, 3) := by decide +kernel
theorem dX12_ask_220 : decode cX12_ask 220 = .ok (.iload_n 2, 1) := by decide +kernel
theorem dX12_ask_221 : decode cX12_ask 221 = .ok (.invokevirtual 691, 3) := by decide +kernel
theorem dX12_ask_224 : decode cX12_ask 224 = .ok (.iinc 2 1, 3) := by decide +kernel
theorem dX12_ask_227 : decode cX12_ask 227 = .ok (.goto (-36), 3) := by decide +kernel
theorem dX12_ask_230 : decode cX12_ask 230 = .ok (.aload_n 0, 1) := by decide +kernel
theorem dX12_ask_231 : decode cX12_ask 231 = .ok (.getfield 677, 3) := by decide +kernel
theorem dX12_ask_234 : decode cX12_ask 234 = .ok (.lreturn, 1) := by decide +kernel
theorem dX12_checked_0 : decode cX12_checked 0 = .ok (.sipush 167, 3) := by decide +kernel
theorem dX12_checked_3 : decode cX12_checked 3 = .ok (.istore_n 2, 1) := by decide +kernel
theorem dX12_checked_4 : decode cX12_checked 4 = .ok (.iconst 0, 1) := by decide +kernel
theorem dX12_checked_5 : decode cX12_checked 5 = .ok (.istore_n 3, 1) := by decide +kernel
theorem dX12_checked_6 : decode cX12_checked 6 = .ok (.iload_n 3, 1) := by decide +kernel
theorem dX12_checked_7 : decode cX12_checked 7 = .ok (.iload_n 1, 1) := by decide +kernel
theorem dX12_checked_8 : decode cX12_checked 8 = .ok (.if_icmp .ge 21, 3) := by decide +kernel
theorem dX12_checked_11 : decode cX12_checked 11 = .ok (.iconst 3, 1) := by decide +kernel
theorem dX12_checked_12 : decode cX12_checked 12 = .ok (.iload_n 2, 1) := by decide +kernel
theorem dX12_checked_13 : decode cX12_checked 13 = .ok (.imul, 1) := by decide +kernel
theorem dX12_checked_14 : decode cX12_checked 14 = .ok (.aload_n 0, 1) := by decide +kernel
theorem dX12_checked_15 : decode cX12_checked 15 = .ok (.iload_n 3, 1) := by decide +kernel
theorem dX12_checked_16 : decode cX12_checked 16 = .ok (.iaload, 1) := by decide +kernel
theorem dX12_checked_17 : decode cX12_checked 17 = .ok (.iadd, 1) := by decide +kernel
theorem dX12_checked_18 : decode cX12_checked 18 = .ok (.sipush 251, 3) := by decide +kernel
theorem dX12_checked_21 : decode cX12_checked 21 = .ok (.irem, 1) := by decide +kernel
theorem dX12_checked_22 : decode cX12_checked 22 = .ok (.istore_n 2, 1) := by decide +kernel
theorem dX12_checked_23 : decode cX12_checked 23 = .ok (.iinc 3 1, 3) := by decide +kernel
theorem dX12_checked_26 : decode cX12_checked 26 = .ok (.goto (-20), 3) := by decide +kernel
theorem dX12_checked_29 : decode cX12_checked 29 = .ok (.iload_n 2, 1) := by decide +kernel
theorem dX12_checked_30 : decode cX12_checked 30 = .ok (.ireturn, 1) := by decide +kernel
theorem dX12_writes_0 : decode cX12_writes 0 = .ok (.aload_n 0, 1) := by decide +kernel
theorem dX12_writes_1 : decode cX12_writes 1 = .ok (.getfield 256, 3) := by decide +kernel
theorem dX12_writes_4 : decode cX12_writes 4 = .ok (.aload_n 0, 1) := by decide +kernel
theorem dX12_writes_5 : decode cX12_writes 5 = .ok (.getfield 695, 3) := by decide +kernel
theorem dX12_writes_8 : decode cX12_writes 8 = .ok (.iload_n 1, 1) := by decide +kernel
theorem dX12_writes_9 : decode cX12_writes 9 = .ok (.iastore, 1) := by decide +kernel
theorem dX12_writes_10 : decode cX12_writes 10 = .ok (.aload_n 0, 1) := by decide +kernel
theorem dX12_writes_11 : decode cX12_writes 11 = .ok (.dup, 1) := by decide +kernel
theorem dX12_writes_12 : decode cX12_writes 12 = .ok (.getfield 695, 3) := by decide +kernel
theorem dX12_writes_15 : decode cX12_writes 15 = .ok (.iconst 1, 1) := by decide +kernel
theorem dX12_writes_16 : decode cX12_writes 16 = .ok (.iadd, 1) := by decide +kernel
theorem dX12_writes_17 : decode cX12_writes 17 = .ok (.putfield 695, 3) := by decide +kernel
theorem dX12_writes_20 : decode cX12_writes 20 = .ok (.return_, 1) := by decide +kernel
theorem dX12_writesTwo_0 : decode cX12_writesTwo 0 = .ok (.aload_n 0, 1) := by decide +kernel
theorem dX12_writesTwo_1 : decode cX12_writesTwo 1 = .ok (.iload_n 1, 1) := by decide +kernel
theorem dX12_writesTwo_2 : decode cX12_writesTwo 2 = .ok (.sipush 256, 3) := by decide +kernel
theorem dX12_writesTwo_5 : decode cX12_writesTwo 5 = .ok (.idiv, 1) := by decide +kernel
theorem dX12_writesTwo_6 : decode cX12_writesTwo 6 = .ok (.invokevirtual 698, 3) := by decide +kernel
theorem dX12_writesTwo_9 : decode cX12_writesTwo 9 = .ok (.aload_n 0, 1) := by decide +kernel
theorem dX12_writesTwo_10 : decode cX12_writesTwo 10 = .ok (.iload_n 1, 1) := by decide +kernel
theorem dX12_writesTwo_11 : decode cX12_writesTwo 11 = .ok (.sipush 256, 3) := by decide +kernel
theorem dX12_writesTwo_14 : decode cX12_writesTwo 14 = .ok (.irem, 1) := by decide +kernel
theorem dX12_writesTwo_15 : decode cX12_writesTwo 15 = .ok (.invokevirtual 698, 3) := by decide +kernel
theorem dX12_writesTwo_18 : decode cX12_writesTwo 18 = .ok (.return_, 1) := by decide +kernel
theorem dX12_twoAt_0 : decode cX12_twoAt 0 = .ok (.sipush 256, 3) := by decide +kernel
theorem dX12_twoAt_3 : decode cX12_twoAt 3 = .ok (.aload_n 0, 1) := by decide +kernel
theorem dX12_twoAt_4 : decode cX12_twoAt 4 = .ok (.getfield 7, 3) := by decide +kernel
theorem dX12_twoAt_7 : decode cX12_twoAt 7 = .ok (.iload_n 1, 1) := by decide +kernel
theorem dX12_twoAt_8 : decode cX12_twoAt 8 = .ok (.iaload, 1) := by decide +kernel
theorem dX12_twoAt_9 : decode cX12_twoAt 9 = .ok (.imul, 1) := by decide +kernel
theorem dX12_twoAt_10 : decode cX12_twoAt 10 = .ok (.aload_n 0, 1) := by decide +kernel
theorem dX12_twoAt_11 : decode cX12_twoAt 11 = .ok (.getfield 7, 3) := by decide +kernel
theorem dX12_twoAt_14 : decode cX12_twoAt 14 = .ok (.iload_n 1, 1) := by decide +kernel
theorem dX12_twoAt_15 : decode cX12_twoAt 15 = .ok (.iconst 1, 1) := by decide +kernel
theorem dX12_twoAt_16 : decode cX12_twoAt 16 = .ok (.iadd, 1) := by decide +kernel
theorem dX12_twoAt_17 : decode cX12_twoAt 17 = .ok (.iaload, 1) := by decide +kernel
theorem dX12_twoAt_18 : decode cX12_twoAt 18 = .ok (.iadd, 1) := by decide +kernel
theorem dX12_twoAt_19 : decode cX12_twoAt 19 = .ok (.ireturn, 1) := by decide +kernel
theorem dX12_octet_0 : decode cX12_octet 0 = .ok (.iload_n 1, 1) := by decide +kernel
theorem dX12_octet_1 : decode cX12_octet 1 = .ok (.ifCond .lt 20, 3) := by decide +kernel
theorem dX12_octet_4 : decode cX12_octet 4 = .ok (.iload_n 1, 1) := by decide +kernel
theorem dX12_octet_5 : decode cX12_octet 5 = .ok (.aload_n 0, 1) := by decide +kernel
theorem dX12_octet_6 : decode cX12_octet 6 = .ok (.getfield 695, 3) := by decide +kernel
theorem dX12_octet_9 : decode cX12_octet 9 = .ok (.if_icmp .ge 12, 3) := by decide +kernel
theorem dX12_octet_12 : decode cX12_octet 12 = .ok (.aload_n 0, 1) := by decide +kernel
theorem dX12_octet_13 : decode cX12_octet 13 = .ok (.getfield 256, 3) := by decide +kernel
theorem dX12_octet_16 : decode cX12_octet 16 = .ok (.iload_n 1, 1) := by decide +kernel
theorem dX12_octet_17 : decode cX12_octet 17 = .ok (.iaload, 1) := by decide +kernel
theorem dX12_octet_18 : decode cX12_octet 18 = .ok (.goto 4, 3) := by decide +kernel
theorem dX12_octet_21 : decode cX12_octet 21 = .ok (.iconst (-1), 1) := by decide +kernel
theorem dX12_octet_22 : decode cX12_octet 22 = .ok (.ireturn, 1) := by decide +kernel
theorem dX12_status_0 : decode cX12_status 0 = .ok (.iload_n 1, 1) := by decide +kernel
theorem dX12_status_1 : decode cX12_status 1 = .ok (.i2l, 1) := by decide +kernel
theorem dX12_status_2 : decode cX12_status 2 = .ok (.lconst 0, 1) := by decide +kernel
theorem dX12_status_3 : decode cX12_status 3 = .ok (.ldc2_w 325, 3) := by decide +kernel
theorem dX12_status_6 : decode cX12_status 6 = .ok (.invokestatic 305, 3) := by decide +kernel
theorem dX12_status_9 : decode cX12_status 9 = .ok (.ifCond .eq 12, 3) := by decide +kernel
theorem dX12_status_12 : decode cX12_status 12 = .ok (.aload_n 0, 1) := by decide +kernel
theorem dX12_status_13 : decode cX12_status 13 = .ok (.getfield 17, 3) := by decide +kernel
theorem dX12_status_16 : decode cX12_status 16 = .ok (.iload_n 1, 1) := by decide +kernel
theorem dX12_status_17 : decode cX12_status 17 = .ok (.iaload, 1) := by decide +kernel
theorem dX12_status_18 : decode cX12_status 18 = .ok (.goto 4, 3) := by decide +kernel
theorem dX12_status_21 : decode cX12_status 21 = .ok (.iconst (-1), 1) := by decide +kernel
theorem dX12_status_22 : decode cX12_status 22 = .ok (.ireturn, 1) := by decide +kernel
theorem dX12_image_0 : decode cX12_image 0 = .ok (.aload_n 0, 1) := by decide +kernel
theorem dX12_image_1 : decode cX12_image 1 = .ok (.iconst 0, 1) := by decide +kernel
theorem dX12_image_2 : decode cX12_image 2 = .ok (.putfield 695, 3) := by decide +kernel
theorem dX12_image_5 : decode cX12_image 5 = .ok (.aload_n 0, 1) := by decide +kernel
theorem dX12_image_6 : decode cX12_image 6 = .ok (.aload_n 0, 1) := by decide +kernel
theorem dX12_image_7 : decode cX12_image 7 = .ok (.getfield 142, 3) := by decide +kernel
theorem dX12_image_10 : decode cX12_image 10 = .ok (.iconst 0, 1) := by decide +kernel
theorem dX12_image_11 : decode cX12_image 11 = .ok (.iaload, 1) := by decide +kernel
theorem dX12_image_12 : decode cX12_image 12 = .ok (.invokevirtual 701, 3) := by decide +kernel
theorem dX12_image_15 : decode cX12_image 15 = .ok (.aload_n 0, 1) := by decide +kernel
theorem dX12_image_16 : decode cX12_image 16 = .ok (.aload_n 0, 1) := by decide +kernel
theorem dX12_image_17 : decode cX12_image 17 = .ok (.getfield 142, 3) := by decide +kernel
theorem dX12_image_20 : decode cX12_image 20 = .ok (.iconst 1, 1) := by decide +kernel
theorem dX12_image_21 : decode cX12_image 21 = .ok (.iaload, 1) := by decide +kernel
theorem dX12_image_22 : decode cX12_image 22 = .ok (.invokevirtual 701, 3) := by decide +kernel
theorem dX12_image_25 : decode cX12_image 25 = .ok (.iconst 0, 1) := by decide +kernel
theorem dX12_image_26 : decode cX12_image 26 = .ok (.istore_n 1, 1) := by decide +kernel
theorem dX12_image_27 : decode cX12_image 27 = .ok (.iload_n 1, 1) := by decide +kernel
theorem dX12_image_28 : decode cX12_image 28 = .ok (.aload_n 0, 1) := by decide +kernel
theorem dX12_image_29 : decode cX12_image 29 = .ok (.invokevirtual 423, 3) := by decide +kernel
theorem dX12_image_32 : decode cX12_image 32 = .ok (.if_icmp .ge 21, 3) := by decide +kernel
theorem dX12_image_35 : decode cX12_image 35 = .ok (.aload_n 0, 1) := by decide +kernel
theorem dX12_image_36 : decode cX12_image 36 = .ok (.aload_n 0, 1) := by decide +kernel
theorem dX12_image_37 : decode cX12_image 37 = .ok (.getfield 142, 3) := by decide +kernel
theorem dX12_image_40 : decode cX12_image 40 = .ok (.iconst 2, 1) := by decide +kernel
theorem dX12_image_41 : decode cX12_image 41 = .ok (.iload_n 1, 1) := by decide +kernel
theorem dX12_image_42 : decode cX12_image 42 = .ok (.iadd, 1) := by decide +kernel
theorem dX12_image_43 : decode cX12_image 43 = .ok (.iaload, 1) := by decide +kernel
theorem dX12_image_44 : decode cX12_image 44 = .ok (.invokevirtual 698, 3) := by decide +kernel
theorem dX12_image_47 : decode cX12_image 47 = .ok (.iinc 1 1, 3) := by decide +kernel
theorem dX12_image_50 : decode cX12_image 50 = .ok (.goto (-23), 3) := by decide +kernel
theorem dX12_image_53 : decode cX12_image 53 = .ok (.iconst 0, 1) := by decide +kernel
theorem dX12_image_54 : decode cX12_image 54 = .ok (.istore_n 1, 1) := by decide +kernel
theorem dX12_image_55 : decode cX12_image 55 = .ok (.iload_n 1, 1) := by decide +kernel
theorem dX12_image_56 : decode cX12_image 56 = .ok (.aload_n 0, 1) := by decide +kernel
theorem dX12_image_57 : decode cX12_image 57 = .ok (.invokevirtual 426, 3) := by decide +kernel
theorem dX12_image_60 : decode cX12_image 60 = .ok (.if_icmp .ge 35, 3) := by decide +kernel
theorem dX12_image_63 : decode cX12_image 63 = .ok (.aload_n 0, 1) := by decide +kernel
theorem dX12_image_64 : decode cX12_image 64 = .ok (.aload_n 0, 1) := by decide +kernel
theorem dX12_image_65 : decode cX12_image 65 = .ok (.getfield 142, 3) := by decide +kernel
theorem dX12_image_68 : decode cX12_image 68 = .ok (.bipush 8, 2) := by decide +kernel
theorem dX12_image_70 : decode cX12_image 70 = .ok (.iload_n 1, 1) := by decide +kernel
theorem dX12_image_71 : decode cX12_image 71 = .ok (.iadd, 1) := by decide +kernel
theorem dX12_image_72 : decode cX12_image 72 = .ok (.iaload, 1) := by decide +kernel
theorem dX12_image_73 : decode cX12_image 73 = .ok (.invokevirtual 698, 3) := by decide +kernel
theorem dX12_image_76 : decode cX12_image 76 = .ok (.aload_n 0, 1) := by decide +kernel
theorem dX12_image_77 : decode cX12_image 77 = .ok (.aload_n 0, 1) := by decide +kernel
theorem dX12_image_78 : decode cX12_image 78 = .ok (.getfield 142, 3) := by decide +kernel
theorem dX12_image_81 : decode cX12_image 81 = .ok (.bipush 16, 2) := by decide +kernel
theorem dX12_image_83 : decode cX12_image 83 = .ok (.iload_n 1, 1) := by decide +kernel
theorem dX12_image_84 : decode cX12_image 84 = .ok (.iadd, 1) := by decide +kernel
theorem dX12_image_85 : decode cX12_image 85 = .ok (.iaload, 1) := by decide +kernel
theorem dX12_image_86 : decode cX12_image 86 = .ok (.invokevirtual 698, 3) := by decide +kernel
theorem dX12_image_89 : decode cX12_image 89 = .ok (.iinc 1 1, 3) := by decide +kernel
theorem dX12_image_92 : decode cX12_image 92 = .ok (.goto (-37), 3) := by decide +kernel
theorem dX12_image_95 : decode cX12_image 95 = .ok (.aload_n 0, 1) := by decide +kernel
theorem dX12_image_96 : decode cX12_image 96 = .ok (.aload_n 0, 1) := by decide +kernel
theorem dX12_image_97 : decode cX12_image 97 = .ok (.getfield 256, 3) := by decide +kernel
theorem dX12_image_100 : decode cX12_image 100 = .ok (.aload_n 0, 1) := by decide +kernel
theorem dX12_image_101 : decode cX12_image 101 = .ok (.getfield 695, 3) := by decide +kernel
theorem dX12_image_104 : decode cX12_image 104 = .ok (.invokestatic 704, 3) := by decide +kernel
theorem dX12_image_107 : decode cX12_image 107 = .ok (.invokevirtual 698, 3) := by decide +kernel
theorem dX12_image_110 : decode cX12_image 110 = .ok (.aload_n 0, 1) := by decide +kernel
theorem dX12_image_111 : decode cX12_image 111 = .ok (.getfield 695, 3) := by decide +kernel
theorem dX12_image_114 : decode cX12_image 114 = .ok (.ireturn, 1) := by decide +kernel
theorem dX12_isImage_0 : decode cX12_isImage 0 = .ok (.iconst 4, 1) := by decide +kernel
theorem dX12_isImage_1 : decode cX12_isImage 1 = .ok (.aload_n 0, 1) := by decide +kernel
theorem dX12_isImage_2 : decode cX12_isImage 2 = .ok (.invokevirtual 423, 3) := by decide +kernel
theorem dX12_isImage_5 : decode cX12_isImage 5 = .ok (.iadd, 1) := by decide +kernel
theorem dX12_isImage_6 : decode cX12_isImage 6 = .ok (.istore_n 2, 1) := by decide +kernel
theorem dX12_isImage_7 : decode cX12_isImage 7 = .ok (.aload_n 0, 1) := by decide +kernel
theorem dX12_isImage_8 : decode cX12_isImage 8 = .ok (.getfield 410, 3) := by decide +kernel
theorem dX12_isImage_11 : decode cX12_isImage 11 = .ok (.ifCond .eq 60, 3) := by decide +kernel
theorem dX12_isImage_14 : decode cX12_isImage 14 = .ok (.iload_n 1, 1) := by decide +kernel
theorem dX12_isImage_15 : decode cX12_isImage 15 = .ok (.iload_n 2, 1) := by decide +kernel
theorem dX12_isImage_16 : decode cX12_isImage 16 = .ok (.iconst 2, 1) := by decide +kernel
theorem dX12_isImage_17 : decode cX12_isImage 17 = .ok (.aload_n 0, 1) := by decide +kernel
theorem dX12_isImage_18 : decode cX12_isImage 18 = .ok (.invokevirtual 426, 3) := by decide +kernel
theorem dX12_isImage_21 : decode cX12_isImage 21 = .ok (.imul, 1) := by decide +kernel
theorem dX12_isImage_22 : decode cX12_isImage 22 = .ok (.iadd, 1) := by decide +kernel
theorem dX12_isImage_23 : decode cX12_isImage 23 = .ok (.iconst 1, 1) := by decide +kernel
theorem dX12_isImage_24 : decode cX12_isImage 24 = .ok (.iadd, 1) := by decide +kernel
theorem dX12_isImage_25 : decode cX12_isImage 25 = .ok (.if_icmp .ne 46, 3) := by decide +kernel
theorem dX12_isImage_28 : decode cX12_isImage 28 = .ok (.aload_n 0, 1) := by decide +kernel
theorem dX12_isImage_29 : decode cX12_isImage 29 = .ok (.getfield 7, 3) := by decide +kernel
theorem dX12_isImage_32 : decode cX12_isImage 32 = .ok (.iload_n 1, 1) := by decide +kernel
theorem dX12_isImage_33 : decode cX12_isImage 33 = .ok (.iconst 1, 1) := by decide +kernel
theorem dX12_isImage_34 : decode cX12_isImage 34 = .ok (.isub, 1) := by decide +kernel
theorem dX12_isImage_35 : decode cX12_isImage 35 = .ok (.iaload, 1) := by decide +kernel
theorem dX12_isImage_36 : decode cX12_isImage 36 = .ok (.aload_n 0, 1) := by decide +kernel
theorem dX12_isImage_37 : decode cX12_isImage 37 = .ok (.getfield 7, 3) := by decide +kernel
theorem dX12_isImage_40 : decode cX12_isImage 40 = .ok (.iload_n 1, 1) := by decide +kernel
theorem dX12_isImage_41 : decode cX12_isImage 41 = .ok (.iconst 1, 1) := by decide +kernel
theorem dX12_isImage_42 : decode cX12_isImage 42 = .ok (.isub, 1) := by decide +kernel
theorem dX12_isImage_43 : decode cX12_isImage 43 = .ok (.invokestatic 704, 3) := by decide +kernel
theorem dX12_isImage_46 : decode cX12_isImage 46 = .ok (.if_icmp .ne 25, 3) := by decide +kernel
theorem dX12_isImage_49 : decode cX12_isImage 49 = .ok (.aload_n 0, 1) := by decide +kernel
theorem dX12_isImage_50 : decode cX12_isImage 50 = .ok (.iconst 0, 1) := by decide +kernel
theorem dX12_isImage_51 : decode cX12_isImage 51 = .ok (.invokevirtual 708, 3) := by decide +kernel
theorem dX12_isImage_54 : decode cX12_isImage 54 = .ok (.sipush 999, 3) := by decide +kernel
theorem dX12_isImage_57 : decode cX12_isImage 57 = .ok (.if_icmp .gt 14, 3) := by decide +kernel
theorem dX12_isImage_60 : decode cX12_isImage 60 = .ok (.aload_n 0, 1) := by decide +kernel
theorem dX12_isImage_61 : decode cX12_isImage 61 = .ok (.iconst 2, 1) := by decide +kernel
theorem dX12_isImage_62 : decode cX12_isImage 62 = .ok (.invokevirtual 708, 3) := by decide +kernel
theorem dX12_isImage_65 : decode cX12_isImage 65 = .ok (.sipush 999, 3) := by decide +kernel
theorem dX12_isImage_68 : decode cX12_isImage 68 = .ok (.if_icmp .le 5, 3) := by decide +kernel
theorem dX12_isImage_71 : decode cX12_isImage 71 = .ok (.iconst 0, 1) := by decide +kernel
theorem dX12_isImage_72 : decode cX12_isImage 72 = .ok (.ireturn, 1) := by decide +kernel
theorem dX12_isImage_73 : decode cX12_isImage 73 = .ok (.iconst 4, 1) := by decide +kernel
theorem dX12_isImage_74 : decode cX12_isImage 74 = .ok (.istore_n 3, 1) := by decide +kernel
theorem dX12_isImage_75 : decode cX12_isImage 75 = .ok (.iload_n 3, 1) := by decide +kernel
theorem dX12_isImage_76 : decode cX12_isImage 76 = .ok (.iload_n 2, 1) := by decide +kernel
theorem dX12_isImage_77 : decode cX12_isImage 77 = .ok (.if_icmp .ge 25, 3) := by decide +kernel
theorem dX12_isImage_80 : decode cX12_isImage 80 = .ok (.aload_n 0, 1) := by decide +kernel
theorem dX12_isImage_81 : decode cX12_isImage 81 = .ok (.aload_n 0, 1) := by decide +kernel
theorem dX12_isImage_82 : decode cX12_isImage 82 = .ok (.getfield 7, 3) := by decide +kernel
theorem dX12_isImage_85 : decode cX12_isImage 85 = .ok (.iload_n 3, 1) := by decide +kernel
theorem dX12_isImage_86 : decode cX12_isImage 86 = .ok (.iaload, 1) := by decide +kernel
theorem dX12_isImage_87 : decode cX12_isImage 87 = .ok (.i2l, 1) := by decide +kernel
theorem dX12_isImage_88 : decode cX12_isImage 88 = .ok (.invokevirtual 538, 3) := by decide +kernel
theorem dX12_isImage_91 : decode cX12_isImage 91 = .ok (.ifCond .ne 5, 3) := by decide +kernel
theorem dX12_isImage_94 : decode cX12_isImage 94 = .ok (.iconst 0, 1) := by decide +kernel
theorem dX12_isImage_95 : decode cX12_isImage 95 = .ok (.ireturn, 1) := by decide +kernel
theorem dX12_isImage_96 : decode cX12_isImage 96 = .ok (.iinc 3 1, 3) := by decide +kernel
theorem dX12_isImage_99 : decode cX12_isImage 99 = .ok (.goto (-24), 3) := by decide +kernel
theorem dX12_isImage_102 : decode cX12_isImage 102 = .ok (.iload_n 2, 1) := by decide +kernel
theorem dX12_isImage_103 : decode cX12_isImage 103 = .ok (.istore_n 3, 1) := by decide +kernel
theorem dX12_isImage_104 : decode cX12_isImage 104 = .ok (.iload_n 3, 1) := by decide +kernel
theorem dX12_isImage_105 : decode cX12_isImage 105 = .ok (.iload_n 1, 1) := by decide +kernel
theorem dX12_isImage_106 : decode cX12_isImage 106 = .ok (.iconst 1, 1) := by decide +kernel
theorem dX12_isImage_107 : decode cX12_isImage 107 = .ok (.isub, 1) := by decide +kernel
theorem dX12_isImage_108 : decode cX12_isImage 108 = .ok (.if_icmp .ge 48, 3) := by decide +kernel
theorem dX12_isImage_111 : decode cX12_isImage 111 = .ok (.aload_n 0, 1) := by decide +kernel
theorem dX12_isImage_112 : decode cX12_isImage 112 = .ok (.getfield 7, 3) := by decide +kernel
theorem dX12_isImage_115 : decode cX12_isImage 115 = .ok (.iload_n 3, 1) := by decide +kernel
theorem dX12_isImage_116 : decode cX12_isImage 116 = .ok (.iaload, 1) := by decide +kernel
theorem dX12_isImage_117 : decode cX12_isImage 117 = .ok (.bipush 99, 2) := by decide +kernel
theorem dX12_isImage_119 : decode cX12_isImage 119 = .ok (.if_icmp .gt 29, 3) := by decide +kernel
theorem dX12_isImage_122 : decode cX12_isImage 122 = .ok (.aload_n 0, 1) := by decide +kernel
theorem dX12_isImage_123 : decode cX12_isImage 123 = .ok (.getfield 7, 3) := by decide +kernel
theorem dX12_isImage_126 : decode cX12_isImage 126 = .ok (.iload_n 3, 1) := by decide +kernel
theorem dX12_isImage_127 : decode cX12_isImage 127 = .ok (.iconst 1, 1) := by decide +kernel
theorem dX12_isImage_128 : decode cX12_isImage 128 = .ok (.iadd, 1) := by decide +kernel
theorem dX12_isImage_129 : decode cX12_isImage 129 = .ok (.iaload, 1) := by decide +kernel
theorem dX12_isImage_130 : decode cX12_isImage 130 = .ok (.aload_n 0, 1) := by decide +kernel
theorem dX12_isImage_131 : decode cX12_isImage 131 = .ok (.getfield 7, 3) := by decide +kernel
theorem dX12_isImage_134 : decode cX12_isImage 134 = .ok (.iload_n 3, 1) := by decide +kernel
theorem dX12_isImage_135 : decode cX12_isImage 135 = .ok (.iaload, 1) := by decide +kernel
theorem dX12_isImage_136 : decode cX12_isImage 136 = .ok (.ifCond .le 8, 3) := by decide +kernel
theorem dX12_isImage_139 : decode cX12_isImage 139 = .ok (.bipush 99, 2) := by decide +kernel
theorem dX12_isImage_141 : decode cX12_isImage 141 = .ok (.goto 4, 3) := by decide +kernel
theorem dX12_isImage_144 : decode cX12_isImage 144 = .ok (.iconst 0, 1) := by decide +kernel
theorem dX12_isImage_145 : decode cX12_isImage 145 = .ok (.if_icmp .le 5, 3) := by decide +kernel
theorem dX12_isImage_148 : decode cX12_isImage 148 = .ok (.iconst 0, 1) := by decide +kernel
theorem dX12_isImage_149 : decode cX12_isImage 149 = .ok (.ireturn, 1) := by decide +kernel
theorem dX12_isImage_150 : decode cX12_isImage 150 = .ok (.iinc 3 2, 3) := by decide +kernel
theorem dX12_isImage_153 : decode cX12_isImage 153 = .ok (.goto (-49), 3) := by decide +kernel
theorem dX12_isImage_156 : decode cX12_isImage 156 = .ok (.iconst 1, 1) := by decide +kernel
theorem dX12_isImage_157 : decode cX12_isImage 157 = .ok (.ireturn, 1) := by decide +kernel
theorem dX12_on_0 : decode cX12_on 0 = .ok (.aload_n 0, 1) := by decide +kernel
theorem dX12_on_1 : decode cX12_on 1 = .ok (.getfield 259, 3) := by decide +kernel
theorem dX12_on_4 : decode cX12_on 4 = .ok (.istore_n 1, 1) := by decide +kernel
theorem dX12_on_5 : decode cX12_on 5 = .ok (.aload_n 0, 1) := by decide +kernel
theorem dX12_on_6 : decode cX12_on 6 = .ok (.iconst 0, 1) := by decide +kernel
theorem dX12_on_7 : decode cX12_on 7 = .ok (.putfield 259, 3) := by decide +kernel
theorem dX12_on_10 : decode cX12_on 10 = .ok (.aload_n 0, 1) := by decide +kernel
theorem dX12_on_11 : decode cX12_on 11 = .ok (.iload_n 1, 1) := by decide +kernel
theorem dX12_on_12 : decode cX12_on 12 = .ok (.invokevirtual 711, 3) := by decide +kernel
theorem dX12_on_15 : decode cX12_on 15 = .ok (.ifCond .ne 9, 3) := by decide +kernel
theorem dX12_on_18 : decode cX12_on 18 = .ok (.aload_n 0, 1) := by decide +kernel
theorem dX12_on_19 : decode cX12_on 19 = .ok (.iconst 5, 1) := by decide +kernel
theorem dX12_on_20 : decode cX12_on 20 = .ok (.invokevirtual 585, 3) := by decide +kernel
theorem dX12_on_23 : decode cX12_on 23 = .ok (.ireturn, 1) := by decide +kernel
theorem dX12_on_24 : decode cX12_on 24 = .ok (.iconst 4, 1) := by decide +kernel
theorem dX12_on_25 : decode cX12_on 25 = .ok (.aload_n 0, 1) := by decide +kernel
theorem dX12_on_26 : decode cX12_on 26 = .ok (.invokevirtual 423, 3) := by decide +kernel
theorem dX12_on_29 : decode cX12_on 29 = .ok (.iadd, 1) := by decide +kernel
theorem dX12_on_30 : decode cX12_on 30 = .ok (.istore_n 2, 1) := by decide +kernel
theorem dX12_on_31 : decode cX12_on 31 = .ok (.aload_n 0, 1) := by decide +kernel
theorem dX12_on_32 : decode cX12_on 32 = .ok (.getfield 142, 3) := by decide +kernel
theorem dX12_on_35 : decode cX12_on 35 = .ok (.iconst 0, 1) := by decide +kernel
theorem dX12_on_36 : decode cX12_on 36 = .ok (.aload_n 0, 1) := by decide +kernel
theorem dX12_on_37 : decode cX12_on 37 = .ok (.iconst 0, 1) := by decide +kernel
theorem dX12_on_38 : decode cX12_on 38 = .ok (.invokevirtual 708, 3) := by decide +kernel
theorem dX12_on_41 : decode cX12_on 41 = .ok (.iastore, 1) := by decide +kernel
theorem dX12_on_42 : decode cX12_on 42 = .ok (.aload_n 0, 1) := by decide +kernel
theorem dX12_on_43 : decode cX12_on 43 = .ok (.getfield 142, 3) := by decide +kernel
theorem dX12_on_46 : decode cX12_on 46 = .ok (.iconst 1, 1) := by decide +kernel
theorem dX12_on_47 : decode cX12_on 47 = .ok (.aload_n 0, 1) := by decide +kernel
theorem dX12_on_48 : decode cX12_on 48 = .ok (.iconst 2, 1) := by decide +kernel
theorem dX12_on_49 : decode cX12_on 49 = .ok (.invokevirtual 708, 3) := by decide +kernel
theorem dX12_on_52 : decode cX12_on 52 = .ok (.iastore, 1) := by decide +kernel
theorem dX12_on_53 : decode cX12_on 53 = .ok (.iconst 0, 1) := by decide +kernel
theorem dX12_on_54 : decode cX12_on 54 = .ok (.istore_n 3, 1) := by decide +kernel
theorem dX12_on_55 : decode cX12_on 55 = .ok (.iload_n 3, 1) := by decide +kernel
theorem dX12_on_56 : decode cX12_on 56 = .ok (.aload_n 0, 1) := by decide +kernel
theorem dX12_on_57 : decode cX12_on 57 = .ok (.invokevirtual 423, 3) := by decide +kernel
theorem dX12_on_60 : decode cX12_on 60 = .ok (.if_icmp .ge 25, 3) := by decide +kernel
theorem dX12_on_63 : decode cX12_on 63 = .ok (.aload_n 0, 1) := by decide +kernel
theorem dX12_on_64 : decode cX12_on 64 = .ok (.getfield 142, 3) := by decide +kernel
theorem dX12_on_67 : decode cX12_on 67 = .ok (.iconst 2, 1) := by decide +kernel
theorem dX12_on_68 : decode cX12_on 68 = .ok (.iload_n 3, 1) := by decide +kernel
theorem dX12_on_69 : decode cX12_on 69 = .ok (.iadd, 1) := by decide +kernel
theorem dX12_on_70 : decode cX12_on 70 = .ok (.aload_n 0, 1) := by decide +kernel
theorem dX12_on_71 : decode cX12_on 71 = .ok (.getfield 7, 3) := by decide +kernel
theorem dX12_on_74 : decode cX12_on 74 = .ok (.iconst 4, 1) := by decide +kernel
theorem dX12_on_75 : decode cX12_on 75 = .ok (.iload_n 3, 1) := by decide +kernel
theorem dX12_on_76 : decode cX12_on 76 = .ok (.iadd, 1) := by decide +kernel
theorem dX12_on_77 : decode cX12_on 77 = .ok (.iaload, 1) := by decide +kernel
theorem dX12_on_78 : decode cX12_on 78 = .ok (.iastore, 1) := by decide +kernel
theorem dX12_on_79 : decode cX12_on 79 = .ok (.iinc 3 1, 3) := by decide +kernel
theorem dX12_on_82 : decode cX12_on 82 = .ok (.goto (-27), 3) := by decide +kernel
theorem dX12_on_85 : decode cX12_on 85 = .ok (.iconst 0, 1) := by decide +kernel
theorem dX12_on_86 : decode cX12_on 86 = .ok (.istore_n 3, 1) := by decide +kernel
theorem dX12_on_87 : decode cX12_on 87 = .ok (.iload_n 3, 1) := by decide +kernel
theorem dX12_on_88 : decode cX12_on 88 = .ok (.aload_n 0, 1) := by decide +kernel
theorem dX12_on_89 : decode cX12_on 89 = .ok (.invokevirtual 426, 3) := by decide +kernel
theorem dX12_on_92 : decode cX12_on 92 = .ok (.if_icmp .ge 49, 3) := by decide +kernel
theorem dX12_on_95 : decode cX12_on 95 = .ok (.aload_n 0, 1) := by decide +kernel
theorem dX12_on_96 : decode cX12_on 96 = .ok (.getfield 142, 3) := by decide +kernel
theorem dX12_on_99 : decode cX12_on 99 = .ok (.bipush 8, 2) := by decide +kernel
theorem dX12_on_101 : decode cX12_on 101 = .ok (.iload_n 3, 1) := by decide +kernel
theorem dX12_on_102 : decode cX12_on 102 = .ok (.iadd, 1) := by decide +kernel
theorem dX12_on_103 : decode cX12_on 103 = .ok (.aload_n 0, 1) := by decide +kernel
theorem dX12_on_104 : decode cX12_on 104 = .ok (.getfield 7, 3) := by decide +kernel
theorem dX12_on_107 : decode cX12_on 107 = .ok (.iload_n 2, 1) := by decide +kernel
theorem dX12_on_108 : decode cX12_on 108 = .ok (.iconst 2, 1) := by decide +kernel
theorem dX12_on_109 : decode cX12_on 109 = .ok (.iload_n 3, 1) := by decide +kernel
theorem dX12_on_110 : decode cX12_on 110 = .ok (.imul, 1) := by decide +kernel
theorem dX12_on_111 : decode cX12_on 111 = .ok (.iadd, 1) := by decide +kernel
theorem dX12_on_112 : decode cX12_on 112 = .ok (.iaload, 1) := by decide +kernel
theorem dX12_on_113 : decode cX12_on 113 = .ok (.iastore, 1) := by decide +kernel
theorem dX12_on_114 : decode cX12_on 114 = .ok (.aload_n 0, 1) := by decide +kernel
theorem dX12_on_115 : decode cX12_on 115 = .ok (.getfield 142, 3) := by decide +kernel
theorem dX12_on_118 : decode cX12_on 118 = .ok (.bipush 16, 2) := by decide +kernel
theorem dX12_on_120 : decode cX12_on 120 = .ok (.iload_n 3, 1) := by decide +kernel
theorem dX12_on_121 : decode cX12_on 121 = .ok (.iadd, 1) := by decide +kernel
theorem dX12_on_122 : decode cX12_on 122 = .ok (.aload_n 0, 1) := by decide +kernel
theorem dX12_on_123 : decode cX12_on 123 = .ok (.getfield 7, 3) := by decide +kernel
theorem dX12_on_126 : decode cX12_on 126 = .ok (.iload_n 2, 1) := by decide +kernel
theorem dX12_on_127 : decode cX12_on 127 = .ok (.iconst 2, 1) := by decide +kernel
theorem dX12_on_128 : decode cX12_on 128 = .ok (.iload_n 3, 1) := by decide +kernel
theorem dX12_on_129 : decode cX12_on 129 = .ok (.imul, 1) := by decide +kernel
theorem dX12_on_130 : decode cX12_on 130 = .ok (.iadd, 1) := by decide +kernel
theorem dX12_on_131 : decode cX12_on 131 = .ok (.iconst 1, 1) := by decide +kernel
theorem dX12_on_132 : decode cX12_on 132 = .ok (.iadd, 1) := by decide +kernel
theorem dX12_on_133 : decode cX12_on 133 = .ok (.iaload, 1) := by decide +kernel
theorem dX12_on_134 : decode cX12_on 134 = .ok (.iastore, 1) := by decide +kernel
theorem dX12_on_135 : decode cX12_on 135 = .ok (.iinc 3 1, 3) := by decide +kernel
theorem dX12_on_138 : decode cX12_on 138 = .ok (.goto (-51), 3) := by decide +kernel
theorem dX12_on_141 : decode cX12_on 141 = .ok (.aload_n 0, 1) := by decide +kernel
theorem dX12_on_142 : decode cX12_on 142 = .ok (.getfield 142, 3) := by decide +kernel
theorem dX12_on_145 : decode cX12_on 145 = .ok (.bipush 24, 2) := by decide +kernel
theorem dX12_on_147 : decode cX12_on 147 = .ok (.iconst 0, 1) := by decide +kernel
theorem dX12_on_148 : decode cX12_on 148 = .ok (.iastore, 1) := by decide +kernel
theorem dX12_on_149 : decode cX12_on 149 = .ok (.aload_n 0, 1) := by decide +kernel
theorem dX12_on_150 : decode cX12_on 150 = .ok (.iconst 0, 1) := by decide +kernel
theorem dX12_on_151 : decode cX12_on 151 = .ok (.putfield 414, 3) := by decide +kernel
theorem dX12_on_154 : decode cX12_on 154 = .ok (.iconst 1, 1) := by decide +kernel
theorem dX12_on_155 : decode cX12_on 155 = .ok (.ireturn, 1) := by decide +kernel
theorem dJ6_bitCount_0f7a4_0 : decode cJ6_bitCount_0f7a4 0 = .ok (.iload_n 0, 1) := by decide +kernel
theorem dJ6_bitCount_0f7a4_1 : decode cJ6_bitCount_0f7a4 1 = .ok (.iload_n 0, 1) := by decide +kernel
theorem dJ6_bitCount_0f7a4_2 : decode cJ6_bitCount_0f7a4 2 = .ok (.iconst 1, 1) := by decide +kernel
theorem dJ6_bitCount_0f7a4_3 : decode cJ6_bitCount_0f7a4 3 = .ok (.iushr, 1) := by decide +kernel
theorem dJ6_bitCount_0f7a4_4 : decode cJ6_bitCount_0f7a4 4 = .ok (.ldc_w 265, 3) := by decide +kernel
theorem dJ6_bitCount_0f7a4_7 : decode cJ6_bitCount_0f7a4 7 = .ok (.iand, 1) := by decide +kernel
theorem dJ6_bitCount_0f7a4_8 : decode cJ6_bitCount_0f7a4 8 = .ok (.isub, 1) := by decide +kernel
theorem dJ6_bitCount_0f7a4_9 : decode cJ6_bitCount_0f7a4 9 = .ok (.istore_n 0, 1) := by decide +kernel
theorem dJ6_bitCount_0f7a4_10 : decode cJ6_bitCount_0f7a4 10 = .ok (.iload_n 0, 1) := by decide +kernel
theorem dJ6_bitCount_0f7a4_11 : decode cJ6_bitCount_0f7a4 11 = .ok (.ldc_w 266, 3) := by decide +kernel
theorem dJ6_bitCount_0f7a4_14 : decode cJ6_bitCount_0f7a4 14 = .ok (.iand, 1) := by decide +kernel
theorem dJ6_bitCount_0f7a4_15 : decode cJ6_bitCount_0f7a4 15 = .ok (.iload_n 0, 1) := by decide +kernel
theorem dJ6_bitCount_0f7a4_16 : decode cJ6_bitCount_0f7a4 16 = .ok (.iconst 2, 1) := by decide +kernel
theorem dJ6_bitCount_0f7a4_17 : decode cJ6_bitCount_0f7a4 17 = .ok (.iushr, 1) := by decide +kernel
theorem dJ6_bitCount_0f7a4_18 : decode cJ6_bitCount_0f7a4 18 = .ok (.ldc_w 266, 3) := by decide +kernel
theorem dJ6_bitCount_0f7a4_21 : decode cJ6_bitCount_0f7a4 21 = .ok (.iand, 1) := by decide +kernel
theorem dJ6_bitCount_0f7a4_22 : decode cJ6_bitCount_0f7a4 22 = .ok (.iadd, 1) := by decide +kernel
theorem dJ6_bitCount_0f7a4_23 : decode cJ6_bitCount_0f7a4 23 = .ok (.istore_n 0, 1) := by decide +kernel
theorem dJ6_bitCount_0f7a4_24 : decode cJ6_bitCount_0f7a4 24 = .ok (.iload_n 0, 1) := by decide +kernel
theorem dJ6_bitCount_0f7a4_25 : decode cJ6_bitCount_0f7a4 25 = .ok (.iload_n 0, 1) := by decide +kernel
theorem dJ6_bitCount_0f7a4_26 : decode cJ6_bitCount_0f7a4 26 = .ok (.iconst 4, 1) := by decide +kernel
theorem dJ6_bitCount_0f7a4_27 : decode cJ6_bitCount_0f7a4 27 = .ok (.iushr, 1) := by decide +kernel
theorem dJ6_bitCount_0f7a4_28 : decode cJ6_bitCount_0f7a4 28 = .ok (.iadd, 1) := by decide +kernel
theorem dJ6_bitCount_0f7a4_29 : decode cJ6_bitCount_0f7a4 29 = .ok (.ldc_w 267, 3) := by decide +kernel
theorem dJ6_bitCount_0f7a4_32 : decode cJ6_bitCount_0f7a4 32 = .ok (.iand, 1) := by decide +kernel
theorem dJ6_bitCount_0f7a4_33 : decode cJ6_bitCount_0f7a4 33 = .ok (.istore_n 0, 1) := by decide +kernel
theorem dJ6_bitCount_0f7a4_34 : decode cJ6_bitCount_0f7a4 34 = .ok (.iload_n 0, 1) := by decide +kernel
theorem dJ6_bitCount_0f7a4_35 : decode cJ6_bitCount_0f7a4 35 = .ok (.iload_n 0, 1) := by decide +kernel
theorem dJ6_bitCount_0f7a4_36 : decode cJ6_bitCount_0f7a4 36 = .ok (.bipush 8, 2) := by decide +kernel
theorem dJ6_bitCount_0f7a4_38 : decode cJ6_bitCount_0f7a4 38 = .ok (.iushr, 1) := by decide +kernel
theorem dJ6_bitCount_0f7a4_39 : decode cJ6_bitCount_0f7a4 39 = .ok (.iadd, 1) := by decide +kernel
theorem dJ6_bitCount_0f7a4_40 : decode cJ6_bitCount_0f7a4 40 = .ok (.istore_n 0, 1) := by decide +kernel
theorem dJ6_bitCount_0f7a4_41 : decode cJ6_bitCount_0f7a4 41 = .ok (.iload_n 0, 1) := by decide +kernel
theorem dJ6_bitCount_0f7a4_42 : decode cJ6_bitCount_0f7a4 42 = .ok (.iload_n 0, 1) := by decide +kernel
theorem dJ6_bitCount_0f7a4_43 : decode cJ6_bitCount_0f7a4 43 = .ok (.bipush 16, 2) := by decide +kernel
theorem dJ6_bitCount_0f7a4_45 : decode cJ6_bitCount_0f7a4 45 = .ok (.iushr, 1) := by decide +kernel
theorem dJ6_bitCount_0f7a4_46 : decode cJ6_bitCount_0f7a4 46 = .ok (.iadd, 1) := by decide +kernel
theorem dJ6_bitCount_0f7a4_47 : decode cJ6_bitCount_0f7a4 47 = .ok (.istore_n 0, 1) := by decide +kernel
theorem dJ6_bitCount_0f7a4_48 : decode cJ6_bitCount_0f7a4 48 = .ok (.iload_n 0, 1) := by decide +kernel
theorem dJ6_bitCount_0f7a4_49 : decode cJ6_bitCount_0f7a4 49 = .ok (.bipush 63, 2) := by decide +kernel
theorem dJ6_bitCount_0f7a4_51 : decode cJ6_bitCount_0f7a4 51 = .ok (.iand, 1) := by decide +kernel
theorem dJ6_bitCount_0f7a4_52 : decode cJ6_bitCount_0f7a4 52 = .ok (.ireturn, 1) := by decide +kernel
theorem dJ9_floorDiv_7cf53_0 : decode cJ9_floorDiv_7cf53 0 = .ok (.iload_n 0, 1) := by decide +kernel
theorem dJ9_floorDiv_7cf53_1 : decode cJ9_floorDiv_7cf53 1 = .ok (.iload_n 1, 1) := by decide +kernel
theorem dJ9_floorDiv_7cf53_2 : decode cJ9_floorDiv_7cf53 2 = .ok (.idiv, 1) := by decide +kernel
theorem dJ9_floorDiv_7cf53_3 : decode cJ9_floorDiv_7cf53 3 = .ok (.istore_n 2, 1) := by decide +kernel
theorem dJ9_floorDiv_7cf53_4 : decode cJ9_floorDiv_7cf53 4 = .ok (.iload_n 0, 1) := by decide +kernel
theorem dJ9_floorDiv_7cf53_5 : decode cJ9_floorDiv_7cf53 5 = .ok (.iload_n 1, 1) := by decide +kernel
theorem dJ9_floorDiv_7cf53_6 : decode cJ9_floorDiv_7cf53 6 = .ok (.ixor, 1) := by decide +kernel
theorem dJ9_floorDiv_7cf53_7 : decode cJ9_floorDiv_7cf53 7 = .ok (.ifCond .ge 14, 3) := by decide +kernel
theorem dJ9_floorDiv_7cf53_10 : decode cJ9_floorDiv_7cf53 10 = .ok (.iload_n 2, 1) := by decide +kernel
theorem dJ9_floorDiv_7cf53_11 : decode cJ9_floorDiv_7cf53 11 = .ok (.iload_n 1, 1) := by decide +kernel
theorem dJ9_floorDiv_7cf53_12 : decode cJ9_floorDiv_7cf53 12 = .ok (.imul, 1) := by decide +kernel
theorem dJ9_floorDiv_7cf53_13 : decode cJ9_floorDiv_7cf53 13 = .ok (.iload_n 0, 1) := by decide +kernel
theorem dJ9_floorDiv_7cf53_14 : decode cJ9_floorDiv_7cf53 14 = .ok (.if_icmp .eq 7, 3) := by decide +kernel
theorem dJ9_floorDiv_7cf53_17 : decode cJ9_floorDiv_7cf53 17 = .ok (.iload_n 2, 1) := by decide +kernel
theorem dJ9_floorDiv_7cf53_18 : decode cJ9_floorDiv_7cf53 18 = .ok (.iconst 1, 1) := by decide +kernel
theorem dJ9_floorDiv_7cf53_19 : decode cJ9_floorDiv_7cf53 19 = .ok (.isub, 1) := by decide +kernel
theorem dJ9_floorDiv_7cf53_20 : decode cJ9_floorDiv_7cf53 20 = .ok (.ireturn, 1) := by decide +kernel
theorem dJ9_floorDiv_7cf53_21 : decode cJ9_floorDiv_7cf53 21 = .ok (.iload_n 2, 1) := by decide +kernel
theorem dJ9_floorDiv_7cf53_22 : decode cJ9_floorDiv_7cf53 22 = .ok (.ireturn, 1) := by decide +kernel
theorem dJ9_max_7cf53_0 : decode cJ9_max_7cf53 0 = .ok (.iload_n 0, 1) := by decide +kernel
theorem dJ9_max_7cf53_1 : decode cJ9_max_7cf53 1 = .ok (.iload_n 1, 1) := by decide +kernel
theorem dJ9_max_7cf53_2 : decode cJ9_max_7cf53 2 = .ok (.if_icmp .lt 7, 3) := by decide +kernel
theorem dJ9_max_7cf53_5 : decode cJ9_max_7cf53 5 = .ok (.iload_n 0, 1) := by decide +kernel
theorem dJ9_max_7cf53_6 : decode cJ9_max_7cf53 6 = .ok (.goto 4, 3) := by decide +kernel
theorem dJ9_max_7cf53_9 : decode cJ9_max_7cf53 9 = .ok (.iload_n 1, 1) := by decide +kernel
theorem dJ9_max_7cf53_10 : decode cJ9_max_7cf53 10 = .ok (.ireturn, 1) := by decide +kernel
theorem dJ9_min_7cf53_0 : decode cJ9_min_7cf53 0 = .ok (.iload_n 0, 1) := by decide +kernel
theorem dJ9_min_7cf53_1 : decode cJ9_min_7cf53 1 = .ok (.iload_n 1, 1) := by decide +kernel
theorem dJ9_min_7cf53_2 : decode cJ9_min_7cf53 2 = .ok (.if_icmp .gt 7, 3) := by decide +kernel
theorem dJ9_min_7cf53_5 : decode cJ9_min_7cf53 5 = .ok (.iload_n 0, 1) := by decide +kernel
theorem dJ9_min_7cf53_6 : decode cJ9_min_7cf53 6 = .ok (.goto 4, 3) := by decide +kernel
theorem dJ9_min_7cf53_9 : decode cJ9_min_7cf53 9 = .ok (.iload_n 1, 1) := by decide +kernel
theorem dJ9_min_7cf53_10 : decode cJ9_min_7cf53 10 = .ok (.ireturn, 1) := by decide +kernel
theorem dJ0_length_8abf5_0 : decode cJ0_length_8abf5 0 = .ok (.aload_n 0, 1) := by decide +kernel
theorem dJ0_length_8abf5_1 : decode cJ0_length_8abf5 1 = .ok (.getfield 9, 3) := by decide +kernel
theorem dJ0_length_8abf5_4 : decode cJ0_length_8abf5 4 = .ok (.arraylength, 1) := by decide +kernel
theorem dJ0_length_8abf5_5 : decode cJ0_length_8abf5 5 = .ok (.aload_n 0, 1) := by decide +kernel
theorem dJ0_length_8abf5_6 : decode cJ0_length_8abf5 6 = .ok (.invokevirtual 335, 3) := by decide +kernel
theorem dJ0_length_8abf5_9 : decode cJ0_length_8abf5 9 = .ok (.ishr, 1) := by decide +kernel
theorem dJ0_length_8abf5_10 : decode cJ0_length_8abf5 10 = .ok (.ireturn, 1) := by decide +kernel
theorem dJ0_charAt_5068e_0 : decode cJ0_charAt_5068e 0 = .ok (.aload_n 0, 1) := by decide +kernel
theorem dJ0_charAt_5068e_1 : decode cJ0_charAt_5068e 1 = .ok (.invokevirtual 492, 3) := by decide +kernel
theorem dJ0_charAt_5068e_4 : decode cJ0_charAt_5068e 4 = .ok (.ifCond .eq 12, 3) := by decide +kernel
theorem dJ0_charAt_5068e_7 : decode cJ0_charAt_5068e 7 = .ok (.aload_n 0, 1) := by decide +kernel
theorem dJ0_charAt_5068e_8 : decode cJ0_charAt_5068e 8 = .ok (.getfield 9, 3) := by decide +kernel
theorem dJ0_charAt_5068e_11 : decode cJ0_charAt_5068e 11 = .ok (.iload_n 1, 1) := by decide +kernel
theorem dJ0_charAt_5068e_12 : decode cJ0_charAt_5068e 12 = .ok (.invokestatic 495, 3) := by decide +kernel
theorem dJ0_charAt_5068e_15 : decode cJ0_charAt_5068e 15 = .ok (.ireturn, 1) := by decide +kernel
theorem dJ0_charAt_5068e_16 : decode cJ0_charAt_5068e 16 = .ok (.aload_n 0, 1) := by decide +kernel
theorem dJ0_charAt_5068e_17 : decode cJ0_charAt_5068e 17 = .ok (.getfield 9, 3) := by decide +kernel
theorem dJ0_charAt_5068e_20 : decode cJ0_charAt_5068e 20 = .ok (.iload_n 1, 1) := by decide +kernel
theorem dJ0_charAt_5068e_21 : decode cJ0_charAt_5068e 21 = .ok (.invokestatic 498, 3) := by decide +kernel
theorem dJ0_charAt_5068e_24 : decode cJ0_charAt_5068e 24 = .ok (.ireturn, 1) := by decide +kernel
theorem dJ0_coder_7d493_0 : decode cJ0_coder_7d493 0 = .ok (.getstatic 38, 3) := by decide +kernel
theorem dJ0_coder_7d493_3 : decode cJ0_coder_7d493 3 = .ok (.ifCond .eq 10, 3) := by decide +kernel
theorem dJ0_coder_7d493_6 : decode cJ0_coder_7d493 6 = .ok (.aload_n 0, 1) := by decide +kernel
theorem dJ0_coder_7d493_7 : decode cJ0_coder_7d493 7 = .ok (.getfield 15, 3) := by decide +kernel
theorem dJ0_coder_7d493_10 : decode cJ0_coder_7d493 10 = .ok (.goto 4, 3) := by decide +kernel
theorem dJ0_coder_7d493_13 : decode cJ0_coder_7d493 13 = .ok (.iconst 1, 1) := by decide +kernel
theorem dJ0_coder_7d493_14 : decode cJ0_coder_7d493 14 = .ok (.ireturn, 1) := by decide +kernel
theorem dJ0_isLatin1_aae02_0 : decode cJ0_isLatin1_aae02 0 = .ok (.getstatic 38, 3) := by decide +kernel
theorem dJ0_isLatin1_aae02_3 : decode cJ0_isLatin1_aae02 3 = .ok (.ifCond .eq 14, 3) := by decide +kernel
theorem dJ0_isLatin1_aae02_6 : decode cJ0_isLatin1_aae02 6 = .ok (.aload_n 0, 1) := by decide +kernel
theorem dJ0_isLatin1_aae02_7 : decode cJ0_isLatin1_aae02 7 = .ok (.getfield 15, 3) := by decide +kernel
theorem dJ0_isLatin1_aae02_10 : decode cJ0_isLatin1_aae02 10 = .ok (.ifCond .ne 7, 3) := by decide +kernel
theorem dJ0_isLatin1_aae02_13 : decode cJ0_isLatin1_aae02 13 = .ok (.iconst 1, 1) := by decide +kernel
theorem dJ0_isLatin1_aae02_14 : decode cJ0_isLatin1_aae02 14 = .ok (.goto 4, 3) := by decide +kernel
theorem dJ0_isLatin1_aae02_17 : decode cJ0_isLatin1_aae02 17 = .ok (.iconst 0, 1) := by decide +kernel
theorem dJ0_isLatin1_aae02_18 : decode cJ0_isLatin1_aae02 18 = .ok (.ireturn, 1) := by decide +kernel
theorem dJ0_checkIndex_df160_0 : decode cJ0_checkIndex_df160 0 = .ok (.iload_n 0, 1) := by decide +kernel
theorem dJ0_checkIndex_df160_1 : decode cJ0_checkIndex_df160 1 = .ok (.iload_n 1, 1) := by decide +kernel
theorem dJ0_checkIndex_df160_2 : decode cJ0_checkIndex_df160 2 = .ok (.getstatic 1053, 3) := by decide +kernel
theorem dJ0_checkIndex_df160_5 : decode cJ0_checkIndex_df160 5 = .ok (.invokestatic 1059, 3) := by decide +kernel
theorem dJ0_checkIndex_df160_8 : decode cJ0_checkIndex_df160 8 = .ok (.pop, 1) := by decide +kernel
theorem dJ0_checkIndex_df160_9 : decode cJ0_checkIndex_df160 9 = .ok (.return_, 1) := by decide +kernel
theorem dJ1_charAt_3b067_0 : decode cJ1_charAt_3b067 0 = .ok (.iload_n 1, 1) := by decide +kernel
theorem dJ1_charAt_3b067_1 : decode cJ1_charAt_3b067 1 = .ok (.aload_n 0, 1) := by decide +kernel
theorem dJ1_charAt_3b067_2 : decode cJ1_charAt_3b067 2 = .ok (.arraylength, 1) := by decide +kernel
theorem dJ1_charAt_3b067_3 : decode cJ1_charAt_3b067 3 = .ok (.invokestatic 9, 3) := by decide +kernel
theorem dJ1_charAt_3b067_6 : decode cJ1_charAt_3b067 6 = .ok (.aload_n 0, 1) := by decide +kernel
theorem dJ1_charAt_3b067_7 : decode cJ1_charAt_3b067 7 = .ok (.iload_n 1, 1) := by decide +kernel
theorem dJ1_charAt_3b067_8 : decode cJ1_charAt_3b067 8 = .ok (.baload, 1) := by decide +kernel
theorem dJ1_charAt_3b067_9 : decode cJ1_charAt_3b067 9 = .ok (.sipush 255, 3) := by decide +kernel
theorem dJ1_charAt_3b067_12 : decode cJ1_charAt_3b067 12 = .ok (.iand, 1) := by decide +kernel
theorem dJ1_charAt_3b067_13 : decode cJ1_charAt_3b067 13 = .ok (.i2c, 1) := by decide +kernel
theorem dJ1_charAt_3b067_14 : decode cJ1_charAt_3b067 14 = .ok (.ireturn, 1) := by decide +kernel
theorem dJ2_getChar_3b067_0 : decode cJ2_getChar_3b067 0 = .ok (.getstatic 44, 3) := by decide +kernel
theorem dJ2_getChar_3b067_3 : decode cJ2_getChar_3b067 3 = .ok (.ifCond .ne 25, 3) := by decide +kernel
theorem dJ2_getChar_3b067_6 : decode cJ2_getChar_3b067 6 = .ok (.iload_n 1, 1) := by decide +kernel
theorem dJ2_getChar_3b067_7 : decode cJ2_getChar_3b067 7 = .ok (.ifCond .lt 11, 3) := by decide +kernel
theorem dJ2_getChar_3b067_10 : decode cJ2_getChar_3b067 10 = .ok (.iload_n 1, 1) := by decide +kernel
theorem dJ2_getChar_3b067_11 : decode cJ2_getChar_3b067 11 = .ok (.aload_n 0, 1) := by decide +kernel
theorem dJ2_getChar_3b067_12 : decode cJ2_getChar_3b067 12 = .ok (.invokestatic 48, 3) := by decide +kernel
theorem dJ2_getChar_3b067_15 : decode cJ2_getChar_3b067 15 = .ok (.if_icmp .lt 13, 3) := by decide +kernel
theorem dJ2_getChar_3b067_18 : decode cJ2_getChar_3b067 18 = .ok (.new 52, 3) := by decide +kernel
theorem dJ2_getChar_3b067_21 : decode cJ2_getChar_3b067 21 = .ok (.dup, 1) := by decide +kernel
theorem dJ2_getChar_3b067_22 : decode cJ2_getChar_3b067 22 = .ok (.ldc 54, 2) := by decide +kernel
theorem dJ2_getChar_3b067_24 : decode cJ2_getChar_3b067 24 = .ok (.invokespecial 56, 3) := by decide +kernel
theorem dJ2_getChar_3b067_27 : decode cJ2_getChar_3b067 27 = .ok (.athrow, 1) := by decide +kernel
theorem dJ2_getChar_3b067_28 : decode cJ2_getChar_3b067 28 = .ok (.iload_n 1, 1) := by decide +kernel
theorem dJ2_getChar_3b067_29 : decode cJ2_getChar_3b067 29 = .ok (.iconst 1, 1) := by decide +kernel
theorem dJ2_getChar_3b067_30 : decode cJ2_getChar_3b067 30 = .ok (.ishl, 1) := by decide +kernel
theorem dJ2_getChar_3b067_31 : decode cJ2_getChar_3b067 31 = .ok (.istore_n 1, 1) := by decide +kernel
theorem dJ2_getChar_3b067_32 : decode cJ2_getChar_3b067 32 = .ok (.aload_n 0, 1) := by decide +kernel
theorem dJ2_getChar_3b067_33 : decode cJ2_getChar_3b067 33 = .ok (.iload_n 1, 1) := by decide +kernel
theorem dJ2_getChar_3b067_34 : decode cJ2_getChar_3b067 34 = .ok (.iinc 1 1, 3) := by decide +kernel
theorem dJ2_getChar_3b067_37 : decode cJ2_getChar_3b067 37 = .ok (.baload, 1) := by decide +kernel
theorem dJ2_getChar_3b067_38 : decode cJ2_getChar_3b067 38 = .ok (.sipush 255, 3) := by decide +kernel
theorem dJ2_getChar_3b067_41 : decode cJ2_getChar_3b067 41 = .ok (.iand, 1) := by decide +kernel
theorem dJ2_getChar_3b067_42 : decode cJ2_getChar_3b067 42 = .ok (.getstatic 59, 3) := by decide +kernel
theorem dJ2_getChar_3b067_45 : decode cJ2_getChar_3b067 45 = .ok (.ishl, 1) := by decide +kernel
theorem dJ2_getChar_3b067_46 : decode cJ2_getChar_3b067 46 = .ok (.aload_n 0, 1) := by decide +kernel
theorem dJ2_getChar_3b067_47 : decode cJ2_getChar_3b067 47 = .ok (.iload_n 1, 1) := by decide +kernel
theorem dJ2_getChar_3b067_48 : decode cJ2_getChar_3b067 48 = .ok (.baload, 1) := by decide +kernel
theorem dJ2_getChar_3b067_49 : decode cJ2_getChar_3b067 49 = .ok (.sipush 255, 3) := by decide +kernel
theorem dJ2_getChar_3b067_52 : decode cJ2_getChar_3b067 52 = .ok (.iand, 1) := by decide +kernel
theorem dJ2_getChar_3b067_53 : decode cJ2_getChar_3b067 53 = .ok (.getstatic 63, 3) := by decide +kernel
theorem dJ2_getChar_3b067_56 : decode cJ2_getChar_3b067 56 = .ok (.ishl, 1) := by decide +kernel
theorem dJ2_getChar_3b067_57 : decode cJ2_getChar_3b067 57 = .ok (.ior, 1) := by decide +kernel
theorem dJ2_getChar_3b067_58 : decode cJ2_getChar_3b067 58 = .ok (.i2c, 1) := by decide +kernel
theorem dJ2_getChar_3b067_59 : decode cJ2_getChar_3b067 59 = .ok (.ireturn, 1) := by decide +kernel
theorem dJ2_length_9d52b_0 : decode cJ2_length_9d52b 0 = .ok (.aload_n 0, 1) := by decide +kernel
theorem dJ2_length_9d52b_1 : decode cJ2_length_9d52b 1 = .ok (.arraylength, 1) := by decide +kernel
theorem dJ2_length_9d52b_2 : decode cJ2_length_9d52b 2 = .ok (.iconst 1, 1) := by decide +kernel
theorem dJ2_length_9d52b_3 : decode cJ2_length_9d52b 3 = .ok (.ishr, 1) := by decide +kernel
theorem dJ2_length_9d52b_4 : decode cJ2_length_9d52b 4 = .ok (.ireturn, 1) := by decide +kernel
theorem dJ2_charAt_3b067_0 : decode cJ2_charAt_3b067 0 = .ok (.iload_n 1, 1) := by decide +kernel
theorem dJ2_charAt_3b067_1 : decode cJ2_charAt_3b067 1 = .ok (.aload_n 0, 1) := by decide +kernel
theorem dJ2_charAt_3b067_2 : decode cJ2_charAt_3b067 2 = .ok (.invokestatic 67, 3) := by decide +kernel
theorem dJ2_charAt_3b067_5 : decode cJ2_charAt_3b067 5 = .ok (.aload_n 0, 1) := by decide +kernel
theorem dJ2_charAt_3b067_6 : decode cJ2_charAt_3b067 6 = .ok (.iload_n 1, 1) := by decide +kernel
theorem dJ2_charAt_3b067_7 : decode cJ2_charAt_3b067 7 = .ok (.invokestatic 71, 3) := by decide +kernel
theorem dJ2_charAt_3b067_10 : decode cJ2_charAt_3b067 10 = .ok (.ireturn, 1) := by decide +kernel
theorem dJ2_checkIndex_2214a_0 : decode cJ2_checkIndex_2214a 0 = .ok (.iload_n 0, 1) := by decide +kernel
theorem dJ2_checkIndex_2214a_1 : decode cJ2_checkIndex_2214a 1 = .ok (.aload_n 1, 1) := by decide +kernel
theorem dJ2_checkIndex_2214a_2 : decode cJ2_checkIndex_2214a 2 = .ok (.invokestatic 48, 3) := by decide +kernel
theorem dJ2_checkIndex_2214a_5 : decode cJ2_checkIndex_2214a 5 = .ok (.invokestatic 414, 3) := by decide +kernel
theorem dJ2_checkIndex_2214a_8 : decode cJ2_checkIndex_2214a 8 = .ok (.return_, 1) := by decide +kernel
theorem dJ3_checkIndex_8e157_0 : decode cJ3_checkIndex_8e157 0 = .ok (.iload_n 0, 1) := by decide +kernel
theorem dJ3_checkIndex_8e157_1 : decode cJ3_checkIndex_8e157 1 = .ok (.ifCond .lt 8, 3) := by decide +kernel
theorem dJ3_checkIndex_8e157_4 : decode cJ3_checkIndex_8e157 4 = .ok (.iload_n 0, 1) := by decide +kernel
theorem dJ3_checkIndex_8e157_5 : decode cJ3_checkIndex_8e157 5 = .ok (.iload_n 1, 1) := by decide +kernel
theorem dJ3_checkIndex_8e157_6 : decode cJ3_checkIndex_8e157 6 = .ok (.if_icmp .lt 10, 3) := by decide +kernel
theorem dJ3_checkIndex_8e157_9 : decode cJ3_checkIndex_8e157 9 = .ok (.aload_n 2, 1) := by decide +kernel
theorem dJ3_checkIndex_8e157_10 : decode cJ3_checkIndex_8e157 10 = .ok (.iload_n 0, 1) := by decide +kernel
theorem dJ3_checkIndex_8e157_11 : decode cJ3_checkIndex_8e157 11 = .ok (.iload_n 1, 1) := by decide +kernel
theorem dJ3_checkIndex_8e157_12 : decode cJ3_checkIndex_8e157 12 = .ok (.invokestatic 95, 3) := by decide +kernel
theorem dJ3_checkIndex_8e157_15 : decode cJ3_checkIndex_8e157 15 = .ok (.athrow, 1) := by decide +kernel
theorem dJ3_checkIndex_8e157_16 : decode cJ3_checkIndex_8e157 16 = .ok (.iload_n 0, 1) := by decide +kernel
theorem dJ3_checkIndex_8e157_17 : decode cJ3_checkIndex_8e157 17 = .ok (.ireturn, 1) := by decide +kernel
theorem dL_law_0 : decode cL_law 0 = .ok (.new 7, 3) := by decide +kernel
theorem dL_law_3 : decode cL_law 3 = .ok (.dup, 1) := by decide +kernel
theorem dL_law_4 : decode cL_law 4 = .ok (.invokespecial 9, 3) := by decide +kernel
theorem dL_law_7 : decode cL_law 7 = .ok (.astore_n 1, 1) := by decide +kernel
theorem dL_law_8 : decode cL_law 8 = .ok (.new 10, 3) := by decide +kernel
theorem dL_law_11 : decode cL_law 11 = .ok (.dup, 1) := by decide +kernel
theorem dL_law_12 : decode cL_law 12 = .ok (.invokespecial 12, 3) := by decide +kernel
theorem dL_law_15 : decode cL_law 15 = .ok (.astore_n 2, 1) := by decide +kernel
theorem dL_law_16 : decode cL_law 16 = .ok (.iconst 0, 1) := by decide +kernel
theorem dL_law_17 : decode cL_law 17 = .ok (.istore_n 3, 1) := by decide +kernel
theorem dL_law_18 : decode cL_law 18 = .ok (.iload_n 3, 1) := by decide +kernel
theorem dL_law_19 : decode cL_law 19 = .ok (.aload_n 0, 1) := by decide +kernel
theorem dL_law_20 : decode cL_law 20 = .ok (.arraylength, 1) := by decide +kernel
theorem dL_law_21 : decode cL_law 21 = .ok (.bipush 6, 2) := by decide +kernel
theorem dL_law_23 : decode cL_law 23 = .ok (.isub, 1) := by decide +kernel
theorem dL_law_24 : decode cL_law 24 = .ok (.if_icmp .gt 1163, 3) := by decide +kernel
theorem dL_law_27 : decode cL_law 27 = .ok (.aload_n 0, 1) := by decide +kernel
theorem dL_law_28 : decode cL_law 28 = .ok (.iload_n 3, 1) := by decide +kernel
theorem dL_law_29 : decode cL_law 29 = .ok (.iaload, 1) := by decide +kernel
theorem dL_law_30 : decode cL_law 30 = .ok (.bipush 63, 2) := by decide +kernel
theorem dL_law_32 : decode cL_law 32 = .ok (.iand, 1) := by decide +kernel
theorem dL_law_33 : decode cL_law 33 = .ok (.tableswitch 1148 0 35 #[159, 222, 245, 258, 281, 304, 347, 380, 413, 446, 479, 512, 545, 578, 601, 634, 667, 700, 733, 766, 789, 802, 835, 868, 901, 924, 957, 980, 1003, 1026, 1039, 1062, 1076, 1089, 1112, 1125], 159) := by decide +kernel
theorem dL_law_192 : decode cL_law 192 = .ok (.aload_n 1, 1) := by decide +kernel
theorem dL_law_193 : decode cL_law 193 = .ok (.aload_n 0, 1) := by decide +kernel
theorem dL_law_194 : decode cL_law 194 = .ok (.iload_n 3, 1) := by decide +kernel
theorem dL_law_195 : decode cL_law 195 = .ok (.iconst 1, 1) := by decide +kernel
theorem dL_law_196 : decode cL_law 196 = .ok (.iadd, 1) := by decide +kernel
theorem dL_law_197 : decode cL_law 197 = .ok (.iaload, 1) := by decide +kernel
theorem dL_law_198 : decode cL_law 198 = .ok (.aload_n 0, 1) := by decide +kernel
theorem dL_law_199 : decode cL_law 199 = .ok (.iload_n 3, 1) := by decide +kernel
theorem dL_law_200 : decode cL_law 200 = .ok (.iconst 2, 1) := by decide +kernel
theorem dL_law_201 : decode cL_law 201 = .ok (.iadd, 1) := by decide +kernel
theorem dL_law_202 : decode cL_law 202 = .ok (.iaload, 1) := by decide +kernel
theorem dL_law_203 : decode cL_law 203 = .ok (.aload_n 0, 1) := by decide +kernel
theorem dL_law_204 : decode cL_law 204 = .ok (.iload_n 3, 1) := by decide +kernel
theorem dL_law_205 : decode cL_law 205 = .ok (.iconst 3, 1) := by decide +kernel
theorem dL_law_206 : decode cL_law 206 = .ok (.iadd, 1) := by decide +kernel
theorem dL_law_207 : decode cL_law 207 = .ok (.iaload, 1) := by decide +kernel
theorem dL_law_208 : decode cL_law 208 = .ok (.aload_n 0, 1) := by decide +kernel
theorem dL_law_209 : decode cL_law 209 = .ok (.iload_n 3, 1) := by decide +kernel
theorem dL_law_210 : decode cL_law 210 = .ok (.iconst 4, 1) := by decide +kernel
theorem dL_law_211 : decode cL_law 211 = .ok (.iadd, 1) := by decide +kernel
theorem dL_law_212 : decode cL_law 212 = .ok (.iaload, 1) := by decide +kernel
theorem dL_law_213 : decode cL_law 213 = .ok (.aload_n 0, 1) := by decide +kernel
theorem dL_law_214 : decode cL_law 214 = .ok (.iload_n 3, 1) := by decide +kernel
theorem dL_law_215 : decode cL_law 215 = .ok (.iconst 5, 1) := by decide +kernel
theorem dL_law_216 : decode cL_law 216 = .ok (.iadd, 1) := by decide +kernel
theorem dL_law_217 : decode cL_law 217 = .ok (.iaload, 1) := by decide +kernel
theorem dL_law_218 : decode cL_law 218 = .ok (.invokevirtual 13, 3) := by decide +kernel
theorem dL_law_221 : decode cL_law 221 = .ok (.aload_n 2, 1) := by decide +kernel
theorem dL_law_222 : decode cL_law 222 = .ok (.aload_n 0, 1) := by decide +kernel
theorem dL_law_223 : decode cL_law 223 = .ok (.iload_n 3, 1) := by decide +kernel
theorem dL_law_224 : decode cL_law 224 = .ok (.iconst 1, 1) := by decide +kernel
theorem dL_law_225 : decode cL_law 225 = .ok (.iadd, 1) := by decide +kernel
theorem dL_law_226 : decode cL_law 226 = .ok (.iaload, 1) := by decide +kernel
theorem dL_law_227 : decode cL_law 227 = .ok (.aload_n 0, 1) := by decide +kernel
theorem dL_law_228 : decode cL_law 228 = .ok (.iload_n 3, 1) := by decide +kernel
theorem dL_law_229 : decode cL_law 229 = .ok (.iconst 2, 1) := by decide +kernel
theorem dL_law_230 : decode cL_law 230 = .ok (.iadd, 1) := by decide +kernel
theorem dL_law_231 : decode cL_law 231 = .ok (.iaload, 1) := by decide +kernel
theorem dL_law_232 : decode cL_law 232 = .ok (.aload_n 0, 1) := by decide +kernel
theorem dL_law_233 : decode cL_law 233 = .ok (.iload_n 3, 1) := by decide +kernel
theorem dL_law_234 : decode cL_law 234 = .ok (.iconst 3, 1) := by decide +kernel
theorem dL_law_235 : decode cL_law 235 = .ok (.iadd, 1) := by decide +kernel
theorem dL_law_236 : decode cL_law 236 = .ok (.iaload, 1) := by decide +kernel
theorem dL_law_237 : decode cL_law 237 = .ok (.aload_n 0, 1) := by decide +kernel
theorem dL_law_238 : decode cL_law 238 = .ok (.iload_n 3, 1) := by decide +kernel
theorem dL_law_239 : decode cL_law 239 = .ok (.iconst 4, 1) := by decide +kernel
theorem dL_law_240 : decode cL_law 240 = .ok (.iadd, 1) := by decide +kernel
theorem dL_law_241 : decode cL_law 241 = .ok (.iaload, 1) := by decide +kernel
theorem dL_law_242 : decode cL_law 242 = .ok (.aload_n 0, 1) := by decide +kernel
theorem dL_law_243 : decode cL_law 243 = .ok (.iload_n 3, 1) := by decide +kernel
theorem dL_law_244 : decode cL_law 244 = .ok (.iconst 5, 1) := by decide +kernel
theorem dL_law_245 : decode cL_law 245 = .ok (.iadd, 1) := by decide +kernel
theorem dL_law_246 : decode cL_law 246 = .ok (.iaload, 1) := by decide +kernel
theorem dL_law_247 : decode cL_law 247 = .ok (.invokevirtual 17, 3) := by decide +kernel
theorem dL_law_250 : decode cL_law 250 = .ok (.if_icmp .eq 931, 3) := by decide +kernel
theorem dL_law_253 : decode cL_law 253 = .ok (.iconst 0, 1) := by decide +kernel
theorem dL_law_254 : decode cL_law 254 = .ok (.ireturn, 1) := by decide +kernel
theorem dL_law_255 : decode cL_law 255 = .ok (.aload_n 1, 1) := by decide +kernel
theorem dL_law_256 : decode cL_law 256 = .ok (.aload_n 0, 1) := by decide +kernel
theorem dL_law_257 : decode cL_law 257 = .ok (.iload_n 3, 1) := by decide +kernel
theorem dL_law_258 : decode cL_law 258 = .ok (.iconst 1, 1) := by decide +kernel
theorem dL_law_259 : decode cL_law 259 = .ok (.iadd, 1) := by decide +kernel
theorem dL_law_260 : decode cL_law 260 = .ok (.iaload, 1) := by decide +kernel
theorem dL_law_261 : decode cL_law 261 = .ok (.invokevirtual 18, 3) := by decide +kernel
theorem dL_law_264 : decode cL_law 264 = .ok (.aload_n 2, 1) := by decide +kernel
theorem dL_law_265 : decode cL_law 265 = .ok (.aload_n 0, 1) := by decide +kernel
theorem dL_law_266 : decode cL_law 266 = .ok (.iload_n 3, 1) := by decide +kernel
theorem dL_law_267 : decode cL_law 267 = .ok (.iconst 1, 1) := by decide +kernel
theorem dL_law_268 : decode cL_law 268 = .ok (.iadd, 1) := by decide +kernel
theorem dL_law_269 : decode cL_law 269 = .ok (.iaload, 1) := by decide +kernel
theorem dL_law_270 : decode cL_law 270 = .ok (.invokevirtual 22, 3) := by decide +kernel
theorem dL_law_273 : decode cL_law 273 = .ok (.if_icmp .eq 908, 3) := by decide +kernel
theorem dL_law_276 : decode cL_law 276 = .ok (.iconst 0, 1) := by decide +kernel
theorem dL_law_277 : decode cL_law 277 = .ok (.ireturn, 1) := by decide +kernel
theorem dL_law_278 : decode cL_law 278 = .ok (.aload_n 1, 1) := by decide +kernel
theorem dL_law_279 : decode cL_law 279 = .ok (.invokevirtual 23, 3) := by decide +kernel
theorem dL_law_282 : decode cL_law 282 = .ok (.aload_n 2, 1) := by decide +kernel
theorem dL_law_283 : decode cL_law 283 = .ok (.invokevirtual 27, 3) := by decide +kernel
theorem dL_law_286 : decode cL_law 286 = .ok (.if_icmp .eq 895, 3) := by decide +kernel
theorem dL_law_289 : decode cL_law 289 = .ok (.iconst 0, 1) := by decide +kernel
theorem dL_law_290 : decode cL_law 290 = .ok (.ireturn, 1) := by decide +kernel
theorem dL_law_291 : decode cL_law 291 = .ok (.aload_n 1, 1) := by decide +kernel
theorem dL_law_292 : decode cL_law 292 = .ok (.aload_n 0, 1) := by decide +kernel
theorem dL_law_293 : decode cL_law 293 = .ok (.iload_n 3, 1) := by decide +kernel
theorem dL_law_294 : decode cL_law 294 = .ok (.iconst 1, 1) := by decide +kernel
theorem dL_law_295 : decode cL_law 295 = .ok (.iadd, 1) := by decide +kernel
theorem dL_law_296 : decode cL_law 296 = .ok (.iaload, 1) := by decide +kernel
theorem dL_law_297 : decode cL_law 297 = .ok (.invokevirtual 28, 3) := by decide +kernel
theorem dL_law_300 : decode cL_law 300 = .ok (.aload_n 2, 1) := by decide +kernel
theorem dL_law_301 : decode cL_law 301 = .ok (.aload_n 0, 1) := by decide +kernel
theorem dL_law_302 : decode cL_law 302 = .ok (.iload_n 3, 1) := by decide +kernel
theorem dL_law_303 : decode cL_law 303 = .ok (.iconst 1, 1) := by decide +kernel
theorem dL_law_304 : decode cL_law 304 = .ok (.iadd, 1) := by decide +kernel
theorem dL_law_305 : decode cL_law 305 = .ok (.iaload, 1) := by decide +kernel
theorem dL_law_306 : decode cL_law 306 = .ok (.invokevirtual 32, 3) := by decide +kernel
theorem dL_law_309 : decode cL_law 309 = .ok (.if_icmp .eq 872, 3) := by decide +kernel
theorem dL_law_312 : decode cL_law 312 = .ok (.iconst 0, 1) := by decide +kernel
theorem dL_law_313 : decode cL_law 313 = .ok (.ireturn, 1) := by decide +kernel
theorem dL_law_314 : decode cL_law 314 = .ok (.aload_n 1, 1) := by decide +kernel
theorem dL_law_315 : decode cL_law 315 = .ok (.aload_n 0, 1) := by decide +kernel
theorem dL_law_316 : decode cL_law 316 = .ok (.iload_n 3, 1) := by decide +kernel
theorem dL_law_317 : decode cL_law 317 = .ok (.iconst 1, 1) := by decide +kernel
theorem dL_law_318 : decode cL_law 318 = .ok (.iadd, 1) := by decide +kernel
theorem dL_law_319 : decode cL_law 319 = .ok (.iaload, 1) := by decide +kernel
theorem dL_law_320 : decode cL_law 320 = .ok (.invokevirtual 33, 3) := by decide +kernel
theorem dL_law_323 : decode cL_law 323 = .ok (.aload_n 2, 1) := by decide +kernel
theorem dL_law_324 : decode cL_law 324 = .ok (.aload_n 0, 1) := by decide +kernel
theorem dL_law_325 : decode cL_law 325 = .ok (.iload_n 3, 1) := by decide +kernel
theorem dL_law_326 : decode cL_law 326 = .ok (.iconst 1, 1) := by decide +kernel
theorem dL_law_327 : decode cL_law 327 = .ok (.iadd, 1) := by decide +kernel
theorem dL_law_328 : decode cL_law 328 = .ok (.iaload, 1) := by decide +kernel
theorem dL_law_329 : decode cL_law 329 = .ok (.invokevirtual 36, 3) := by decide +kernel
theorem dL_law_332 : decode cL_law 332 = .ok (.if_icmp .eq 849, 3) := by decide +kernel
theorem dL_law_335 : decode cL_law 335 = .ok (.iconst 0, 1) := by decide +kernel
theorem dL_law_336 : decode cL_law 336 = .ok (.ireturn, 1) := by decide +kernel
theorem dL_law_337 : decode cL_law 337 = .ok (.aload_n 1, 1) := by decide +kernel
theorem dL_law_338 : decode cL_law 338 = .ok (.aload_n 0, 1) := by decide +kernel
theorem dL_law_339 : decode cL_law 339 = .ok (.iload_n 3, 1) := by decide +kernel
theorem dL_law_340 : decode cL_law 340 = .ok (.iconst 1, 1) := by decide +kernel
theorem dL_law_341 : decode cL_law 341 = .ok (.iadd, 1) := by decide +kernel
theorem dL_law_342 : decode cL_law 342 = .ok (.iaload, 1) := by decide +kernel
theorem dL_law_343 : decode cL_law 343 = .ok (.aload_n 0, 1) := by decide +kernel
theorem dL_law_344 : decode cL_law 344 = .ok (.iload_n 3, 1) := by decide +kernel
theorem dL_law_345 : decode cL_law 345 = .ok (.iconst 2, 1) := by decide +kernel
theorem dL_law_346 : decode cL_law 346 = .ok (.iadd, 1) := by decide +kernel
theorem dL_law_347 : decode cL_law 347 = .ok (.iaload, 1) := by decide +kernel
theorem dL_law_348 : decode cL_law 348 = .ok (.aload_n 0, 1) := by decide +kernel
theorem dL_law_349 : decode cL_law 349 = .ok (.iload_n 3, 1) := by decide +kernel
theorem dL_law_350 : decode cL_law 350 = .ok (.iconst 3, 1) := by decide +kernel
theorem dL_law_351 : decode cL_law 351 = .ok (.iadd, 1) := by decide +kernel
theorem dL_law_352 : decode cL_law 352 = .ok (.iaload, 1) := by decide +kernel
theorem dL_law_353 : decode cL_law 353 = .ok (.invokevirtual 37, 3) := by decide +kernel
theorem dL_law_356 : decode cL_law 356 = .ok (.aload_n 2, 1) := by decide +kernel
theorem dL_law_357 : decode cL_law 357 = .ok (.aload_n 0, 1) := by decide +kernel
theorem dL_law_358 : decode cL_law 358 = .ok (.iload_n 3, 1) := by decide +kernel
theorem dL_law_359 : decode cL_law 359 = .ok (.iconst 1, 1) := by decide +kernel
theorem dL_law_360 : decode cL_law 360 = .ok (.iadd, 1) := by decide +kernel
theorem dL_law_361 : decode cL_law 361 = .ok (.iaload, 1) := by decide +kernel
theorem dL_law_362 : decode cL_law 362 = .ok (.aload_n 0, 1) := by decide +kernel
theorem dL_law_363 : decode cL_law 363 = .ok (.iload_n 3, 1) := by decide +kernel
theorem dL_law_364 : decode cL_law 364 = .ok (.iconst 2, 1) := by decide +kernel
theorem dL_law_365 : decode cL_law 365 = .ok (.iadd, 1) := by decide +kernel
theorem dL_law_366 : decode cL_law 366 = .ok (.iaload, 1) := by decide +kernel
theorem dL_law_367 : decode cL_law 367 = .ok (.aload_n 0, 1) := by decide +kernel
theorem dL_law_368 : decode cL_law 368 = .ok (.iload_n 3, 1) := by decide +kernel
theorem dL_law_369 : decode cL_law 369 = .ok (.iconst 3, 1) := by decide +kernel
theorem dL_law_370 : decode cL_law 370 = .ok (.iadd, 1) := by decide +kernel
theorem dL_law_371 : decode cL_law 371 = .ok (.iaload, 1) := by decide +kernel
theorem dL_law_372 : decode cL_law 372 = .ok (.invokevirtual 41, 3) := by decide +kernel
theorem dL_law_375 : decode cL_law 375 = .ok (.if_icmp .eq 806, 3) := by decide +kernel
theorem dL_law_378 : decode cL_law 378 = .ok (.iconst 0, 1) := by decide +kernel
theorem dL_law_379 : decode cL_law 379 = .ok (.ireturn, 1) := by decide +kernel
theorem dL_law_380 : decode cL_law 380 = .ok (.aload_n 1, 1) := by decide +kernel
theorem dL_law_381 : decode cL_law 381 = .ok (.aload_n 0, 1) := by decide +kernel
theorem dL_law_382 : decode cL_law 382 = .ok (.iload_n 3, 1) := by decide +kernel
theorem dL_law_383 : decode cL_law 383 = .ok (.iconst 1, 1) := by decide +kernel
theorem dL_law_384 : decode cL_law 384 = .ok (.iadd, 1) := by decide +kernel
theorem dL_law_385 : decode cL_law 385 = .ok (.iaload, 1) := by decide +kernel
theorem dL_law_386 : decode cL_law 386 = .ok (.aload_n 0, 1) := by decide +kernel
theorem dL_law_387 : decode cL_law 387 = .ok (.iload_n 3, 1) := by decide +kernel
theorem dL_law_388 : decode cL_law 388 = .ok (.iconst 2, 1) := by decide +kernel
theorem dL_law_389 : decode cL_law 389 = .ok (.iadd, 1) := by decide +kernel
theorem dL_law_390 : decode cL_law 390 = .ok (.iaload, 1) := by decide +kernel
theorem dL_law_391 : decode cL_law 391 = .ok (.invokevirtual 42, 3) := by decide +kernel
theorem dL_law_394 : decode cL_law 394 = .ok (.aload_n 2, 1) := by decide +kernel
theorem dL_law_395 : decode cL_law 395 = .ok (.aload_n 0, 1) := by decide +kernel
theorem dL_law_396 : decode cL_law 396 = .ok (.iload_n 3, 1) := by decide +kernel
theorem dL_law_397 : decode cL_law 397 = .ok (.iconst 1, 1) := by decide +kernel
theorem dL_law_398 : decode cL_law 398 = .ok (.iadd, 1) := by decide +kernel
theorem dL_law_399 : decode cL_law 399 = .ok (.iaload, 1) := by decide +kernel
theorem dL_law_400 : decode cL_law 400 = .ok (.aload_n 0, 1) := by decide +kernel
theorem dL_law_401 : decode cL_law 401 = .ok (.iload_n 3, 1) := by decide +kernel
theorem dL_law_402 : decode cL_law 402 = .ok (.iconst 2, 1) := by decide +kernel
theorem dL_law_403 : decode cL_law 403 = .ok (.iadd, 1) := by decide +kernel
theorem dL_law_404 : decode cL_law 404 = .ok (.iaload, 1) := by decide +kernel
theorem dL_law_405 : decode cL_law 405 = .ok (.invokevirtual 46, 3) := by decide +kernel
theorem dL_law_408 : decode cL_law 408 = .ok (.if_icmp .eq 773, 3) := by decide +kernel
theorem dL_law_411 : decode cL_law 411 = .ok (.iconst 0, 1) := by decide +kernel
theorem dL_law_412 : decode cL_law 412 = .ok (.ireturn, 1) := by decide +kernel
theorem dL_law_413 : decode cL_law 413 = .ok (.aload_n 1, 1) := by decide +kernel
theorem dL_law_414 : decode cL_law 414 = .ok (.aload_n 0, 1) := by decide +kernel
theorem dL_law_415 : decode cL_law 415 = .ok (.iload_n 3, 1) := by decide +kernel
theorem dL_law_416 : decode cL_law 416 = .ok (.iconst 1, 1) := by decide +kernel
theorem dL_law_417 : decode cL_law 417 = .ok (.iadd, 1) := by decide +kernel
theorem dL_law_418 : decode cL_law 418 = .ok (.iaload, 1) := by decide +kernel
theorem dL_law_419 : decode cL_law 419 = .ok (.aload_n 0, 1) := by decide +kernel
theorem dL_law_420 : decode cL_law 420 = .ok (.iload_n 3, 1) := by decide +kernel
theorem dL_law_421 : decode cL_law 421 = .ok (.iconst 2, 1) := by decide +kernel
theorem dL_law_422 : decode cL_law 422 = .ok (.iadd, 1) := by decide +kernel
theorem dL_law_423 : decode cL_law 423 = .ok (.iaload, 1) := by decide +kernel
theorem dL_law_424 : decode cL_law 424 = .ok (.invokevirtual 47, 3) := by decide +kernel
theorem dL_law_427 : decode cL_law 427 = .ok (.aload_n 2, 1) := by decide +kernel
theorem dL_law_428 : decode cL_law 428 = .ok (.aload_n 0, 1) := by decide +kernel
theorem dL_law_429 : decode cL_law 429 = .ok (.iload_n 3, 1) := by decide +kernel
theorem dL_law_430 : decode cL_law 430 = .ok (.iconst 1, 1) := by decide +kernel
theorem dL_law_431 : decode cL_law 431 = .ok (.iadd, 1) := by decide +kernel
theorem dL_law_432 : decode cL_law 432 = .ok (.iaload, 1) := by decide +kernel
theorem dL_law_433 : decode cL_law 433 = .ok (.aload_n 0, 1) := by decide +kernel
theorem dL_law_434 : decode cL_law 434 = .ok (.iload_n 3, 1) := by decide +kernel
theorem dL_law_435 : decode cL_law 435 = .ok (.iconst 2, 1) := by decide +kernel
theorem dL_law_436 : decode cL_law 436 = .ok (.iadd, 1) := by decide +kernel
theorem dL_law_437 : decode cL_law 437 = .ok (.iaload, 1) := by decide +kernel
theorem dL_law_438 : decode cL_law 438 = .ok (.invokevirtual 50, 3) := by decide +kernel
theorem dL_law_441 : decode cL_law 441 = .ok (.if_icmp .eq 740, 3) := by decide +kernel
theorem dL_law_444 : decode cL_law 444 = .ok (.iconst 0, 1) := by decide +kernel
theorem dL_law_445 : decode cL_law 445 = .ok (.ireturn, 1) := by decide +kernel
theorem dL_law_446 : decode cL_law 446 = .ok (.aload_n 1, 1) := by decide +kernel
theorem dL_law_447 : decode cL_law 447 = .ok (.aload_n 0, 1) := by decide +kernel
theorem dL_law_448 : decode cL_law 448 = .ok (.iload_n 3, 1) := by decide +kernel
theorem dL_law_449 : decode cL_law 449 = .ok (.iconst 1, 1) := by decide +kernel
theorem dL_law_450 : decode cL_law 450 = .ok (.iadd, 1) := by decide +kernel
theorem dL_law_451 : decode cL_law 451 = .ok (.iaload, 1) := by decide +kernel
theorem dL_law_452 : decode cL_law 452 = .ok (.aload_n 0, 1) := by decide +kernel
theorem dL_law_453 : decode cL_law 453 = .ok (.iload_n 3, 1) := by decide +kernel
theorem dL_law_454 : decode cL_law 454 = .ok (.iconst 2, 1) := by decide +kernel
theorem dL_law_455 : decode cL_law 455 = .ok (.iadd, 1) := by decide +kernel
theorem dL_law_456 : decode cL_law 456 = .ok (.iaload, 1) := by decide +kernel
theorem dL_law_457 : decode cL_law 457 = .ok (.invokevirtual 51, 3) := by decide +kernel
theorem dL_law_460 : decode cL_law 460 = .ok (.aload_n 2, 1) := by decide +kernel
theorem dL_law_461 : decode cL_law 461 = .ok (.aload_n 0, 1) := by decide +kernel
theorem dL_law_462 : decode cL_law 462 = .ok (.iload_n 3, 1) := by decide +kernel
theorem dL_law_463 : decode cL_law 463 = .ok (.iconst 1, 1) := by decide +kernel
theorem dL_law_464 : decode cL_law 464 = .ok (.iadd, 1) := by decide +kernel
theorem dL_law_465 : decode cL_law 465 = .ok (.iaload, 1) := by decide +kernel
theorem dL_law_466 : decode cL_law 466 = .ok (.aload_n 0, 1) := by decide +kernel
theorem dL_law_467 : decode cL_law 467 = .ok (.iload_n 3, 1) := by decide +kernel
theorem dL_law_468 : decode cL_law 468 = .ok (.iconst 2, 1) := by decide +kernel
theorem dL_law_469 : decode cL_law 469 = .ok (.iadd, 1) := by decide +kernel
theorem dL_law_470 : decode cL_law 470 = .ok (.iaload, 1) := by decide +kernel
theorem dL_law_471 : decode cL_law 471 = .ok (.invokevirtual 54, 3) := by decide +kernel
theorem dL_law_474 : decode cL_law 474 = .ok (.if_icmp .eq 707, 3) := by decide +kernel
theorem dL_law_477 : decode cL_law 477 = .ok (.iconst 0, 1) := by decide +kernel
theorem dL_law_478 : decode cL_law 478 = .ok (.ireturn, 1) := by decide +kernel
theorem dL_law_479 : decode cL_law 479 = .ok (.aload_n 1, 1) := by decide +kernel
theorem dL_law_480 : decode cL_law 480 = .ok (.aload_n 0, 1) := by decide +kernel
theorem dL_law_481 : decode cL_law 481 = .ok (.iload_n 3, 1) := by decide +kernel
theorem dL_law_482 : decode cL_law 482 = .ok (.iconst 1, 1) := by decide +kernel
theorem dL_law_483 : decode cL_law 483 = .ok (.iadd, 1) := by decide +kernel
theorem dL_law_484 : decode cL_law 484 = .ok (.iaload, 1) := by decide +kernel
theorem dL_law_485 : decode cL_law 485 = .ok (.aload_n 0, 1) := by decide +kernel
theorem dL_law_486 : decode cL_law 486 = .ok (.iload_n 3, 1) := by decide +kernel
theorem dL_law_487 : decode cL_law 487 = .ok (.iconst 2, 1) := by decide +kernel
theorem dL_law_488 : decode cL_law 488 = .ok (.iadd, 1) := by decide +kernel
theorem dL_law_489 : decode cL_law 489 = .ok (.iaload, 1) := by decide +kernel
theorem dL_law_490 : decode cL_law 490 = .ok (.invokevirtual 55, 3) := by decide +kernel
theorem dL_law_493 : decode cL_law 493 = .ok (.aload_n 2, 1) := by decide +kernel
theorem dL_law_494 : decode cL_law 494 = .ok (.aload_n 0, 1) := by decide +kernel
theorem dL_law_495 : decode cL_law 495 = .ok (.iload_n 3, 1) := by decide +kernel
theorem dL_law_496 : decode cL_law 496 = .ok (.iconst 1, 1) := by decide +kernel
theorem dL_law_497 : decode cL_law 497 = .ok (.iadd, 1) := by decide +kernel
theorem dL_law_498 : decode cL_law 498 = .ok (.iaload, 1) := by decide +kernel
theorem dL_law_499 : decode cL_law 499 = .ok (.aload_n 0, 1) := by decide +kernel
theorem dL_law_500 : decode cL_law 500 = .ok (.iload_n 3, 1) := by decide +kernel
theorem dL_law_501 : decode cL_law 501 = .ok (.iconst 2, 1) := by decide +kernel
theorem dL_law_502 : decode cL_law 502 = .ok (.iadd, 1) := by decide +kernel
theorem dL_law_503 : decode cL_law 503 = .ok (.iaload, 1) := by decide +kernel
theorem dL_law_504 : decode cL_law 504 = .ok (.invokevirtual 58, 3) := by decide +kernel
theorem dL_law_507 : decode cL_law 507 = .ok (.if_icmp .eq 674, 3) := by decide +kernel
theorem dL_law_510 : decode cL_law 510 = .ok (.iconst 0, 1) := by decide +kernel
theorem dL_law_511 : decode cL_law 511 = .ok (.ireturn, 1) := by decide +kernel
theorem dL_law_512 : decode cL_law 512 = .ok (.aload_n 1, 1) := by decide +kernel
theorem dL_law_513 : decode cL_law 513 = .ok (.aload_n 0, 1) := by decide +kernel
theorem dL_law_514 : decode cL_law 514 = .ok (.iload_n 3, 1) := by decide +kernel
theorem dL_law_515 : decode cL_law 515 = .ok (.iconst 1, 1) := by decide +kernel
theorem dL_law_516 : decode cL_law 516 = .ok (.iadd, 1) := by decide +kernel
theorem dL_law_517 : decode cL_law 517 = .ok (.iaload, 1) := by decide +kernel
theorem dL_law_518 : decode cL_law 518 = .ok (.aload_n 0, 1) := by decide +kernel
theorem dL_law_519 : decode cL_law 519 = .ok (.iload_n 3, 1) := by decide +kernel
theorem dL_law_520 : decode cL_law 520 = .ok (.iconst 2, 1) := by decide +kernel
theorem dL_law_521 : decode cL_law 521 = .ok (.iadd, 1) := by decide +kernel
theorem dL_law_522 : decode cL_law 522 = .ok (.iaload, 1) := by decide +kernel
theorem dL_law_523 : decode cL_law 523 = .ok (.invokevirtual 59, 3) := by decide +kernel
theorem dL_law_526 : decode cL_law 526 = .ok (.aload_n 2, 1) := by decide +kernel
theorem dL_law_527 : decode cL_law 527 = .ok (.aload_n 0, 1) := by decide +kernel
theorem dL_law_528 : decode cL_law 528 = .ok (.iload_n 3, 1) := by decide +kernel
theorem dL_law_529 : decode cL_law 529 = .ok (.iconst 1, 1) := by decide +kernel
theorem dL_law_530 : decode cL_law 530 = .ok (.iadd, 1) := by decide +kernel
theorem dL_law_531 : decode cL_law 531 = .ok (.iaload, 1) := by decide +kernel
theorem dL_law_532 : decode cL_law 532 = .ok (.aload_n 0, 1) := by decide +kernel
theorem dL_law_533 : decode cL_law 533 = .ok (.iload_n 3, 1) := by decide +kernel
theorem dL_law_534 : decode cL_law 534 = .ok (.iconst 2, 1) := by decide +kernel
theorem dL_law_535 : decode cL_law 535 = .ok (.iadd, 1) := by decide +kernel
theorem dL_law_536 : decode cL_law 536 = .ok (.iaload, 1) := by decide +kernel
theorem dL_law_537 : decode cL_law 537 = .ok (.invokevirtual 62, 3) := by decide +kernel
theorem dL_law_540 : decode cL_law 540 = .ok (.if_icmp .eq 641, 3) := by decide +kernel
theorem dL_law_543 : decode cL_law 543 = .ok (.iconst 0, 1) := by decide +kernel
theorem dL_law_544 : decode cL_law 544 = .ok (.ireturn, 1) := by decide +kernel
theorem dL_law_545 : decode cL_law 545 = .ok (.aload_n 1, 1) := by decide +kernel
theorem dL_law_546 : decode cL_law 546 = .ok (.aload_n 0, 1) := by decide +kernel
theorem dL_law_547 : decode cL_law 547 = .ok (.iload_n 3, 1) := by decide +kernel
theorem dL_law_548 : decode cL_law 548 = .ok (.iconst 1, 1) := by decide +kernel
theorem dL_law_549 : decode cL_law 549 = .ok (.iadd, 1) := by decide +kernel
theorem dL_law_550 : decode cL_law 550 = .ok (.iaload, 1) := by decide +kernel
theorem dL_law_551 : decode cL_law 551 = .ok (.aload_n 0, 1) := by decide +kernel
theorem dL_law_552 : decode cL_law 552 = .ok (.iload_n 3, 1) := by decide +kernel
theorem dL_law_553 : decode cL_law 553 = .ok (.iconst 2, 1) := by decide +kernel
theorem dL_law_554 : decode cL_law 554 = .ok (.iadd, 1) := by decide +kernel
theorem dL_law_555 : decode cL_law 555 = .ok (.iaload, 1) := by decide +kernel
theorem dL_law_556 : decode cL_law 556 = .ok (.invokevirtual 63, 3) := by decide +kernel
theorem dL_law_559 : decode cL_law 559 = .ok (.aload_n 2, 1) := by decide +kernel
theorem dL_law_560 : decode cL_law 560 = .ok (.aload_n 0, 1) := by decide +kernel
theorem dL_law_561 : decode cL_law 561 = .ok (.iload_n 3, 1) := by decide +kernel
theorem dL_law_562 : decode cL_law 562 = .ok (.iconst 1, 1) := by decide +kernel
theorem dL_law_563 : decode cL_law 563 = .ok (.iadd, 1) := by decide +kernel
theorem dL_law_564 : decode cL_law 564 = .ok (.iaload, 1) := by decide +kernel
theorem dL_law_565 : decode cL_law 565 = .ok (.aload_n 0, 1) := by decide +kernel
theorem dL_law_566 : decode cL_law 566 = .ok (.iload_n 3, 1) := by decide +kernel
theorem dL_law_567 : decode cL_law 567 = .ok (.iconst 2, 1) := by decide +kernel
theorem dL_law_568 : decode cL_law 568 = .ok (.iadd, 1) := by decide +kernel
theorem dL_law_569 : decode cL_law 569 = .ok (.iaload, 1) := by decide +kernel
theorem dL_law_570 : decode cL_law 570 = .ok (.invokevirtual 66, 3) := by decide +kernel
theorem dL_law_573 : decode cL_law 573 = .ok (.if_icmp .eq 608, 3) := by decide +kernel
theorem dL_law_576 : decode cL_law 576 = .ok (.iconst 0, 1) := by decide +kernel
theorem dL_law_577 : decode cL_law 577 = .ok (.ireturn, 1) := by decide +kernel
theorem dL_law_578 : decode cL_law 578 = .ok (.aload_n 1, 1) := by decide +kernel
theorem dL_law_579 : decode cL_law 579 = .ok (.aload_n 0, 1) := by decide +kernel
theorem dL_law_580 : decode cL_law 580 = .ok (.iload_n 3, 1) := by decide +kernel
theorem dL_law_581 : decode cL_law 581 = .ok (.iconst 1, 1) := by decide +kernel
theorem dL_law_582 : decode cL_law 582 = .ok (.iadd, 1) := by decide +kernel
theorem dL_law_583 : decode cL_law 583 = .ok (.iaload, 1) := by decide +kernel
theorem dL_law_584 : decode cL_law 584 = .ok (.aload_n 0, 1) := by decide +kernel
theorem dL_law_585 : decode cL_law 585 = .ok (.iload_n 3, 1) := by decide +kernel
theorem dL_law_586 : decode cL_law 586 = .ok (.iconst 2, 1) := by decide +kernel
theorem dL_law_587 : decode cL_law 587 = .ok (.iadd, 1) := by decide +kernel
theorem dL_law_588 : decode cL_law 588 = .ok (.iaload, 1) := by decide +kernel
theorem dL_law_589 : decode cL_law 589 = .ok (.invokevirtual 67, 3) := by decide +kernel
theorem dL_law_592 : decode cL_law 592 = .ok (.aload_n 2, 1) := by decide +kernel
theorem dL_law_593 : decode cL_law 593 = .ok (.aload_n 0, 1) := by decide +kernel
theorem dL_law_594 : decode cL_law 594 = .ok (.iload_n 3, 1) := by decide +kernel
theorem dL_law_595 : decode cL_law 595 = .ok (.iconst 1, 1) := by decide +kernel
theorem dL_law_596 : decode cL_law 596 = .ok (.iadd, 1) := by decide +kernel
theorem dL_law_597 : decode cL_law 597 = .ok (.iaload, 1) := by decide +kernel
theorem dL_law_598 : decode cL_law 598 = .ok (.aload_n 0, 1) := by decide +kernel
theorem dL_law_599 : decode cL_law 599 = .ok (.iload_n 3, 1) := by decide +kernel
theorem dL_law_600 : decode cL_law 600 = .ok (.iconst 2, 1) := by decide +kernel
theorem dL_law_601 : decode cL_law 601 = .ok (.iadd, 1) := by decide +kernel
theorem dL_law_602 : decode cL_law 602 = .ok (.iaload, 1) := by decide +kernel
theorem dL_law_603 : decode cL_law 603 = .ok (.invokevirtual 70, 3) := by decide +kernel
theorem dL_law_606 : decode cL_law 606 = .ok (.if_icmp .eq 575, 3) := by decide +kernel
theorem dL_law_609 : decode cL_law 609 = .ok (.iconst 0, 1) := by decide +kernel
theorem dL_law_610 : decode cL_law 610 = .ok (.ireturn, 1) := by decide +kernel
theorem dL_law_611 : decode cL_law 611 = .ok (.aload_n 1, 1) := by decide +kernel
theorem dL_law_612 : decode cL_law 612 = .ok (.aload_n 0, 1) := by decide +kernel
theorem dL_law_613 : decode cL_law 613 = .ok (.iload_n 3, 1) := by decide +kernel
theorem dL_law_614 : decode cL_law 614 = .ok (.iconst 1, 1) := by decide +kernel
theorem dL_law_615 : decode cL_law 615 = .ok (.iadd, 1) := by decide +kernel
theorem dL_law_616 : decode cL_law 616 = .ok (.iaload, 1) := by decide +kernel
theorem dL_law_617 : decode cL_law 617 = .ok (.invokevirtual 71, 3) := by decide +kernel
theorem dL_law_620 : decode cL_law 620 = .ok (.aload_n 2, 1) := by decide +kernel
theorem dL_law_621 : decode cL_law 621 = .ok (.aload_n 0, 1) := by decide +kernel
theorem dL_law_622 : decode cL_law 622 = .ok (.iload_n 3, 1) := by decide +kernel
theorem dL_law_623 : decode cL_law 623 = .ok (.iconst 1, 1) := by decide +kernel
theorem dL_law_624 : decode cL_law 624 = .ok (.iadd, 1) := by decide +kernel
theorem dL_law_625 : decode cL_law 625 = .ok (.iaload, 1) := by decide +kernel
theorem dL_law_626 : decode cL_law 626 = .ok (.invokevirtual 74, 3) := by decide +kernel
theorem dL_law_629 : decode cL_law 629 = .ok (.if_icmp .eq 552, 3) := by decide +kernel
theorem dL_law_632 : decode cL_law 632 = .ok (.iconst 0, 1) := by decide +kernel
theorem dL_law_633 : decode cL_law 633 = .ok (.ireturn, 1) := by decide +kernel
theorem dL_law_634 : decode cL_law 634 = .ok (.aload_n 1, 1) := by decide +kernel
theorem dL_law_635 : decode cL_law 635 = .ok (.aload_n 0, 1) := by decide +kernel
theorem dL_law_636 : decode cL_law 636 = .ok (.iload_n 3, 1) := by decide +kernel
theorem dL_law_637 : decode cL_law 637 = .ok (.iconst 1, 1) := by decide +kernel
theorem dL_law_638 : decode cL_law 638 = .ok (.iadd, 1) := by decide +kernel
theorem dL_law_639 : decode cL_law 639 = .ok (.iaload, 1) := by decide +kernel
theorem dL_law_640 : decode cL_law 640 = .ok (.aload_n 0, 1) := by decide +kernel
theorem dL_law_641 : decode cL_law 641 = .ok (.iload_n 3, 1) := by decide +kernel
theorem dL_law_642 : decode cL_law 642 = .ok (.iconst 2, 1) := by decide +kernel
theorem dL_law_643 : decode cL_law 643 = .ok (.iadd, 1) := by decide +kernel
theorem dL_law_644 : decode cL_law 644 = .ok (.iaload, 1) := by decide +kernel
theorem dL_law_645 : decode cL_law 645 = .ok (.invokevirtual 75, 3) := by decide +kernel
theorem dL_law_648 : decode cL_law 648 = .ok (.aload_n 2, 1) := by decide +kernel
theorem dL_law_649 : decode cL_law 649 = .ok (.aload_n 0, 1) := by decide +kernel
theorem dL_law_650 : decode cL_law 650 = .ok (.iload_n 3, 1) := by decide +kernel
theorem dL_law_651 : decode cL_law 651 = .ok (.iconst 1, 1) := by decide +kernel
theorem dL_law_652 : decode cL_law 652 = .ok (.iadd, 1) := by decide +kernel
theorem dL_law_653 : decode cL_law 653 = .ok (.iaload, 1) := by decide +kernel
theorem dL_law_654 : decode cL_law 654 = .ok (.aload_n 0, 1) := by decide +kernel
theorem dL_law_655 : decode cL_law 655 = .ok (.iload_n 3, 1) := by decide +kernel
theorem dL_law_656 : decode cL_law 656 = .ok (.iconst 2, 1) := by decide +kernel
theorem dL_law_657 : decode cL_law 657 = .ok (.iadd, 1) := by decide +kernel
theorem dL_law_658 : decode cL_law 658 = .ok (.iaload, 1) := by decide +kernel
theorem dL_law_659 : decode cL_law 659 = .ok (.invokevirtual 78, 3) := by decide +kernel
theorem dL_law_662 : decode cL_law 662 = .ok (.if_icmp .eq 519, 3) := by decide +kernel
theorem dL_law_665 : decode cL_law 665 = .ok (.iconst 0, 1) := by decide +kernel
theorem dL_law_666 : decode cL_law 666 = .ok (.ireturn, 1) := by decide +kernel
theorem dL_law_667 : decode cL_law 667 = .ok (.aload_n 1, 1) := by decide +kernel
theorem dL_law_668 : decode cL_law 668 = .ok (.aload_n 0, 1) := by decide +kernel
theorem dL_law_669 : decode cL_law 669 = .ok (.iload_n 3, 1) := by decide +kernel
theorem dL_law_670 : decode cL_law 670 = .ok (.iconst 1, 1) := by decide +kernel
theorem dL_law_671 : decode cL_law 671 = .ok (.iadd, 1) := by decide +kernel
theorem dL_law_672 : decode cL_law 672 = .ok (.iaload, 1) := by decide +kernel
theorem dL_law_673 : decode cL_law 673 = .ok (.aload_n 0, 1) := by decide +kernel
theorem dL_law_674 : decode cL_law 674 = .ok (.iload_n 3, 1) := by decide +kernel
theorem dL_law_675 : decode cL_law 675 = .ok (.iconst 2, 1) := by decide +kernel
theorem dL_law_676 : decode cL_law 676 = .ok (.iadd, 1) := by decide +kernel
theorem dL_law_677 : decode cL_law 677 = .ok (.iaload, 1) := by decide +kernel
theorem dL_law_678 : decode cL_law 678 = .ok (.invokevirtual 79, 3) := by decide +kernel
theorem dL_law_681 : decode cL_law 681 = .ok (.aload_n 2, 1) := by decide +kernel
theorem dL_law_682 : decode cL_law 682 = .ok (.aload_n 0, 1) := by decide +kernel
theorem dL_law_683 : decode cL_law 683 = .ok (.iload_n 3, 1) := by decide +kernel
theorem dL_law_684 : decode cL_law 684 = .ok (.iconst 1, 1) := by decide +kernel
theorem dL_law_685 : decode cL_law 685 = .ok (.iadd, 1) := by decide +kernel
theorem dL_law_686 : decode cL_law 686 = .ok (.iaload, 1) := by decide +kernel
theorem dL_law_687 : decode cL_law 687 = .ok (.aload_n 0, 1) := by decide +kernel
theorem dL_law_688 : decode cL_law 688 = .ok (.iload_n 3, 1) := by decide +kernel
theorem dL_law_689 : decode cL_law 689 = .ok (.iconst 2, 1) := by decide +kernel
theorem dL_law_690 : decode cL_law 690 = .ok (.iadd, 1) := by decide +kernel
theorem dL_law_691 : decode cL_law 691 = .ok (.iaload, 1) := by decide +kernel
theorem dL_law_692 : decode cL_law 692 = .ok (.invokevirtual 82, 3) := by decide +kernel
theorem dL_law_695 : decode cL_law 695 = .ok (.if_icmp .eq 486, 3) := by decide +kernel
theorem dL_law_698 : decode cL_law 698 = .ok (.iconst 0, 1) := by decide +kernel
theorem dL_law_699 : decode cL_law 699 = .ok (.ireturn, 1) := by decide +kernel
theorem dL_law_700 : decode cL_law 700 = .ok (.aload_n 1, 1) := by decide +kernel
theorem dL_law_701 : decode cL_law 701 = .ok (.aload_n 0, 1) := by decide +kernel
theorem dL_law_702 : decode cL_law 702 = .ok (.iload_n 3, 1) := by decide +kernel
theorem dL_law_703 : decode cL_law 703 = .ok (.iconst 1, 1) := by decide +kernel
theorem dL_law_704 : decode cL_law 704 = .ok (.iadd, 1) := by decide +kernel
theorem dL_law_705 : decode cL_law 705 = .ok (.iaload, 1) := by decide +kernel
theorem dL_law_706 : decode cL_law 706 = .ok (.aload_n 0, 1) := by decide +kernel
theorem dL_law_707 : decode cL_law 707 = .ok (.iload_n 3, 1) := by decide +kernel
theorem dL_law_708 : decode cL_law 708 = .ok (.iconst 2, 1) := by decide +kernel
theorem dL_law_709 : decode cL_law 709 = .ok (.iadd, 1) := by decide +kernel
theorem dL_law_710 : decode cL_law 710 = .ok (.iaload, 1) := by decide +kernel
theorem dL_law_711 : decode cL_law 711 = .ok (.invokevirtual 83, 3) := by decide +kernel
theorem dL_law_714 : decode cL_law 714 = .ok (.aload_n 2, 1) := by decide +kernel
theorem dL_law_715 : decode cL_law 715 = .ok (.aload_n 0, 1) := by decide +kernel
theorem dL_law_716 : decode cL_law 716 = .ok (.iload_n 3, 1) := by decide +kernel
theorem dL_law_717 : decode cL_law 717 = .ok (.iconst 1, 1) := by decide +kernel
theorem dL_law_718 : decode cL_law 718 = .ok (.iadd, 1) := by decide +kernel
theorem dL_law_719 : decode cL_law 719 = .ok (.iaload, 1) := by decide +kernel
theorem dL_law_720 : decode cL_law 720 = .ok (.aload_n 0, 1) := by decide +kernel
theorem dL_law_721 : decode cL_law 721 = .ok (.iload_n 3, 1) := by decide +kernel
theorem dL_law_722 : decode cL_law 722 = .ok (.iconst 2, 1) := by decide +kernel
theorem dL_law_723 : decode cL_law 723 = .ok (.iadd, 1) := by decide +kernel
theorem dL_law_724 : decode cL_law 724 = .ok (.iaload, 1) := by decide +kernel
theorem dL_law_725 : decode cL_law 725 = .ok (.invokevirtual 86, 3) := by decide +kernel
theorem dL_law_728 : decode cL_law 728 = .ok (.if_icmp .eq 453, 3) := by decide +kernel
theorem dL_law_731 : decode cL_law 731 = .ok (.iconst 0, 1) := by decide +kernel
theorem dL_law_732 : decode cL_law 732 = .ok (.ireturn, 1) := by decide +kernel
theorem dL_law_733 : decode cL_law 733 = .ok (.aload_n 1, 1) := by decide +kernel
theorem dL_law_734 : decode cL_law 734 = .ok (.aload_n 0, 1) := by decide +kernel
theorem dL_law_735 : decode cL_law 735 = .ok (.iload_n 3, 1) := by decide +kernel
theorem dL_law_736 : decode cL_law 736 = .ok (.iconst 1, 1) := by decide +kernel
theorem dL_law_737 : decode cL_law 737 = .ok (.iadd, 1) := by decide +kernel
theorem dL_law_738 : decode cL_law 738 = .ok (.iaload, 1) := by decide +kernel
theorem dL_law_739 : decode cL_law 739 = .ok (.aload_n 0, 1) := by decide +kernel
theorem dL_law_740 : decode cL_law 740 = .ok (.iload_n 3, 1) := by decide +kernel
theorem dL_law_741 : decode cL_law 741 = .ok (.iconst 2, 1) := by decide +kernel
theorem dL_law_742 : decode cL_law 742 = .ok (.iadd, 1) := by decide +kernel
theorem dL_law_743 : decode cL_law 743 = .ok (.iaload, 1) := by decide +kernel
theorem dL_law_744 : decode cL_law 744 = .ok (.invokevirtual 87, 3) := by decide +kernel
theorem dL_law_747 : decode cL_law 747 = .ok (.aload_n 2, 1) := by decide +kernel
theorem dL_law_748 : decode cL_law 748 = .ok (.aload_n 0, 1) := by decide +kernel
theorem dL_law_749 : decode cL_law 749 = .ok (.iload_n 3, 1) := by decide +kernel
theorem dL_law_750 : decode cL_law 750 = .ok (.iconst 1, 1) := by decide +kernel
theorem dL_law_751 : decode cL_law 751 = .ok (.iadd, 1) := by decide +kernel
theorem dL_law_752 : decode cL_law 752 = .ok (.iaload, 1) := by decide +kernel
theorem dL_law_753 : decode cL_law 753 = .ok (.aload_n 0, 1) := by decide +kernel
theorem dL_law_754 : decode cL_law 754 = .ok (.iload_n 3, 1) := by decide +kernel
theorem dL_law_755 : decode cL_law 755 = .ok (.iconst 2, 1) := by decide +kernel
theorem dL_law_756 : decode cL_law 756 = .ok (.iadd, 1) := by decide +kernel
theorem dL_law_757 : decode cL_law 757 = .ok (.iaload, 1) := by decide +kernel
theorem dL_law_758 : decode cL_law 758 = .ok (.invokevirtual 90, 3) := by decide +kernel
theorem dL_law_761 : decode cL_law 761 = .ok (.if_icmp .eq 420, 3) := by decide +kernel
theorem dL_law_764 : decode cL_law 764 = .ok (.iconst 0, 1) := by decide +kernel
theorem dL_law_765 : decode cL_law 765 = .ok (.ireturn, 1) := by decide +kernel
theorem dL_law_766 : decode cL_law 766 = .ok (.aload_n 1, 1) := by decide +kernel
theorem dL_law_767 : decode cL_law 767 = .ok (.aload_n 0, 1) := by decide +kernel
theorem dL_law_768 : decode cL_law 768 = .ok (.iload_n 3, 1) := by decide +kernel
theorem dL_law_769 : decode cL_law 769 = .ok (.iconst 1, 1) := by decide +kernel
theorem dL_law_770 : decode cL_law 770 = .ok (.iadd, 1) := by decide +kernel
theorem dL_law_771 : decode cL_law 771 = .ok (.iaload, 1) := by decide +kernel
theorem dL_law_772 : decode cL_law 772 = .ok (.aload_n 0, 1) := by decide +kernel
theorem dL_law_773 : decode cL_law 773 = .ok (.iload_n 3, 1) := by decide +kernel
theorem dL_law_774 : decode cL_law 774 = .ok (.iconst 2, 1) := by decide +kernel
theorem dL_law_775 : decode cL_law 775 = .ok (.iadd, 1) := by decide +kernel
theorem dL_law_776 : decode cL_law 776 = .ok (.iaload, 1) := by decide +kernel
theorem dL_law_777 : decode cL_law 777 = .ok (.invokevirtual 91, 3) := by decide +kernel
theorem dL_law_780 : decode cL_law 780 = .ok (.aload_n 2, 1) := by decide +kernel
theorem dL_law_781 : decode cL_law 781 = .ok (.aload_n 0, 1) := by decide +kernel
theorem dL_law_782 : decode cL_law 782 = .ok (.iload_n 3, 1) := by decide +kernel
theorem dL_law_783 : decode cL_law 783 = .ok (.iconst 1, 1) := by decide +kernel
theorem dL_law_784 : decode cL_law 784 = .ok (.iadd, 1) := by decide +kernel
theorem dL_law_785 : decode cL_law 785 = .ok (.iaload, 1) := by decide +kernel
theorem dL_law_786 : decode cL_law 786 = .ok (.aload_n 0, 1) := by decide +kernel
theorem dL_law_787 : decode cL_law 787 = .ok (.iload_n 3, 1) := by decide +kernel
theorem dL_law_788 : decode cL_law 788 = .ok (.iconst 2, 1) := by decide +kernel
theorem dL_law_789 : decode cL_law 789 = .ok (.iadd, 1) := by decide +kernel
theorem dL_law_790 : decode cL_law 790 = .ok (.iaload, 1) := by decide +kernel
theorem dL_law_791 : decode cL_law 791 = .ok (.invokevirtual 94, 3) := by decide +kernel
theorem dL_law_794 : decode cL_law 794 = .ok (.if_icmp .eq 387, 3) := by decide +kernel
theorem dL_law_797 : decode cL_law 797 = .ok (.iconst 0, 1) := by decide +kernel
theorem dL_law_798 : decode cL_law 798 = .ok (.ireturn, 1) := by decide +kernel
theorem dL_law_799 : decode cL_law 799 = .ok (.aload_n 1, 1) := by decide +kernel
theorem dL_law_800 : decode cL_law 800 = .ok (.aload_n 0, 1) := by decide +kernel
theorem dL_law_801 : decode cL_law 801 = .ok (.iload_n 3, 1) := by decide +kernel
theorem dL_law_802 : decode cL_law 802 = .ok (.iconst 1, 1) := by decide +kernel
theorem dL_law_803 : decode cL_law 803 = .ok (.iadd, 1) := by decide +kernel
theorem dL_law_804 : decode cL_law 804 = .ok (.iaload, 1) := by decide +kernel
theorem dL_law_805 : decode cL_law 805 = .ok (.invokevirtual 95, 3) := by decide +kernel
theorem dL_law_808 : decode cL_law 808 = .ok (.aload_n 2, 1) := by decide +kernel
theorem dL_law_809 : decode cL_law 809 = .ok (.aload_n 0, 1) := by decide +kernel
theorem dL_law_810 : decode cL_law 810 = .ok (.iload_n 3, 1) := by decide +kernel
theorem dL_law_811 : decode cL_law 811 = .ok (.iconst 1, 1) := by decide +kernel
theorem dL_law_812 : decode cL_law 812 = .ok (.iadd, 1) := by decide +kernel
theorem dL_law_813 : decode cL_law 813 = .ok (.iaload, 1) := by decide +kernel
theorem dL_law_814 : decode cL_law 814 = .ok (.invokevirtual 98, 3) := by decide +kernel
theorem dL_law_817 : decode cL_law 817 = .ok (.if_icmp .eq 364, 3) := by decide +kernel
theorem dL_law_820 : decode cL_law 820 = .ok (.iconst 0, 1) := by decide +kernel
theorem dL_law_821 : decode cL_law 821 = .ok (.ireturn, 1) := by decide +kernel
theorem dL_law_822 : decode cL_law 822 = .ok (.aload_n 1, 1) := by decide +kernel
theorem dL_law_823 : decode cL_law 823 = .ok (.invokevirtual 99, 3) := by decide +kernel
theorem dL_law_826 : decode cL_law 826 = .ok (.aload_n 2, 1) := by decide +kernel
theorem dL_law_827 : decode cL_law 827 = .ok (.invokevirtual 102, 3) := by decide +kernel
theorem dL_law_830 : decode cL_law 830 = .ok (.if_icmp .eq 351, 3) := by decide +kernel
theorem dL_law_833 : decode cL_law 833 = .ok (.iconst 0, 1) := by decide +kernel
theorem dL_law_834 : decode cL_law 834 = .ok (.ireturn, 1) := by decide +kernel
theorem dL_law_835 : decode cL_law 835 = .ok (.aload_n 1, 1) := by decide +kernel
theorem dL_law_836 : decode cL_law 836 = .ok (.aload_n 0, 1) := by decide +kernel
theorem dL_law_837 : decode cL_law 837 = .ok (.iload_n 3, 1) := by decide +kernel
theorem dL_law_838 : decode cL_law 838 = .ok (.iconst 1, 1) := by decide +kernel
theorem dL_law_839 : decode cL_law 839 = .ok (.iadd, 1) := by decide +kernel
theorem dL_law_840 : decode cL_law 840 = .ok (.iaload, 1) := by decide +kernel
theorem dL_law_841 : decode cL_law 841 = .ok (.aload_n 0, 1) := by decide +kernel
theorem dL_law_842 : decode cL_law 842 = .ok (.iload_n 3, 1) := by decide +kernel
theorem dL_law_843 : decode cL_law 843 = .ok (.iconst 2, 1) := by decide +kernel
theorem dL_law_844 : decode cL_law 844 = .ok (.iadd, 1) := by decide +kernel
theorem dL_law_845 : decode cL_law 845 = .ok (.iaload, 1) := by decide +kernel
theorem dL_law_846 : decode cL_law 846 = .ok (.invokevirtual 103, 3) := by decide +kernel
theorem dL_law_849 : decode cL_law 849 = .ok (.aload_n 2, 1) := by decide +kernel
theorem dL_law_850 : decode cL_law 850 = .ok (.aload_n 0, 1) := by decide +kernel
theorem dL_law_851 : decode cL_law 851 = .ok (.iload_n 3, 1) := by decide +kernel
theorem dL_law_852 : decode cL_law 852 = .ok (.iconst 1, 1) := by decide +kernel
theorem dL_law_853 : decode cL_law 853 = .ok (.iadd, 1) := by decide +kernel
theorem dL_law_854 : decode cL_law 854 = .ok (.iaload, 1) := by decide +kernel
theorem dL_law_855 : decode cL_law 855 = .ok (.aload_n 0, 1) := by decide +kernel
theorem dL_law_856 : decode cL_law 856 = .ok (.iload_n 3, 1) := by decide +kernel
theorem dL_law_857 : decode cL_law 857 = .ok (.iconst 2, 1) := by decide +kernel
theorem dL_law_858 : decode cL_law 858 = .ok (.iadd, 1) := by decide +kernel
theorem dL_law_859 : decode cL_law 859 = .ok (.iaload, 1) := by decide +kernel
theorem dL_law_860 : decode cL_law 860 = .ok (.invokevirtual 106, 3) := by decide +kernel
theorem dL_law_863 : decode cL_law 863 = .ok (.if_icmp .eq 318, 3) := by decide +kernel
theorem dL_law_866 : decode cL_law 866 = .ok (.iconst 0, 1) := by decide +kernel
theorem dL_law_867 : decode cL_law 867 = .ok (.ireturn, 1) := by decide +kernel
theorem dL_law_868 : decode cL_law 868 = .ok (.aload_n 1, 1) := by decide +kernel
theorem dL_law_869 : decode cL_law 869 = .ok (.aload_n 0, 1) := by decide +kernel
theorem dL_law_870 : decode cL_law 870 = .ok (.iload_n 3, 1) := by decide +kernel
theorem dL_law_871 : decode cL_law 871 = .ok (.iconst 1, 1) := by decide +kernel
theorem dL_law_872 : decode cL_law 872 = .ok (.iadd, 1) := by decide +kernel
theorem dL_law_873 : decode cL_law 873 = .ok (.iaload, 1) := by decide +kernel
theorem dL_law_874 : decode cL_law 874 = .ok (.aload_n 0, 1) := by decide +kernel
theorem dL_law_875 : decode cL_law 875 = .ok (.iload_n 3, 1) := by decide +kernel
theorem dL_law_876 : decode cL_law 876 = .ok (.iconst 2, 1) := by decide +kernel
theorem dL_law_877 : decode cL_law 877 = .ok (.iadd, 1) := by decide +kernel
theorem dL_law_878 : decode cL_law 878 = .ok (.iaload, 1) := by decide +kernel
theorem dL_law_879 : decode cL_law 879 = .ok (.invokevirtual 107, 3) := by decide +kernel
theorem dL_law_882 : decode cL_law 882 = .ok (.aload_n 2, 1) := by decide +kernel
theorem dL_law_883 : decode cL_law 883 = .ok (.aload_n 0, 1) := by decide +kernel
theorem dL_law_884 : decode cL_law 884 = .ok (.iload_n 3, 1) := by decide +kernel
theorem dL_law_885 : decode cL_law 885 = .ok (.iconst 1, 1) := by decide +kernel
theorem dL_law_886 : decode cL_law 886 = .ok (.iadd, 1) := by decide +kernel
theorem dL_law_887 : decode cL_law 887 = .ok (.iaload, 1) := by decide +kernel
theorem dL_law_888 : decode cL_law 888 = .ok (.aload_n 0, 1) := by decide +kernel
theorem dL_law_889 : decode cL_law 889 = .ok (.iload_n 3, 1) := by decide +kernel
theorem dL_law_890 : decode cL_law 890 = .ok (.iconst 2, 1) := by decide +kernel
theorem dL_law_891 : decode cL_law 891 = .ok (.iadd, 1) := by decide +kernel
theorem dL_law_892 : decode cL_law 892 = .ok (.iaload, 1) := by decide +kernel
theorem dL_law_893 : decode cL_law 893 = .ok (.invokevirtual 110, 3) := by decide +kernel
theorem dL_law_896 : decode cL_law 896 = .ok (.if_icmp .eq 285, 3) := by decide +kernel
theorem dL_law_899 : decode cL_law 899 = .ok (.iconst 0, 1) := by decide +kernel
theorem dL_law_900 : decode cL_law 900 = .ok (.ireturn, 1) := by decide +kernel
theorem dL_law_901 : decode cL_law 901 = .ok (.aload_n 1, 1) := by decide +kernel
theorem dL_law_902 : decode cL_law 902 = .ok (.aload_n 0, 1) := by decide +kernel
theorem dL_law_903 : decode cL_law 903 = .ok (.iload_n 3, 1) := by decide +kernel
theorem dL_law_904 : decode cL_law 904 = .ok (.iconst 1, 1) := by decide +kernel
theorem dL_law_905 : decode cL_law 905 = .ok (.iadd, 1) := by decide +kernel
theorem dL_law_906 : decode cL_law 906 = .ok (.iaload, 1) := by decide +kernel
theorem dL_law_907 : decode cL_law 907 = .ok (.aload_n 0, 1) := by decide +kernel
theorem dL_law_908 : decode cL_law 908 = .ok (.iload_n 3, 1) := by decide +kernel
theorem dL_law_909 : decode cL_law 909 = .ok (.iconst 2, 1) := by decide +kernel
theorem dL_law_910 : decode cL_law 910 = .ok (.iadd, 1) := by decide +kernel
theorem dL_law_911 : decode cL_law 911 = .ok (.iaload, 1) := by decide +kernel
theorem dL_law_912 : decode cL_law 912 = .ok (.invokevirtual 111, 3) := by decide +kernel
theorem dL_law_915 : decode cL_law 915 = .ok (.aload_n 2, 1) := by decide +kernel
theorem dL_law_916 : decode cL_law 916 = .ok (.aload_n 0, 1) := by decide +kernel
theorem dL_law_917 : decode cL_law 917 = .ok (.iload_n 3, 1) := by decide +kernel
theorem dL_law_918 : decode cL_law 918 = .ok (.iconst 1, 1) := by decide +kernel
theorem dL_law_919 : decode cL_law 919 = .ok (.iadd, 1) := by decide +kernel
theorem dL_law_920 : decode cL_law 920 = .ok (.iaload, 1) := by decide +kernel
theorem dL_law_921 : decode cL_law 921 = .ok (.aload_n 0, 1) := by decide +kernel
theorem dL_law_922 : decode cL_law 922 = .ok (.iload_n 3, 1) := by decide +kernel
theorem dL_law_923 : decode cL_law 923 = .ok (.iconst 2, 1) := by decide +kernel
theorem dL_law_924 : decode cL_law 924 = .ok (.iadd, 1) := by decide +kernel
theorem dL_law_925 : decode cL_law 925 = .ok (.iaload, 1) := by decide +kernel
theorem dL_law_926 : decode cL_law 926 = .ok (.invokevirtual 115, 3) := by decide +kernel
theorem dL_law_929 : decode cL_law 929 = .ok (.if_icmp .eq 252, 3) := by decide +kernel
theorem dL_law_932 : decode cL_law 932 = .ok (.iconst 0, 1) := by decide +kernel
theorem dL_law_933 : decode cL_law 933 = .ok (.ireturn, 1) := by decide +kernel
theorem dL_law_934 : decode cL_law 934 = .ok (.aload_n 1, 1) := by decide +kernel
theorem dL_law_935 : decode cL_law 935 = .ok (.aload_n 0, 1) := by decide +kernel
theorem dL_law_936 : decode cL_law 936 = .ok (.iload_n 3, 1) := by decide +kernel
theorem dL_law_937 : decode cL_law 937 = .ok (.iconst 1, 1) := by decide +kernel
theorem dL_law_938 : decode cL_law 938 = .ok (.iadd, 1) := by decide +kernel
theorem dL_law_939 : decode cL_law 939 = .ok (.iaload, 1) := by decide +kernel
theorem dL_law_940 : decode cL_law 940 = .ok (.invokevirtual 116, 3) := by decide +kernel
theorem dL_law_943 : decode cL_law 943 = .ok (.aload_n 2, 1) := by decide +kernel
theorem dL_law_944 : decode cL_law 944 = .ok (.aload_n 0, 1) := by decide +kernel
theorem dL_law_945 : decode cL_law 945 = .ok (.iload_n 3, 1) := by decide +kernel
theorem dL_law_946 : decode cL_law 946 = .ok (.iconst 1, 1) := by decide +kernel
theorem dL_law_947 : decode cL_law 947 = .ok (.iadd, 1) := by decide +kernel
theorem dL_law_948 : decode cL_law 948 = .ok (.iaload, 1) := by decide +kernel
theorem dL_law_949 : decode cL_law 949 = .ok (.invokevirtual 119, 3) := by decide +kernel
theorem dL_law_952 : decode cL_law 952 = .ok (.if_icmp .eq 229, 3) := by decide +kernel
theorem dL_law_955 : decode cL_law 955 = .ok (.iconst 0, 1) := by decide +kernel
theorem dL_law_956 : decode cL_law 956 = .ok (.ireturn, 1) := by decide +kernel
theorem dL_law_957 : decode cL_law 957 = .ok (.aload_n 1, 1) := by decide +kernel
theorem dL_law_958 : decode cL_law 958 = .ok (.aload_n 0, 1) := by decide +kernel
theorem dL_law_959 : decode cL_law 959 = .ok (.iload_n 3, 1) := by decide +kernel
theorem dL_law_960 : decode cL_law 960 = .ok (.iconst 1, 1) := by decide +kernel
theorem dL_law_961 : decode cL_law 961 = .ok (.iadd, 1) := by decide +kernel
theorem dL_law_962 : decode cL_law 962 = .ok (.iaload, 1) := by decide +kernel
theorem dL_law_963 : decode cL_law 963 = .ok (.aload_n 0, 1) := by decide +kernel
theorem dL_law_964 : decode cL_law 964 = .ok (.iload_n 3, 1) := by decide +kernel
theorem dL_law_965 : decode cL_law 965 = .ok (.iconst 2, 1) := by decide +kernel
theorem dL_law_966 : decode cL_law 966 = .ok (.iadd, 1) := by decide +kernel
theorem dL_law_967 : decode cL_law 967 = .ok (.iaload, 1) := by decide +kernel
theorem dL_law_968 : decode cL_law 968 = .ok (.invokevirtual 120, 3) := by decide +kernel
theorem dL_law_971 : decode cL_law 971 = .ok (.aload_n 2, 1) := by decide +kernel
theorem dL_law_972 : decode cL_law 972 = .ok (.aload_n 0, 1) := by decide +kernel
theorem dL_law_973 : decode cL_law 973 = .ok (.iload_n 3, 1) := by decide +kernel
theorem dL_law_974 : decode cL_law 974 = .ok (.iconst 1, 1) := by decide +kernel
theorem dL_law_975 : decode cL_law 975 = .ok (.iadd, 1) := by decide +kernel
theorem dL_law_976 : decode cL_law 976 = .ok (.iaload, 1) := by decide +kernel
theorem dL_law_977 : decode cL_law 977 = .ok (.aload_n 0, 1) := by decide +kernel
theorem dL_law_978 : decode cL_law 978 = .ok (.iload_n 3, 1) := by decide +kernel
theorem dL_law_979 : decode cL_law 979 = .ok (.iconst 2, 1) := by decide +kernel
theorem dL_law_980 : decode cL_law 980 = .ok (.iadd, 1) := by decide +kernel
theorem dL_law_981 : decode cL_law 981 = .ok (.iaload, 1) := by decide +kernel
theorem dL_law_982 : decode cL_law 982 = .ok (.invokevirtual 123, 3) := by decide +kernel
theorem dL_law_985 : decode cL_law 985 = .ok (.if_icmp .eq 196, 3) := by decide +kernel
theorem dL_law_988 : decode cL_law 988 = .ok (.iconst 0, 1) := by decide +kernel
theorem dL_law_989 : decode cL_law 989 = .ok (.ireturn, 1) := by decide +kernel
theorem dL_law_990 : decode cL_law 990 = .ok (.aload_n 1, 1) := by decide +kernel
theorem dL_law_991 : decode cL_law 991 = .ok (.aload_n 0, 1) := by decide +kernel
theorem dL_law_992 : decode cL_law 992 = .ok (.iload_n 3, 1) := by decide +kernel
theorem dL_law_993 : decode cL_law 993 = .ok (.iconst 1, 1) := by decide +kernel
theorem dL_law_994 : decode cL_law 994 = .ok (.iadd, 1) := by decide +kernel
theorem dL_law_995 : decode cL_law 995 = .ok (.iaload, 1) := by decide +kernel
theorem dL_law_996 : decode cL_law 996 = .ok (.invokevirtual 124, 3) := by decide +kernel
theorem dL_law_999 : decode cL_law 999 = .ok (.aload_n 2, 1) := by decide +kernel
theorem dL_law_1000 : decode cL_law 1000 = .ok (.aload_n 0, 1) := by decide +kernel
theorem dL_law_1001 : decode cL_law 1001 = .ok (.iload_n 3, 1) := by decide +kernel
theorem dL_law_1002 : decode cL_law 1002 = .ok (.iconst 1, 1) := by decide +kernel
theorem dL_law_1003 : decode cL_law 1003 = .ok (.iadd, 1) := by decide +kernel
theorem dL_law_1004 : decode cL_law 1004 = .ok (.iaload, 1) := by decide +kernel
theorem dL_law_1005 : decode cL_law 1005 = .ok (.invokevirtual 127, 3) := by decide +kernel
theorem dL_law_1008 : decode cL_law 1008 = .ok (.if_icmp .eq 173, 3) := by decide +kernel
theorem dL_law_1011 : decode cL_law 1011 = .ok (.iconst 0, 1) := by decide +kernel
theorem dL_law_1012 : decode cL_law 1012 = .ok (.ireturn, 1) := by decide +kernel
theorem dL_law_1013 : decode cL_law 1013 = .ok (.aload_n 1, 1) := by decide +kernel
theorem dL_law_1014 : decode cL_law 1014 = .ok (.aload_n 0, 1) := by decide +kernel
theorem dL_law_1015 : decode cL_law 1015 = .ok (.iload_n 3, 1) := by decide +kernel
theorem dL_law_1016 : decode cL_law 1016 = .ok (.iconst 1, 1) := by decide +kernel
theorem dL_law_1017 : decode cL_law 1017 = .ok (.iadd, 1) := by decide +kernel
theorem dL_law_1018 : decode cL_law 1018 = .ok (.iaload, 1) := by decide +kernel
theorem dL_law_1019 : decode cL_law 1019 = .ok (.invokevirtual 128, 3) := by decide +kernel
theorem dL_law_1022 : decode cL_law 1022 = .ok (.aload_n 2, 1) := by decide +kernel
theorem dL_law_1023 : decode cL_law 1023 = .ok (.aload_n 0, 1) := by decide +kernel
theorem dL_law_1024 : decode cL_law 1024 = .ok (.iload_n 3, 1) := by decide +kernel
theorem dL_law_1025 : decode cL_law 1025 = .ok (.iconst 1, 1) := by decide +kernel
theorem dL_law_1026 : decode cL_law 1026 = .ok (.iadd, 1) := by decide +kernel
theorem dL_law_1027 : decode cL_law 1027 = .ok (.iaload, 1) := by decide +kernel
theorem dL_law_1028 : decode cL_law 1028 = .ok (.invokevirtual 131, 3) := by decide +kernel
theorem dL_law_1031 : decode cL_law 1031 = .ok (.if_icmp .eq 150, 3) := by decide +kernel
theorem dL_law_1034 : decode cL_law 1034 = .ok (.iconst 0, 1) := by decide +kernel
theorem dL_law_1035 : decode cL_law 1035 = .ok (.ireturn, 1) := by decide +kernel
theorem dL_law_1036 : decode cL_law 1036 = .ok (.aload_n 1, 1) := by decide +kernel
theorem dL_law_1037 : decode cL_law 1037 = .ok (.aload_n 0, 1) := by decide +kernel
theorem dL_law_1038 : decode cL_law 1038 = .ok (.iload_n 3, 1) := by decide +kernel
theorem dL_law_1039 : decode cL_law 1039 = .ok (.iconst 1, 1) := by decide +kernel
theorem dL_law_1040 : decode cL_law 1040 = .ok (.iadd, 1) := by decide +kernel
theorem dL_law_1041 : decode cL_law 1041 = .ok (.iaload, 1) := by decide +kernel
theorem dL_law_1042 : decode cL_law 1042 = .ok (.invokevirtual 132, 3) := by decide +kernel
theorem dL_law_1045 : decode cL_law 1045 = .ok (.aload_n 2, 1) := by decide +kernel
theorem dL_law_1046 : decode cL_law 1046 = .ok (.aload_n 0, 1) := by decide +kernel
theorem dL_law_1047 : decode cL_law 1047 = .ok (.iload_n 3, 1) := by decide +kernel
theorem dL_law_1048 : decode cL_law 1048 = .ok (.iconst 1, 1) := by decide +kernel
theorem dL_law_1049 : decode cL_law 1049 = .ok (.iadd, 1) := by decide +kernel
theorem dL_law_1050 : decode cL_law 1050 = .ok (.iaload, 1) := by decide +kernel
theorem dL_law_1051 : decode cL_law 1051 = .ok (.invokevirtual 135, 3) := by decide +kernel
theorem dL_law_1054 : decode cL_law 1054 = .ok (.if_icmp .eq 127, 3) := by decide +kernel
theorem dL_law_1057 : decode cL_law 1057 = .ok (.iconst 0, 1) := by decide +kernel
theorem dL_law_1058 : decode cL_law 1058 = .ok (.ireturn, 1) := by decide +kernel
theorem dL_law_1059 : decode cL_law 1059 = .ok (.aload_n 1, 1) := by decide +kernel
theorem dL_law_1060 : decode cL_law 1060 = .ok (.invokevirtual 136, 3) := by decide +kernel
theorem dL_law_1063 : decode cL_law 1063 = .ok (.aload_n 2, 1) := by decide +kernel
theorem dL_law_1064 : decode cL_law 1064 = .ok (.invokevirtual 140, 3) := by decide +kernel
theorem dL_law_1067 : decode cL_law 1067 = .ok (.if_icmp .eq 114, 3) := by decide +kernel
theorem dL_law_1070 : decode cL_law 1070 = .ok (.iconst 0, 1) := by decide +kernel
theorem dL_law_1071 : decode cL_law 1071 = .ok (.ireturn, 1) := by decide +kernel
theorem dL_law_1072 : decode cL_law 1072 = .ok (.aload_n 1, 1) := by decide +kernel
theorem dL_law_1073 : decode cL_law 1073 = .ok (.aload_n 0, 1) := by decide +kernel
theorem dL_law_1074 : decode cL_law 1074 = .ok (.iload_n 3, 1) := by decide +kernel
theorem dL_law_1075 : decode cL_law 1075 = .ok (.iconst 1, 1) := by decide +kernel
theorem dL_law_1076 : decode cL_law 1076 = .ok (.iadd, 1) := by decide +kernel
theorem dL_law_1077 : decode cL_law 1077 = .ok (.iaload, 1) := by decide +kernel
theorem dL_law_1078 : decode cL_law 1078 = .ok (.invokevirtual 141, 3) := by decide +kernel
theorem dL_law_1081 : decode cL_law 1081 = .ok (.aload_n 2, 1) := by decide +kernel
theorem dL_law_1082 : decode cL_law 1082 = .ok (.aload_n 0, 1) := by decide +kernel
theorem dL_law_1083 : decode cL_law 1083 = .ok (.iload_n 3, 1) := by decide +kernel
theorem dL_law_1084 : decode cL_law 1084 = .ok (.iconst 1, 1) := by decide +kernel
theorem dL_law_1085 : decode cL_law 1085 = .ok (.iadd, 1) := by decide +kernel
theorem dL_law_1086 : decode cL_law 1086 = .ok (.iaload, 1) := by decide +kernel
theorem dL_law_1087 : decode cL_law 1087 = .ok (.invokevirtual 144, 3) := by decide +kernel
theorem dL_law_1090 : decode cL_law 1090 = .ok (.if_icmp .eq 91, 3) := by decide +kernel
theorem dL_law_1093 : decode cL_law 1093 = .ok (.iconst 0, 1) := by decide +kernel
theorem dL_law_1094 : decode cL_law 1094 = .ok (.ireturn, 1) := by decide +kernel
theorem dL_law_1095 : decode cL_law 1095 = .ok (.aload_n 1, 1) := by decide +kernel
theorem dL_law_1096 : decode cL_law 1096 = .ok (.invokevirtual 145, 3) := by decide +kernel
theorem dL_law_1099 : decode cL_law 1099 = .ok (.aload_n 2, 1) := by decide +kernel
theorem dL_law_1100 : decode cL_law 1100 = .ok (.invokevirtual 149, 3) := by decide +kernel
theorem dL_law_1103 : decode cL_law 1103 = .ok (.lcmp, 1) := by decide +kernel
theorem dL_law_1104 : decode cL_law 1104 = .ok (.ifCond .eq 77, 3) := by decide +kernel
theorem dL_law_1107 : decode cL_law 1107 = .ok (.iconst 0, 1) := by decide +kernel
theorem dL_law_1108 : decode cL_law 1108 = .ok (.ireturn, 1) := by decide +kernel
theorem dL_law_1109 : decode cL_law 1109 = .ok (.aload_n 1, 1) := by decide +kernel
theorem dL_law_1110 : decode cL_law 1110 = .ok (.invokevirtual 150, 3) := by decide +kernel
theorem dL_law_1113 : decode cL_law 1113 = .ok (.aload_n 2, 1) := by decide +kernel
theorem dL_law_1114 : decode cL_law 1114 = .ok (.invokevirtual 153, 3) := by decide +kernel
theorem dL_law_1117 : decode cL_law 1117 = .ok (.if_icmp .eq 64, 3) := by decide +kernel
theorem dL_law_1120 : decode cL_law 1120 = .ok (.iconst 0, 1) := by decide +kernel
theorem dL_law_1121 : decode cL_law 1121 = .ok (.ireturn, 1) := by decide +kernel
theorem dL_law_1122 : decode cL_law 1122 = .ok (.aload_n 1, 1) := by decide +kernel
