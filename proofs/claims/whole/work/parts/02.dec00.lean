theorem dX0_init_0 : decode cX0_init 0 = .ok (.aload_n 0, 1) := by decide +kernel
theorem dX0_init_1 : decode cX0_init 1 = .ok (.invokespecial 3, 3) := by decide +kernel
theorem dX0_init_4 : decode cX0_init 4 = .ok (.aload_n 0, 1) := by decide +kernel
theorem dX0_init_5 : decode cX0_init 5 = .ok (.sipush 4350, 3) := by decide +kernel
theorem dX0_init_8 : decode cX0_init 8 = .ok (.newarray .long, 2) := by decide +kernel
theorem dX0_init_10 : decode cX0_init 10 = .ok (.putfield 9, 3) := by decide +kernel
theorem dX0_init_13 : decode cX0_init 13 = .ok (.return_, 1) := by decide +kernel
theorem dX0_count_0 : decode cX0_count 0 = .ok (.iconst 0, 1) := by decide +kernel
theorem dX0_count_1 : decode cX0_count 1 = .ok (.istore_n 3, 1) := by decide +kernel
theorem dX0_count_2 : decode cX0_count 2 = .ok (.iload_n 3, 1) := by decide +kernel
theorem dX0_count_3 : decode cX0_count 3 = .ok (.aload_n 1, 1) := by decide +kernel
theorem dX0_count_4 : decode cX0_count 4 = .ok (.getfield 15, 3) := by decide +kernel
theorem dX0_count_7 : decode cX0_count 7 = .ok (.if_icmp .ge 29, 3) := by decide +kernel
theorem dX0_count_10 : decode cX0_count 10 = .ok (.aload_n 0, 1) := by decide +kernel
theorem dX0_count_11 : decode cX0_count 11 = .ok (.getfield 9, 3) := by decide +kernel
theorem dX0_count_14 : decode cX0_count 14 = .ok (.iload_n 3, 1) := by decide +kernel
theorem dX0_count_15 : decode cX0_count 15 = .ok (.aload_n 1, 1) := by decide +kernel
theorem dX0_count_16 : decode cX0_count 16 = .ok (.getfield 21, 3) := by decide +kernel
theorem dX0_count_19 : decode cX0_count 19 = .ok (.iload_n 3, 1) := by decide +kernel
theorem dX0_count_20 : decode cX0_count 20 = .ok (.baload, 1) := by decide +kernel
theorem dX0_count_21 : decode cX0_count 21 = .ok (.ifCond .eq 7, 3) := by decide +kernel
theorem dX0_count_24 : decode cX0_count 24 = .ok (.lconst 1, 1) := by decide +kernel
theorem dX0_count_25 : decode cX0_count 25 = .ok (.goto 4, 3) := by decide +kernel
theorem dX0_count_28 : decode cX0_count 28 = .ok (.lconst 0, 1) := by decide +kernel
theorem dX0_count_29 : decode cX0_count 29 = .ok (.lastore, 1) := by decide +kernel
theorem dX0_count_30 : decode cX0_count 30 = .ok (.iinc 3 1, 3) := by decide +kernel
theorem dX0_count_33 : decode cX0_count 33 = .ok (.goto (-31), 3) := by decide +kernel
theorem dX0_count_36 : decode cX0_count 36 = .ok (.iconst 1, 1) := by decide +kernel
theorem dX0_count_37 : decode cX0_count 37 = .ok (.istore_n 3, 1) := by decide +kernel
theorem dX0_count_38 : decode cX0_count 38 = .ok (.iload_n 3, 1) := by decide +kernel
theorem dX0_count_39 : decode cX0_count 39 = .ok (.iload_n 2, 1) := by decide +kernel
theorem dX0_count_40 : decode cX0_count 40 = .ok (.if_icmp .gt 90, 3) := by decide +kernel
theorem dX0_count_43 : decode cX0_count 43 = .ok (.iload_n 3, 1) := by decide +kernel
theorem dX0_count_44 : decode cX0_count 44 = .ok (.bipush 28, 2) := by decide +kernel
theorem dX0_count_46 : decode cX0_count 46 = .ok (.if_icmp .gt 84, 3) := by decide +kernel
theorem dX0_count_49 : decode cX0_count 49 = .ok (.iconst 0, 1) := by decide +kernel
theorem dX0_count_50 : decode cX0_count 50 = .ok (.istore 4, 2) := by decide +kernel
theorem dX0_count_52 : decode cX0_count 52 = .ok (.iload 4, 2) := by decide +kernel
theorem dX0_count_54 : decode cX0_count 54 = .ok (.aload_n 1, 1) := by decide +kernel
theorem dX0_count_55 : decode cX0_count 55 = .ok (.getfield 15, 3) := by decide +kernel
theorem dX0_count_58 : decode cX0_count 58 = .ok (.if_icmp .ge 66, 3) := by decide +kernel
theorem dX0_count_61 : decode cX0_count 61 = .ok (.lconst 0, 1) := by decide +kernel
theorem dX0_count_62 : decode cX0_count 62 = .ok (.lstore 5, 2) := by decide +kernel
theorem dX0_count_64 : decode cX0_count 64 = .ok (.iconst 0, 1) := by decide +kernel
theorem dX0_count_65 : decode cX0_count 65 = .ok (.istore 7, 2) := by decide +kernel
theorem dX0_count_67 : decode cX0_count 67 = .ok (.iload 7, 2) := by decide +kernel
theorem dX0_count_69 : decode cX0_count 69 = .ok (.iconst 4, 1) := by decide +kernel
theorem dX0_count_70 : decode cX0_count 70 = .ok (.if_icmp .ge 33, 3) := by decide +kernel
theorem dX0_count_73 : decode cX0_count 73 = .ok (.lload 5, 2) := by decide +kernel
theorem dX0_count_75 : decode cX0_count 75 = .ok (.aload_n 0, 1) := by decide +kernel
theorem dX0_count_76 : decode cX0_count 76 = .ok (.aload_n 1, 1) := by decide +kernel
theorem dX0_count_77 : decode cX0_count 77 = .ok (.getfield 25, 3) := by decide +kernel
theorem dX0_count_80 : decode cX0_count 80 = .ok (.iload 4, 2) := by decide +kernel
theorem dX0_count_82 : decode cX0_count 82 = .ok (.iconst 4, 1) := by decide +kernel
theorem dX0_count_83 : decode cX0_count 83 = .ok (.imul, 1) := by decide +kernel
theorem dX0_count_84 : decode cX0_count 84 = .ok (.iload 7, 2) := by decide +kernel
theorem dX0_count_86 : decode cX0_count 86 = .ok (.iadd, 1) := by decide +kernel
theorem dX0_count_87 : decode cX0_count 87 = .ok (.iaload, 1) := by decide +kernel
theorem dX0_count_88 : decode cX0_count 88 = .ok (.iload_n 3, 1) := by decide +kernel
theorem dX0_count_89 : decode cX0_count 89 = .ok (.iconst 1, 1) := by decide +kernel
theorem dX0_count_90 : decode cX0_count 90 = .ok (.isub, 1) := by decide +kernel
theorem dX0_count_91 : decode cX0_count 91 = .ok (.invokevirtual 29, 3) := by decide +kernel
theorem dX0_count_94 : decode cX0_count 94 = .ok (.ladd, 1) := by decide +kernel
theorem dX0_count_95 : decode cX0_count 95 = .ok (.lstore 5, 2) := by decide +kernel
theorem dX0_count_97 : decode cX0_count 97 = .ok (.iinc 7 1, 3) := by decide +kernel
theorem dX0_count_100 : decode cX0_count 100 = .ok (.goto (-33), 3) := by decide +kernel
theorem dX0_count_103 : decode cX0_count 103 = .ok (.aload_n 0, 1) := by decide +kernel
theorem dX0_count_104 : decode cX0_count 104 = .ok (.getfield 9, 3) := by decide +kernel
theorem dX0_count_107 : decode cX0_count 107 = .ok (.iload_n 3, 1) := by decide +kernel
theorem dX0_count_108 : decode cX0_count 108 = .ok (.sipush 150, 3) := by decide +kernel
theorem dX0_count_111 : decode cX0_count 111 = .ok (.imul, 1) := by decide +kernel
theorem dX0_count_112 : decode cX0_count 112 = .ok (.iload 4, 2) := by decide +kernel
theorem dX0_count_114 : decode cX0_count 114 = .ok (.iadd, 1) := by decide +kernel
theorem dX0_count_115 : decode cX0_count 115 = .ok (.lload 5, 2) := by decide +kernel
theorem dX0_count_117 : decode cX0_count 117 = .ok (.lastore, 1) := by decide +kernel
theorem dX0_count_118 : decode cX0_count 118 = .ok (.iinc 4 1, 3) := by decide +kernel
theorem dX0_count_121 : decode cX0_count 121 = .ok (.goto (-69), 3) := by decide +kernel
theorem dX0_count_124 : decode cX0_count 124 = .ok (.iinc 3 1, 3) := by decide +kernel
theorem dX0_count_127 : decode cX0_count 127 = .ok (.goto (-89), 3) := by decide +kernel
theorem dX0_count_130 : decode cX0_count 130 = .ok (.return_, 1) := by decide +kernel
theorem dX0_behind_0 : decode cX0_behind 0 = .ok (.aload_n 0, 1) := by decide +kernel
theorem dX0_behind_1 : decode cX0_behind 1 = .ok (.getfield 9, 3) := by decide +kernel
theorem dX0_behind_4 : decode cX0_behind 4 = .ok (.iload_n 2, 1) := by decide +kernel
theorem dX0_behind_5 : decode cX0_behind 5 = .ok (.sipush 150, 3) := by decide +kernel
theorem dX0_behind_8 : decode cX0_behind 8 = .ok (.imul, 1) := by decide +kernel
theorem dX0_behind_9 : decode cX0_behind 9 = .ok (.iload_n 1, 1) := by decide +kernel
theorem dX0_behind_10 : decode cX0_behind 10 = .ok (.iadd, 1) := by decide +kernel
theorem dX0_behind_11 : decode cX0_behind 11 = .ok (.laload, 1) := by decide +kernel
theorem dX0_behind_12 : decode cX0_behind 12 = .ok (.lreturn, 1) := by decide +kernel
theorem dX0_tellWord_0 : decode cX0_tellWord 0 = .ok (.lload_n 3, 1) := by decide +kernel
theorem dX0_tellWord_1 : decode cX0_tellWord 1 = .ok (.lstore 6, 2) := by decide +kernel
theorem dX0_tellWord_3 : decode cX0_tellWord 3 = .ok (.iconst 0, 1) := by decide +kernel
theorem dX0_tellWord_4 : decode cX0_tellWord 4 = .ok (.istore 8, 2) := by decide +kernel
theorem dX0_tellWord_6 : decode cX0_tellWord 6 = .ok (.iconst 0, 1) := by decide +kernel
theorem dX0_tellWord_7 : decode cX0_tellWord 7 = .ok (.istore 9, 2) := by decide +kernel
theorem dX0_tellWord_9 : decode cX0_tellWord 9 = .ok (.iload 9, 2) := by decide +kernel
theorem dX0_tellWord_11 : decode cX0_tellWord 11 = .ok (.iload_n 2, 1) := by decide +kernel
theorem dX0_tellWord_12 : decode cX0_tellWord 12 = .ok (.if_icmp .ge 108, 3) := by decide +kernel
theorem dX0_tellWord_15 : decode cX0_tellWord 15 = .ok (.iconst 0, 1) := by decide +kernel
theorem dX0_tellWord_16 : decode cX0_tellWord 16 = .ok (.istore 10, 2) := by decide +kernel
theorem dX0_tellWord_18 : decode cX0_tellWord 18 = .ok (.aload_n 0, 1) := by decide +kernel
theorem dX0_tellWord_19 : decode cX0_tellWord 19 = .ok (.aload_n 1, 1) := by decide +kernel
theorem dX0_tellWord_20 : decode cX0_tellWord 20 = .ok (.getfield 25, 3) := by decide +kernel
theorem dX0_tellWord_23 : decode cX0_tellWord 23 = .ok (.iload 8, 2) := by decide +kernel
theorem dX0_tellWord_25 : decode cX0_tellWord 25 = .ok (.iconst 4, 1) := by decide +kernel
theorem dX0_tellWord_26 : decode cX0_tellWord 26 = .ok (.imul, 1) := by decide +kernel
theorem dX0_tellWord_27 : decode cX0_tellWord 27 = .ok (.iaload, 1) := by decide +kernel
theorem dX0_tellWord_28 : decode cX0_tellWord 28 = .ok (.iload_n 2, 1) := by decide +kernel
theorem dX0_tellWord_29 : decode cX0_tellWord 29 = .ok (.iconst 1, 1) := by decide +kernel
theorem dX0_tellWord_30 : decode cX0_tellWord 30 = .ok (.isub, 1) := by decide +kernel
theorem dX0_tellWord_31 : decode cX0_tellWord 31 = .ok (.iload 9, 2) := by decide +kernel
theorem dX0_tellWord_33 : decode cX0_tellWord 33 = .ok (.isub, 1) := by decide +kernel
theorem dX0_tellWord_34 : decode cX0_tellWord 34 = .ok (.invokevirtual 29, 3) := by decide +kernel
theorem dX0_tellWord_37 : decode cX0_tellWord 37 = .ok (.lstore 11, 2) := by decide +kernel
theorem dX0_tellWord_39 : decode cX0_tellWord 39 = .ok (.iload 10, 2) := by decide +kernel
theorem dX0_tellWord_41 : decode cX0_tellWord 41 = .ok (.iconst 3, 1) := by decide +kernel
theorem dX0_tellWord_42 : decode cX0_tellWord 42 = .ok (.if_icmp .ge 48, 3) := by decide +kernel
theorem dX0_tellWord_45 : decode cX0_tellWord 45 = .ok (.lload 6, 2) := by decide +kernel
theorem dX0_tellWord_47 : decode cX0_tellWord 47 = .ok (.lload 11, 2) := by decide +kernel
theorem dX0_tellWord_49 : decode cX0_tellWord 49 = .ok (.lcmp, 1) := by decide +kernel
theorem dX0_tellWord_50 : decode cX0_tellWord 50 = .ok (.ifCond .lt 40, 3) := by decide +kernel
theorem dX0_tellWord_53 : decode cX0_tellWord 53 = .ok (.lload 6, 2) := by decide +kernel
theorem dX0_tellWord_55 : decode cX0_tellWord 55 = .ok (.lload 11, 2) := by decide +kernel
theorem dX0_tellWord_57 : decode cX0_tellWord 57 = .ok (.lsub, 1) := by decide +kernel
theorem dX0_tellWord_58 : decode cX0_tellWord 58 = .ok (.lstore 6, 2) := by decide +kernel
theorem dX0_tellWord_60 : decode cX0_tellWord 60 = .ok (.iinc 10 1, 3) := by decide +kernel
theorem dX0_tellWord_63 : decode cX0_tellWord 63 = .ok (.aload_n 0, 1) := by decide +kernel
theorem dX0_tellWord_64 : decode cX0_tellWord 64 = .ok (.aload_n 1, 1) := by decide +kernel
theorem dX0_tellWord_65 : decode cX0_tellWord 65 = .ok (.getfield 25, 3) := by decide +kernel
theorem dX0_tellWord_68 : decode cX0_tellWord 68 = .ok (.iload 8, 2) := by decide +kernel
theorem dX0_tellWord_70 : decode cX0_tellWord 70 = .ok (.iconst 4, 1) := by decide +kernel
theorem dX0_tellWord_71 : decode cX0_tellWord 71 = .ok (.imul, 1) := by decide +kernel
theorem dX0_tellWord_72 : decode cX0_tellWord 72 = .ok (.iload 10, 2) := by decide +kernel
theorem dX0_tellWord_74 : decode cX0_tellWord 74 = .ok (.iadd, 1) := by decide +kernel
theorem dX0_tellWord_75 : decode cX0_tellWord 75 = .ok (.iaload, 1) := by decide +kernel
theorem dX0_tellWord_76 : decode cX0_tellWord 76 = .ok (.iload_n 2, 1) := by decide +kernel
theorem dX0_tellWord_77 : decode cX0_tellWord 77 = .ok (.iconst 1, 1) := by decide +kernel
theorem dX0_tellWord_78 : decode cX0_tellWord 78 = .ok (.isub, 1) := by decide +kernel
theorem dX0_tellWord_79 : decode cX0_tellWord 79 = .ok (.iload 9, 2) := by decide +kernel
theorem dX0_tellWord_81 : decode cX0_tellWord 81 = .ok (.isub, 1) := by decide +kernel
theorem dX0_tellWord_82 : decode cX0_tellWord 82 = .ok (.invokevirtual 29, 3) := by decide +kernel
theorem dX0_tellWord_85 : decode cX0_tellWord 85 = .ok (.lstore 11, 2) := by decide +kernel
theorem dX0_tellWord_87 : decode cX0_tellWord 87 = .ok (.goto (-48), 3) := by decide +kernel
theorem dX0_tellWord_90 : decode cX0_tellWord 90 = .ok (.aload 5, 2) := by decide +kernel
theorem dX0_tellWord_92 : decode cX0_tellWord 92 = .ok (.getfield 33, 3) := by decide +kernel
theorem dX0_tellWord_95 : decode cX0_tellWord 95 = .ok (.iload 9, 2) := by decide +kernel
theorem dX0_tellWord_97 : decode cX0_tellWord 97 = .ok (.iload 10, 2) := by decide +kernel
theorem dX0_tellWord_99 : decode cX0_tellWord 99 = .ok (.iastore, 1) := by decide +kernel
theorem dX0_tellWord_100 : decode cX0_tellWord 100 = .ok (.aload_n 1, 1) := by decide +kernel
theorem dX0_tellWord_101 : decode cX0_tellWord 101 = .ok (.getfield 25, 3) := by decide +kernel
theorem dX0_tellWord_104 : decode cX0_tellWord 104 = .ok (.iload 8, 2) := by decide +kernel
theorem dX0_tellWord_106 : decode cX0_tellWord 106 = .ok (.iconst 4, 1) := by decide +kernel
theorem dX0_tellWord_107 : decode cX0_tellWord 107 = .ok (.imul, 1) := by decide +kernel
theorem dX0_tellWord_108 : decode cX0_tellWord 108 = .ok (.iload 10, 2) := by decide +kernel
theorem dX0_tellWord_110 : decode cX0_tellWord 110 = .ok (.iadd, 1) := by decide +kernel
theorem dX0_tellWord_111 : decode cX0_tellWord 111 = .ok (.iaload, 1) := by decide +kernel
theorem dX0_tellWord_112 : decode cX0_tellWord 112 = .ok (.istore 8, 2) := by decide +kernel
theorem dX0_tellWord_114 : decode cX0_tellWord 114 = .ok (.iinc 9 1, 3) := by decide +kernel
theorem dX0_tellWord_117 : decode cX0_tellWord 117 = .ok (.goto (-108), 3) := by decide +kernel
theorem dX0_tellWord_120 : decode cX0_tellWord 120 = .ok (.aload 5, 2) := by decide +kernel
theorem dX0_tellWord_122 : decode cX0_tellWord 122 = .ok (.iload_n 2, 1) := by decide +kernel
theorem dX0_tellWord_123 : decode cX0_tellWord 123 = .ok (.putfield 38, 3) := by decide +kernel
theorem dX0_tellWord_126 : decode cX0_tellWord 126 = .ok (.return_, 1) := by decide +kernel
theorem dX1_init_0 : decode cX1_init 0 = .ok (.aload_n 0, 1) := by decide +kernel
theorem dX1_init_1 : decode cX1_init 1 = .ok (.invokespecial 3, 3) := by decide +kernel
theorem dX1_init_4 : decode cX1_init 4 = .ok (.aload_n 0, 1) := by decide +kernel
theorem dX1_init_5 : decode cX1_init 5 = .ok (.sipush 300, 3) := by decide +kernel
theorem dX1_init_8 : decode cX1_init 8 = .ok (.newarray .int, 2) := by decide +kernel
theorem dX1_init_10 : decode cX1_init 10 = .ok (.putfield 11, 3) := by decide +kernel
theorem dX1_init_13 : decode cX1_init 13 = .ok (.aload_n 0, 1) := by decide +kernel
theorem dX1_init_14 : decode cX1_init 14 = .ok (.sipush 300, 3) := by decide +kernel
theorem dX1_init_17 : decode cX1_init 17 = .ok (.newarray .int, 2) := by decide +kernel
theorem dX1_init_19 : decode cX1_init 19 = .ok (.putfield 15, 3) := by decide +kernel
theorem dX1_init_22 : decode cX1_init 22 = .ok (.aload_n 0, 1) := by decide +kernel
theorem dX1_init_23 : decode cX1_init 23 = .ok (.sipush 300, 3) := by decide +kernel
theorem dX1_init_26 : decode cX1_init 26 = .ok (.newarray .int, 2) := by decide +kernel
theorem dX1_init_28 : decode cX1_init 28 = .ok (.putfield 18, 3) := by decide +kernel
theorem dX1_init_31 : decode cX1_init 31 = .ok (.aload_n 0, 1) := by decide +kernel
theorem dX1_init_32 : decode cX1_init 32 = .ok (.sipush 300, 3) := by decide +kernel
theorem dX1_init_35 : decode cX1_init 35 = .ok (.newarray .int, 2) := by decide +kernel
theorem dX1_init_37 : decode cX1_init 37 = .ok (.putfield 21, 3) := by decide +kernel
theorem dX1_init_40 : decode cX1_init 40 = .ok (.aload_n 0, 1) := by decide +kernel
theorem dX1_init_41 : decode cX1_init 41 = .ok (.iconst 0, 1) := by decide +kernel
theorem dX1_init_42 : decode cX1_init 42 = .ok (.putfield 24, 3) := by decide +kernel
theorem dX1_init_45 : decode cX1_init 45 = .ok (.return_, 1) := by decide +kernel
theorem dX1_find_0 : decode cX1_find 0 = .ok (.iconst 0, 1) := by decide +kernel
theorem dX1_find_1 : decode cX1_find 1 = .ok (.istore 4, 2) := by decide +kernel
theorem dX1_find_3 : decode cX1_find 3 = .ok (.iload 4, 2) := by decide +kernel
theorem dX1_find_5 : decode cX1_find 5 = .ok (.sipush 300, 3) := by decide +kernel
theorem dX1_find_8 : decode cX1_find 8 = .ok (.if_icmp .ge 18, 3) := by decide +kernel
theorem dX1_find_11 : decode cX1_find 11 = .ok (.aload_n 0, 1) := by decide +kernel
theorem dX1_find_12 : decode cX1_find 12 = .ok (.getfield 11, 3) := by decide +kernel
theorem dX1_find_15 : decode cX1_find 15 = .ok (.iload 4, 2) := by decide +kernel
theorem dX1_find_17 : decode cX1_find 17 = .ok (.iload 4, 2) := by decide +kernel
theorem dX1_find_19 : decode cX1_find 19 = .ok (.iastore, 1) := by decide +kernel
theorem dX1_find_20 : decode cX1_find 20 = .ok (.iinc 4 1, 3) := by decide +kernel
theorem dX1_find_23 : decode cX1_find 23 = .ok (.goto (-20), 3) := by decide +kernel
theorem dX1_find_26 : decode cX1_find 26 = .ok (.aload_n 0, 1) := by decide +kernel
theorem dX1_find_27 : decode cX1_find 27 = .ok (.iconst 0, 1) := by decide +kernel
theorem dX1_find_28 : decode cX1_find 28 = .ok (.putfield 24, 3) := by decide +kernel
theorem dX1_find_31 : decode cX1_find 31 = .ok (.aload_n 0, 1) := by decide +kernel
theorem dX1_find_32 : decode cX1_find 32 = .ok (.iconst 0, 1) := by decide +kernel
theorem dX1_find_33 : decode cX1_find 33 = .ok (.iconst 0, 1) := by decide +kernel
theorem dX1_find_34 : decode cX1_find 34 = .ok (.iconst 0, 1) := by decide +kernel
theorem dX1_find_35 : decode cX1_find 35 = .ok (.invokevirtual 28, 3) := by decide +kernel
theorem dX1_find_38 : decode cX1_find 38 = .ok (.iconst 0, 1) := by decide +kernel
theorem dX1_find_39 : decode cX1_find 39 = .ok (.istore 4, 2) := by decide +kernel
theorem dX1_find_41 : decode cX1_find 41 = .ok (.iload 4, 2) := by decide +kernel
theorem dX1_find_43 : decode cX1_find 43 = .ok (.aload_n 0, 1) := by decide +kernel
theorem dX1_find_44 : decode cX1_find 44 = .ok (.getfield 24, 3) := by decide +kernel
theorem dX1_find_47 : decode cX1_find 47 = .ok (.if_icmp .ge 124, 3) := by decide +kernel
theorem dX1_find_50 : decode cX1_find 50 = .ok (.iload 4, 2) := by decide +kernel
theorem dX1_find_52 : decode cX1_find 52 = .ok (.sipush 300, 3) := by decide +kernel
theorem dX1_find_55 : decode cX1_find 55 = .ok (.if_icmp .ge 116, 3) := by decide +kernel
theorem dX1_find_58 : decode cX1_find 58 = .ok (.aload_n 1, 1) := by decide +kernel
theorem dX1_find_59 : decode cX1_find 59 = .ok (.getfield 32, 3) := by decide +kernel
theorem dX1_find_62 : decode cX1_find 62 = .ok (.aload_n 0, 1) := by decide +kernel
theorem dX1_find_63 : decode cX1_find 63 = .ok (.getfield 15, 3) := by decide +kernel
theorem dX1_find_66 : decode cX1_find 66 = .ok (.iload 4, 2) := by decide +kernel
theorem dX1_find_68 : decode cX1_find 68 = .ok (.iaload, 1) := by decide +kernel
theorem dX1_find_69 : decode cX1_find 69 = .ok (.baload, 1) := by decide +kernel
theorem dX1_find_70 : decode cX1_find 70 = .ok (.aload_n 2, 1) := by decide +kernel
theorem dX1_find_71 : decode cX1_find 71 = .ok (.getfield 32, 3) := by decide +kernel
theorem dX1_find_74 : decode cX1_find 74 = .ok (.aload_n 0, 1) := by decide +kernel
theorem dX1_find_75 : decode cX1_find 75 = .ok (.getfield 18, 3) := by decide +kernel
theorem dX1_find_78 : decode cX1_find 78 = .ok (.iload 4, 2) := by decide +kernel
theorem dX1_find_80 : decode cX1_find 80 = .ok (.iaload, 1) := by decide +kernel
theorem dX1_find_81 : decode cX1_find 81 = .ok (.baload, 1) := by decide +kernel
theorem dX1_find_82 : decode cX1_find 82 = .ok (.if_icmp .eq 15, 3) := by decide +kernel
theorem dX1_find_85 : decode cX1_find 85 = .ok (.aload_n 3, 1) := by decide +kernel
theorem dX1_find_86 : decode cX1_find 86 = .ok (.aload_n 0, 1) := by decide +kernel
theorem dX1_find_87 : decode cX1_find 87 = .ok (.getfield 21, 3) := by decide +kernel
theorem dX1_find_90 : decode cX1_find 90 = .ok (.iload 4, 2) := by decide +kernel
theorem dX1_find_92 : decode cX1_find 92 = .ok (.invokevirtual 38, 3) := by decide +kernel
theorem dX1_find_95 : decode cX1_find 95 = .ok (.iconst 1, 1) := by decide +kernel
theorem dX1_find_96 : decode cX1_find 96 = .ok (.ireturn, 1) := by decide +kernel
theorem dX1_find_97 : decode cX1_find 97 = .ok (.iconst 0, 1) := by decide +kernel
theorem dX1_find_98 : decode cX1_find 98 = .ok (.istore 5, 2) := by decide +kernel
theorem dX1_find_100 : decode cX1_find 100 = .ok (.iload 5, 2) := by decide +kernel
theorem dX1_find_102 : decode cX1_find 102 = .ok (.iconst 4, 1) := by decide +kernel
theorem dX1_find_103 : decode cX1_find 103 = .ok (.if_icmp .ge 62, 3) := by decide +kernel
theorem dX1_find_106 : decode cX1_find 106 = .ok (.aload_n 1, 1) := by decide +kernel
theorem dX1_find_107 : decode cX1_find 107 = .ok (.getfield 44, 3) := by decide +kernel
theorem dX1_find_110 : decode cX1_find 110 = .ok (.aload_n 0, 1) := by decide +kernel
theorem dX1_find_111 : decode cX1_find 111 = .ok (.getfield 15, 3) := by decide +kernel
theorem dX1_find_114 : decode cX1_find 114 = .ok (.iload 4, 2) := by decide +kernel
theorem dX1_find_116 : decode cX1_find 116 = .ok (.iaload, 1) := by decide +kernel
theorem dX1_find_117 : decode cX1_find 117 = .ok (.iconst 4, 1) := by decide +kernel
theorem dX1_find_118 : decode cX1_find 118 = .ok (.imul, 1) := by decide +kernel
theorem dX1_find_119 : decode cX1_find 119 = .ok (.iload 5, 2) := by decide +kernel
theorem dX1_find_121 : decode cX1_find 121 = .ok (.iadd, 1) := by decide +kernel
theorem dX1_find_122 : decode cX1_find 122 = .ok (.iaload, 1) := by decide +kernel
theorem dX1_find_123 : decode cX1_find 123 = .ok (.istore 6, 2) := by decide +kernel
theorem dX1_find_125 : decode cX1_find 125 = .ok (.aload_n 2, 1) := by decide +kernel
theorem dX1_find_126 : decode cX1_find 126 = .ok (.getfield 44, 3) := by decide +kernel
theorem dX1_find_129 : decode cX1_find 129 = .ok (.aload_n 0, 1) := by decide +kernel
theorem dX1_find_130 : decode cX1_find 130 = .ok (.getfield 18, 3) := by decide +kernel
theorem dX1_find_133 : decode cX1_find 133 = .ok (.iload 4, 2) := by decide +kernel
theorem dX1_find_135 : decode cX1_find 135 = .ok (.iaload, 1) := by decide +kernel
theorem dX1_find_136 : decode cX1_find 136 = .ok (.iconst 4, 1) := by decide +kernel
theorem dX1_find_137 : decode cX1_find 137 = .ok (.imul, 1) := by decide +kernel
theorem dX1_find_138 : decode cX1_find 138 = .ok (.iload 5, 2) := by decide +kernel
theorem dX1_find_140 : decode cX1_find 140 = .ok (.iadd, 1) := by decide +kernel
theorem dX1_find_141 : decode cX1_find 141 = .ok (.iaload, 1) := by decide +kernel
theorem dX1_find_142 : decode cX1_find 142 = .ok (.istore 7, 2) := by decide +kernel
theorem dX1_find_144 : decode cX1_find 144 = .ok (.aload_n 0, 1) := by decide +kernel
theorem dX1_find_145 : decode cX1_find 145 = .ok (.iload 6, 2) := by decide +kernel
theorem dX1_find_147 : decode cX1_find 147 = .ok (.iload 7, 2) := by decide +kernel
theorem dX1_find_149 : decode cX1_find 149 = .ok (.iload 4, 2) := by decide +kernel
theorem dX1_find_151 : decode cX1_find 151 = .ok (.iconst 4, 1) := by decide +kernel
theorem dX1_find_152 : decode cX1_find 152 = .ok (.imul, 1) := by decide +kernel
theorem dX1_find_153 : decode cX1_find 153 = .ok (.iload 5, 2) := by decide +kernel
theorem dX1_find_155 : decode cX1_find 155 = .ok (.iadd, 1) := by decide +kernel
theorem dX1_find_156 : decode cX1_find 156 = .ok (.invokevirtual 28, 3) := by decide +kernel
theorem dX1_find_159 : decode cX1_find 159 = .ok (.iinc 5 1, 3) := by decide +kernel
theorem dX1_find_162 : decode cX1_find 162 = .ok (.goto (-62), 3) := by decide +kernel
theorem dX1_find_165 : decode cX1_find 165 = .ok (.iinc 4 1, 3) := by decide +kernel
theorem dX1_find_168 : decode cX1_find 168 = .ok (.goto (-127), 3) := by decide +kernel
theorem dX1_find_171 : decode cX1_find 171 = .ok (.iconst 0, 1) := by decide +kernel
theorem dX1_find_172 : decode cX1_find 172 = .ok (.ireturn, 1) := by decide +kernel
theorem dX1_tiePair_0 : decode cX1_tiePair 0 = .ok (.aload_n 0, 1) := by decide +kernel
theorem dX1_tiePair_1 : decode cX1_tiePair 1 = .ok (.iload_n 1, 1) := by decide +kernel
theorem dX1_tiePair_2 : decode cX1_tiePair 2 = .ok (.invokevirtual 47, 3) := by decide +kernel
theorem dX1_tiePair_5 : decode cX1_tiePair 5 = .ok (.istore 4, 2) := by decide +kernel
theorem dX1_tiePair_7 : decode cX1_tiePair 7 = .ok (.aload_n 0, 1) := by decide +kernel
theorem dX1_tiePair_8 : decode cX1_tiePair 8 = .ok (.sipush 150, 3) := by decide +kernel
theorem dX1_tiePair_11 : decode cX1_tiePair 11 = .ok (.iload_n 2, 1) := by decide +kernel
theorem dX1_tiePair_12 : decode cX1_tiePair 12 = .ok (.iadd, 1) := by decide +kernel
theorem dX1_tiePair_13 : decode cX1_tiePair 13 = .ok (.invokevirtual 47, 3) := by decide +kernel
theorem dX1_tiePair_16 : decode cX1_tiePair 16 = .ok (.istore 5, 2) := by decide +kernel
theorem dX1_tiePair_18 : decode cX1_tiePair 18 = .ok (.iload 4, 2) := by decide +kernel
theorem dX1_tiePair_20 : decode cX1_tiePair 20 = .ok (.iload 5, 2) := by decide +kernel
theorem dX1_tiePair_22 : decode cX1_tiePair 22 = .ok (.if_icmp .eq 13, 3) := by decide +kernel
theorem dX1_tiePair_25 : decode cX1_tiePair 25 = .ok (.aload_n 0, 1) := by decide +kernel
theorem dX1_tiePair_26 : decode cX1_tiePair 26 = .ok (.getfield 24, 3) := by decide +kernel
theorem dX1_tiePair_29 : decode cX1_tiePair 29 = .ok (.sipush 300, 3) := by decide +kernel
theorem dX1_tiePair_32 : decode cX1_tiePair 32 = .ok (.if_icmp .lt 4, 3) := by decide +kernel
theorem dX1_tiePair_35 : decode cX1_tiePair 35 = .ok (.return_, 1) := by decide +kernel
theorem dX1_tiePair_36 : decode cX1_tiePair 36 = .ok (.aload_n 0, 1) := by decide +kernel
theorem dX1_tiePair_37 : decode cX1_tiePair 37 = .ok (.getfield 11, 3) := by decide +kernel
theorem dX1_tiePair_40 : decode cX1_tiePair 40 = .ok (.iload 4, 2) := by decide +kernel
theorem dX1_tiePair_42 : decode cX1_tiePair 42 = .ok (.iload 5, 2) := by decide +kernel
theorem dX1_tiePair_44 : decode cX1_tiePair 44 = .ok (.iastore, 1) := by decide +kernel
theorem dX1_tiePair_45 : decode cX1_tiePair 45 = .ok (.aload_n 0, 1) := by decide +kernel
theorem dX1_tiePair_46 : decode cX1_tiePair 46 = .ok (.getfield 15, 3) := by decide +kernel
theorem dX1_tiePair_49 : decode cX1_tiePair 49 = .ok (.aload_n 0, 1) := by decide +kernel
theorem dX1_tiePair_50 : decode cX1_tiePair 50 = .ok (.getfield 24, 3) := by decide +kernel
theorem dX1_tiePair_53 : decode cX1_tiePair 53 = .ok (.iload_n 1, 1) := by decide +kernel
theorem dX1_tiePair_54 : decode cX1_tiePair 54 = .ok (.iastore, 1) := by decide +kernel
theorem dX1_tiePair_55 : decode cX1_tiePair 55 = .ok (.aload_n 0, 1) := by decide +kernel
theorem dX1_tiePair_56 : decode cX1_tiePair 56 = .ok (.getfield 18, 3) := by decide +kernel
theorem dX1_tiePair_59 : decode cX1_tiePair 59 = .ok (.aload_n 0, 1) := by decide +kernel
theorem dX1_tiePair_60 : decode cX1_tiePair 60 = .ok (.getfield 24, 3) := by decide +kernel
theorem dX1_tiePair_63 : decode cX1_tiePair 63 = .ok (.iload_n 2, 1) := by decide +kernel
theorem dX1_tiePair_64 : decode cX1_tiePair 64 = .ok (.iastore, 1) := by decide +kernel
theorem dX1_tiePair_65 : decode cX1_tiePair 65 = .ok (.aload_n 0, 1) := by decide +kernel
theorem dX1_tiePair_66 : decode cX1_tiePair 66 = .ok (.getfield 21, 3) := by decide +kernel
theorem dX1_tiePair_69 : decode cX1_tiePair 69 = .ok (.aload_n 0, 1) := by decide +kernel
theorem dX1_tiePair_70 : decode cX1_tiePair 70 = .ok (.getfield 24, 3) := by decide +kernel
theorem dX1_tiePair_73 : decode cX1_tiePair 73 = .ok (.iload_n 3, 1) := by decide +kernel
theorem dX1_tiePair_74 : decode cX1_tiePair 74 = .ok (.iastore, 1) := by decide +kernel
theorem dX1_tiePair_75 : decode cX1_tiePair 75 = .ok (.aload_n 0, 1) := by decide +kernel
theorem dX1_tiePair_76 : decode cX1_tiePair 76 = .ok (.dup, 1) := by decide +kernel
theorem dX1_tiePair_77 : decode cX1_tiePair 77 = .ok (.getfield 24, 3) := by decide +kernel
theorem dX1_tiePair_80 : decode cX1_tiePair 80 = .ok (.iconst 1, 1) := by decide +kernel
theorem dX1_tiePair_81 : decode cX1_tiePair 81 = .ok (.iadd, 1) := by decide +kernel
theorem dX1_tiePair_82 : decode cX1_tiePair 82 = .ok (.putfield 24, 3) := by decide +kernel
theorem dX1_tiePair_85 : decode cX1_tiePair 85 = .ok (.return_, 1) := by decide +kernel
theorem dX1_groupOf_0 : decode cX1_groupOf 0 = .ok (.iload_n 1, 1) := by decide +kernel
theorem dX1_groupOf_1 : decode cX1_groupOf 1 = .ok (.istore_n 2, 1) := by decide +kernel
theorem dX1_groupOf_2 : decode cX1_groupOf 2 = .ok (.iconst 0, 1) := by decide +kernel
theorem dX1_groupOf_3 : decode cX1_groupOf 3 = .ok (.istore_n 3, 1) := by decide +kernel
theorem dX1_groupOf_4 : decode cX1_groupOf 4 = .ok (.iload_n 3, 1) := by decide +kernel
theorem dX1_groupOf_5 : decode cX1_groupOf 5 = .ok (.sipush 300, 3) := by decide +kernel
theorem dX1_groupOf_8 : decode cX1_groupOf 8 = .ok (.if_icmp .ge 43, 3) := by decide +kernel
theorem dX1_groupOf_11 : decode cX1_groupOf 11 = .ok (.aload_n 0, 1) := by decide +kernel
theorem dX1_groupOf_12 : decode cX1_groupOf 12 = .ok (.getfield 11, 3) := by decide +kernel
theorem dX1_groupOf_15 : decode cX1_groupOf 15 = .ok (.iload_n 2, 1) := by decide +kernel
theorem dX1_groupOf_16 : decode cX1_groupOf 16 = .ok (.iaload, 1) := by decide +kernel
theorem dX1_groupOf_17 : decode cX1_groupOf 17 = .ok (.iload_n 2, 1) := by decide +kernel
theorem dX1_groupOf_18 : decode cX1_groupOf 18 = .ok (.if_icmp .eq 33, 3) := by decide +kernel
theorem dX1_groupOf_21 : decode cX1_groupOf 21 = .ok (.aload_n 0, 1) := by decide +kernel
theorem dX1_groupOf_22 : decode cX1_groupOf 22 = .ok (.getfield 11, 3) := by decide +kernel
theorem dX1_groupOf_25 : decode cX1_groupOf 25 = .ok (.iload_n 2, 1) := by decide +kernel
theorem dX1_groupOf_26 : decode cX1_groupOf 26 = .ok (.aload_n 0, 1) := by decide +kernel
theorem dX1_groupOf_27 : decode cX1_groupOf 27 = .ok (.getfield 11, 3) := by decide +kernel
theorem dX1_groupOf_30 : decode cX1_groupOf 30 = .ok (.aload_n 0, 1) := by decide +kernel
theorem dX1_groupOf_31 : decode cX1_groupOf 31 = .ok (.getfield 11, 3) := by decide +kernel
theorem dX1_groupOf_34 : decode cX1_groupOf 34 = .ok (.iload_n 2, 1) := by decide +kernel
theorem dX1_groupOf_35 : decode cX1_groupOf 35 = .ok (.iaload, 1) := by decide +kernel
theorem dX1_groupOf_36 : decode cX1_groupOf 36 = .ok (.iaload, 1) := by decide +kernel
theorem dX1_groupOf_37 : decode cX1_groupOf 37 = .ok (.iastore, 1) := by decide +kernel
theorem dX1_groupOf_38 : decode cX1_groupOf 38 = .ok (.aload_n 0, 1) := by decide +kernel
theorem dX1_groupOf_39 : decode cX1_groupOf 39 = .ok (.getfield 11, 3) := by decide +kernel
theorem dX1_groupOf_42 : decode cX1_groupOf 42 = .ok (.iload_n 2, 1) := by decide +kernel
theorem dX1_groupOf_43 : decode cX1_groupOf 43 = .ok (.iaload, 1) := by decide +kernel
theorem dX1_groupOf_44 : decode cX1_groupOf 44 = .ok (.istore_n 2, 1) := by decide +kernel
theorem dX1_groupOf_45 : decode cX1_groupOf 45 = .ok (.iinc 3 1, 3) := by decide +kernel
theorem dX1_groupOf_48 : decode cX1_groupOf 48 = .ok (.goto (-44), 3) := by decide +kernel
theorem dX1_groupOf_51 : decode cX1_groupOf 51 = .ok (.iload_n 2, 1) := by decide +kernel
theorem dX1_groupOf_52 : decode cX1_groupOf 52 = .ok (.ireturn, 1) := by decide +kernel
theorem dX2_init_0 : decode cX2_init 0 = .ok (.aload_n 0, 1) := by decide +kernel
theorem dX2_init_1 : decode cX2_init 1 = .ok (.invokespecial 3, 3) := by decide +kernel
theorem dX2_init_4 : decode cX2_init 4 = .ok (.aload_n 0, 1) := by decide +kernel
theorem dX2_init_5 : decode cX2_init 5 = .ok (.sipush 352, 3) := by decide +kernel
theorem dX2_init_8 : decode cX2_init 8 = .ok (.newarray .long, 2) := by decide +kernel
theorem dX2_init_10 : decode cX2_init 10 = .ok (.putfield 11, 3) := by decide +kernel
theorem dX2_init_13 : decode cX2_init 13 = .ok (.aload_n 0, 1) := by decide +kernel
theorem dX2_init_14 : decode cX2_init 14 = .ok (.sipush 352, 3) := by decide +kernel
theorem dX2_init_17 : decode cX2_init 17 = .ok (.newarray .long, 2) := by decide +kernel
theorem dX2_init_19 : decode cX2_init 19 = .ok (.putfield 15, 3) := by decide +kernel
theorem dX2_init_22 : decode cX2_init 22 = .ok (.return_, 1) := by decide +kernel
theorem dX2_surplus_0 : decode cX2_surplus 0 = .ok (.aload_n 1, 1) := by decide +kernel
theorem dX2_surplus_1 : decode cX2_surplus 1 = .ok (.getfield 18, 3) := by decide +kernel
theorem dX2_surplus_4 : decode cX2_surplus 4 = .ok (.aload_n 2, 1) := by decide +kernel
theorem dX2_surplus_5 : decode cX2_surplus 5 = .ok (.getfield 18, 3) := by decide +kernel
theorem dX2_surplus_8 : decode cX2_surplus 8 = .ok (.imul, 1) := by decide +kernel
theorem dX2_surplus_9 : decode cX2_surplus 9 = .ok (.istore_n 3, 1) := by decide +kernel
theorem dX2_surplus_10 : decode cX2_surplus 10 = .ok (.iload_n 3, 1) := by decide +kernel
theorem dX2_surplus_11 : decode cX2_surplus 11 = .ok (.bipush 64, 2) := by decide +kernel
theorem dX2_surplus_13 : decode cX2_surplus 13 = .ok (.iadd, 1) := by decide +kernel
theorem dX2_surplus_14 : decode cX2_surplus 14 = .ok (.iconst 1, 1) := by decide +kernel
theorem dX2_surplus_15 : decode cX2_surplus 15 = .ok (.isub, 1) := by decide +kernel
theorem dX2_surplus_16 : decode cX2_surplus 16 = .ok (.bipush 64, 2) := by decide +kernel
theorem dX2_surplus_18 : decode cX2_surplus 18 = .ok (.idiv, 1) := by decide +kernel
theorem dX2_surplus_19 : decode cX2_surplus 19 = .ok (.istore 4, 2) := by decide +kernel
theorem dX2_surplus_21 : decode cX2_surplus 21 = .ok (.iconst 0, 1) := by decide +kernel
theorem dX2_surplus_22 : decode cX2_surplus 22 = .ok (.istore 5, 2) := by decide +kernel
theorem dX2_surplus_24 : decode cX2_surplus 24 = .ok (.iload 5, 2) := by decide +kernel
theorem dX2_surplus_26 : decode cX2_surplus 26 = .ok (.iload 4, 2) := by decide +kernel
theorem dX2_surplus_28 : decode cX2_surplus 28 = .ok (.if_icmp .ge 25, 3) := by decide +kernel
theorem dX2_surplus_31 : decode cX2_surplus 31 = .ok (.aload_n 0, 1) := by decide +kernel
theorem dX2_surplus_32 : decode cX2_surplus 32 = .ok (.getfield 11, 3) := by decide +kernel
theorem dX2_surplus_35 : decode cX2_surplus 35 = .ok (.iload 5, 2) := by decide +kernel
theorem dX2_surplus_37 : decode cX2_surplus 37 = .ok (.lconst 0, 1) := by decide +kernel
theorem dX2_surplus_38 : decode cX2_surplus 38 = .ok (.lastore, 1) := by decide +kernel
theorem dX2_surplus_39 : decode cX2_surplus 39 = .ok (.aload_n 0, 1) := by decide +kernel
theorem dX2_surplus_40 : decode cX2_surplus 40 = .ok (.getfield 15, 3) := by decide +kernel
theorem dX2_surplus_43 : decode cX2_surplus 43 = .ok (.iload 5, 2) := by decide +kernel
theorem dX2_surplus_45 : decode cX2_surplus 45 = .ok (.lconst 0, 1) := by decide +kernel
theorem dX2_surplus_46 : decode cX2_surplus 46 = .ok (.lastore, 1) := by decide +kernel
theorem dX2_surplus_47 : decode cX2_surplus 47 = .ok (.iinc 5 1, 3) := by decide +kernel
theorem dX2_surplus_50 : decode cX2_surplus 50 = .ok (.goto (-26), 3) := by decide +kernel
theorem dX2_surplus_53 : decode cX2_surplus 53 = .ok (.aload_n 0, 1) := by decide +kernel
theorem dX2_surplus_54 : decode cX2_surplus 54 = .ok (.getfield 11, 3) := by decide +kernel
theorem dX2_surplus_57 : decode cX2_surplus 57 = .ok (.iconst 0, 1) := by decide +kernel
theorem dX2_surplus_58 : decode cX2_surplus 58 = .ok (.lconst 1, 1) := by decide +kernel
theorem dX2_surplus_59 : decode cX2_surplus 59 = .ok (.lastore, 1) := by decide +kernel
theorem dX2_surplus_60 : decode cX2_surplus 60 = .ok (.iconst 0, 1) := by decide +kernel
theorem dX2_surplus_61 : decode cX2_surplus 61 = .ok (.istore 5, 2) := by decide +kernel
theorem dX2_surplus_63 : decode cX2_surplus 63 = .ok (.iconst 1, 1) := by decide +kernel
theorem dX2_surplus_64 : decode cX2_surplus 64 = .ok (.istore 6, 2) := by decide +kernel
theorem dX2_surplus_66 : decode cX2_surplus 66 = .ok (.iconst 0, 1) := by decide +kernel
theorem dX2_surplus_67 : decode cX2_surplus 67 = .ok (.istore 7, 2) := by decide +kernel
theorem dX2_surplus_69 : decode cX2_surplus 69 = .ok (.iload 7, 2) := by decide +kernel
theorem dX2_surplus_71 : decode cX2_surplus 71 = .ok (.iload_n 3, 1) := by decide +kernel
theorem dX2_surplus_72 : decode cX2_surplus 72 = .ok (.if_icmp .gt 79, 3) := by decide +kernel
theorem dX2_surplus_75 : decode cX2_surplus 75 = .ok (.iload 6, 2) := by decide +kernel
theorem dX2_surplus_77 : decode cX2_surplus 77 = .ok (.ifCond .eq 74, 3) := by decide +kernel
theorem dX2_surplus_80 : decode cX2_surplus 80 = .ok (.iload 5, 2) := by decide +kernel
theorem dX2_surplus_82 : decode cX2_surplus 82 = .ok (.iconst 3, 1) := by decide +kernel
theorem dX2_surplus_83 : decode cX2_surplus 83 = .ok (.if_icmp .eq 68, 3) := by decide +kernel
theorem dX2_surplus_86 : decode cX2_surplus 86 = .ok (.iconst 0, 1) := by decide +kernel
theorem dX2_surplus_87 : decode cX2_surplus 87 = .ok (.istore 6, 2) := by decide +kernel
theorem dX2_surplus_89 : decode cX2_surplus 89 = .ok (.iconst 0, 1) := by decide +kernel
theorem dX2_surplus_90 : decode cX2_surplus 90 = .ok (.istore 8, 2) := by decide +kernel
theorem dX2_surplus_92 : decode cX2_surplus 92 = .ok (.iload 8, 2) := by decide +kernel
theorem dX2_surplus_94 : decode cX2_surplus 94 = .ok (.iload 4, 2) := by decide +kernel
theorem dX2_surplus_96 : decode cX2_surplus 96 = .ok (.if_icmp .ge 49, 3) := by decide +kernel
theorem dX2_surplus_99 : decode cX2_surplus 99 = .ok (.aload_n 0, 1) := by decide +kernel
theorem dX2_surplus_100 : decode cX2_surplus 100 = .ok (.getfield 11, 3) := by decide +kernel
theorem dX2_surplus_103 : decode cX2_surplus 103 = .ok (.iload 8, 2) := by decide +kernel
theorem dX2_surplus_105 : decode cX2_surplus 105 = .ok (.laload, 1) := by decide +kernel
theorem dX2_surplus_106 : decode cX2_surplus 106 = .ok (.aload_n 0, 1) := by decide +kernel
theorem dX2_surplus_107 : decode cX2_surplus 107 = .ok (.getfield 15, 3) := by decide +kernel
theorem dX2_surplus_110 : decode cX2_surplus 110 = .ok (.iload 8, 2) := by decide +kernel
theorem dX2_surplus_112 : decode cX2_surplus 112 = .ok (.laload, 1) := by decide +kernel
theorem dX2_surplus_113 : decode cX2_surplus 113 = .ok (.ldc2_w 24, 3) := by decide +kernel
theorem dX2_surplus_116 : decode cX2_surplus 116 = .ok (.lxor, 1) := by decide +kernel
theorem dX2_surplus_117 : decode cX2_surplus 117 = .ok (.land, 1) := by decide +kernel
theorem dX2_surplus_118 : decode cX2_surplus 118 = .ok (.lconst 0, 1) := by decide +kernel
theorem dX2_surplus_119 : decode cX2_surplus 119 = .ok (.lcmp, 1) := by decide +kernel
theorem dX2_surplus_120 : decode cX2_surplus 120 = .ok (.ifCond .eq 19, 3) := by decide +kernel
theorem dX2_surplus_123 : decode cX2_surplus 123 = .ok (.iconst 1, 1) := by decide +kernel
theorem dX2_surplus_124 : decode cX2_surplus 124 = .ok (.istore 6, 2) := by decide +kernel
theorem dX2_surplus_126 : decode cX2_surplus 126 = .ok (.iload 5, 2) := by decide +kernel
theorem dX2_surplus_128 : decode cX2_surplus 128 = .ok (.aload_n 0, 1) := by decide +kernel
theorem dX2_surplus_129 : decode cX2_surplus 129 = .ok (.aload_n 1, 1) := by decide +kernel
theorem dX2_surplus_130 : decode cX2_surplus 130 = .ok (.aload_n 2, 1) := by decide +kernel
theorem dX2_surplus_131 : decode cX2_surplus 131 = .ok (.iload 8, 2) := by decide +kernel
theorem dX2_surplus_133 : decode cX2_surplus 133 = .ok (.invokevirtual 26, 3) := by decide +kernel
theorem dX2_surplus_136 : decode cX2_surplus 136 = .ok (.ior, 1) := by decide +kernel
theorem dX2_surplus_137 : decode cX2_surplus 137 = .ok (.istore 5, 2) := by decide +kernel
theorem dX2_surplus_139 : decode cX2_surplus 139 = .ok (.iinc 8 1, 3) := by decide +kernel
theorem dX2_surplus_142 : decode cX2_surplus 142 = .ok (.goto (-50), 3) := by decide +kernel
theorem dX2_surplus_145 : decode cX2_surplus 145 = .ok (.iinc 7 1, 3) := by decide +kernel
theorem dX2_surplus_148 : decode cX2_surplus 148 = .ok (.goto (-79), 3) := by decide +kernel
theorem dX2_surplus_151 : decode cX2_surplus 151 = .ok (.iload 5, 2) := by decide +kernel
theorem dX2_surplus_153 : decode cX2_surplus 153 = .ok (.ireturn, 1) := by decide +kernel
theorem dX2_visitRow_0 : decode cX2_visitRow 0 = .ok (.iconst 0, 1) := by decide +kernel
theorem dX2_visitRow_1 : decode cX2_visitRow 1 = .ok (.istore 4, 2) := by decide +kernel
theorem dX2_visitRow_3 : decode cX2_visitRow 3 = .ok (.iconst 0, 1) := by decide +kernel
theorem dX2_visitRow_4 : decode cX2_visitRow 4 = .ok (.istore 5, 2) := by decide +kernel
theorem dX2_visitRow_6 : decode cX2_visitRow 6 = .ok (.iload 5, 2) := by decide +kernel
theorem dX2_visitRow_8 : decode cX2_visitRow 8 = .ok (.bipush 64, 2) := by decide +kernel
theorem dX2_visitRow_10 : decode cX2_visitRow 10 = .ok (.if_icmp .ge 67, 3) := by decide +kernel
theorem dX2_visitRow_13 : decode cX2_visitRow 13 = .ok (.aload_n 0, 1) := by decide +kernel
theorem dX2_visitRow_14 : decode cX2_visitRow 14 = .ok (.getfield 11, 3) := by decide +kernel
theorem dX2_visitRow_17 : decode cX2_visitRow 17 = .ok (.iload_n 3, 1) := by decide +kernel
theorem dX2_visitRow_18 : decode cX2_visitRow 18 = .ok (.laload, 1) := by decide +kernel
theorem dX2_visitRow_19 : decode cX2_visitRow 19 = .ok (.aload_n 0, 1) := by decide +kernel
theorem dX2_visitRow_20 : decode cX2_visitRow 20 = .ok (.getfield 15, 3) := by decide +kernel
theorem dX2_visitRow_23 : decode cX2_visitRow 23 = .ok (.iload_n 3, 1) := by decide +kernel
theorem dX2_visitRow_24 : decode cX2_visitRow 24 = .ok (.laload, 1) := by decide +kernel
theorem dX2_visitRow_25 : decode cX2_visitRow 25 = .ok (.ldc2_w 24, 3) := by decide +kernel
theorem dX2_visitRow_28 : decode cX2_visitRow 28 = .ok (.lxor, 1) := by decide +kernel
theorem dX2_visitRow_29 : decode cX2_visitRow 29 = .ok (.land, 1) := by decide +kernel
theorem dX2_visitRow_30 : decode cX2_visitRow 30 = .ok (.iload 5, 2) := by decide +kernel
theorem dX2_visitRow_32 : decode cX2_visitRow 32 = .ok (.lushr, 1) := by decide +kernel
theorem dX2_visitRow_33 : decode cX2_visitRow 33 = .ok (.lconst 1, 1) := by decide +kernel
theorem dX2_visitRow_34 : decode cX2_visitRow 34 = .ok (.land, 1) := by decide +kernel
theorem dX2_visitRow_35 : decode cX2_visitRow 35 = .ok (.lconst 0, 1) := by decide +kernel
theorem dX2_visitRow_36 : decode cX2_visitRow 36 = .ok (.lcmp, 1) := by decide +kernel
theorem dX2_visitRow_37 : decode cX2_visitRow 37 = .ok (.ifCond .eq 34, 3) := by decide +kernel
theorem dX2_visitRow_40 : decode cX2_visitRow 40 = .ok (.aload_n 0, 1) := by decide +kernel
theorem dX2_visitRow_41 : decode cX2_visitRow 41 = .ok (.getfield 15, 3) := by decide +kernel
theorem dX2_visitRow_44 : decode cX2_visitRow 44 = .ok (.iload_n 3, 1) := by decide +kernel
theorem dX2_visitRow_45 : decode cX2_visitRow 45 = .ok (.dup2, 1) := by decide +kernel
theorem dX2_visitRow_46 : decode cX2_visitRow 46 = .ok (.laload, 1) := by decide +kernel
theorem dX2_visitRow_47 : decode cX2_visitRow 47 = .ok (.lconst 1, 1) := by decide +kernel
theorem dX2_visitRow_48 : decode cX2_visitRow 48 = .ok (.iload 5, 2) := by decide +kernel
theorem dX2_visitRow_50 : decode cX2_visitRow 50 = .ok (.lshl, 1) := by decide +kernel
theorem dX2_visitRow_51 : decode cX2_visitRow 51 = .ok (.lor, 1) := by decide +kernel
theorem dX2_visitRow_52 : decode cX2_visitRow 52 = .ok (.lastore, 1) := by decide +kernel
theorem dX2_visitRow_53 : decode cX2_visitRow 53 = .ok (.iload 4, 2) := by decide +kernel
theorem dX2_visitRow_55 : decode cX2_visitRow 55 = .ok (.aload_n 0, 1) := by decide +kernel
theorem dX2_visitRow_56 : decode cX2_visitRow 56 = .ok (.aload_n 1, 1) := by decide +kernel
theorem dX2_visitRow_57 : decode cX2_visitRow 57 = .ok (.aload_n 2, 1) := by decide +kernel
theorem dX2_visitRow_58 : decode cX2_visitRow 58 = .ok (.iload_n 3, 1) := by decide +kernel
theorem dX2_visitRow_59 : decode cX2_visitRow 59 = .ok (.bipush 64, 2) := by decide +kernel
theorem dX2_visitRow_61 : decode cX2_visitRow 61 = .ok (.imul, 1) := by decide +kernel
theorem dX2_visitRow_62 : decode cX2_visitRow 62 = .ok (.iload 5, 2) := by decide +kernel
theorem dX2_visitRow_64 : decode cX2_visitRow 64 = .ok (.iadd, 1) := by decide +kernel
theorem dX2_visitRow_65 : decode cX2_visitRow 65 = .ok (.invokevirtual 30, 3) := by decide +kernel
theorem dX2_visitRow_68 : decode cX2_visitRow 68 = .ok (.ior, 1) := by decide +kernel
theorem dX2_visitRow_69 : decode cX2_visitRow 69 = .ok (.istore 4, 2) := by decide +kernel
theorem dX2_visitRow_71 : decode cX2_visitRow 71 = .ok (.iinc 5 1, 3) := by decide +kernel
theorem dX2_visitRow_74 : decode cX2_visitRow 74 = .ok (.goto (-68), 3) := by decide +kernel
theorem dX2_visitRow_77 : decode cX2_visitRow 77 = .ok (.iload 4, 2) := by decide +kernel
theorem dX2_visitRow_79 : decode cX2_visitRow 79 = .ok (.ireturn, 1) := by decide +kernel
theorem dX2_visit_0 : decode cX2_visit 0 = .ok (.iconst 1, 1) := by decide +kernel
theorem dX2_visit_1 : decode cX2_visit 1 = .ok (.aload_n 2, 1) := by decide +kernel
theorem dX2_visit_2 : decode cX2_visit 2 = .ok (.getfield 18, 3) := by decide +kernel
theorem dX2_visit_5 : decode cX2_visit 5 = .ok (.invokestatic 33, 3) := by decide +kernel
theorem dX2_visit_8 : decode cX2_visit 8 = .ok (.istore 4, 2) := by decide +kernel
theorem dX2_visit_10 : decode cX2_visit 10 = .ok (.iload_n 3, 1) := by decide +kernel
theorem dX2_visit_11 : decode cX2_visit 11 = .ok (.iload 4, 2) := by decide +kernel
theorem dX2_visit_13 : decode cX2_visit 13 = .ok (.idiv, 1) := by decide +kernel
theorem dX2_visit_14 : decode cX2_visit 14 = .ok (.istore 5, 2) := by decide +kernel
theorem dX2_visit_16 : decode cX2_visit 16 = .ok (.iload_n 3, 1) := by decide +kernel
theorem dX2_visit_17 : decode cX2_visit 17 = .ok (.iload 4, 2) := by decide +kernel
theorem dX2_visit_19 : decode cX2_visit 19 = .ok (.irem, 1) := by decide +kernel
theorem dX2_visit_20 : decode cX2_visit 20 = .ok (.istore 6, 2) := by decide +kernel
theorem dX2_visit_22 : decode cX2_visit 22 = .ok (.iconst 0, 1) := by decide +kernel
theorem dX2_visit_23 : decode cX2_visit 23 = .ok (.istore 7, 2) := by decide +kernel
theorem dX2_visit_25 : decode cX2_visit 25 = .ok (.iload 7, 2) := by decide +kernel
theorem dX2_visit_27 : decode cX2_visit 27 = .ok (.iconst 4, 1) := by decide +kernel
theorem dX2_visit_28 : decode cX2_visit 28 = .ok (.if_icmp .ge 59, 3) := by decide +kernel
theorem dX2_visit_31 : decode cX2_visit 31 = .ok (.aload_n 1, 1) := by decide +kernel
theorem dX2_visit_32 : decode cX2_visit 32 = .ok (.getfield 39, 3) := by decide +kernel
theorem dX2_visit_35 : decode cX2_visit 35 = .ok (.iload 5, 2) := by decide +kernel
theorem dX2_visit_37 : decode cX2_visit 37 = .ok (.iconst 4, 1) := by decide +kernel
theorem dX2_visit_38 : decode cX2_visit 38 = .ok (.imul, 1) := by decide +kernel
theorem dX2_visit_39 : decode cX2_visit 39 = .ok (.iload 7, 2) := by decide +kernel
theorem dX2_visit_41 : decode cX2_visit 41 = .ok (.iadd, 1) := by decide +kernel
theorem dX2_visit_42 : decode cX2_visit 42 = .ok (.iaload, 1) := by decide +kernel
theorem dX2_visit_43 : decode cX2_visit 43 = .ok (.iload 4, 2) := by decide +kernel
theorem dX2_visit_45 : decode cX2_visit 45 = .ok (.imul, 1) := by decide +kernel
theorem dX2_visit_46 : decode cX2_visit 46 = .ok (.aload_n 2, 1) := by decide +kernel
theorem dX2_visit_47 : decode cX2_visit 47 = .ok (.getfield 39, 3) := by decide +kernel
theorem dX2_visit_50 : decode cX2_visit 50 = .ok (.iload 6, 2) := by decide +kernel
theorem dX2_visit_52 : decode cX2_visit 52 = .ok (.iconst 4, 1) := by decide +kernel
theorem dX2_visit_53 : decode cX2_visit 53 = .ok (.imul, 1) := by decide +kernel
theorem dX2_visit_54 : decode cX2_visit 54 = .ok (.iload 7, 2) := by decide +kernel
theorem dX2_visit_56 : decode cX2_visit 56 = .ok (.iadd, 1) := by decide +kernel
theorem dX2_visit_57 : decode cX2_visit 57 = .ok (.iaload, 1) := by decide +kernel
theorem dX2_visit_58 : decode cX2_visit 58 = .ok (.iadd, 1) := by decide +kernel
theorem dX2_visit_59 : decode cX2_visit 59 = .ok (.istore 8, 2) := by decide +kernel
theorem dX2_visit_61 : decode cX2_visit 61 = .ok (.aload_n 0, 1) := by decide +kernel
theorem dX2_visit_62 : decode cX2_visit 62 = .ok (.getfield 11, 3) := by decide +kernel
theorem dX2_visit_65 : decode cX2_visit 65 = .ok (.iload 8, 2) := by decide +kernel
theorem dX2_visit_67 : decode cX2_visit 67 = .ok (.bipush 64, 2) := by decide +kernel
theorem dX2_visit_69 : decode cX2_visit 69 = .ok (.idiv, 1) := by decide +kernel
theorem dX2_visit_70 : decode cX2_visit 70 = .ok (.dup2, 1) := by decide +kernel
theorem dX2_visit_71 : decode cX2_visit 71 = .ok (.laload, 1) := by decide +kernel
theorem dX2_visit_72 : decode cX2_visit 72 = .ok (.lconst 1, 1) := by decide +kernel
theorem dX2_visit_73 : decode cX2_visit 73 = .ok (.iload 8, 2) := by decide +kernel
theorem dX2_visit_75 : decode cX2_visit 75 = .ok (.bipush 64, 2) := by decide +kernel
theorem dX2_visit_77 : decode cX2_visit 77 = .ok (.irem, 1) := by decide +kernel
theorem dX2_visit_78 : decode cX2_visit 78 = .ok (.lshl, 1) := by decide +kernel
theorem dX2_visit_79 : decode cX2_visit 79 = .ok (.lor, 1) := by decide +kernel
theorem dX2_visit_80 : decode cX2_visit 80 = .ok (.lastore, 1) := by decide +kernel
theorem dX2_visit_81 : decode cX2_visit 81 = .ok (.iinc 7 1, 3) := by decide +kernel
theorem dX2_visit_84 : decode cX2_visit 84 = .ok (.goto (-59), 3) := by decide +kernel
theorem dX2_visit_87 : decode cX2_visit 87 = .ok (.aload_n 1, 1) := by decide +kernel
theorem dX2_visit_88 : decode cX2_visit 88 = .ok (.getfield 43, 3) := by decide +kernel
theorem dX2_visit_91 : decode cX2_visit 91 = .ok (.iload 5, 2) := by decide +kernel
theorem dX2_visit_93 : decode cX2_visit 93 = .ok (.baload, 1) := by decide +kernel
theorem dX2_visit_94 : decode cX2_visit 94 = .ok (.aload_n 2, 1) := by decide +kernel
theorem dX2_visit_95 : decode cX2_visit 95 = .ok (.getfield 43, 3) := by decide +kernel
theorem dX2_visit_98 : decode cX2_visit 98 = .ok (.iload 6, 2) := by decide +kernel
theorem dX2_visit_100 : decode cX2_visit 100 = .ok (.baload, 1) := by decide +kernel
theorem dX2_visit_101 : decode cX2_visit 101 = .ok (.if_icmp .ne 5, 3) := by decide +kernel
theorem dX2_visit_104 : decode cX2_visit 104 = .ok (.iconst 0, 1) := by decide +kernel
theorem dX2_visit_105 : decode cX2_visit 105 = .ok (.ireturn, 1) := by decide +kernel
theorem dX2_visit_106 : decode cX2_visit 106 = .ok (.aload_n 1, 1) := by decide +kernel
theorem dX2_visit_107 : decode cX2_visit 107 = .ok (.getfield 43, 3) := by decide +kernel
theorem dX2_visit_110 : decode cX2_visit 110 = .ok (.iload 5, 2) := by decide +kernel
theorem dX2_visit_112 : decode cX2_visit 112 = .ok (.baload, 1) := by decide +kernel
theorem dX2_visit_113 : decode cX2_visit 113 = .ok (.ifCond .eq 7, 3) := by decide +kernel
theorem dX2_visit_116 : decode cX2_visit 116 = .ok (.iconst 1, 1) := by decide +kernel
theorem dX2_visit_117 : decode cX2_visit 117 = .ok (.goto 4, 3) := by decide +kernel
theorem dX2_visit_120 : decode cX2_visit 120 = .ok (.iconst 2, 1) := by decide +kernel
theorem dX2_visit_121 : decode cX2_visit 121 = .ok (.ireturn, 1) := by decide +kernel
theorem dX3_init_0 : decode cX3_init 0 = .ok (.aload_n 0, 1) := by decide +kernel
theorem dX3_init_1 : decode cX3_init 1 = .ok (.invokespecial 3, 3) := by decide +kernel
theorem dX3_init_4 : decode cX3_init 4 = .ok (.aload_n 0, 1) := by decide +kernel
theorem dX3_init_5 : decode cX3_init 5 = .ok (.sipush 150, 3) := by decide +kernel
theorem dX3_init_8 : decode cX3_init 8 = .ok (.newarray .int, 2) := by decide +kernel
theorem dX3_init_10 : decode cX3_init 10 = .ok (.putfield 9, 3) := by decide +kernel
theorem dX3_init_13 : decode cX3_init 13 = .ok (.aload_n 0, 1) := by decide +kernel
theorem dX3_init_14 : decode cX3_init 14 = .ok (.sipush 150, 3) := by decide +kernel
theorem dX3_init_17 : decode cX3_init 17 = .ok (.newarray .int, 2) := by decide +kernel
theorem dX3_init_19 : decode cX3_init 19 = .ok (.putfield 15, 3) := by decide +kernel
theorem dX3_init_22 : decode cX3_init 22 = .ok (.aload_n 0, 1) := by decide +kernel
theorem dX3_init_23 : decode cX3_init 23 = .ok (.sipush 150, 3) := by decide +kernel
theorem dX3_init_26 : decode cX3_init 26 = .ok (.newarray .int, 2) := by decide +kernel
theorem dX3_init_28 : decode cX3_init 28 = .ok (.putfield 18, 3) := by decide +kernel
theorem dX3_init_31 : decode cX3_init 31 = .ok (.aload_n 0, 1) := by decide +kernel
theorem dX3_init_32 : decode cX3_init 32 = .ok (.sipush 150, 3) := by decide +kernel
theorem dX3_init_35 : decode cX3_init 35 = .ok (.newarray .boolean, 2) := by decide +kernel
theorem dX3_init_37 : decode cX3_init 37 = .ok (.putfield 21, 3) := by decide +kernel
theorem dX3_init_40 : decode cX3_init 40 = .ok (.return_, 1) := by decide +kernel
theorem dX3_classify_0 : decode cX3_classify 0 = .ok (.aload_n 1, 1) := by decide +kernel
theorem dX3_classify_1 : decode cX3_classify 1 = .ok (.invokestatic 25, 3) := by decide +kernel
theorem dX3_classify_4 : decode cX3_classify 4 = .ok (.iconst 1, 1) := by decide +kernel
theorem dX3_classify_5 : decode cX3_classify 5 = .ok (.istore_n 2, 1) := by decide +kernel
theorem dX3_classify_6 : decode cX3_classify 6 = .ok (.iconst 0, 1) := by decide +kernel
theorem dX3_classify_7 : decode cX3_classify 7 = .ok (.istore_n 3, 1) := by decide +kernel
theorem dX3_classify_8 : decode cX3_classify 8 = .ok (.iload_n 3, 1) := by decide +kernel
theorem dX3_classify_9 : decode cX3_classify 9 = .ok (.sipush 150, 3) := by decide +kernel
theorem dX3_classify_12 : decode cX3_classify 12 = .ok (.if_icmp .ge 19, 3) := by decide +kernel
theorem dX3_classify_15 : decode cX3_classify 15 = .ok (.iload_n 2, 1) := by decide +kernel
theorem dX3_classify_16 : decode cX3_classify 16 = .ok (.ifCond .eq 15, 3) := by decide +kernel
theorem dX3_classify_19 : decode cX3_classify 19 = .ok (.aload_n 0, 1) := by decide +kernel
theorem dX3_classify_20 : decode cX3_classify 20 = .ok (.aload_n 1, 1) := by decide +kernel
theorem dX3_classify_21 : decode cX3_classify 21 = .ok (.invokevirtual 29, 3) := by decide +kernel
theorem dX3_classify_24 : decode cX3_classify 24 = .ok (.istore_n 2, 1) := by decide +kernel
theorem dX3_classify_25 : decode cX3_classify 25 = .ok (.iinc 3 1, 3) := by decide +kernel
theorem dX3_classify_28 : decode cX3_classify 28 = .ok (.goto (-20), 3) := by decide +kernel
theorem dX3_classify_31 : decode cX3_classify 31 = .ok (.aload_n 1, 1) := by decide +kernel
theorem dX3_classify_32 : decode cX3_classify 32 = .ok (.aload_n 0, 1) := by decide +kernel
theorem dX3_classify_33 : decode cX3_classify 33 = .ok (.aload_n 1, 1) := by decide +kernel
theorem dX3_classify_34 : decode cX3_classify 34 = .ok (.invokevirtual 33, 3) := by decide +kernel
theorem dX3_classify_37 : decode cX3_classify 37 = .ok (.putfield 36, 3) := by decide +kernel
theorem dX3_classify_40 : decode cX3_classify 40 = .ok (.return_, 1) := by decide +kernel
theorem dX3_divideByAccepting_0 : decode cX3_divideByAccepting 0 = .ok (.aload_n 0, 1) := by decide +kernel
theorem dX3_divideByAccepting_1 : decode cX3_divideByAccepting 1 = .ok (.iconst 1, 1) := by decide +kernel
theorem dX3_divideByAccepting_2 : decode cX3_divideByAccepting 2 = .ok (.putfield 42, 3) := by decide +kernel
theorem dX3_divideByAccepting_5 : decode cX3_divideByAccepting 5 = .ok (.iconst 0, 1) := by decide +kernel
theorem dX3_divideByAccepting_6 : decode cX3_divideByAccepting 6 = .ok (.istore_n 1, 1) := by decide +kernel
theorem dX3_divideByAccepting_7 : decode cX3_divideByAccepting 7 = .ok (.iload_n 1, 1) := by decide +kernel
theorem dX3_divideByAccepting_8 : decode cX3_divideByAccepting 8 = .ok (.aload_n 0, 1) := by decide +kernel
theorem dX3_divideByAccepting_9 : decode cX3_divideByAccepting 9 = .ok (.getfield 46, 3) := by decide +kernel
theorem dX3_divideByAccepting_12 : decode cX3_divideByAccepting 12 = .ok (.if_icmp .ge 61, 3) := by decide +kernel
theorem dX3_divideByAccepting_15 : decode cX3_divideByAccepting 15 = .ok (.aload_n 0, 1) := by decide +kernel
theorem dX3_divideByAccepting_16 : decode cX3_divideByAccepting 16 = .ok (.getfield 49, 3) := by decide +kernel
theorem dX3_divideByAccepting_19 : decode cX3_divideByAccepting 19 = .ok (.iload_n 1, 1) := by decide +kernel
theorem dX3_divideByAccepting_20 : decode cX3_divideByAccepting 20 = .ok (.baload, 1) := by decide +kernel
theorem dX3_divideByAccepting_21 : decode cX3_divideByAccepting 21 = .ok (.aload_n 0, 1) := by decide +kernel
theorem dX3_divideByAccepting_22 : decode cX3_divideByAccepting 22 = .ok (.getfield 49, 3) := by decide +kernel
theorem dX3_divideByAccepting_25 : decode cX3_divideByAccepting 25 = .ok (.iconst 0, 1) := by decide +kernel
theorem dX3_divideByAccepting_26 : decode cX3_divideByAccepting 26 = .ok (.baload, 1) := by decide +kernel
theorem dX3_divideByAccepting_27 : decode cX3_divideByAccepting 27 = .ok (.if_icmp .ne 7, 3) := by decide +kernel
theorem dX3_divideByAccepting_30 : decode cX3_divideByAccepting 30 = .ok (.iconst 1, 1) := by decide +kernel
theorem dX3_divideByAccepting_31 : decode cX3_divideByAccepting 31 = .ok (.goto 4, 3) := by decide +kernel
theorem dX3_divideByAccepting_34 : decode cX3_divideByAccepting 34 = .ok (.iconst 0, 1) := by decide +kernel
theorem dX3_divideByAccepting_35 : decode cX3_divideByAccepting 35 = .ok (.istore_n 2, 1) := by decide +kernel
theorem dX3_divideByAccepting_36 : decode cX3_divideByAccepting 36 = .ok (.aload_n 0, 1) := by decide +kernel
theorem dX3_divideByAccepting_37 : decode cX3_divideByAccepting 37 = .ok (.getfield 52, 3) := by decide +kernel
theorem dX3_divideByAccepting_40 : decode cX3_divideByAccepting 40 = .ok (.iload_n 1, 1) := by decide +kernel
theorem dX3_divideByAccepting_41 : decode cX3_divideByAccepting 41 = .ok (.iload_n 2, 1) := by decide +kernel
theorem dX3_divideByAccepting_42 : decode cX3_divideByAccepting 42 = .ok (.ifCond .eq 7, 3) := by decide +kernel
theorem dX3_divideByAccepting_45 : decode cX3_divideByAccepting 45 = .ok (.iconst 0, 1) := by decide +kernel
theorem dX3_divideByAccepting_46 : decode cX3_divideByAccepting 46 = .ok (.goto 4, 3) := by decide +kernel
theorem dX3_divideByAccepting_49 : decode cX3_divideByAccepting 49 = .ok (.iconst 1, 1) := by decide +kernel
theorem dX3_divideByAccepting_50 : decode cX3_divideByAccepting 50 = .ok (.iastore, 1) := by decide +kernel
theorem dX3_divideByAccepting_51 : decode cX3_divideByAccepting 51 = .ok (.aload_n 0, 1) := by decide +kernel
theorem dX3_divideByAccepting_52 : decode cX3_divideByAccepting 52 = .ok (.iload_n 2, 1) := by decide +kernel
theorem dX3_divideByAccepting_53 : decode cX3_divideByAccepting 53 = .ok (.ifCond .eq 10, 3) := by decide +kernel
theorem dX3_divideByAccepting_56 : decode cX3_divideByAccepting 56 = .ok (.aload_n 0, 1) := by decide +kernel
theorem dX3_divideByAccepting_57 : decode cX3_divideByAccepting 57 = .ok (.getfield 42, 3) := by decide +kernel
theorem dX3_divideByAccepting_60 : decode cX3_divideByAccepting 60 = .ok (.goto 4, 3) := by decide +kernel
theorem dX3_divideByAccepting_63 : decode cX3_divideByAccepting 63 = .ok (.iconst 2, 1) := by decide +kernel
theorem dX3_divideByAccepting_64 : decode cX3_divideByAccepting 64 = .ok (.putfield 42, 3) := by decide +kernel
theorem dX3_divideByAccepting_67 : decode cX3_divideByAccepting 67 = .ok (.iinc 1 1, 3) := by decide +kernel
theorem dX3_divideByAccepting_70 : decode cX3_divideByAccepting 70 = .ok (.goto (-63), 3) := by decide +kernel
theorem dX3_divideByAccepting_73 : decode cX3_divideByAccepting 73 = .ok (.return_, 1) := by decide +kernel
theorem dX3_divideByNext_0 : decode cX3_divideByNext 0 = .ok (.iconst 0, 1) := by decide +kernel
theorem dX3_divideByNext_1 : decode cX3_divideByNext 1 = .ok (.istore_n 2, 1) := by decide +kernel
theorem dX3_divideByNext_2 : decode cX3_divideByNext 2 = .ok (.iload_n 2, 1) := by decide +kernel
theorem dX3_divideByNext_3 : decode cX3_divideByNext 3 = .ok (.aload_n 1, 1) := by decide +kernel
theorem dX3_divideByNext_4 : decode cX3_divideByNext 4 = .ok (.getfield 42, 3) := by decide +kernel
theorem dX3_divideByNext_7 : decode cX3_divideByNext 7 = .ok (.if_icmp .ge 16, 3) := by decide +kernel
theorem dX3_divideByNext_10 : decode cX3_divideByNext 10 = .ok (.aload_n 0, 1) := by decide +kernel
theorem dX3_divideByNext_11 : decode cX3_divideByNext 11 = .ok (.getfield 15, 3) := by decide +kernel
theorem dX3_divideByNext_14 : decode cX3_divideByNext 14 = .ok (.iload_n 2, 1) := by decide +kernel
theorem dX3_divideByNext_15 : decode cX3_divideByNext 15 = .ok (.iconst (-1), 1) := by decide +kernel
theorem dX3_divideByNext_16 : decode cX3_divideByNext 16 = .ok (.iastore, 1) := by decide +kernel
theorem dX3_divideByNext_17 : decode cX3_divideByNext 17 = .ok (.iinc 2 1, 3) := by decide +kernel
theorem dX3_divideByNext_20 : decode cX3_divideByNext 20 = .ok (.goto (-18), 3) := by decide +kernel
theorem dX3_divideByNext_23 : decode cX3_divideByNext 23 = .ok (.iconst 0, 1) := by decide +kernel
theorem dX3_divideByNext_24 : decode cX3_divideByNext 24 = .ok (.istore_n 2, 1) := by decide +kernel
theorem dX3_divideByNext_25 : decode cX3_divideByNext 25 = .ok (.iconst 0, 1) := by decide +kernel
theorem dX3_divideByNext_26 : decode cX3_divideByNext 26 = .ok (.istore_n 3, 1) := by decide +kernel
theorem dX3_divideByNext_27 : decode cX3_divideByNext 27 = .ok (.iload_n 3, 1) := by decide +kernel
theorem dX3_divideByNext_28 : decode cX3_divideByNext 28 = .ok (.aload_n 1, 1) := by decide +kernel
theorem dX3_divideByNext_29 : decode cX3_divideByNext 29 = .ok (.getfield 46, 3) := by decide +kernel
theorem dX3_divideByNext_32 : decode cX3_divideByNext 32 = .ok (.if_icmp .ge 78, 3) := by decide +kernel
theorem dX3_divideByNext_35 : decode cX3_divideByNext 35 = .ok (.aload_n 0, 1) := by decide +kernel
theorem dX3_divideByNext_36 : decode cX3_divideByNext 36 = .ok (.aload_n 1, 1) := by decide +kernel
theorem dX3_divideByNext_37 : decode cX3_divideByNext 37 = .ok (.iload_n 3, 1) := by decide +kernel
theorem dX3_divideByNext_38 : decode cX3_divideByNext 38 = .ok (.invokevirtual 55, 3) := by decide +kernel
theorem dX3_divideByNext_41 : decode cX3_divideByNext 41 = .ok (.istore 4, 2) := by decide +kernel
theorem dX3_divideByNext_43 : decode cX3_divideByNext 43 = .ok (.iload 4, 2) := by decide +kernel
theorem dX3_divideByNext_45 : decode cX3_divideByNext 45 = .ok (.iconst (-1), 1) := by decide +kernel
theorem dX3_divideByNext_46 : decode cX3_divideByNext 46 = .ok (.if_icmp .ne 45, 3) := by decide +kernel
theorem dX3_divideByNext_49 : decode cX3_divideByNext 49 = .ok (.aload_n 1, 1) := by decide +kernel
theorem dX3_divideByNext_50 : decode cX3_divideByNext 50 = .ok (.getfield 52, 3) := by decide +kernel
theorem dX3_divideByNext_53 : decode cX3_divideByNext 53 = .ok (.iload_n 3, 1) := by decide +kernel
theorem dX3_divideByNext_54 : decode cX3_divideByNext 54 = .ok (.iaload, 1) := by decide +kernel
theorem dX3_divideByNext_55 : decode cX3_divideByNext 55 = .ok (.istore 5, 2) := by decide +kernel
theorem dX3_divideByNext_57 : decode cX3_divideByNext 57 = .ok (.aload_n 0, 1) := by decide +kernel
theorem dX3_divideByNext_58 : decode cX3_divideByNext 58 = .ok (.getfield 18, 3) := by decide +kernel
theorem dX3_divideByNext_61 : decode cX3_divideByNext 61 = .ok (.iload_n 3, 1) := by decide +kernel
theorem dX3_divideByNext_62 : decode cX3_divideByNext 62 = .ok (.aload_n 0, 1) := by decide +kernel
theorem dX3_divideByNext_63 : decode cX3_divideByNext 63 = .ok (.getfield 15, 3) := by decide +kernel
theorem dX3_divideByNext_66 : decode cX3_divideByNext 66 = .ok (.iload 5, 2) := by decide +kernel
theorem dX3_divideByNext_68 : decode cX3_divideByNext 68 = .ok (.iaload, 1) := by decide +kernel
theorem dX3_divideByNext_69 : decode cX3_divideByNext 69 = .ok (.iastore, 1) := by decide +kernel
theorem dX3_divideByNext_70 : decode cX3_divideByNext 70 = .ok (.aload_n 0, 1) := by decide +kernel
theorem dX3_divideByNext_71 : decode cX3_divideByNext 71 = .ok (.getfield 15, 3) := by decide +kernel
theorem dX3_divideByNext_74 : decode cX3_divideByNext 74 = .ok (.iload 5, 2) := by decide +kernel
theorem dX3_divideByNext_76 : decode cX3_divideByNext 76 = .ok (.iload_n 3, 1) := by decide +kernel
theorem dX3_divideByNext_77 : decode cX3_divideByNext 77 = .ok (.iastore, 1) := by decide +kernel
theorem dX3_divideByNext_78 : decode cX3_divideByNext 78 = .ok (.aload_n 0, 1) := by decide +kernel
theorem dX3_divideByNext_79 : decode cX3_divideByNext 79 = .ok (.getfield 9, 3) := by decide +kernel
theorem dX3_divideByNext_82 : decode cX3_divideByNext 82 = .ok (.iload_n 3, 1) := by decide +kernel
theorem dX3_divideByNext_83 : decode cX3_divideByNext 83 = .ok (.iload_n 2, 1) := by decide +kernel
theorem dX3_divideByNext_84 : decode cX3_divideByNext 84 = .ok (.iastore, 1) := by decide +kernel
theorem dX3_divideByNext_85 : decode cX3_divideByNext 85 = .ok (.iinc 2 1, 3) := by decide +kernel
theorem dX3_divideByNext_88 : decode cX3_divideByNext 88 = .ok (.goto 16, 3) := by decide +kernel
theorem dX3_divideByNext_91 : decode cX3_divideByNext 91 = .ok (.aload_n 0, 1) := by decide +kernel
theorem dX3_divideByNext_92 : decode cX3_divideByNext 92 = .ok (.getfield 9, 3) := by decide +kernel
theorem dX3_divideByNext_95 : decode cX3_divideByNext 95 = .ok (.iload_n 3, 1) := by decide +kernel
theorem dX3_divideByNext_96 : decode cX3_divideByNext 96 = .ok (.aload_n 0, 1) := by decide +kernel
theorem dX3_divideByNext_97 : decode cX3_divideByNext 97 = .ok (.getfield 9, 3) := by decide +kernel
theorem dX3_divideByNext_100 : decode cX3_divideByNext 100 = .ok (.iload 4, 2) := by decide +kernel
theorem dX3_divideByNext_102 : decode cX3_divideByNext 102 = .ok (.iaload, 1) := by decide +kernel
theorem dX3_divideByNext_103 : decode cX3_divideByNext 103 = .ok (.iastore, 1) := by decide +kernel
theorem dX3_divideByNext_104 : decode cX3_divideByNext 104 = .ok (.iinc 3 1, 3) := by decide +kernel
theorem dX3_divideByNext_107 : decode cX3_divideByNext 107 = .ok (.goto (-80), 3) := by decide +kernel
theorem dX3_divideByNext_110 : decode cX3_divideByNext 110 = .ok (.iload_n 2, 1) := by decide +kernel
theorem dX3_divideByNext_111 : decode cX3_divideByNext 111 = .ok (.aload_n 1, 1) := by decide +kernel
theorem dX3_divideByNext_112 : decode cX3_divideByNext 112 = .ok (.getfield 42, 3) := by decide +kernel
theorem dX3_divideByNext_115 : decode cX3_divideByNext 115 = .ok (.if_icmp .le 7, 3) := by decide +kernel
theorem dX3_divideByNext_118 : decode cX3_divideByNext 118 = .ok (.iconst 1, 1) := by decide +kernel
theorem dX3_divideByNext_119 : decode cX3_divideByNext 119 = .ok (.goto 4, 3) := by decide +kernel
theorem dX3_divideByNext_122 : decode cX3_divideByNext 122 = .ok (.iconst 0, 1) := by decide +kernel
theorem dX3_divideByNext_123 : decode cX3_divideByNext 123 = .ok (.istore_n 3, 1) := by decide +kernel
theorem dX3_divideByNext_124 : decode cX3_divideByNext 124 = .ok (.aload_n 0, 1) := by decide +kernel
theorem dX3_divideByNext_125 : decode cX3_divideByNext 125 = .ok (.getfield 9, 3) := by decide +kernel
theorem dX3_divideByNext_128 : decode cX3_divideByNext 128 = .ok (.iconst 0, 1) := by decide +kernel
theorem dX3_divideByNext_129 : decode cX3_divideByNext 129 = .ok (.aload_n 1, 1) := by decide +kernel
theorem dX3_divideByNext_130 : decode cX3_divideByNext 130 = .ok (.getfield 52, 3) := by decide +kernel
theorem dX3_divideByNext_133 : decode cX3_divideByNext 133 = .ok (.iconst 0, 1) := by decide +kernel
theorem dX3_divideByNext_134 : decode cX3_divideByNext 134 = .ok (.aload_n 1, 1) := by decide +kernel
theorem dX3_divideByNext_135 : decode cX3_divideByNext 135 = .ok (.getfield 46, 3) := by decide +kernel
theorem dX3_divideByNext_138 : decode cX3_divideByNext 138 = .ok (.invokestatic 59, 3) := by decide +kernel
theorem dX3_divideByNext_141 : decode cX3_divideByNext 141 = .ok (.aload_n 1, 1) := by decide +kernel
theorem dX3_divideByNext_142 : decode cX3_divideByNext 142 = .ok (.iload_n 2, 1) := by decide +kernel
theorem dX3_divideByNext_143 : decode cX3_divideByNext 143 = .ok (.putfield 42, 3) := by decide +kernel
theorem dX3_divideByNext_146 : decode cX3_divideByNext 146 = .ok (.iload_n 3, 1) := by decide +kernel
theorem dX3_divideByNext_147 : decode cX3_divideByNext 147 = .ok (.ireturn, 1) := by decide +kernel
theorem dX3_leaderLike_0 : decode cX3_leaderLike 0 = .ok (.aload_n 0, 1) := by decide +kernel
theorem dX3_leaderLike_1 : decode cX3_leaderLike 1 = .ok (.getfield 15, 3) := by decide +kernel
theorem dX3_leaderLike_4 : decode cX3_leaderLike 4 = .ok (.aload_n 1, 1) := by decide +kernel
theorem dX3_leaderLike_5 : decode cX3_leaderLike 5 = .ok (.getfield 52, 3) := by decide +kernel
theorem dX3_leaderLike_8 : decode cX3_leaderLike 8 = .ok (.iload_n 2, 1) := by decide +kernel
theorem dX3_leaderLike_9 : decode cX3_leaderLike 9 = .ok (.iaload, 1) := by decide +kernel
theorem dX3_leaderLike_10 : decode cX3_leaderLike 10 = .ok (.iaload, 1) := by decide +kernel
theorem dX3_leaderLike_11 : decode cX3_leaderLike 11 = .ok (.istore_n 3, 1) := by decide +kernel
theorem dX3_leaderLike_12 : decode cX3_leaderLike 12 = .ok (.iconst 0, 1) := by decide +kernel
theorem dX3_leaderLike_13 : decode cX3_leaderLike 13 = .ok (.istore 4, 2) := by decide +kernel
theorem dX3_leaderLike_15 : decode cX3_leaderLike 15 = .ok (.iload 4, 2) := by decide +kernel
theorem dX3_leaderLike_17 : decode cX3_leaderLike 17 = .ok (.sipush 150, 3) := by decide +kernel
theorem dX3_leaderLike_20 : decode cX3_leaderLike 20 = .ok (.if_icmp .ge 32, 3) := by decide +kernel
theorem dX3_leaderLike_23 : decode cX3_leaderLike 23 = .ok (.iload_n 3, 1) := by decide +kernel
theorem dX3_leaderLike_24 : decode cX3_leaderLike 24 = .ok (.iconst (-1), 1) := by decide +kernel
theorem dX3_leaderLike_25 : decode cX3_leaderLike 25 = .ok (.if_icmp .eq 27, 3) := by decide +kernel
theorem dX3_leaderLike_28 : decode cX3_leaderLike 28 = .ok (.aload_n 1, 1) := by decide +kernel
theorem dX3_leaderLike_29 : decode cX3_leaderLike 29 = .ok (.iload_n 2, 1) := by decide +kernel
theorem dX3_leaderLike_30 : decode cX3_leaderLike 30 = .ok (.iload_n 3, 1) := by decide +kernel
theorem dX3_leaderLike_31 : decode cX3_leaderLike 31 = .ok (.invokestatic 65, 3) := by decide +kernel
theorem dX3_leaderLike_34 : decode cX3_leaderLike 34 = .ok (.ifCond .eq 5, 3) := by decide +kernel
theorem dX3_leaderLike_37 : decode cX3_leaderLike 37 = .ok (.iload_n 3, 1) := by decide +kernel
theorem dX3_leaderLike_38 : decode cX3_leaderLike 38 = .ok (.ireturn, 1) := by decide +kernel
theorem dX3_leaderLike_39 : decode cX3_leaderLike 39 = .ok (.aload_n 0, 1) := by decide +kernel
theorem dX3_leaderLike_40 : decode cX3_leaderLike 40 = .ok (.getfield 18, 3) := by decide +kernel
theorem dX3_leaderLike_43 : decode cX3_leaderLike 43 = .ok (.iload_n 3, 1) := by decide +kernel
theorem dX3_leaderLike_44 : decode cX3_leaderLike 44 = .ok (.iaload, 1) := by decide +kernel
theorem dX3_leaderLike_45 : decode cX3_leaderLike 45 = .ok (.istore_n 3, 1) := by decide +kernel
theorem dX3_leaderLike_46 : decode cX3_leaderLike 46 = .ok (.iinc 4 1, 3) := by decide +kernel
theorem dX3_leaderLike_49 : decode cX3_leaderLike 49 = .ok (.goto (-34), 3) := by decide +kernel
theorem dX3_leaderLike_52 : decode cX3_leaderLike 52 = .ok (.iconst (-1), 1) := by decide +kernel
theorem dX3_leaderLike_53 : decode cX3_leaderLike 53 = .ok (.ireturn, 1) := by decide +kernel
theorem dX3_goAlike_0 : decode cX3_goAlike 0 = .ok (.iconst 0, 1) := by decide +kernel
theorem dX3_goAlike_1 : decode cX3_goAlike 1 = .ok (.istore_n 3, 1) := by decide +kernel
theorem dX3_goAlike_2 : decode cX3_goAlike 2 = .ok (.iload_n 3, 1) := by decide +kernel
theorem dX3_goAlike_3 : decode cX3_goAlike 3 = .ok (.iconst 4, 1) := by decide +kernel
theorem dX3_goAlike_4 : decode cX3_goAlike 4 = .ok (.if_icmp .ge 52, 3) := by decide +kernel
theorem dX3_goAlike_7 : decode cX3_goAlike 7 = .ok (.aload_n 0, 1) := by decide +kernel
theorem dX3_goAlike_8 : decode cX3_goAlike 8 = .ok (.getfield 69, 3) := by decide +kernel
theorem dX3_goAlike_11 : decode cX3_goAlike 11 = .ok (.iload_n 1, 1) := by decide +kernel
theorem dX3_goAlike_12 : decode cX3_goAlike 12 = .ok (.iconst 4, 1) := by decide +kernel
theorem dX3_goAlike_13 : decode cX3_goAlike 13 = .ok (.imul, 1) := by decide +kernel
theorem dX3_goAlike_14 : decode cX3_goAlike 14 = .ok (.iload_n 3, 1) := by decide +kernel
theorem dX3_goAlike_15 : decode cX3_goAlike 15 = .ok (.iadd, 1) := by decide +kernel
theorem dX3_goAlike_16 : decode cX3_goAlike 16 = .ok (.iaload, 1) := by decide +kernel
theorem dX3_goAlike_17 : decode cX3_goAlike 17 = .ok (.istore 4, 2) := by decide +kernel
theorem dX3_goAlike_19 : decode cX3_goAlike 19 = .ok (.aload_n 0, 1) := by decide +kernel
theorem dX3_goAlike_20 : decode cX3_goAlike 20 = .ok (.getfield 69, 3) := by decide +kernel
theorem dX3_goAlike_23 : decode cX3_goAlike 23 = .ok (.iload_n 2, 1) := by decide +kernel
theorem dX3_goAlike_24 : decode cX3_goAlike 24 = .ok (.iconst 4, 1) := by decide +kernel
theorem dX3_goAlike_25 : decode cX3_goAlike 25 = .ok (.imul, 1) := by decide +kernel
theorem dX3_goAlike_26 : decode cX3_goAlike 26 = .ok (.iload_n 3, 1) := by decide +kernel
theorem dX3_goAlike_27 : decode cX3_goAlike 27 = .ok (.iadd, 1) := by decide +kernel
theorem dX3_goAlike_28 : decode cX3_goAlike 28 = .ok (.iaload, 1) := by decide +kernel
theorem dX3_goAlike_29 : decode cX3_goAlike 29 = .ok (.istore 5, 2) := by decide +kernel
theorem dX3_goAlike_31 : decode cX3_goAlike 31 = .ok (.aload_n 0, 1) := by decide +kernel
theorem dX3_goAlike_32 : decode cX3_goAlike 32 = .ok (.getfield 52, 3) := by decide +kernel
theorem dX3_goAlike_35 : decode cX3_goAlike 35 = .ok (.iload 4, 2) := by decide +kernel
theorem dX3_goAlike_37 : decode cX3_goAlike 37 = .ok (.iaload, 1) := by decide +kernel
theorem dX3_goAlike_38 : decode cX3_goAlike 38 = .ok (.aload_n 0, 1) := by decide +kernel
theorem dX3_goAlike_39 : decode cX3_goAlike 39 = .ok (.getfield 52, 3) := by decide +kernel
theorem dX3_goAlike_42 : decode cX3_goAlike 42 = .ok (.iload 5, 2) := by decide +kernel
theorem dX3_goAlike_44 : decode cX3_goAlike 44 = .ok (.iaload, 1) := by decide +kernel
theorem dX3_goAlike_45 : decode cX3_goAlike 45 = .ok (.if_icmp .eq 5, 3) := by decide +kernel
theorem dX3_goAlike_48 : decode cX3_goAlike 48 = .ok (.iconst 0, 1) := by decide +kernel
theorem dX3_goAlike_49 : decode cX3_goAlike 49 = .ok (.ireturn, 1) := by decide +kernel
theorem dX3_goAlike_50 : decode cX3_goAlike 50 = .ok (.iinc 3 1, 3) := by decide +kernel
theorem dX3_goAlike_53 : decode cX3_goAlike 53 = .ok (.goto (-51), 3) := by decide +kernel
theorem dX3_goAlike_56 : decode cX3_goAlike 56 = .ok (.iconst 1, 1) := by decide +kernel
theorem dX3_goAlike_57 : decode cX3_goAlike 57 = .ok (.ireturn, 1) := by decide +kernel
theorem dX3_isFinite_0 : decode cX3_isFinite 0 = .ok (.iconst 0, 1) := by decide +kernel
theorem dX3_isFinite_1 : decode cX3_isFinite 1 = .ok (.istore_n 2, 1) := by decide +kernel
theorem dX3_isFinite_2 : decode cX3_isFinite 2 = .ok (.iload_n 2, 1) := by decide +kernel
theorem dX3_isFinite_3 : decode cX3_isFinite 3 = .ok (.aload_n 1, 1) := by decide +kernel
theorem dX3_isFinite_4 : decode cX3_isFinite 4 = .ok (.getfield 42, 3) := by decide +kernel
theorem dX3_isFinite_7 : decode cX3_isFinite 7 = .ok (.if_icmp .ge 16, 3) := by decide +kernel
theorem dX3_isFinite_10 : decode cX3_isFinite 10 = .ok (.aload_n 0, 1) := by decide +kernel
theorem dX3_isFinite_11 : decode cX3_isFinite 11 = .ok (.getfield 21, 3) := by decide +kernel
theorem dX3_isFinite_14 : decode cX3_isFinite 14 = .ok (.iload_n 2, 1) := by decide +kernel
theorem dX3_isFinite_15 : decode cX3_isFinite 15 = .ok (.iconst 0, 1) := by decide +kernel
theorem dX3_isFinite_16 : decode cX3_isFinite 16 = .ok (.bastore, 1) := by decide +kernel
theorem dX3_isFinite_17 : decode cX3_isFinite 17 = .ok (.iinc 2 1, 3) := by decide +kernel
theorem dX3_isFinite_20 : decode cX3_isFinite 20 = .ok (.goto (-18), 3) := by decide +kernel
theorem dX3_isFinite_23 : decode cX3_isFinite 23 = .ok (.iconst 1, 1) := by decide +kernel
theorem dX3_isFinite_24 : decode cX3_isFinite 24 = .ok (.istore_n 2, 1) := by decide +kernel
theorem dX3_isFinite_25 : decode cX3_isFinite 25 = .ok (.iconst 0, 1) := by decide +kernel
theorem dX3_isFinite_26 : decode cX3_isFinite 26 = .ok (.istore_n 3, 1) := by decide +kernel
theorem dX3_isFinite_27 : decode cX3_isFinite 27 = .ok (.iload_n 3, 1) := by decide +kernel
theorem dX3_isFinite_28 : decode cX3_isFinite 28 = .ok (.sipush 150, 3) := by decide +kernel
theorem dX3_isFinite_31 : decode cX3_isFinite 31 = .ok (.if_icmp .gt 82, 3) := by decide +kernel
theorem dX3_isFinite_34 : decode cX3_isFinite 34 = .ok (.iload_n 2, 1) := by decide +kernel
theorem dX3_isFinite_35 : decode cX3_isFinite 35 = .ok (.ifCond .eq 78, 3) := by decide +kernel
theorem dX3_isFinite_38 : decode cX3_isFinite 38 = .ok (.iconst 0, 1) := by decide +kernel
theorem dX3_isFinite_39 : decode cX3_isFinite 39 = .ok (.istore_n 2, 1) := by decide +kernel
theorem dX3_isFinite_40 : decode cX3_isFinite 40 = .ok (.aload_n 1, 1) := by decide +kernel
theorem dX3_isFinite_41 : decode cX3_isFinite 41 = .ok (.getfield 46, 3) := by decide +kernel
theorem dX3_isFinite_44 : decode cX3_isFinite 44 = .ok (.iconst 1, 1) := by decide +kernel
theorem dX3_isFinite_45 : decode cX3_isFinite 45 = .ok (.isub, 1) := by decide +kernel
theorem dX3_isFinite_46 : decode cX3_isFinite 46 = .ok (.istore 4, 2) := by decide +kernel
theorem dX3_isFinite_48 : decode cX3_isFinite 48 = .ok (.iload 4, 2) := by decide +kernel
theorem dX3_isFinite_50 : decode cX3_isFinite 50 = .ok (.ifCond .lt 57, 3) := by decide +kernel
theorem dX3_isFinite_53 : decode cX3_isFinite 53 = .ok (.aload_n 1, 1) := by decide +kernel
theorem dX3_isFinite_54 : decode cX3_isFinite 54 = .ok (.getfield 52, 3) := by decide +kernel
theorem dX3_isFinite_57 : decode cX3_isFinite 57 = .ok (.iload 4, 2) := by decide +kernel
theorem dX3_isFinite_59 : decode cX3_isFinite 59 = .ok (.iaload, 1) := by decide +kernel
theorem dX3_isFinite_60 : decode cX3_isFinite 60 = .ok (.istore 5, 2) := by decide +kernel
theorem dX3_isFinite_62 : decode cX3_isFinite 62 = .ok (.aload_n 0, 1) := by decide +kernel
theorem dX3_isFinite_63 : decode cX3_isFinite 63 = .ok (.getfield 21, 3) := by decide +kernel
theorem dX3_isFinite_66 : decode cX3_isFinite 66 = .ok (.iload 5, 2) := by decide +kernel
theorem dX3_isFinite_68 : decode cX3_isFinite 68 = .ok (.baload, 1) := by decide +kernel
theorem dX3_isFinite_69 : decode cX3_isFinite 69 = .ok (.ifCond .ne 32, 3) := by decide +kernel
theorem dX3_isFinite_72 : decode cX3_isFinite 72 = .ok (.aload_n 1, 1) := by decide +kernel
theorem dX3_isFinite_73 : decode cX3_isFinite 73 = .ok (.iload 4, 2) := by decide +kernel
theorem dX3_isFinite_75 : decode cX3_isFinite 75 = .ok (.invokestatic 72, 3) := by decide +kernel
theorem dX3_isFinite_78 : decode cX3_isFinite 78 = .ok (.ifCond .ne 13, 3) := by decide +kernel
theorem dX3_isFinite_81 : decode cX3_isFinite 81 = .ok (.aload_n 0, 1) := by decide +kernel
theorem dX3_isFinite_82 : decode cX3_isFinite 82 = .ok (.aload_n 1, 1) := by decide +kernel
theorem dX3_isFinite_83 : decode cX3_isFinite 83 = .ok (.iload 4, 2) := by decide +kernel
theorem dX3_isFinite_85 : decode cX3_isFinite 85 = .ok (.invokevirtual 76, 3) := by decide +kernel
theorem dX3_isFinite_88 : decode cX3_isFinite 88 = .ok (.ifCond .eq 13, 3) := by decide +kernel
theorem dX3_isFinite_91 : decode cX3_isFinite 91 = .ok (.aload_n 0, 1) := by decide +kernel
theorem dX3_isFinite_92 : decode cX3_isFinite 92 = .ok (.getfield 21, 3) := by decide +kernel
theorem dX3_isFinite_95 : decode cX3_isFinite 95 = .ok (.iload 5, 2) := by decide +kernel
theorem dX3_isFinite_97 : decode cX3_isFinite 97 = .ok (.iconst 1, 1) := by decide +kernel
theorem dX3_isFinite_98 : decode cX3_isFinite 98 = .ok (.bastore, 1) := by decide +kernel
theorem dX3_isFinite_99 : decode cX3_isFinite 99 = .ok (.iconst 1, 1) := by decide +kernel
theorem dX3_isFinite_100 : decode cX3_isFinite 100 = .ok (.istore_n 2, 1) := by decide +kernel
theorem dX3_isFinite_101 : decode cX3_isFinite 101 = .ok (.iinc 4 (-1), 3) := by decide +kernel
theorem dX3_isFinite_104 : decode cX3_isFinite 104 = .ok (.goto (-56), 3) := by decide +kernel
theorem dX3_isFinite_107 : decode cX3_isFinite 107 = .ok (.iinc 3 1, 3) := by decide +kernel
theorem dX3_isFinite_110 : decode cX3_isFinite 110 = .ok (.goto (-83), 3) := by decide +kernel
theorem dX3_isFinite_113 : decode cX3_isFinite 113 = .ok (.aload_n 0, 1) := by decide +kernel
theorem dX3_isFinite_114 : decode cX3_isFinite 114 = .ok (.getfield 21, 3) := by decide +kernel
theorem dX3_isFinite_117 : decode cX3_isFinite 117 = .ok (.iconst 0, 1) := by decide +kernel
theorem dX3_isFinite_118 : decode cX3_isFinite 118 = .ok (.baload, 1) := by decide +kernel
theorem dX3_isFinite_119 : decode cX3_isFinite 119 = .ok (.ireturn, 1) := by decide +kernel
theorem dX3_meansNothing_0 : decode cX3_meansNothing 0 = .ok (.iconst 0, 1) := by decide +kernel
theorem dX3_meansNothing_1 : decode cX3_meansNothing 1 = .ok (.istore_n 2, 1) := by decide +kernel
theorem dX3_meansNothing_2 : decode cX3_meansNothing 2 = .ok (.iload_n 2, 1) := by decide +kernel
theorem dX3_meansNothing_3 : decode cX3_meansNothing 3 = .ok (.iconst 4, 1) := by decide +kernel
theorem dX3_meansNothing_4 : decode cX3_meansNothing 4 = .ok (.if_icmp .ge 35, 3) := by decide +kernel
theorem dX3_meansNothing_7 : decode cX3_meansNothing 7 = .ok (.aload_n 0, 1) := by decide +kernel
theorem dX3_meansNothing_8 : decode cX3_meansNothing 8 = .ok (.getfield 52, 3) := by decide +kernel
theorem dX3_meansNothing_11 : decode cX3_meansNothing 11 = .ok (.aload_n 0, 1) := by decide +kernel
theorem dX3_meansNothing_12 : decode cX3_meansNothing 12 = .ok (.getfield 69, 3) := by decide +kernel
theorem dX3_meansNothing_15 : decode cX3_meansNothing 15 = .ok (.iload_n 1, 1) := by decide +kernel
theorem dX3_meansNothing_16 : decode cX3_meansNothing 16 = .ok (.iconst 4, 1) := by decide +kernel
theorem dX3_meansNothing_17 : decode cX3_meansNothing 17 = .ok (.imul, 1) := by decide +kernel
theorem dX3_meansNothing_18 : decode cX3_meansNothing 18 = .ok (.iload_n 2, 1) := by decide +kernel
theorem dX3_meansNothing_19 : decode cX3_meansNothing 19 = .ok (.iadd, 1) := by decide +kernel
theorem dX3_meansNothing_20 : decode cX3_meansNothing 20 = .ok (.iaload, 1) := by decide +kernel
theorem dX3_meansNothing_21 : decode cX3_meansNothing 21 = .ok (.iaload, 1) := by decide +kernel
theorem dX3_meansNothing_22 : decode cX3_meansNothing 22 = .ok (.aload_n 0, 1) := by decide +kernel
theorem dX3_meansNothing_23 : decode cX3_meansNothing 23 = .ok (.getfield 52, 3) := by decide +kernel
theorem dX3_meansNothing_26 : decode cX3_meansNothing 26 = .ok (.iload_n 1, 1) := by decide +kernel
theorem dX3_meansNothing_27 : decode cX3_meansNothing 27 = .ok (.iaload, 1) := by decide +kernel
theorem dX3_meansNothing_28 : decode cX3_meansNothing 28 = .ok (.if_icmp .eq 5, 3) := by decide +kernel
theorem dX3_meansNothing_31 : decode cX3_meansNothing 31 = .ok (.iconst 0, 1) := by decide +kernel
theorem dX3_meansNothing_32 : decode cX3_meansNothing 32 = .ok (.ireturn, 1) := by decide +kernel
theorem dX3_meansNothing_33 : decode cX3_meansNothing 33 = .ok (.iinc 2 1, 3) := by decide +kernel
theorem dX3_meansNothing_36 : decode cX3_meansNothing 36 = .ok (.goto (-34), 3) := by decide +kernel
theorem dX3_meansNothing_39 : decode cX3_meansNothing 39 = .ok (.aload_n 0, 1) := by decide +kernel
theorem dX3_meansNothing_40 : decode cX3_meansNothing 40 = .ok (.getfield 49, 3) := by decide +kernel
theorem dX3_meansNothing_43 : decode cX3_meansNothing 43 = .ok (.iload_n 1, 1) := by decide +kernel
theorem dX3_meansNothing_44 : decode cX3_meansNothing 44 = .ok (.baload, 1) := by decide +kernel
theorem dX3_meansNothing_45 : decode cX3_meansNothing 45 = .ok (.ifCond .ne 7, 3) := by decide +kernel
theorem dX3_meansNothing_48 : decode cX3_meansNothing 48 = .ok (.iconst 1, 1) := by decide +kernel
theorem dX3_meansNothing_49 : decode cX3_meansNothing 49 = .ok (.goto 4, 3) := by decide +kernel
theorem dX3_meansNothing_52 : decode cX3_meansNothing 52 = .ok (.iconst 0, 1) := by decide +kernel
theorem dX3_meansNothing_53 : decode cX3_meansNothing 53 = .ok (.ireturn, 1) := by decide +kernel
theorem dX3_goesToEndedOnly_0 : decode cX3_goesToEndedOnly 0 = .ok (.iconst 0, 1) := by decide +kernel
theorem dX3_goesToEndedOnly_1 : decode cX3_goesToEndedOnly 1 = .ok (.istore_n 3, 1) := by decide +kernel
theorem dX3_goesToEndedOnly_2 : decode cX3_goesToEndedOnly 2 = .ok (.iload_n 3, 1) := by decide +kernel
theorem dX3_goesToEndedOnly_3 : decode cX3_goesToEndedOnly 3 = .ok (.iconst 4, 1) := by decide +kernel
theorem dX3_goesToEndedOnly_4 : decode cX3_goesToEndedOnly 4 = .ok (.if_icmp .ge 34, 3) := by decide +kernel
theorem dX3_goesToEndedOnly_7 : decode cX3_goesToEndedOnly 7 = .ok (.aload_n 0, 1) := by decide +kernel
theorem dX3_goesToEndedOnly_8 : decode cX3_goesToEndedOnly 8 = .ok (.getfield 21, 3) := by decide +kernel
theorem dX3_goesToEndedOnly_11 : decode cX3_goesToEndedOnly 11 = .ok (.aload_n 1, 1) := by decide +kernel
theorem dX3_goesToEndedOnly_12 : decode cX3_goesToEndedOnly 12 = .ok (.getfield 52, 3) := by decide +kernel
theorem dX3_goesToEndedOnly_15 : decode cX3_goesToEndedOnly 15 = .ok (.aload_n 1, 1) := by decide +kernel
theorem dX3_goesToEndedOnly_16 : decode cX3_goesToEndedOnly 16 = .ok (.getfield 69, 3) := by decide +kernel
theorem dX3_goesToEndedOnly_19 : decode cX3_goesToEndedOnly 19 = .ok (.iload_n 2, 1) := by decide +kernel
theorem dX3_goesToEndedOnly_20 : decode cX3_goesToEndedOnly 20 = .ok (.iconst 4, 1) := by decide +kernel
theorem dX3_goesToEndedOnly_21 : decode cX3_goesToEndedOnly 21 = .ok (.imul, 1) := by decide +kernel
theorem dX3_goesToEndedOnly_22 : decode cX3_goesToEndedOnly 22 = .ok (.iload_n 3, 1) := by decide +kernel
theorem dX3_goesToEndedOnly_23 : decode cX3_goesToEndedOnly 23 = .ok (.iadd, 1) := by decide +kernel
theorem dX3_goesToEndedOnly_24 : decode cX3_goesToEndedOnly 24 = .ok (.iaload, 1) := by decide +kernel
theorem dX3_goesToEndedOnly_25 : decode cX3_goesToEndedOnly 25 = .ok (.iaload, 1) := by decide +kernel
theorem dX3_goesToEndedOnly_26 : decode cX3_goesToEndedOnly 26 = .ok (.baload, 1) := by decide +kernel
theorem dX3_goesToEndedOnly_27 : decode cX3_goesToEndedOnly 27 = .ok (.ifCond .ne 5, 3) := by decide +kernel
theorem dX3_goesToEndedOnly_30 : decode cX3_goesToEndedOnly 30 = .ok (.iconst 0, 1) := by decide +kernel
theorem dX3_goesToEndedOnly_31 : decode cX3_goesToEndedOnly 31 = .ok (.ireturn, 1) := by decide +kernel
theorem dX3_goesToEndedOnly_32 : decode cX3_goesToEndedOnly 32 = .ok (.iinc 3 1, 3) := by decide +kernel
theorem dX3_goesToEndedOnly_35 : decode cX3_goesToEndedOnly 35 = .ok (.goto (-33), 3) := by decide +kernel
theorem dX3_goesToEndedOnly_38 : decode cX3_goesToEndedOnly 38 = .ok (.iconst 1, 1) := by decide +kernel
theorem dX3_goesToEndedOnly_39 : decode cX3_goesToEndedOnly 39 = .ok (.ireturn, 1) := by decide +kernel
theorem dX4_init_0 : decode cX4_init 0 = .ok (.aload_n 0, 1) := by decide +kernel
theorem dX4_init_1 : decode cX4_init 1 = .ok (.invokespecial 3, 3) := by decide +kernel
theorem dX4_init_4 : decode cX4_init 4 = .ok (.aload_n 0, 1) := by decide +kernel
theorem dX4_init_5 : decode cX4_init 5 = .ok (.iconst 0, 1) := by decide +kernel
theorem dX4_init_6 : decode cX4_init 6 = .ok (.putfield 9, 3) := by decide +kernel
theorem dX4_init_9 : decode cX4_init 9 = .ok (.aload_n 0, 1) := by decide +kernel
theorem dX4_init_10 : decode cX4_init 10 = .ok (.iconst 0, 1) := by decide +kernel
theorem dX4_init_11 : decode cX4_init 11 = .ok (.putfield 15, 3) := by decide +kernel
theorem dX4_init_14 : decode cX4_init 14 = .ok (.aload_n 0, 1) := by decide +kernel
theorem dX4_init_15 : decode cX4_init 15 = .ok (.iconst 0, 1) := by decide +kernel
theorem dX4_init_16 : decode cX4_init 16 = .ok (.putfield 18, 3) := by decide +kernel
theorem dX4_init_19 : decode cX4_init 19 = .ok (.aload_n 0, 1) := by decide +kernel
theorem dX4_init_20 : decode cX4_init 20 = .ok (.iconst 0, 1) := by decide +kernel
theorem dX4_init_21 : decode cX4_init 21 = .ok (.putfield 21, 3) := by decide +kernel
theorem dX4_init_24 : decode cX4_init 24 = .ok (.aload_n 0, 1) := by decide +kernel
theorem dX4_init_25 : decode cX4_init 25 = .ok (.iconst 0, 1) := by decide +kernel
theorem dX4_init_26 : decode cX4_init 26 = .ok (.putfield 24, 3) := by decide +kernel
theorem dX4_init_29 : decode cX4_init 29 = .ok (.aload_n 0, 1) := by decide +kernel
theorem dX4_init_30 : decode cX4_init 30 = .ok (.sipush 600, 3) := by decide +kernel
theorem dX4_init_33 : decode cX4_init 33 = .ok (.newarray .int, 2) := by decide +kernel
theorem dX4_init_35 : decode cX4_init 35 = .ok (.putfield 28, 3) := by decide +kernel
theorem dX4_init_38 : decode cX4_init 38 = .ok (.aload_n 0, 1) := by decide +kernel
theorem dX4_init_39 : decode cX4_init 39 = .ok (.sipush 150, 3) := by decide +kernel
theorem dX4_init_42 : decode cX4_init 42 = .ok (.newarray .int, 2) := by decide +kernel
theorem dX4_init_44 : decode cX4_init 44 = .ok (.putfield 32, 3) := by decide +kernel
theorem dX4_init_47 : decode cX4_init 47 = .ok (.aload_n 0, 1) := by decide +kernel
theorem dX4_init_48 : decode cX4_init 48 = .ok (.sipush 900, 3) := by decide +kernel
theorem dX4_init_51 : decode cX4_init 51 = .ok (.newarray .int, 2) := by decide +kernel
theorem dX4_init_53 : decode cX4_init 53 = .ok (.putfield 35, 3) := by decide +kernel
theorem dX4_init_56 : decode cX4_init 56 = .ok (.aload_n 0, 1) := by decide +kernel
theorem dX4_init_57 : decode cX4_init 57 = .ok (.sipush 150, 3) := by decide +kernel
theorem dX4_init_60 : decode cX4_init 60 = .ok (.newarray .boolean, 2) := by decide +kernel
theorem dX4_init_62 : decode cX4_init 62 = .ok (.putfield 38, 3) := by decide +kernel
theorem dX4_init_65 : decode cX4_init 65 = .ok (.aload_n 0, 1) := by decide +kernel
theorem dX4_init_66 : decode cX4_init 66 = .ok (.sipush 150, 3) := by decide +kernel
theorem dX4_init_69 : decode cX4_init 69 = .ok (.newarray .int, 2) := by decide +kernel
theorem dX4_init_71 : decode cX4_init 71 = .ok (.putfield 42, 3) := by decide +kernel
theorem dX4_init_74 : decode cX4_init 74 = .ok (.return_, 1) := by decide +kernel
theorem dX4_hasState_0 : decode cX4_hasState 0 = .ok (.iload_n 1, 1) := by decide +kernel
theorem dX4_hasState_1 : decode cX4_hasState 1 = .ok (.ifCond .lt 15, 3) := by decide +kernel
theorem dX4_hasState_4 : decode cX4_hasState 4 = .ok (.iload_n 1, 1) := by decide +kernel
theorem dX4_hasState_5 : decode cX4_hasState 5 = .ok (.aload_n 0, 1) := by decide +kernel
theorem dX4_hasState_6 : decode cX4_hasState 6 = .ok (.getfield 9, 3) := by decide +kernel
theorem dX4_hasState_9 : decode cX4_hasState 9 = .ok (.if_icmp .ge 7, 3) := by decide +kernel
theorem dX4_hasState_12 : decode cX4_hasState 12 = .ok (.iconst 1, 1) := by decide +kernel
theorem dX4_hasState_13 : decode cX4_hasState 13 = .ok (.goto 4, 3) := by decide +kernel
theorem dX4_hasState_16 : decode cX4_hasState 16 = .ok (.iconst 0, 1) := by decide +kernel
theorem dX4_hasState_17 : decode cX4_hasState 17 = .ok (.ireturn, 1) := by decide +kernel
theorem dX4_firstAccepting_0 : decode cX4_firstAccepting 0 = .ok (.iconst 0, 1) := by decide +kernel
theorem dX4_firstAccepting_1 : decode cX4_firstAccepting 1 = .ok (.istore_n 1, 1) := by decide +kernel
theorem dX4_firstAccepting_2 : decode cX4_firstAccepting 2 = .ok (.iload_n 1, 1) := by decide +kernel
theorem dX4_firstAccepting_3 : decode cX4_firstAccepting 3 = .ok (.aload_n 0, 1) := by decide +kernel
theorem dX4_firstAccepting_4 : decode cX4_firstAccepting 4 = .ok (.getfield 9, 3) := by decide +kernel
theorem dX4_firstAccepting_7 : decode cX4_firstAccepting 7 = .ok (.if_icmp .ge 20, 3) := by decide +kernel
theorem dX4_firstAccepting_10 : decode cX4_firstAccepting 10 = .ok (.aload_n 0, 1) := by decide +kernel
theorem dX4_firstAccepting_11 : decode cX4_firstAccepting 11 = .ok (.getfield 38, 3) := by decide +kernel
theorem dX4_firstAccepting_14 : decode cX4_firstAccepting 14 = .ok (.iload_n 1, 1) := by decide +kernel
theorem dX4_firstAccepting_15 : decode cX4_firstAccepting 15 = .ok (.baload, 1) := by decide +kernel
theorem dX4_firstAccepting_16 : decode cX4_firstAccepting 16 = .ok (.ifCond .eq 5, 3) := by decide +kernel
theorem dX4_firstAccepting_19 : decode cX4_firstAccepting 19 = .ok (.iload_n 1, 1) := by decide +kernel
theorem dX4_firstAccepting_20 : decode cX4_firstAccepting 20 = .ok (.ireturn, 1) := by decide +kernel
theorem dX4_firstAccepting_21 : decode cX4_firstAccepting 21 = .ok (.iinc 1 1, 3) := by decide +kernel
theorem dX4_firstAccepting_24 : decode cX4_firstAccepting 24 = .ok (.goto (-22), 3) := by decide +kernel
theorem dX4_firstAccepting_27 : decode cX4_firstAccepting 27 = .ok (.iconst (-1), 1) := by decide +kernel
theorem dX4_firstAccepting_28 : decode cX4_firstAccepting 28 = .ok (.ireturn, 1) := by decide +kernel
theorem dX5_init_0 : decode cX5_init 0 = .ok (.aload_n 0, 1) := by decide +kernel
theorem dX5_init_1 : decode cX5_init 1 = .ok (.invokespecial 3, 3) := by decide +kernel
theorem dX5_init_4 : decode cX5_init 4 = .ok (.aload_n 0, 1) := by decide +kernel
theorem dX5_init_5 : decode cX5_init 5 = .ok (.bipush 6, 2) := by decide +kernel
theorem dX5_init_7 : decode cX5_init 7 = .ok (.newarray .int, 2) := by decide +kernel
theorem dX5_init_9 : decode cX5_init 9 = .ok (.putfield 9, 3) := by decide +kernel
theorem dX5_init_12 : decode cX5_init 12 = .ok (.aload_n 0, 1) := by decide +kernel
theorem dX5_init_13 : decode cX5_init 13 = .ok (.bipush 6, 2) := by decide +kernel
theorem dX5_init_15 : decode cX5_init 15 = .ok (.newarray .int, 2) := by decide +kernel
theorem dX5_init_17 : decode cX5_init 17 = .ok (.putfield 15, 3) := by decide +kernel
theorem dX5_init_20 : decode cX5_init 20 = .ok (.aload_n 0, 1) := by decide +kernel
theorem dX5_init_21 : decode cX5_init 21 = .ok (.bipush 64, 2) := by decide +kernel
theorem dX5_init_23 : decode cX5_init 23 = .ok (.newarray .int, 2) := by decide +kernel
theorem dX5_init_25 : decode cX5_init 25 = .ok (.putfield 18, 3) := by decide +kernel
theorem dX5_init_28 : decode cX5_init 28 = .ok (.aload_n 0, 1) := by decide +kernel
theorem dX5_init_29 : decode cX5_init 29 = .ok (.sipush 150, 3) := by decide +kernel
theorem dX5_init_32 : decode cX5_init 32 = .ok (.newarray .int, 2) := by decide +kernel
theorem dX5_init_34 : decode cX5_init 34 = .ok (.putfield 21, 3) := by decide +kernel
theorem dX5_init_37 : decode cX5_init 37 = .ok (.return_, 1) := by decide +kernel
theorem dX5_make_0 : decode cX5_make 0 = .ok (.aload_n 2, 1) := by decide +kernel
theorem dX5_make_1 : decode cX5_make 1 = .ok (.iconst 0, 1) := by decide +kernel
theorem dX5_make_2 : decode cX5_make 2 = .ok (.putfield 24, 3) := by decide +kernel
theorem dX5_make_5 : decode cX5_make 5 = .ok (.aload_n 2, 1) := by decide +kernel
theorem dX5_make_6 : decode cX5_make 6 = .ok (.aload_n 1, 1) := by decide +kernel
theorem dX5_make_7 : decode cX5_make 7 = .ok (.getfield 30, 3) := by decide +kernel
theorem dX5_make_10 : decode cX5_make 10 = .ok (.putfield 35, 3) := by decide +kernel
theorem dX5_make_13 : decode cX5_make 13 = .ok (.aload_n 2, 1) := by decide +kernel
theorem dX5_make_14 : decode cX5_make 14 = .ok (.aload_n 1, 1) := by decide +kernel
theorem dX5_make_15 : decode cX5_make 15 = .ok (.invokevirtual 38, 3) := by decide +kernel
theorem dX5_make_18 : decode cX5_make 18 = .ok (.putfield 42, 3) := by decide +kernel
theorem dX5_make_21 : decode cX5_make 21 = .ok (.aload_n 0, 1) := by decide +kernel
theorem dX5_make_22 : decode cX5_make 22 = .ok (.invokevirtual 44, 3) := by decide +kernel
theorem dX5_make_25 : decode cX5_make 25 = .ok (.aload_n 0, 1) := by decide +kernel
theorem dX5_make_26 : decode cX5_make 26 = .ok (.aload_n 1, 1) := by decide +kernel
theorem dX5_make_27 : decode cX5_make 27 = .ok (.aload_n 2, 1) := by decide +kernel
theorem dX5_make_28 : decode cX5_make 28 = .ok (.iconst 0, 1) := by decide +kernel
theorem dX5_make_29 : decode cX5_make 29 = .ok (.invokevirtual 47, 3) := by decide +kernel
theorem dX5_make_32 : decode cX5_make 32 = .ok (.pop, 1) := by decide +kernel
theorem dX5_make_33 : decode cX5_make 33 = .ok (.iconst 0, 1) := by decide +kernel
theorem dX5_make_34 : decode cX5_make 34 = .ok (.istore_n 3, 1) := by decide +kernel
theorem dX5_make_35 : decode cX5_make 35 = .ok (.iload_n 3, 1) := by decide +kernel
theorem dX5_make_36 : decode cX5_make 36 = .ok (.aload_n 2, 1) := by decide +kernel
theorem dX5_make_37 : decode cX5_make 37 = .ok (.getfield 24, 3) := by decide +kernel
theorem dX5_make_40 : decode cX5_make 40 = .ok (.if_icmp .ge 91, 3) := by decide +kernel
theorem dX5_make_43 : decode cX5_make 43 = .ok (.iload_n 3, 1) := by decide +kernel
theorem dX5_make_44 : decode cX5_make 44 = .ok (.sipush 150, 3) := by decide +kernel
theorem dX5_make_47 : decode cX5_make 47 = .ok (.if_icmp .ge 84, 3) := by decide +kernel
theorem dX5_make_50 : decode cX5_make 50 = .ok (.aload_n 0, 1) := by decide +kernel
theorem dX5_make_51 : decode cX5_make 51 = .ok (.aload_n 1, 1) := by decide +kernel
theorem dX5_make_52 : decode cX5_make 52 = .ok (.aload_n 2, 1) := by decide +kernel
theorem dX5_make_53 : decode cX5_make 53 = .ok (.iload_n 3, 1) := by decide +kernel
theorem dX5_make_54 : decode cX5_make 54 = .ok (.invokevirtual 51, 3) := by decide +kernel
theorem dX5_make_57 : decode cX5_make 57 = .ok (.iconst 0, 1) := by decide +kernel
theorem dX5_make_58 : decode cX5_make 58 = .ok (.istore 4, 2) := by decide +kernel
theorem dX5_make_60 : decode cX5_make 60 = .ok (.iload 4, 2) := by decide +kernel
theorem dX5_make_62 : decode cX5_make 62 = .ok (.iconst 4, 1) := by decide +kernel
theorem dX5_make_63 : decode cX5_make 63 = .ok (.if_icmp .ge 62, 3) := by decide +kernel
theorem dX5_make_66 : decode cX5_make 66 = .ok (.iload_n 3, 1) := by decide +kernel
theorem dX5_make_67 : decode cX5_make 67 = .ok (.iconst 4, 1) := by decide +kernel
theorem dX5_make_68 : decode cX5_make 68 = .ok (.imul, 1) := by decide +kernel
theorem dX5_make_69 : decode cX5_make 69 = .ok (.iload 4, 2) := by decide +kernel
theorem dX5_make_71 : decode cX5_make 71 = .ok (.iadd, 1) := by decide +kernel
theorem dX5_make_72 : decode cX5_make 72 = .ok (.istore 5, 2) := by decide +kernel
theorem dX5_make_74 : decode cX5_make 74 = .ok (.aload_n 0, 1) := by decide +kernel
theorem dX5_make_75 : decode cX5_make 75 = .ok (.aload_n 1, 1) := by decide +kernel
theorem dX5_make_76 : decode cX5_make 76 = .ok (.iload 4, 2) := by decide +kernel
theorem dX5_make_78 : decode cX5_make 78 = .ok (.invokevirtual 55, 3) := by decide +kernel
theorem dX5_make_81 : decode cX5_make 81 = .ok (.aload_n 0, 1) := by decide +kernel
theorem dX5_make_82 : decode cX5_make 82 = .ok (.aload_n 2, 1) := by decide +kernel
theorem dX5_make_83 : decode cX5_make 83 = .ok (.invokevirtual 59, 3) := by decide +kernel
theorem dX5_make_86 : decode cX5_make 86 = .ok (.istore 6, 2) := by decide +kernel
theorem dX5_make_88 : decode cX5_make 88 = .ok (.iload 6, 2) := by decide +kernel
theorem dX5_make_90 : decode cX5_make 90 = .ok (.aload_n 2, 1) := by decide +kernel
theorem dX5_make_91 : decode cX5_make 91 = .ok (.getfield 24, 3) := by decide +kernel
theorem dX5_make_94 : decode cX5_make 94 = .ok (.if_icmp .ne 16, 3) := by decide +kernel
theorem dX5_make_97 : decode cX5_make 97 = .ok (.aload_n 0, 1) := by decide +kernel
theorem dX5_make_98 : decode cX5_make 98 = .ok (.aload_n 1, 1) := by decide +kernel
theorem dX5_make_99 : decode cX5_make 99 = .ok (.aload_n 2, 1) := by decide +kernel
theorem dX5_make_100 : decode cX5_make 100 = .ok (.iload 5, 2) := by decide +kernel
theorem dX5_make_102 : decode cX5_make 102 = .ok (.invokevirtual 47, 3) := by decide +kernel
theorem dX5_make_105 : decode cX5_make 105 = .ok (.ifCond .ne 5, 3) := by decide +kernel
theorem dX5_make_108 : decode cX5_make 108 = .ok (.iconst 0, 1) := by decide +kernel
theorem dX5_make_109 : decode cX5_make 109 = .ok (.ireturn, 1) := by decide +kernel
theorem dX5_make_110 : decode cX5_make 110 = .ok (.aload_n 2, 1) := by decide +kernel
theorem dX5_make_111 : decode cX5_make 111 = .ok (.getfield 63, 3) := by decide +kernel
theorem dX5_make_114 : decode cX5_make 114 = .ok (.iload 5, 2) := by decide +kernel
theorem dX5_make_116 : decode cX5_make 116 = .ok (.iload 6, 2) := by decide +kernel
theorem dX5_make_118 : decode cX5_make 118 = .ok (.iastore, 1) := by decide +kernel
theorem dX5_make_119 : decode cX5_make 119 = .ok (.iinc 4 1, 3) := by decide +kernel
theorem dX5_make_122 : decode cX5_make 122 = .ok (.goto (-62), 3) := by decide +kernel
theorem dX5_make_125 : decode cX5_make 125 = .ok (.iinc 3 1, 3) := by decide +kernel
theorem dX5_make_128 : decode cX5_make 128 = .ok (.goto (-93), 3) := by decide +kernel
theorem dX5_make_131 : decode cX5_make 131 = .ok (.iconst 1, 1) := by decide +kernel
theorem dX5_make_132 : decode cX5_make 132 = .ok (.ireturn, 1) := by decide +kernel
theorem dX5_beginEmpty_0 : decode cX5_beginEmpty 0 = .ok (.iconst 0, 1) := by decide +kernel
theorem dX5_beginEmpty_1 : decode cX5_beginEmpty 1 = .ok (.istore_n 1, 1) := by decide +kernel
theorem dX5_beginEmpty_2 : decode cX5_beginEmpty 2 = .ok (.iload_n 1, 1) := by decide +kernel
theorem dX5_beginEmpty_3 : decode cX5_beginEmpty 3 = .ok (.bipush 6, 2) := by decide +kernel
theorem dX5_beginEmpty_5 : decode cX5_beginEmpty 5 = .ok (.if_icmp .ge 16, 3) := by decide +kernel
theorem dX5_beginEmpty_8 : decode cX5_beginEmpty 8 = .ok (.aload_n 0, 1) := by decide +kernel
theorem dX5_beginEmpty_9 : decode cX5_beginEmpty 9 = .ok (.getfield 15, 3) := by decide +kernel
theorem dX5_beginEmpty_12 : decode cX5_beginEmpty 12 = .ok (.iload_n 1, 1) := by decide +kernel
theorem dX5_beginEmpty_13 : decode cX5_beginEmpty 13 = .ok (.iconst 0, 1) := by decide +kernel
theorem dX5_beginEmpty_14 : decode cX5_beginEmpty 14 = .ok (.iastore, 1) := by decide +kernel
theorem dX5_beginEmpty_15 : decode cX5_beginEmpty 15 = .ok (.iinc 1 1, 3) := by decide +kernel
theorem dX5_beginEmpty_18 : decode cX5_beginEmpty 18 = .ok (.goto (-16), 3) := by decide +kernel
theorem dX5_beginEmpty_21 : decode cX5_beginEmpty 21 = .ok (.iconst 0, 1) := by decide +kernel
theorem dX5_beginEmpty_22 : decode cX5_beginEmpty 22 = .ok (.istore_n 1, 1) := by decide +kernel
theorem dX5_beginEmpty_23 : decode cX5_beginEmpty 23 = .ok (.iload_n 1, 1) := by decide +kernel
theorem dX5_beginEmpty_24 : decode cX5_beginEmpty 24 = .ok (.bipush 64, 2) := by decide +kernel
theorem dX5_beginEmpty_26 : decode cX5_beginEmpty 26 = .ok (.if_icmp .ge 16, 3) := by decide +kernel
theorem dX5_beginEmpty_29 : decode cX5_beginEmpty 29 = .ok (.aload_n 0, 1) := by decide +kernel
theorem dX5_beginEmpty_30 : decode cX5_beginEmpty 30 = .ok (.getfield 18, 3) := by decide +kernel
theorem dX5_beginEmpty_33 : decode cX5_beginEmpty 33 = .ok (.iload_n 1, 1) := by decide +kernel
theorem dX5_beginEmpty_34 : decode cX5_beginEmpty 34 = .ok (.iconst 0, 1) := by decide +kernel
theorem dX5_beginEmpty_35 : decode cX5_beginEmpty 35 = .ok (.iastore, 1) := by decide +kernel
theorem dX5_beginEmpty_36 : decode cX5_beginEmpty 36 = .ok (.iinc 1 1, 3) := by decide +kernel
theorem dX5_beginEmpty_39 : decode cX5_beginEmpty 39 = .ok (.goto (-16), 3) := by decide +kernel
theorem dX5_beginEmpty_42 : decode cX5_beginEmpty 42 = .ok (.return_, 1) := by decide +kernel
theorem dX5_setReach_0 : decode cX5_setReach 0 = .ok (.iconst 0, 1) := by decide +kernel
theorem dX5_setReach_1 : decode cX5_setReach 1 = .ok (.istore 4, 2) := by decide +kernel
theorem dX5_setReach_3 : decode cX5_setReach 3 = .ok (.iload 4, 2) := by decide +kernel
theorem dX5_setReach_5 : decode cX5_setReach 5 = .ok (.aload_n 1, 1) := by decide +kernel
theorem dX5_setReach_6 : decode cX5_setReach 6 = .ok (.getfield 30, 3) := by decide +kernel
theorem dX5_setReach_9 : decode cX5_setReach 9 = .ok (.if_icmp .ge 48, 3) := by decide +kernel
theorem dX5_setReach_12 : decode cX5_setReach 12 = .ok (.aload_n 0, 1) := by decide +kernel
theorem dX5_setReach_13 : decode cX5_setReach 13 = .ok (.getfield 9, 3) := by decide +kernel
theorem dX5_setReach_16 : decode cX5_setReach 16 = .ok (.iload 4, 2) := by decide +kernel
theorem dX5_setReach_18 : decode cX5_setReach 18 = .ok (.iload_n 3, 1) := by decide +kernel
theorem dX5_setReach_19 : decode cX5_setReach 19 = .ok (.ifCond .ne 13, 3) := by decide +kernel
theorem dX5_setReach_22 : decode cX5_setReach 22 = .ok (.aload_n 1, 1) := by decide +kernel
theorem dX5_setReach_23 : decode cX5_setReach 23 = .ok (.getfield 66, 3) := by decide +kernel
theorem dX5_setReach_26 : decode cX5_setReach 26 = .ok (.iload 4, 2) := by decide +kernel
theorem dX5_setReach_28 : decode cX5_setReach 28 = .ok (.iaload, 1) := by decide +kernel
theorem dX5_setReach_29 : decode cX5_setReach 29 = .ok (.goto 21, 3) := by decide +kernel
theorem dX5_setReach_32 : decode cX5_setReach 32 = .ok (.aload_n 1, 1) := by decide +kernel
theorem dX5_setReach_33 : decode cX5_setReach 33 = .ok (.iload 4, 2) := by decide +kernel
theorem dX5_setReach_35 : decode cX5_setReach 35 = .ok (.aload_n 2, 1) := by decide +kernel
theorem dX5_setReach_36 : decode cX5_setReach 36 = .ok (.getfield 69, 3) := by decide +kernel
theorem dX5_setReach_39 : decode cX5_setReach 39 = .ok (.iload_n 3, 1) := by decide +kernel
theorem dX5_setReach_40 : decode cX5_setReach 40 = .ok (.bipush 6, 2) := by decide +kernel
theorem dX5_setReach_42 : decode cX5_setReach 42 = .ok (.imul, 1) := by decide +kernel
theorem dX5_setReach_43 : decode cX5_setReach 43 = .ok (.iload 4, 2) := by decide +kernel
theorem dX5_setReach_45 : decode cX5_setReach 45 = .ok (.iadd, 1) := by decide +kernel
theorem dX5_setReach_46 : decode cX5_setReach 46 = .ok (.iaload, 1) := by decide +kernel
theorem dX5_setReach_47 : decode cX5_setReach 47 = .ok (.invokevirtual 72, 3) := by decide +kernel
theorem dX5_setReach_50 : decode cX5_setReach 50 = .ok (.iastore, 1) := by decide +kernel
theorem dX5_setReach_51 : decode cX5_setReach 51 = .ok (.iinc 4 1, 3) := by decide +kernel
theorem dX5_setReach_54 : decode cX5_setReach 54 = .ok (.goto (-51), 3) := by decide +kernel
theorem dX5_setReach_57 : decode cX5_setReach 57 = .ok (.return_, 1) := by decide +kernel
theorem dX5_setBehind_0 : decode cX5_setBehind 0 = .ok (.iconst 0, 1) := by decide +kernel
theorem dX5_setBehind_1 : decode cX5_setBehind 1 = .ok (.istore_n 3, 1) := by decide +kernel
theorem dX5_setBehind_2 : decode cX5_setBehind 2 = .ok (.iload_n 3, 1) := by decide +kernel
theorem dX5_setBehind_3 : decode cX5_setBehind 3 = .ok (.aload_n 1, 1) := by decide +kernel
theorem dX5_setBehind_4 : decode cX5_setBehind 4 = .ok (.getfield 30, 3) := by decide +kernel
theorem dX5_setBehind_7 : decode cX5_setBehind 7 = .ok (.if_icmp .ge 32, 3) := by decide +kernel
theorem dX5_setBehind_10 : decode cX5_setBehind 10 = .ok (.aload_n 0, 1) := by decide +kernel
theorem dX5_setBehind_11 : decode cX5_setBehind 11 = .ok (.getfield 15, 3) := by decide +kernel
theorem dX5_setBehind_14 : decode cX5_setBehind 14 = .ok (.iload_n 3, 1) := by decide +kernel
theorem dX5_setBehind_15 : decode cX5_setBehind 15 = .ok (.aload_n 0, 1) := by decide +kernel
theorem dX5_setBehind_16 : decode cX5_setBehind 16 = .ok (.getfield 9, 3) := by decide +kernel
theorem dX5_setBehind_19 : decode cX5_setBehind 19 = .ok (.iload_n 3, 1) := by decide +kernel
theorem dX5_setBehind_20 : decode cX5_setBehind 20 = .ok (.iaload, 1) := by decide +kernel
theorem dX5_setBehind_21 : decode cX5_setBehind 21 = .ok (.aload_n 1, 1) := by decide +kernel
theorem dX5_setBehind_22 : decode cX5_setBehind 22 = .ok (.getfield 76, 3) := by decide +kernel
theorem dX5_setBehind_25 : decode cX5_setBehind 25 = .ok (.iload_n 3, 1) := by decide +kernel
theorem dX5_setBehind_26 : decode cX5_setBehind 26 = .ok (.iconst 4, 1) := by decide +kernel
theorem dX5_setBehind_27 : decode cX5_setBehind 27 = .ok (.imul, 1) := by decide +kernel
theorem dX5_setBehind_28 : decode cX5_setBehind 28 = .ok (.iload_n 2, 1) := by decide +kernel
theorem dX5_setBehind_29 : decode cX5_setBehind 29 = .ok (.iadd, 1) := by decide +kernel
theorem dX5_setBehind_30 : decode cX5_setBehind 30 = .ok (.iaload, 1) := by decide +kernel
theorem dX5_setBehind_31 : decode cX5_setBehind 31 = .ok (.iand, 1) := by decide +kernel
theorem dX5_setBehind_32 : decode cX5_setBehind 32 = .ok (.iastore, 1) := by decide +kernel
theorem dX5_setBehind_33 : decode cX5_setBehind 33 = .ok (.iinc 3 1, 3) := by decide +kernel
theorem dX5_setBehind_36 : decode cX5_setBehind 36 = .ok (.goto (-34), 3) := by decide +kernel
theorem dX5_setBehind_39 : decode cX5_setBehind 39 = .ok (.return_, 1) := by decide +kernel
theorem dX5_stateBehind_0 : decode cX5_stateBehind 0 = .ok (.aload_n 0, 1) := by decide +kernel
theorem dX5_stateBehind_1 : decode cX5_stateBehind 1 = .ok (.getfield 18, 3) := by decide +kernel
theorem dX5_stateBehind_4 : decode cX5_stateBehind 4 = .ok (.aload_n 0, 1) := by decide +kernel
theorem dX5_stateBehind_5 : decode cX5_stateBehind 5 = .ok (.aload_n 1, 1) := by decide +kernel
theorem dX5_stateBehind_6 : decode cX5_stateBehind 6 = .ok (.getfield 35, 3) := by decide +kernel
theorem dX5_stateBehind_9 : decode cX5_stateBehind 9 = .ok (.invokevirtual 79, 3) := by decide +kernel
theorem dX5_stateBehind_12 : decode cX5_stateBehind 12 = .ok (.iaload, 1) := by decide +kernel
theorem dX5_stateBehind_13 : decode cX5_stateBehind 13 = .ok (.istore_n 2, 1) := by decide +kernel
theorem dX5_stateBehind_14 : decode cX5_stateBehind 14 = .ok (.iconst 0, 1) := by decide +kernel
theorem dX5_stateBehind_15 : decode cX5_stateBehind 15 = .ok (.istore_n 3, 1) := by decide +kernel
theorem dX5_stateBehind_16 : decode cX5_stateBehind 16 = .ok (.iload_n 3, 1) := by decide +kernel
theorem dX5_stateBehind_17 : decode cX5_stateBehind 17 = .ok (.sipush 150, 3) := by decide +kernel
theorem dX5_stateBehind_20 : decode cX5_stateBehind 20 = .ok (.if_icmp .ge 31, 3) := by decide +kernel
theorem dX5_stateBehind_23 : decode cX5_stateBehind 23 = .ok (.iload_n 2, 1) := by decide +kernel
theorem dX5_stateBehind_24 : decode cX5_stateBehind 24 = .ok (.ifCond .le 27, 3) := by decide +kernel
theorem dX5_stateBehind_27 : decode cX5_stateBehind 27 = .ok (.aload_n 0, 1) := by decide +kernel
theorem dX5_stateBehind_28 : decode cX5_stateBehind 28 = .ok (.aload_n 1, 1) := by decide +kernel
theorem dX5_stateBehind_29 : decode cX5_stateBehind 29 = .ok (.iload_n 2, 1) := by decide +kernel
theorem dX5_stateBehind_30 : decode cX5_stateBehind 30 = .ok (.invokevirtual 83, 3) := by decide +kernel
theorem dX5_stateBehind_33 : decode cX5_stateBehind 33 = .ok (.ifCond .eq 5, 3) := by decide +kernel
theorem dX5_stateBehind_36 : decode cX5_stateBehind 36 = .ok (.iload_n 2, 1) := by decide +kernel
theorem dX5_stateBehind_37 : decode cX5_stateBehind 37 = .ok (.ireturn, 1) := by decide +kernel
theorem dX5_stateBehind_38 : decode cX5_stateBehind 38 = .ok (.aload_n 0, 1) := by decide +kernel
theorem dX5_stateBehind_39 : decode cX5_stateBehind 39 = .ok (.getfield 21, 3) := by decide +kernel
theorem dX5_stateBehind_42 : decode cX5_stateBehind 42 = .ok (.iload_n 2, 1) := by decide +kernel
theorem dX5_stateBehind_43 : decode cX5_stateBehind 43 = .ok (.iaload, 1) := by decide +kernel
theorem dX5_stateBehind_44 : decode cX5_stateBehind 44 = .ok (.istore_n 2, 1) := by decide +kernel
theorem dX5_stateBehind_45 : decode cX5_stateBehind 45 = .ok (.iinc 3 1, 3) := by decide +kernel
theorem dX5_stateBehind_48 : decode cX5_stateBehind 48 = .ok (.goto (-32), 3) := by decide +kernel
theorem dX5_stateBehind_51 : decode cX5_stateBehind 51 = .ok (.aload_n 1, 1) := by decide +kernel
theorem dX5_stateBehind_52 : decode cX5_stateBehind 52 = .ok (.getfield 24, 3) := by decide +kernel
theorem dX5_stateBehind_55 : decode cX5_stateBehind 55 = .ok (.ireturn, 1) := by decide +kernel
theorem dX5_bucketBehind_0 : decode cX5_bucketBehind 0 = .ok (.iconst 0, 1) := by decide +kernel
theorem dX5_bucketBehind_1 : decode cX5_bucketBehind 1 = .ok (.istore_n 2, 1) := by decide +kernel
theorem dX5_bucketBehind_2 : decode cX5_bucketBehind 2 = .ok (.iconst 0, 1) := by decide +kernel
theorem dX5_bucketBehind_3 : decode cX5_bucketBehind 3 = .ok (.istore_n 3, 1) := by decide +kernel
theorem dX5_bucketBehind_4 : decode cX5_bucketBehind 4 = .ok (.iload_n 3, 1) := by decide +kernel
theorem dX5_bucketBehind_5 : decode cX5_bucketBehind 5 = .ok (.iload_n 1, 1) := by decide +kernel
theorem dX5_bucketBehind_6 : decode cX5_bucketBehind 6 = .ok (.if_icmp .ge 21, 3) := by decide +kernel
theorem dX5_bucketBehind_9 : decode cX5_bucketBehind 9 = .ok (.iload_n 2, 1) := by decide +kernel
theorem dX5_bucketBehind_10 : decode cX5_bucketBehind 10 = .ok (.aload_n 0, 1) := by decide +kernel
theorem dX5_bucketBehind_11 : decode cX5_bucketBehind 11 = .ok (.getfield 15, 3) := by decide +kernel
theorem dX5_bucketBehind_14 : decode cX5_bucketBehind 14 = .ok (.iload_n 3, 1) := by decide +kernel
theorem dX5_bucketBehind_15 : decode cX5_bucketBehind 15 = .ok (.iaload, 1) := by decide +kernel
theorem dX5_bucketBehind_16 : decode cX5_bucketBehind 16 = .ok (.iadd, 1) := by decide +kernel
theorem dX5_bucketBehind_17 : decode cX5_bucketBehind 17 = .ok (.ldc 87, 2) := by decide +kernel
theorem dX5_bucketBehind_19 : decode cX5_bucketBehind 19 = .ok (.imul, 1) := by decide +kernel
theorem dX5_bucketBehind_20 : decode cX5_bucketBehind 20 = .ok (.istore_n 2, 1) := by decide +kernel
theorem dX5_bucketBehind_21 : decode cX5_bucketBehind 21 = .ok (.iinc 3 1, 3) := by decide +kernel
theorem dX5_bucketBehind_24 : decode cX5_bucketBehind 24 = .ok (.goto (-20), 3) := by decide +kernel
theorem dX5_bucketBehind_27 : decode cX5_bucketBehind 27 = .ok (.iload_n 2, 1) := by decide +kernel
theorem dX5_bucketBehind_28 : decode cX5_bucketBehind 28 = .ok (.bipush 26, 2) := by decide +kernel
theorem dX5_bucketBehind_30 : decode cX5_bucketBehind 30 = .ok (.iushr, 1) := by decide +kernel
theorem dX5_bucketBehind_31 : decode cX5_bucketBehind 31 = .ok (.ireturn, 1) := by decide +kernel
theorem dX5_hasSetsBehind_0 : decode cX5_hasSetsBehind 0 = .ok (.iconst 0, 1) := by decide +kernel
theorem dX5_hasSetsBehind_1 : decode cX5_hasSetsBehind 1 = .ok (.istore_n 3, 1) := by decide +kernel
theorem dX5_hasSetsBehind_2 : decode cX5_hasSetsBehind 2 = .ok (.iload_n 3, 1) := by decide +kernel
theorem dX5_hasSetsBehind_3 : decode cX5_hasSetsBehind 3 = .ok (.aload_n 1, 1) := by decide +kernel
theorem dX5_hasSetsBehind_4 : decode cX5_hasSetsBehind 4 = .ok (.getfield 35, 3) := by decide +kernel
theorem dX5_hasSetsBehind_7 : decode cX5_hasSetsBehind 7 = .ok (.if_icmp .ge 31, 3) := by decide +kernel
theorem dX5_hasSetsBehind_10 : decode cX5_hasSetsBehind 10 = .ok (.aload_n 1, 1) := by decide +kernel
theorem dX5_hasSetsBehind_11 : decode cX5_hasSetsBehind 11 = .ok (.getfield 69, 3) := by decide +kernel
theorem dX5_hasSetsBehind_14 : decode cX5_hasSetsBehind 14 = .ok (.iload_n 2, 1) := by decide +kernel
theorem dX5_hasSetsBehind_15 : decode cX5_hasSetsBehind 15 = .ok (.bipush 6, 2) := by decide +kernel
theorem dX5_hasSetsBehind_17 : decode cX5_hasSetsBehind 17 = .ok (.imul, 1) := by decide +kernel
theorem dX5_hasSetsBehind_18 : decode cX5_hasSetsBehind 18 = .ok (.iload_n 3, 1) := by decide +kernel
theorem dX5_hasSetsBehind_19 : decode cX5_hasSetsBehind 19 = .ok (.iadd, 1) := by decide +kernel
theorem dX5_hasSetsBehind_20 : decode cX5_hasSetsBehind 20 = .ok (.iaload, 1) := by decide +kernel
theorem dX5_hasSetsBehind_21 : decode cX5_hasSetsBehind 21 = .ok (.aload_n 0, 1) := by decide +kernel
theorem dX5_hasSetsBehind_22 : decode cX5_hasSetsBehind 22 = .ok (.getfield 15, 3) := by decide +kernel
theorem dX5_hasSetsBehind_25 : decode cX5_hasSetsBehind 25 = .ok (.iload_n 3, 1) := by decide +kernel
theorem dX5_hasSetsBehind_26 : decode cX5_hasSetsBehind 26 = .ok (.iaload, 1) := by decide +kernel
theorem dX5_hasSetsBehind_27 : decode cX5_hasSetsBehind 27 = .ok (.if_icmp .eq 5, 3) := by decide +kernel
theorem dX5_hasSetsBehind_30 : decode cX5_hasSetsBehind 30 = .ok (.iconst 0, 1) := by decide +kernel
theorem dX5_hasSetsBehind_31 : decode cX5_hasSetsBehind 31 = .ok (.ireturn, 1) := by decide +kernel
theorem dX5_hasSetsBehind_32 : decode cX5_hasSetsBehind 32 = .ok (.iinc 3 1, 3) := by decide +kernel
theorem dX5_hasSetsBehind_35 : decode cX5_hasSetsBehind 35 = .ok (.goto (-33), 3) := by decide +kernel
theorem dX5_hasSetsBehind_38 : decode cX5_hasSetsBehind 38 = .ok (.iconst 1, 1) := by decide +kernel
theorem dX5_hasSetsBehind_39 : decode cX5_hasSetsBehind 39 = .ok (.ireturn, 1) := by decide +kernel
theorem dX5_addState_0 : decode cX5_addState 0 = .ok (.aload_n 2, 1) := by decide +kernel
theorem dX5_addState_1 : decode cX5_addState 1 = .ok (.getfield 24, 3) := by decide +kernel
theorem dX5_addState_4 : decode cX5_addState 4 = .ok (.istore 4, 2) := by decide +kernel
theorem dX5_addState_6 : decode cX5_addState 6 = .ok (.iload 4, 2) := by decide +kernel
theorem dX5_addState_8 : decode cX5_addState 8 = .ok (.sipush 150, 3) := by decide +kernel
theorem dX5_addState_11 : decode cX5_addState 11 = .ok (.if_icmp .lt 5, 3) := by decide +kernel
theorem dX5_addState_14 : decode cX5_addState 14 = .ok (.iconst 0, 1) := by decide +kernel
theorem dX5_addState_15 : decode cX5_addState 15 = .ok (.ireturn, 1) := by decide +kernel
theorem dX5_addState_16 : decode cX5_addState 16 = .ok (.iconst 0, 1) := by decide +kernel
theorem dX5_addState_17 : decode cX5_addState 17 = .ok (.istore 5, 2) := by decide +kernel
theorem dX5_addState_19 : decode cX5_addState 19 = .ok (.iconst 0, 1) := by decide +kernel
theorem dX5_addState_20 : decode cX5_addState 20 = .ok (.istore 6, 2) := by decide +kernel
theorem dX5_addState_22 : decode cX5_addState 22 = .ok (.iload 6, 2) := by decide +kernel
theorem dX5_addState_24 : decode cX5_addState 24 = .ok (.aload_n 1, 1) := by decide +kernel
theorem dX5_addState_25 : decode cX5_addState 25 = .ok (.getfield 30, 3) := by decide +kernel
theorem dX5_addState_28 : decode cX5_addState 28 = .ok (.if_icmp .ge 87, 3) := by decide +kernel
theorem dX5_addState_31 : decode cX5_addState 31 = .ok (.aload_n 2, 1) := by decide +kernel
theorem dX5_addState_32 : decode cX5_addState 32 = .ok (.getfield 69, 3) := by decide +kernel
theorem dX5_addState_35 : decode cX5_addState 35 = .ok (.iload 4, 2) := by decide +kernel
theorem dX5_addState_37 : decode cX5_addState 37 = .ok (.bipush 6, 2) := by decide +kernel
theorem dX5_addState_39 : decode cX5_addState 39 = .ok (.imul, 1) := by decide +kernel
theorem dX5_addState_40 : decode cX5_addState 40 = .ok (.iload 6, 2) := by decide +kernel
theorem dX5_addState_42 : decode cX5_addState 42 = .ok (.iadd, 1) := by decide +kernel
theorem dX5_addState_43 : decode cX5_addState 43 = .ok (.aload_n 0, 1) := by decide +kernel
theorem dX5_addState_44 : decode cX5_addState 44 = .ok (.getfield 15, 3) := by decide +kernel
theorem dX5_addState_47 : decode cX5_addState 47 = .ok (.iload 6, 2) := by decide +kernel
theorem dX5_addState_49 : decode cX5_addState 49 = .ok (.iaload, 1) := by decide +kernel
theorem dX5_addState_50 : decode cX5_addState 50 = .ok (.iastore, 1) := by decide +kernel
theorem dX5_addState_51 : decode cX5_addState 51 = .ok (.iload 4, 2) := by decide +kernel
theorem dX5_addState_53 : decode cX5_addState 53 = .ok (.ifCond .ne 13, 3) := by decide +kernel
theorem dX5_addState_56 : decode cX5_addState 56 = .ok (.aload_n 1, 1) := by decide +kernel
theorem dX5_addState_57 : decode cX5_addState 57 = .ok (.getfield 88, 3) := by decide +kernel
theorem dX5_addState_60 : decode cX5_addState 60 = .ok (.iload 6, 2) := by decide +kernel
theorem dX5_addState_62 : decode cX5_addState 62 = .ok (.baload, 1) := by decide +kernel
theorem dX5_addState_63 : decode cX5_addState 63 = .ok (.goto 26, 3) := by decide +kernel
theorem dX5_addState_66 : decode cX5_addState 66 = .ok (.aload_n 0, 1) := by decide +kernel
theorem dX5_addState_67 : decode cX5_addState 67 = .ok (.getfield 15, 3) := by decide +kernel
theorem dX5_addState_70 : decode cX5_addState 70 = .ok (.iload 6, 2) := by decide +kernel
theorem dX5_addState_72 : decode cX5_addState 72 = .ok (.iaload, 1) := by decide +kernel
theorem dX5_addState_73 : decode cX5_addState 73 = .ok (.aload_n 1, 1) := by decide +kernel
theorem dX5_addState_74 : decode cX5_addState 74 = .ok (.getfield 92, 3) := by decide +kernel
theorem dX5_addState_77 : decode cX5_addState 77 = .ok (.iload 6, 2) := by decide +kernel
theorem dX5_addState_79 : decode cX5_addState 79 = .ok (.iaload, 1) := by decide +kernel
theorem dX5_addState_80 : decode cX5_addState 80 = .ok (.iand, 1) := by decide +kernel
theorem dX5_addState_81 : decode cX5_addState 81 = .ok (.ifCond .eq 7, 3) := by decide +kernel
theorem dX5_addState_84 : decode cX5_addState 84 = .ok (.iconst 1, 1) := by decide +kernel
theorem dX5_addState_85 : decode cX5_addState 85 = .ok (.goto 4, 3) := by decide +kernel
theorem dX5_addState_88 : decode cX5_addState 88 = .ok (.iconst 0, 1) := by decide +kernel
theorem dX5_addState_89 : decode cX5_addState 89 = .ok (.istore 7, 2) := by decide +kernel
theorem dX5_addState_91 : decode cX5_addState 91 = .ok (.iload 5, 2) := by decide +kernel
theorem dX5_addState_93 : decode cX5_addState 93 = .ok (.iload 7, 2) := by decide +kernel
theorem dX5_addState_95 : decode cX5_addState 95 = .ok (.ifCond .eq 10, 3) := by decide +kernel
theorem dX5_addState_98 : decode cX5_addState 98 = .ok (.iconst 1, 1) := by decide +kernel
theorem dX5_addState_99 : decode cX5_addState 99 = .ok (.iload 6, 2) := by decide +kernel
theorem dX5_addState_101 : decode cX5_addState 101 = .ok (.ishl, 1) := by decide +kernel
theorem dX5_addState_102 : decode cX5_addState 102 = .ok (.goto 4, 3) := by decide +kernel
theorem dX5_addState_105 : decode cX5_addState 105 = .ok (.iconst 0, 1) := by decide +kernel
theorem dX5_addState_106 : decode cX5_addState 106 = .ok (.ior, 1) := by decide +kernel
theorem dX5_addState_107 : decode cX5_addState 107 = .ok (.istore 5, 2) := by decide +kernel
theorem dX5_addState_109 : decode cX5_addState 109 = .ok (.iinc 6 1, 3) := by decide +kernel
theorem dX5_addState_112 : decode cX5_addState 112 = .ok (.goto (-90), 3) := by decide +kernel
theorem dX5_addState_115 : decode cX5_addState 115 = .ok (.aload_n 2, 1) := by decide +kernel
theorem dX5_addState_116 : decode cX5_addState 116 = .ok (.getfield 95, 3) := by decide +kernel
theorem dX5_addState_119 : decode cX5_addState 119 = .ok (.iload 4, 2) := by decide +kernel
theorem dX5_addState_121 : decode cX5_addState 121 = .ok (.aload_n 1, 1) := by decide +kernel
theorem dX5_addState_122 : decode cX5_addState 122 = .ok (.getfield 98, 3) := by decide +kernel
theorem dX5_addState_125 : decode cX5_addState 125 = .ok (.iload 5, 2) := by decide +kernel
theorem dX5_addState_127 : decode cX5_addState 127 = .ok (.lushr, 1) := by decide +kernel
theorem dX5_addState_128 : decode cX5_addState 128 = .ok (.lconst 1, 1) := by decide +kernel
theorem dX5_addState_129 : decode cX5_addState 129 = .ok (.land, 1) := by decide +kernel
theorem dX5_addState_130 : decode cX5_addState 130 = .ok (.lconst 0, 1) := by decide +kernel
theorem dX5_addState_131 : decode cX5_addState 131 = .ok (.lcmp, 1) := by decide +kernel
theorem dX5_addState_132 : decode cX5_addState 132 = .ok (.ifCond .eq 7, 3) := by decide +kernel
theorem dX5_addState_135 : decode cX5_addState 135 = .ok (.iconst 1, 1) := by decide +kernel
theorem dX5_addState_136 : decode cX5_addState 136 = .ok (.goto 4, 3) := by decide +kernel
theorem dX5_addState_139 : decode cX5_addState 139 = .ok (.iconst 0, 1) := by decide +kernel
theorem dX5_addState_140 : decode cX5_addState 140 = .ok (.bastore, 1) := by decide +kernel
theorem dX5_addState_141 : decode cX5_addState 141 = .ok (.aload_n 2, 1) := by decide +kernel
theorem dX5_addState_142 : decode cX5_addState 142 = .ok (.getfield 102, 3) := by decide +kernel
theorem dX5_addState_145 : decode cX5_addState 145 = .ok (.iload 4, 2) := by decide +kernel
theorem dX5_addState_147 : decode cX5_addState 147 = .ok (.iload_n 3, 1) := by decide +kernel
theorem dX5_addState_148 : decode cX5_addState 148 = .ok (.iastore, 1) := by decide +kernel
theorem dX5_addState_149 : decode cX5_addState 149 = .ok (.aload_n 2, 1) := by decide +kernel
theorem dX5_addState_150 : decode cX5_addState 150 = .ok (.iload 4, 2) := by decide +kernel
theorem dX5_addState_152 : decode cX5_addState 152 = .ok (.iconst 1, 1) := by decide +kernel
theorem dX5_addState_153 : decode cX5_addState 153 = .ok (.iadd, 1) := by decide +kernel
theorem dX5_addState_154 : decode cX5_addState 154 = .ok (.putfield 24, 3) := by decide +kernel
theorem dX5_addState_157 : decode cX5_addState 157 = .ok (.iload 4, 2) := by decide +kernel
theorem dX5_addState_159 : decode cX5_addState 159 = .ok (.ifCond .le 36, 3) := by decide +kernel
theorem dX5_addState_162 : decode cX5_addState 162 = .ok (.aload_n 0, 1) := by decide +kernel
theorem dX5_addState_163 : decode cX5_addState 163 = .ok (.aload_n 1, 1) := by decide +kernel
theorem dX5_addState_164 : decode cX5_addState 164 = .ok (.getfield 30, 3) := by decide +kernel
theorem dX5_addState_167 : decode cX5_addState 167 = .ok (.invokevirtual 79, 3) := by decide +kernel
theorem dX5_addState_170 : decode cX5_addState 170 = .ok (.istore 6, 2) := by decide +kernel
theorem dX5_addState_172 : decode cX5_addState 172 = .ok (.aload_n 0, 1) := by decide +kernel
theorem dX5_addState_173 : decode cX5_addState 173 = .ok (.getfield 21, 3) := by decide +kernel
theorem dX5_addState_176 : decode cX5_addState 176 = .ok (.iload 4, 2) := by decide +kernel
theorem dX5_addState_178 : decode cX5_addState 178 = .ok (.aload_n 0, 1) := by decide +kernel
theorem dX5_addState_179 : decode cX5_addState 179 = .ok (.getfield 18, 3) := by decide +kernel
theorem dX5_addState_182 : decode cX5_addState 182 = .ok (.iload 6, 2) := by decide +kernel
theorem dX5_addState_184 : decode cX5_addState 184 = .ok (.iaload, 1) := by decide +kernel
theorem dX5_addState_185 : decode cX5_addState 185 = .ok (.iastore, 1) := by decide +kernel
theorem dX5_addState_186 : decode cX5_addState 186 = .ok (.aload_n 0, 1) := by decide +kernel
theorem dX5_addState_187 : decode cX5_addState 187 = .ok (.getfield 18, 3) := by decide +kernel
theorem dX5_addState_190 : decode cX5_addState 190 = .ok (.iload 6, 2) := by decide +kernel
theorem dX5_addState_192 : decode cX5_addState 192 = .ok (.iload 4, 2) := by decide +kernel
theorem dX5_addState_194 : decode cX5_addState 194 = .ok (.iastore, 1) := by decide +kernel
theorem dX5_addState_195 : decode cX5_addState 195 = .ok (.iconst 1, 1) := by decide +kernel
theorem dX5_addState_196 : decode cX5_addState 196 = .ok (.ireturn, 1) := by decide +kernel
theorem dX6_init_0 : decode cX6_init 0 = .ok (.aload_n 0, 1) := by decide +kernel
theorem dX6_init_1 : decode cX6_init 1 = .ok (.invokespecial 3, 3) := by decide +kernel
theorem dX6_init_4 : decode cX6_init 4 = .ok (.aload_n 0, 1) := by decide +kernel
theorem dX6_init_5 : decode cX6_init 5 = .ok (.bipush 100, 2) := by decide +kernel
theorem dX6_init_7 : decode cX6_init 7 = .ok (.newarray .int, 2) := by decide +kernel
theorem dX6_init_9 : decode cX6_init 9 = .ok (.putfield 9, 3) := by decide +kernel
theorem dX6_init_12 : decode cX6_init 12 = .ok (.aload_n 0, 1) := by decide +kernel
theorem dX6_init_13 : decode cX6_init 13 = .ok (.iconst 0, 1) := by decide +kernel
theorem dX6_init_14 : decode cX6_init 14 = .ok (.putfield 15, 3) := by decide +kernel
theorem dX6_init_17 : decode cX6_init 17 = .ok (.aload_n 0, 1) := by decide +kernel
theorem dX6_init_18 : decode cX6_init 18 = .ok (.iconst 0, 1) := by decide +kernel
theorem dX6_init_19 : decode cX6_init 19 = .ok (.putfield 19, 3) := by decide +kernel
theorem dX6_init_22 : decode cX6_init 22 = .ok (.aload_n 0, 1) := by decide +kernel
theorem dX6_init_23 : decode cX6_init 23 = .ok (.new 22, 3) := by decide +kernel
theorem dX6_init_26 : decode cX6_init 26 = .ok (.dup, 1) := by decide +kernel
theorem dX6_init_27 : decode cX6_init 27 = .ok (.invokespecial 24, 3) := by decide +kernel
theorem dX6_init_30 : decode cX6_init 30 = .ok (.putfield 25, 3) := by decide +kernel
theorem dX6_init_33 : decode cX6_init 33 = .ok (.aload_n 0, 1) := by decide +kernel
theorem dX6_init_34 : decode cX6_init 34 = .ok (.iconst 0, 1) := by decide +kernel
theorem dX6_init_35 : decode cX6_init 35 = .ok (.putfield 29, 3) := by decide +kernel
theorem dX6_init_38 : decode cX6_init 38 = .ok (.aload_n 0, 1) := by decide +kernel
theorem dX6_init_39 : decode cX6_init 39 = .ok (.iconst (-1), 1) := by decide +kernel
theorem dX6_init_40 : decode cX6_init 40 = .ok (.putfield 32, 3) := by decide +kernel
theorem dX6_init_43 : decode cX6_init 43 = .ok (.aload_n 0, 1) := by decide +kernel
theorem dX6_init_44 : decode cX6_init 44 = .ok (.iconst 0, 1) := by decide +kernel
theorem dX6_init_45 : decode cX6_init 45 = .ok (.putfield 35, 3) := by decide +kernel
theorem dX6_init_48 : decode cX6_init 48 = .ok (.aload_n 0, 1) := by decide +kernel
theorem dX6_init_49 : decode cX6_init 49 = .ok (.iconst 0, 1) := by decide +kernel
theorem dX6_init_50 : decode cX6_init 50 = .ok (.putfield 38, 3) := by decide +kernel
theorem dX6_init_53 : decode cX6_init 53 = .ok (.aload_n 0, 1) := by decide +kernel
theorem dX6_init_54 : decode cX6_init 54 = .ok (.iconst 0, 1) := by decide +kernel
theorem dX6_init_55 : decode cX6_init 55 = .ok (.putfield 41, 3) := by decide +kernel
theorem dX6_init_58 : decode cX6_init 58 = .ok (.return_, 1) := by decide +kernel
theorem dX6_parse_0 : decode cX6_parse 0 = .ok (.aload_n 0, 1) := by decide +kernel
theorem dX6_parse_1 : decode cX6_parse 1 = .ok (.iconst 0, 1) := by decide +kernel
theorem dX6_parse_2 : decode cX6_parse 2 = .ok (.iload_n 2, 1) := by decide +kernel
theorem dX6_parse_3 : decode cX6_parse 3 = .ok (.aload_n 1, 1) := by decide +kernel
theorem dX6_parse_4 : decode cX6_parse 4 = .ok (.arraylength, 1) := by decide +kernel
theorem dX6_parse_5 : decode cX6_parse 5 = .ok (.bipush 100, 2) := by decide +kernel
theorem dX6_parse_7 : decode cX6_parse 7 = .ok (.invokestatic 45, 3) := by decide +kernel
theorem dX6_parse_10 : decode cX6_parse 10 = .ok (.invokestatic 45, 3) := by decide +kernel
theorem dX6_parse_13 : decode cX6_parse 13 = .ok (.invokestatic 51, 3) := by decide +kernel
theorem dX6_parse_16 : decode cX6_parse 16 = .ok (.putfield 15, 3) := by decide +kernel
theorem dX6_parse_19 : decode cX6_parse 19 = .ok (.aload_n 1, 1) := by decide +kernel
theorem dX6_parse_20 : decode cX6_parse 20 = .ok (.iconst 0, 1) := by decide +kernel
theorem dX6_parse_21 : decode cX6_parse 21 = .ok (.aload_n 0, 1) := by decide +kernel
theorem dX6_parse_22 : decode cX6_parse 22 = .ok (.getfield 9, 3) := by decide +kernel
theorem dX6_parse_25 : decode cX6_parse 25 = .ok (.iconst 0, 1) := by decide +kernel
theorem dX6_parse_26 : decode cX6_parse 26 = .ok (.aload_n 0, 1) := by decide +kernel
theorem dX6_parse_27 : decode cX6_parse 27 = .ok (.getfield 15, 3) := by decide +kernel
theorem dX6_parse_30 : decode cX6_parse 30 = .ok (.invokestatic 54, 3) := by decide +kernel
theorem dX6_parse_33 : decode cX6_parse 33 = .ok (.aload_n 0, 1) := by decide +kernel
theorem dX6_parse_34 : decode cX6_parse 34 = .ok (.iconst 0, 1) := by decide +kernel
theorem dX6_parse_35 : decode cX6_parse 35 = .ok (.putfield 19, 3) := by decide +kernel
theorem dX6_parse_38 : decode cX6_parse 38 = .ok (.aload_n 0, 1) := by decide +kernel
theorem dX6_parse_39 : decode cX6_parse 39 = .ok (.iconst 0, 1) := by decide +kernel
theorem dX6_parse_40 : decode cX6_parse 40 = .ok (.putfield 29, 3) := by decide +kernel
theorem dX6_parse_43 : decode cX6_parse 43 = .ok (.aload_n 0, 1) := by decide +kernel
theorem dX6_parse_44 : decode cX6_parse 44 = .ok (.iconst (-1), 1) := by decide +kernel
theorem dX6_parse_45 : decode cX6_parse 45 = .ok (.putfield 32, 3) := by decide +kernel
theorem dX6_parse_48 : decode cX6_parse 48 = .ok (.aload_n 0, 1) := by decide +kernel
theorem dX6_parse_49 : decode cX6_parse 49 = .ok (.getfield 25, 3) := by decide +kernel
theorem dX6_parse_52 : decode cX6_parse 52 = .ok (.iconst 0, 1) := by decide +kernel
theorem dX6_parse_53 : decode cX6_parse 53 = .ok (.putfield 60, 3) := by decide +kernel
theorem dX6_parse_56 : decode cX6_parse 56 = .ok (.aload_n 0, 1) := by decide +kernel
theorem dX6_parse_57 : decode cX6_parse 57 = .ok (.getfield 25, 3) := by decide +kernel
theorem dX6_parse_60 : decode cX6_parse 60 = .ok (.aload_n 0, 1) := by decide +kernel
theorem dX6_parse_61 : decode cX6_parse 61 = .ok (.iconst 0, 1) := by decide +kernel
theorem dX6_parse_62 : decode cX6_parse 62 = .ok (.invokevirtual 63, 3) := by decide +kernel
theorem dX6_parse_65 : decode cX6_parse 65 = .ok (.putfield 67, 3) := by decide +kernel
theorem dX6_parse_68 : decode cX6_parse 68 = .ok (.aload_n 0, 1) := by decide +kernel
theorem dX6_parse_69 : decode cX6_parse 69 = .ok (.getfield 19, 3) := by decide +kernel
theorem dX6_parse_72 : decode cX6_parse 72 = .ok (.aload_n 0, 1) := by decide +kernel
theorem dX6_parse_73 : decode cX6_parse 73 = .ok (.getfield 15, 3) := by decide +kernel
theorem dX6_parse_76 : decode cX6_parse 76 = .ok (.if_icmp .ge 8, 3) := by decide +kernel
theorem dX6_parse_79 : decode cX6_parse 79 = .ok (.aload_n 0, 1) := by decide +kernel
theorem dX6_parse_80 : decode cX6_parse 80 = .ok (.iconst 1, 1) := by decide +kernel
theorem dX6_parse_81 : decode cX6_parse 81 = .ok (.invokevirtual 71, 3) := by decide +kernel
theorem dX6_parse_84 : decode cX6_parse 84 = .ok (.aload_n 0, 1) := by decide +kernel
theorem dX6_parse_85 : decode cX6_parse 85 = .ok (.getfield 29, 3) := by decide +kernel
theorem dX6_parse_88 : decode cX6_parse 88 = .ok (.ifCond .ne 7, 3) := by decide +kernel
theorem dX6_parse_91 : decode cX6_parse 91 = .ok (.iconst 1, 1) := by decide +kernel
theorem dX6_parse_92 : decode cX6_parse 92 = .ok (.goto 4, 3) := by decide +kernel
theorem dX6_parse_95 : decode cX6_parse 95 = .ok (.iconst 0, 1) := by decide +kernel
theorem dX6_parse_96 : decode cX6_parse 96 = .ok (.ireturn, 1) := by decide +kernel
theorem dX6_sign_0 : decode cX6_sign 0 = .ok (.aload_n 0, 1) := by decide +kernel
theorem dX6_sign_1 : decode cX6_sign 1 = .ok (.getfield 19, 3) := by decide +kernel
theorem dX6_sign_4 : decode cX6_sign 4 = .ok (.aload_n 0, 1) := by decide +kernel
theorem dX6_sign_5 : decode cX6_sign 5 = .ok (.getfield 15, 3) := by decide +kernel
theorem dX6_sign_8 : decode cX6_sign 8 = .ok (.if_icmp .ge 15, 3) := by decide +kernel
theorem dX6_sign_11 : decode cX6_sign 11 = .ok (.aload_n 0, 1) := by decide +kernel
theorem dX6_sign_12 : decode cX6_sign 12 = .ok (.getfield 9, 3) := by decide +kernel
theorem dX6_sign_15 : decode cX6_sign 15 = .ok (.aload_n 0, 1) := by decide +kernel
theorem dX6_sign_16 : decode cX6_sign 16 = .ok (.getfield 19, 3) := by decide +kernel
theorem dX6_sign_19 : decode cX6_sign 19 = .ok (.iaload, 1) := by decide +kernel
theorem dX6_sign_20 : decode cX6_sign 20 = .ok (.goto 4, 3) := by decide +kernel
theorem dX6_sign_23 : decode cX6_sign 23 = .ok (.iconst (-1), 1) := by decide +kernel
theorem dX6_sign_24 : decode cX6_sign 24 = .ok (.ireturn, 1) := by decide +kernel
theorem dX6_refuse_0 : decode cX6_refuse 0 = .ok (.aload_n 0, 1) := by decide +kernel
theorem dX6_refuse_1 : decode cX6_refuse 1 = .ok (.getfield 29, 3) := by decide +kernel
theorem dX6_refuse_4 : decode cX6_refuse 4 = .ok (.ifCond .ne 24, 3) := by decide +kernel
theorem dX6_refuse_7 : decode cX6_refuse 7 = .ok (.aload_n 0, 1) := by decide +kernel
theorem dX6_refuse_8 : decode cX6_refuse 8 = .ok (.iload_n 1, 1) := by decide +kernel
theorem dX6_refuse_9 : decode cX6_refuse 9 = .ok (.putfield 29, 3) := by decide +kernel
theorem dX6_refuse_12 : decode cX6_refuse 12 = .ok (.aload_n 0, 1) := by decide +kernel
theorem dX6_refuse_13 : decode cX6_refuse 13 = .ok (.aload_n 0, 1) := by decide +kernel
theorem dX6_refuse_14 : decode cX6_refuse 14 = .ok (.getfield 19, 3) := by decide +kernel
theorem dX6_refuse_17 : decode cX6_refuse 17 = .ok (.putfield 32, 3) := by decide +kernel
theorem dX6_refuse_20 : decode cX6_refuse 20 = .ok (.aload_n 0, 1) := by decide +kernel
theorem dX6_refuse_21 : decode cX6_refuse 21 = .ok (.aload_n 0, 1) := by decide +kernel
theorem dX6_refuse_22 : decode cX6_refuse 22 = .ok (.getfield 15, 3) := by decide +kernel
theorem dX6_refuse_25 : decode cX6_refuse 25 = .ok (.putfield 19, 3) := by decide +kernel
theorem dX6_refuse_28 : decode cX6_refuse 28 = .ok (.return_, 1) := by decide +kernel
theorem dX6_pass_0 : decode cX6_pass 0 = .ok (.aload_n 0, 1) := by decide +kernel
theorem dX6_pass_1 : decode cX6_pass 1 = .ok (.invokevirtual 75, 3) := by decide +kernel
theorem dX6_pass_4 : decode cX6_pass 4 = .ok (.iload_n 1, 1) := by decide +kernel
theorem dX6_pass_5 : decode cX6_pass 5 = .ok (.if_icmp .ne 16, 3) := by decide +kernel
theorem dX6_pass_8 : decode cX6_pass 8 = .ok (.aload_n 0, 1) := by decide +kernel
theorem dX6_pass_9 : decode cX6_pass 9 = .ok (.dup, 1) := by decide +kernel
theorem dX6_pass_10 : decode cX6_pass 10 = .ok (.getfield 19, 3) := by decide +kernel
theorem dX6_pass_13 : decode cX6_pass 13 = .ok (.iconst 1, 1) := by decide +kernel
theorem dX6_pass_14 : decode cX6_pass 14 = .ok (.iadd, 1) := by decide +kernel
theorem dX6_pass_15 : decode cX6_pass 15 = .ok (.putfield 19, 3) := by decide +kernel
theorem dX6_pass_18 : decode cX6_pass 18 = .ok (.goto 8, 3) := by decide +kernel
theorem dX6_pass_21 : decode cX6_pass 21 = .ok (.aload_n 0, 1) := by decide +kernel
theorem dX6_pass_22 : decode cX6_pass 22 = .ok (.iconst 1, 1) := by decide +kernel
theorem dX6_pass_23 : decode cX6_pass 23 = .ok (.invokevirtual 71, 3) := by decide +kernel
theorem dX6_pass_26 : decode cX6_pass 26 = .ok (.return_, 1) := by decide +kernel
theorem dX6_top_0 : decode cX6_top 0 = .ok (.aload_n 0, 1) := by decide +kernel
theorem dX6_top_1 : decode cX6_top 1 = .ok (.iload_n 1, 1) := by decide +kernel
theorem dX6_top_2 : decode cX6_top 2 = .ok (.invokevirtual 79, 3) := by decide +kernel
theorem dX6_top_5 : decode cX6_top 5 = .ok (.lstore_n 2, 1) := by decide +kernel
theorem dX6_top_6 : decode cX6_top 6 = .ok (.iconst 0, 1) := by decide +kernel
theorem dX6_top_7 : decode cX6_top 7 = .ok (.istore 4, 2) := by decide +kernel
theorem dX6_top_9 : decode cX6_top 9 = .ok (.iload 4, 2) := by decide +kernel
theorem dX6_top_11 : decode cX6_top 11 = .ok (.aload_n 0, 1) := by decide +kernel
theorem dX6_top_12 : decode cX6_top 12 = .ok (.getfield 15, 3) := by decide +kernel
theorem dX6_top_15 : decode cX6_top 15 = .ok (.if_icmp .ge 36, 3) := by decide +kernel
theorem dX6_top_18 : decode cX6_top 18 = .ok (.aload_n 0, 1) := by decide +kernel
theorem dX6_top_19 : decode cX6_top 19 = .ok (.invokevirtual 75, 3) := by decide +kernel
theorem dX6_top_22 : decode cX6_top 22 = .ok (.bipush 44, 2) := by decide +kernel
theorem dX6_top_24 : decode cX6_top 24 = .ok (.if_icmp .ne 27, 3) := by decide +kernel
theorem dX6_top_27 : decode cX6_top 27 = .ok (.aload_n 0, 1) := by decide +kernel
theorem dX6_top_28 : decode cX6_top 28 = .ok (.dup, 1) := by decide +kernel
theorem dX6_top_29 : decode cX6_top 29 = .ok (.getfield 19, 3) := by decide +kernel
theorem dX6_top_32 : decode cX6_top 32 = .ok (.iconst 1, 1) := by decide +kernel
theorem dX6_top_33 : decode cX6_top 33 = .ok (.iadd, 1) := by decide +kernel
theorem dX6_top_34 : decode cX6_top 34 = .ok (.putfield 19, 3) := by decide +kernel
theorem dX6_top_37 : decode cX6_top 37 = .ok (.lload_n 2, 1) := by decide +kernel
theorem dX6_top_38 : decode cX6_top 38 = .ok (.aload_n 0, 1) := by decide +kernel
theorem dX6_top_39 : decode cX6_top 39 = .ok (.iload_n 1, 1) := by decide +kernel
theorem dX6_top_40 : decode cX6_top 40 = .ok (.invokevirtual 79, 3) := by decide +kernel
theorem dX6_top_43 : decode cX6_top 43 = .ok (.lor, 1) := by decide +kernel
theorem dX6_top_44 : decode cX6_top 44 = .ok (.lstore_n 2, 1) := by decide +kernel
theorem dX6_top_45 : decode cX6_top 45 = .ok (.iinc 4 1, 3) := by decide +kernel
theorem dX6_top_48 : decode cX6_top 48 = .ok (.goto (-39), 3) := by decide +kernel
theorem dX6_top_51 : decode cX6_top 51 = .ok (.lload_n 2, 1) := by decide +kernel
theorem dX6_top_52 : decode cX6_top 52 = .ok (.lreturn, 1) := by decide +kernel
theorem dX6_meet_0 : decode cX6_meet 0 = .ok (.aload_n 0, 1) := by decide +kernel
theorem dX6_meet_1 : decode cX6_meet 1 = .ok (.iload_n 1, 1) := by decide +kernel
theorem dX6_meet_2 : decode cX6_meet 2 = .ok (.invokevirtual 82, 3) := by decide +kernel
theorem dX6_meet_5 : decode cX6_meet 5 = .ok (.lstore_n 2, 1) := by decide +kernel
theorem dX6_meet_6 : decode cX6_meet 6 = .ok (.iconst 0, 1) := by decide +kernel
theorem dX6_meet_7 : decode cX6_meet 7 = .ok (.istore 4, 2) := by decide +kernel
theorem dX6_meet_9 : decode cX6_meet 9 = .ok (.iload 4, 2) := by decide +kernel
theorem dX6_meet_11 : decode cX6_meet 11 = .ok (.aload_n 0, 1) := by decide +kernel
theorem dX6_meet_12 : decode cX6_meet 12 = .ok (.getfield 15, 3) := by decide +kernel
theorem dX6_meet_15 : decode cX6_meet 15 = .ok (.if_icmp .ge 36, 3) := by decide +kernel
theorem dX6_meet_18 : decode cX6_meet 18 = .ok (.aload_n 0, 1) := by decide +kernel
theorem dX6_meet_19 : decode cX6_meet 19 = .ok (.invokevirtual 75, 3) := by decide +kernel
theorem dX6_meet_22 : decode cX6_meet 22 = .ok (.bipush 38, 2) := by decide +kernel
theorem dX6_meet_24 : decode cX6_meet 24 = .ok (.if_icmp .ne 27, 3) := by decide +kernel
theorem dX6_meet_27 : decode cX6_meet 27 = .ok (.aload_n 0, 1) := by decide +kernel
theorem dX6_meet_28 : decode cX6_meet 28 = .ok (.dup, 1) := by decide +kernel
theorem dX6_meet_29 : decode cX6_meet 29 = .ok (.getfield 19, 3) := by decide +kernel
theorem dX6_meet_32 : decode cX6_meet 32 = .ok (.iconst 1, 1) := by decide +kernel
theorem dX6_meet_33 : decode cX6_meet 33 = .ok (.iadd, 1) := by decide +kernel
theorem dX6_meet_34 : decode cX6_meet 34 = .ok (.putfield 19, 3) := by decide +kernel
theorem dX6_meet_37 : decode cX6_meet 37 = .ok (.lload_n 2, 1) := by decide +kernel
theorem dX6_meet_38 : decode cX6_meet 38 = .ok (.aload_n 0, 1) := by decide +kernel
theorem dX6_meet_39 : decode cX6_meet 39 = .ok (.iload_n 1, 1) := by decide +kernel
theorem dX6_meet_40 : decode cX6_meet 40 = .ok (.invokevirtual 82, 3) := by decide +kernel
theorem dX6_meet_43 : decode cX6_meet 43 = .ok (.land, 1) := by decide +kernel
theorem dX6_meet_44 : decode cX6_meet 44 = .ok (.lstore_n 2, 1) := by decide +kernel
theorem dX6_meet_45 : decode cX6_meet 45 = .ok (.iinc 4 1, 3) := by decide +kernel
theorem dX6_meet_48 : decode cX6_meet 48 = .ok (.goto (-39), 3) := by decide +kernel
theorem dX6_meet_51 : decode cX6_meet 51 = .ok (.lload_n 2, 1) := by decide +kernel
theorem dX6_meet_52 : decode cX6_meet 52 = .ok (.lreturn, 1) := by decide +kernel
theorem dX6_side_0 : decode cX6_side 0 = .ok (.aload_n 0, 1) := by decide +kernel
theorem dX6_side_1 : decode cX6_side 1 = .ok (.invokevirtual 75, 3) := by decide +kernel
theorem dX6_side_4 : decode cX6_side 4 = .ok (.istore_n 2, 1) := by decide +kernel
theorem dX6_side_5 : decode cX6_side 5 = .ok (.iload_n 2, 1) := by decide +kernel
theorem dX6_side_6 : decode cX6_side 6 = .ok (.bipush 33, 2) := by decide +kernel
theorem dX6_side_8 : decode cX6_side 8 = .ok (.if_icmp .eq 14, 3) := by decide +kernel
theorem dX6_side_11 : decode cX6_side 11 = .ok (.iload_n 2, 1) := by decide +kernel
theorem dX6_side_12 : decode cX6_side 12 = .ok (.bipush 123, 2) := by decide +kernel
theorem dX6_side_14 : decode cX6_side 14 = .ok (.if_icmp .eq 8, 3) := by decide +kernel
theorem dX6_side_17 : decode cX6_side 17 = .ok (.aload_n 0, 1) := by decide +kernel
theorem dX6_side_18 : decode cX6_side 18 = .ok (.invokevirtual 85, 3) := by decide +kernel
theorem dX6_side_21 : decode cX6_side 21 = .ok (.lreturn, 1) := by decide +kernel
theorem dX6_side_22 : decode cX6_side 22 = .ok (.iload_n 1, 1) := by decide +kernel
theorem dX6_side_23 : decode cX6_side 23 = .ok (.bipush 10, 2) := by decide +kernel
theorem dX6_side_25 : decode cX6_side 25 = .ok (.if_icmp .lt 10, 3) := by decide +kernel
theorem dX6_side_28 : decode cX6_side 28 = .ok (.aload_n 0, 1) := by decide +kernel
theorem dX6_side_29 : decode cX6_side 29 = .ok (.iconst 2, 1) := by decide +kernel
theorem dX6_side_30 : decode cX6_side 30 = .ok (.invokevirtual 71, 3) := by decide +kernel
theorem dX6_side_33 : decode cX6_side 33 = .ok (.lconst 0, 1) := by decide +kernel
theorem dX6_side_34 : decode cX6_side 34 = .ok (.lreturn, 1) := by decide +kernel
theorem dX6_side_35 : decode cX6_side 35 = .ok (.aload_n 0, 1) := by decide +kernel
theorem dX6_side_36 : decode cX6_side 36 = .ok (.dup, 1) := by decide +kernel
theorem dX6_side_37 : decode cX6_side 37 = .ok (.getfield 19, 3) := by decide +kernel
theorem dX6_side_40 : decode cX6_side 40 = .ok (.iconst 1, 1) := by decide +kernel
theorem dX6_side_41 : decode cX6_side 41 = .ok (.iadd, 1) := by decide +kernel
theorem dX6_side_42 : decode cX6_side 42 = .ok (.putfield 19, 3) := by decide +kernel
theorem dX6_side_45 : decode cX6_side 45 = .ok (.iload_n 2, 1) := by decide +kernel
theorem dX6_side_46 : decode cX6_side 46 = .ok (.bipush 33, 2) := by decide +kernel
theorem dX6_side_48 : decode cX6_side 48 = .ok (.if_icmp .ne 15, 3) := by decide +kernel
theorem dX6_side_51 : decode cX6_side 51 = .ok (.aload_n 0, 1) := by decide +kernel
theorem dX6_side_52 : decode cX6_side 52 = .ok (.iload_n 1, 1) := by decide +kernel
theorem dX6_side_53 : decode cX6_side 53 = .ok (.iconst 1, 1) := by decide +kernel
theorem dX6_side_54 : decode cX6_side 54 = .ok (.iadd, 1) := by decide +kernel
theorem dX6_side_55 : decode cX6_side 55 = .ok (.invokevirtual 82, 3) := by decide +kernel
theorem dX6_side_58 : decode cX6_side 58 = .ok (.ldc2_w 89, 3) := by decide +kernel
theorem dX6_side_61 : decode cX6_side 61 = .ok (.lxor, 1) := by decide +kernel
theorem dX6_side_62 : decode cX6_side 62 = .ok (.lreturn, 1) := by decide +kernel
theorem dX6_side_63 : decode cX6_side 63 = .ok (.aload_n 0, 1) := by decide +kernel
theorem dX6_side_64 : decode cX6_side 64 = .ok (.iload_n 1, 1) := by decide +kernel
theorem dX6_side_65 : decode cX6_side 65 = .ok (.iconst 1, 1) := by decide +kernel
theorem dX6_side_66 : decode cX6_side 66 = .ok (.iadd, 1) := by decide +kernel
theorem dX6_side_67 : decode cX6_side 67 = .ok (.invokevirtual 63, 3) := by decide +kernel
theorem dX6_side_70 : decode cX6_side 70 = .ok (.lstore_n 3, 1) := by decide +kernel
theorem dX6_side_71 : decode cX6_side 71 = .ok (.aload_n 0, 1) := by decide +kernel
theorem dX6_side_72 : decode cX6_side 72 = .ok (.bipush 125, 2) := by decide +kernel
theorem dX6_side_74 : decode cX6_side 74 = .ok (.invokevirtual 91, 3) := by decide +kernel
theorem dX6_side_77 : decode cX6_side 77 = .ok (.lload_n 3, 1) := by decide +kernel
theorem dX6_side_78 : decode cX6_side 78 = .ok (.lreturn, 1) := by decide +kernel
theorem dX6_joinedPart_0 : decode cX6_joinedPart 0 = .ok (.aload_n 0, 1) := by decide +kernel
theorem dX6_joinedPart_1 : decode cX6_joinedPart 1 = .ok (.getfield 25, 3) := by decide +kernel
theorem dX6_joinedPart_4 : decode cX6_joinedPart 4 = .ok (.getfield 60, 3) := by decide +kernel
theorem dX6_joinedPart_7 : decode cX6_joinedPart 7 = .ok (.istore_n 1, 1) := by decide +kernel
theorem dX6_joinedPart_8 : decode cX6_joinedPart 8 = .ok (.aload_n 0, 1) := by decide +kernel
theorem dX6_joinedPart_9 : decode cX6_joinedPart 9 = .ok (.invokevirtual 75, 3) := by decide +kernel
theorem dX6_joinedPart_12 : decode cX6_joinedPart 12 = .ok (.invokestatic 94, 3) := by decide +kernel
theorem dX6_joinedPart_15 : decode cX6_joinedPart 15 = .ok (.ifCond .ne 10, 3) := by decide +kernel
theorem dX6_joinedPart_18 : decode cX6_joinedPart 18 = .ok (.aload_n 0, 1) := by decide +kernel
theorem dX6_joinedPart_19 : decode cX6_joinedPart 19 = .ok (.iconst 1, 1) := by decide +kernel
theorem dX6_joinedPart_20 : decode cX6_joinedPart 20 = .ok (.invokevirtual 71, 3) := by decide +kernel
theorem dX6_joinedPart_23 : decode cX6_joinedPart 23 = .ok (.lconst 0, 1) := by decide +kernel
theorem dX6_joinedPart_24 : decode cX6_joinedPart 24 = .ok (.lreturn, 1) := by decide +kernel
theorem dX6_joinedPart_25 : decode cX6_joinedPart 25 = .ok (.iload_n 1, 1) := by decide +kernel
theorem dX6_joinedPart_26 : decode cX6_joinedPart 26 = .ok (.bipush 6, 2) := by decide +kernel
theorem dX6_joinedPart_28 : decode cX6_joinedPart 28 = .ok (.if_icmp .lt 10, 3) := by decide +kernel
theorem dX6_joinedPart_31 : decode cX6_joinedPart 31 = .ok (.aload_n 0, 1) := by decide +kernel
theorem dX6_joinedPart_32 : decode cX6_joinedPart 32 = .ok (.iconst 2, 1) := by decide +kernel
theorem dX6_joinedPart_33 : decode cX6_joinedPart 33 = .ok (.invokevirtual 71, 3) := by decide +kernel
theorem dX6_joinedPart_36 : decode cX6_joinedPart 36 = .ok (.lconst 0, 1) := by decide +kernel
theorem dX6_joinedPart_37 : decode cX6_joinedPart 37 = .ok (.lreturn, 1) := by decide +kernel
theorem dX6_joinedPart_38 : decode cX6_joinedPart 38 = .ok (.aload_n 0, 1) := by decide +kernel
theorem dX6_joinedPart_39 : decode cX6_joinedPart 39 = .ok (.getfield 25, 3) := by decide +kernel
theorem dX6_joinedPart_42 : decode cX6_joinedPart 42 = .ok (.invokevirtual 98, 3) := by decide +kernel
theorem dX6_joinedPart_45 : decode cX6_joinedPart 45 = .ok (.aload_n 0, 1) := by decide +kernel
theorem dX6_joinedPart_46 : decode cX6_joinedPart 46 = .ok (.iconst 0, 1) := by decide +kernel
theorem dX6_joinedPart_47 : decode cX6_joinedPart 47 = .ok (.invokevirtual 101, 3) := by decide +kernel
theorem dX6_joinedPart_50 : decode cX6_joinedPart 50 = .ok (.aload_n 0, 1) := by decide +kernel
theorem dX6_joinedPart_51 : decode cX6_joinedPart 51 = .ok (.getfield 25, 3) := by decide +kernel
theorem dX6_joinedPart_54 : decode cX6_joinedPart 54 = .ok (.aload_n 0, 1) := by decide +kernel
theorem dX6_joinedPart_55 : decode cX6_joinedPart 55 = .ok (.getfield 35, 3) := by decide +kernel
theorem dX6_joinedPart_58 : decode cX6_joinedPart 58 = .ok (.aload_n 0, 1) := by decide +kernel
theorem dX6_joinedPart_59 : decode cX6_joinedPart 59 = .ok (.getfield 38, 3) := by decide +kernel
theorem dX6_joinedPart_62 : decode cX6_joinedPart 62 = .ok (.aload_n 0, 1) := by decide +kernel
theorem dX6_joinedPart_63 : decode cX6_joinedPart 63 = .ok (.getfield 41, 3) := by decide +kernel
