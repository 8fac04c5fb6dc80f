theorem dX10_keeps_190 : decode cX10_keeps 190 = .ok (.iload_n 3, 1) := by decide +kernel
theorem dX10_keeps_191 : decode cX10_keeps 191 = .ok (.aload_n 0, 1) := by decide +kernel
theorem dX10_keeps_192 : decode cX10_keeps 192 = .ok (.getfield 70, 3) := by decide +kernel
theorem dX10_keeps_195 : decode cX10_keeps 195 = .ok (.sipush 150, 3) := by decide +kernel
theorem dX10_keeps_198 : decode cX10_keeps 198 = .ok (.iload_n 1, 1) := by decide +kernel
theorem dX10_keeps_199 : decode cX10_keeps 199 = .ok (.imul, 1) := by decide +kernel
theorem dX10_keeps_200 : decode cX10_keeps 200 = .ok (.iload_n 3, 1) := by decide +kernel
theorem dX10_keeps_201 : decode cX10_keeps 201 = .ok (.iadd, 1) := by decide +kernel
theorem dX10_keeps_202 : decode cX10_keeps 202 = .ok (.iaload, 1) := by decide +kernel
theorem dX10_keeps_203 : decode cX10_keeps 203 = .ok (.iastore, 1) := by decide +kernel
theorem dX10_keeps_204 : decode cX10_keeps 204 = .ok (.iinc 3 1, 3) := by decide +kernel
theorem dX10_keeps_207 : decode cX10_keeps 207 = .ok (.goto (-89), 3) := by decide +kernel
theorem dX10_keeps_210 : decode cX10_keeps 210 = .ok (.return_, 1) := by decide +kernel
theorem dX10_read_0 : decode cX10_read 0 = .ok (.iload_n 1, 1) := by decide +kernel
theorem dX10_read_1 : decode cX10_read 1 = .ok (.iconst 0, 1) := by decide +kernel
theorem dX10_read_2 : decode cX10_read 2 = .ok (.iconst 3, 1) := by decide +kernel
theorem dX10_read_3 : decode cX10_read 3 = .ok (.invokestatic 166, 3) := by decide +kernel
theorem dX10_read_6 : decode cX10_read 6 = .ok (.ifCond .eq 15, 3) := by decide +kernel
theorem dX10_read_9 : decode cX10_read 9 = .ok (.iload_n 2, 1) := by decide +kernel
theorem dX10_read_10 : decode cX10_read 10 = .ok (.ifCond .lt 11, 3) := by decide +kernel
theorem dX10_read_13 : decode cX10_read 13 = .ok (.iload_n 2, 1) := by decide +kernel
theorem dX10_read_14 : decode cX10_read 14 = .ok (.aload_n 0, 1) := by decide +kernel
theorem dX10_read_15 : decode cX10_read 15 = .ok (.getfield 149, 3) := by decide +kernel
theorem dX10_read_18 : decode cX10_read 18 = .ok (.if_icmp .le 5, 3) := by decide +kernel
theorem dX10_read_21 : decode cX10_read 21 = .ok (.iconst (-1), 1) := by decide +kernel
theorem dX10_read_22 : decode cX10_read 22 = .ok (.ireturn, 1) := by decide +kernel
theorem dX10_read_23 : decode cX10_read 23 = .ok (.iconst 0, 1) := by decide +kernel
theorem dX10_read_24 : decode cX10_read 24 = .ok (.istore_n 3, 1) := by decide +kernel
theorem dX10_read_25 : decode cX10_read 25 = .ok (.iload_n 3, 1) := by decide +kernel
theorem dX10_read_26 : decode cX10_read 26 = .ok (.iload_n 2, 1) := by decide +kernel
theorem dX10_read_27 : decode cX10_read 27 = .ok (.if_icmp .ge 21, 3) := by decide +kernel
theorem dX10_read_30 : decode cX10_read 30 = .ok (.aload_n 0, 1) := by decide +kernel
theorem dX10_read_31 : decode cX10_read 31 = .ok (.getfield 13, 3) := by decide +kernel
theorem dX10_read_34 : decode cX10_read 34 = .ok (.iload_n 3, 1) := by decide +kernel
theorem dX10_read_35 : decode cX10_read 35 = .ok (.aload_n 0, 1) := by decide +kernel
theorem dX10_read_36 : decode cX10_read 36 = .ok (.getfield 7, 3) := by decide +kernel
theorem dX10_read_39 : decode cX10_read 39 = .ok (.iload_n 3, 1) := by decide +kernel
theorem dX10_read_40 : decode cX10_read 40 = .ok (.baload, 1) := by decide +kernel
theorem dX10_read_41 : decode cX10_read 41 = .ok (.bastore, 1) := by decide +kernel
theorem dX10_read_42 : decode cX10_read 42 = .ok (.iinc 3 1, 3) := by decide +kernel
theorem dX10_read_45 : decode cX10_read 45 = .ok (.goto (-20), 3) := by decide +kernel
theorem dX10_read_48 : decode cX10_read 48 = .ok (.aload_n 0, 1) := by decide +kernel
theorem dX10_read_49 : decode cX10_read 49 = .ok (.iload_n 2, 1) := by decide +kernel
theorem dX10_read_50 : decode cX10_read 50 = .ok (.putfield 159, 3) := by decide +kernel
theorem dX10_read_53 : decode cX10_read 53 = .ok (.aload_n 0, 1) := by decide +kernel
theorem dX10_read_54 : decode cX10_read 54 = .ok (.iconst 0, 1) := by decide +kernel
theorem dX10_read_55 : decode cX10_read 55 = .ok (.putfield 149, 3) := by decide +kernel
theorem dX10_read_58 : decode cX10_read 58 = .ok (.aload_n 0, 1) := by decide +kernel
theorem dX10_read_59 : decode cX10_read 59 = .ok (.invokevirtual 268, 3) := by decide +kernel
theorem dX10_read_62 : decode cX10_read 62 = .ok (.aload_n 0, 1) := by decide +kernel
theorem dX10_read_63 : decode cX10_read 63 = .ok (.getfield 178, 3) := by decide +kernel
theorem dX10_read_66 : decode cX10_read 66 = .ok (.ifCond .le 5, 3) := by decide +kernel
theorem dX10_read_69 : decode cX10_read 69 = .ok (.iconst 0, 1) := by decide +kernel
theorem dX10_read_70 : decode cX10_read 70 = .ok (.ireturn, 1) := by decide +kernel
theorem dX10_read_71 : decode cX10_read 71 = .ok (.aload_n 0, 1) := by decide +kernel
theorem dX10_read_72 : decode cX10_read 72 = .ok (.iload_n 1, 1) := by decide +kernel
theorem dX10_read_73 : decode cX10_read 73 = .ok (.iconst 0, 1) := by decide +kernel
theorem dX10_read_74 : decode cX10_read 74 = .ok (.invokevirtual 271, 3) := by decide +kernel
theorem dX10_read_77 : decode cX10_read 77 = .ok (.aload_n 0, 1) := by decide +kernel
theorem dX10_read_78 : decode cX10_read 78 = .ok (.iload_n 1, 1) := by decide +kernel
theorem dX10_read_79 : decode cX10_read 79 = .ok (.invokevirtual 275, 3) := by decide +kernel
theorem dX10_read_82 : decode cX10_read 82 = .ok (.istore_n 3, 1) := by decide +kernel
theorem dX10_read_83 : decode cX10_read 83 = .ok (.iload_n 3, 1) := by decide +kernel
theorem dX10_read_84 : decode cX10_read 84 = .ok (.ifCond .ge 12, 3) := by decide +kernel
theorem dX10_read_87 : decode cX10_read 87 = .ok (.aload_n 0, 1) := by decide +kernel
theorem dX10_read_88 : decode cX10_read 88 = .ok (.iload_n 1, 1) := by decide +kernel
theorem dX10_read_89 : decode cX10_read 89 = .ok (.iconst 1, 1) := by decide +kernel
theorem dX10_read_90 : decode cX10_read 90 = .ok (.invokevirtual 271, 3) := by decide +kernel
theorem dX10_read_93 : decode cX10_read 93 = .ok (.bipush (-2), 2) := by decide +kernel
theorem dX10_read_95 : decode cX10_read 95 = .ok (.ireturn, 1) := by decide +kernel
theorem dX10_read_96 : decode cX10_read 96 = .ok (.aload_n 0, 1) := by decide +kernel
theorem dX10_read_97 : decode cX10_read 97 = .ok (.getfield 43, 3) := by decide +kernel
theorem dX10_read_100 : decode cX10_read 100 = .ok (.iload_n 1, 1) := by decide +kernel
theorem dX10_read_101 : decode cX10_read 101 = .ok (.iload_n 3, 1) := by decide +kernel
theorem dX10_read_102 : decode cX10_read 102 = .ok (.iastore, 1) := by decide +kernel
theorem dX10_read_103 : decode cX10_read 103 = .ok (.aload_n 0, 1) := by decide +kernel
theorem dX10_read_104 : decode cX10_read 104 = .ok (.getfield 46, 3) := by decide +kernel
theorem dX10_read_107 : decode cX10_read 107 = .ok (.iload_n 1, 1) := by decide +kernel
theorem dX10_read_108 : decode cX10_read 108 = .ok (.aload_n 0, 1) := by decide +kernel
theorem dX10_read_109 : decode cX10_read 109 = .ok (.getfield 188, 3) := by decide +kernel
theorem dX10_read_112 : decode cX10_read 112 = .ok (.iastore, 1) := by decide +kernel
theorem dX10_read_113 : decode cX10_read 113 = .ok (.aload_n 0, 1) := by decide +kernel
theorem dX10_read_114 : decode cX10_read 114 = .ok (.getfield 49, 3) := by decide +kernel
theorem dX10_read_117 : decode cX10_read 117 = .ok (.iload_n 1, 1) := by decide +kernel
theorem dX10_read_118 : decode cX10_read 118 = .ok (.iconst 0, 1) := by decide +kernel
theorem dX10_read_119 : decode cX10_read 119 = .ok (.iastore, 1) := by decide +kernel
theorem dX10_read_120 : decode cX10_read 120 = .ok (.iconst 0, 1) := by decide +kernel
theorem dX10_read_121 : decode cX10_read 121 = .ok (.istore 4, 2) := by decide +kernel
theorem dX10_read_123 : decode cX10_read 123 = .ok (.iload 4, 2) := by decide +kernel
theorem dX10_read_125 : decode cX10_read 125 = .ok (.aload_n 0, 1) := by decide +kernel
theorem dX10_read_126 : decode cX10_read 126 = .ok (.getfield 188, 3) := by decide +kernel
theorem dX10_read_129 : decode cX10_read 129 = .ok (.if_icmp .ge 25, 3) := by decide +kernel
theorem dX10_read_132 : decode cX10_read 132 = .ok (.aload_n 0, 1) := by decide +kernel
theorem dX10_read_133 : decode cX10_read 133 = .ok (.getfield 49, 3) := by decide +kernel
theorem dX10_read_136 : decode cX10_read 136 = .ok (.iload_n 1, 1) := by decide +kernel
theorem dX10_read_137 : decode cX10_read 137 = .ok (.dup2, 1) := by decide +kernel
theorem dX10_read_138 : decode cX10_read 138 = .ok (.iaload, 1) := by decide +kernel
theorem dX10_read_139 : decode cX10_read 139 = .ok (.aload_n 0, 1) := by decide +kernel
theorem dX10_read_140 : decode cX10_read 140 = .ok (.getfield 20, 3) := by decide +kernel
theorem dX10_read_143 : decode cX10_read 143 = .ok (.iload 4, 2) := by decide +kernel
theorem dX10_read_145 : decode cX10_read 145 = .ok (.iaload, 1) := by decide +kernel
theorem dX10_read_146 : decode cX10_read 146 = .ok (.iadd, 1) := by decide +kernel
theorem dX10_read_147 : decode cX10_read 147 = .ok (.iastore, 1) := by decide +kernel
theorem dX10_read_148 : decode cX10_read 148 = .ok (.iinc 4 1, 3) := by decide +kernel
theorem dX10_read_151 : decode cX10_read 151 = .ok (.goto (-28), 3) := by decide +kernel
theorem dX10_read_154 : decode cX10_read 154 = .ok (.aload_n 0, 1) := by decide +kernel
theorem dX10_read_155 : decode cX10_read 155 = .ok (.iload_n 1, 1) := by decide +kernel
theorem dX10_read_156 : decode cX10_read 156 = .ok (.iload_n 3, 1) := by decide +kernel
theorem dX10_read_157 : decode cX10_read 157 = .ok (.invokevirtual 278, 3) := by decide +kernel
theorem dX10_read_160 : decode cX10_read 160 = .ok (.iload_n 3, 1) := by decide +kernel
theorem dX10_read_161 : decode cX10_read 161 = .ok (.ireturn, 1) := by decide +kernel
theorem dX10_fault_0 : decode cX10_fault 0 = .ok (.iload_n 1, 1) := by decide +kernel
theorem dX10_fault_1 : decode cX10_fault 1 = .ok (.ifCond .ne 10, 3) := by decide +kernel
theorem dX10_fault_4 : decode cX10_fault 4 = .ok (.aload_n 0, 1) := by decide +kernel
theorem dX10_fault_5 : decode cX10_fault 5 = .ok (.getfield 178, 3) := by decide +kernel
theorem dX10_fault_8 : decode cX10_fault 8 = .ok (.goto 16, 3) := by decide +kernel
theorem dX10_fault_11 : decode cX10_fault 11 = .ok (.iload_n 1, 1) := by decide +kernel
theorem dX10_fault_12 : decode cX10_fault 12 = .ok (.iconst 1, 1) := by decide +kernel
theorem dX10_fault_13 : decode cX10_fault 13 = .ok (.if_icmp .ne 10, 3) := by decide +kernel
theorem dX10_fault_16 : decode cX10_fault 16 = .ok (.aload_n 0, 1) := by decide +kernel
theorem dX10_fault_17 : decode cX10_fault 17 = .ok (.getfield 16, 3) := by decide +kernel
theorem dX10_fault_20 : decode cX10_fault 20 = .ok (.goto 4, 3) := by decide +kernel
theorem dX10_fault_23 : decode cX10_fault 23 = .ok (.iconst (-1), 1) := by decide +kernel
theorem dX10_fault_24 : decode cX10_fault 24 = .ok (.ireturn, 1) := by decide +kernel
theorem dX10_has_0 : decode cX10_has 0 = .ok (.iload_n 1, 1) := by decide +kernel
theorem dX10_has_1 : decode cX10_has 1 = .ok (.iconst 0, 1) := by decide +kernel
theorem dX10_has_2 : decode cX10_has 2 = .ok (.iconst 3, 1) := by decide +kernel
theorem dX10_has_3 : decode cX10_has 3 = .ok (.invokestatic 166, 3) := by decide +kernel
theorem dX10_has_6 : decode cX10_has 6 = .ok (.ifCond .eq 16, 3) := by decide +kernel
theorem dX10_has_9 : decode cX10_has 9 = .ok (.aload_n 0, 1) := by decide +kernel
theorem dX10_has_10 : decode cX10_has 10 = .ok (.getfield 43, 3) := by decide +kernel
theorem dX10_has_13 : decode cX10_has 13 = .ok (.iload_n 1, 1) := by decide +kernel
theorem dX10_has_14 : decode cX10_has 14 = .ok (.iaload, 1) := by decide +kernel
theorem dX10_has_15 : decode cX10_has 15 = .ok (.ifCond .le 7, 3) := by decide +kernel
theorem dX10_has_18 : decode cX10_has 18 = .ok (.iconst 1, 1) := by decide +kernel
theorem dX10_has_19 : decode cX10_has 19 = .ok (.goto 4, 3) := by decide +kernel
theorem dX10_has_22 : decode cX10_has 22 = .ok (.iconst 0, 1) := by decide +kernel
theorem dX10_has_23 : decode cX10_has 23 = .ok (.ireturn, 1) := by decide +kernel
theorem dX10_isState_0 : decode cX10_isState 0 = .ok (.aload_n 0, 1) := by decide +kernel
theorem dX10_isState_1 : decode cX10_isState 1 = .ok (.iload_n 1, 1) := by decide +kernel
theorem dX10_isState_2 : decode cX10_isState 2 = .ok (.invokevirtual 281, 3) := by decide +kernel
theorem dX10_isState_5 : decode cX10_isState 5 = .ok (.ifCond .eq 23, 3) := by decide +kernel
theorem dX10_isState_8 : decode cX10_isState 8 = .ok (.iload_n 2, 1) := by decide +kernel
theorem dX10_isState_9 : decode cX10_isState 9 = .ok (.iconst 0, 1) := by decide +kernel
theorem dX10_isState_10 : decode cX10_isState 10 = .ok (.aload_n 0, 1) := by decide +kernel
theorem dX10_isState_11 : decode cX10_isState 11 = .ok (.getfield 43, 3) := by decide +kernel
theorem dX10_isState_14 : decode cX10_isState 14 = .ok (.iload_n 1, 1) := by decide +kernel
theorem dX10_isState_15 : decode cX10_isState 15 = .ok (.iaload, 1) := by decide +kernel
theorem dX10_isState_16 : decode cX10_isState 16 = .ok (.iconst 1, 1) := by decide +kernel
theorem dX10_isState_17 : decode cX10_isState 17 = .ok (.isub, 1) := by decide +kernel
theorem dX10_isState_18 : decode cX10_isState 18 = .ok (.invokestatic 166, 3) := by decide +kernel
theorem dX10_isState_21 : decode cX10_isState 21 = .ok (.ifCond .eq 7, 3) := by decide +kernel
theorem dX10_isState_24 : decode cX10_isState 24 = .ok (.iconst 1, 1) := by decide +kernel
theorem dX10_isState_25 : decode cX10_isState 25 = .ok (.goto 4, 3) := by decide +kernel
theorem dX10_isState_28 : decode cX10_isState 28 = .ok (.iconst 0, 1) := by decide +kernel
theorem dX10_isState_29 : decode cX10_isState 29 = .ok (.ireturn, 1) := by decide +kernel
theorem dX10_after_0 : decode cX10_after 0 = .ok (.aload_n 0, 1) := by decide +kernel
theorem dX10_after_1 : decode cX10_after 1 = .ok (.getfield 55, 3) := by decide +kernel
theorem dX10_after_4 : decode cX10_after 4 = .ok (.iconst 4, 1) := by decide +kernel
theorem dX10_after_5 : decode cX10_after 5 = .ok (.sipush 150, 3) := by decide +kernel
theorem dX10_after_8 : decode cX10_after 8 = .ok (.iload_n 1, 1) := by decide +kernel
theorem dX10_after_9 : decode cX10_after 9 = .ok (.imul, 1) := by decide +kernel
theorem dX10_after_10 : decode cX10_after 10 = .ok (.iload_n 2, 1) := by decide +kernel
theorem dX10_after_11 : decode cX10_after 11 = .ok (.iadd, 1) := by decide +kernel
theorem dX10_after_12 : decode cX10_after 12 = .ok (.imul, 1) := by decide +kernel
theorem dX10_after_13 : decode cX10_after 13 = .ok (.iload_n 3, 1) := by decide +kernel
theorem dX10_after_14 : decode cX10_after 14 = .ok (.iadd, 1) := by decide +kernel
theorem dX10_after_15 : decode cX10_after 15 = .ok (.iaload, 1) := by decide +kernel
theorem dX10_after_16 : decode cX10_after 16 = .ok (.ireturn, 1) := by decide +kernel
theorem dX10_isAccepted_0 : decode cX10_isAccepted 0 = .ok (.aload_n 0, 1) := by decide +kernel
theorem dX10_isAccepted_1 : decode cX10_isAccepted 1 = .ok (.getfield 58, 3) := by decide +kernel
theorem dX10_isAccepted_4 : decode cX10_isAccepted 4 = .ok (.sipush 150, 3) := by decide +kernel
theorem dX10_isAccepted_7 : decode cX10_isAccepted 7 = .ok (.iload_n 1, 1) := by decide +kernel
theorem dX10_isAccepted_8 : decode cX10_isAccepted 8 = .ok (.imul, 1) := by decide +kernel
theorem dX10_isAccepted_9 : decode cX10_isAccepted 9 = .ok (.iload_n 2, 1) := by decide +kernel
theorem dX10_isAccepted_10 : decode cX10_isAccepted 10 = .ok (.iadd, 1) := by decide +kernel
theorem dX10_isAccepted_11 : decode cX10_isAccepted 11 = .ok (.baload, 1) := by decide +kernel
theorem dX10_isAccepted_12 : decode cX10_isAccepted 12 = .ok (.ireturn, 1) := by decide +kernel
theorem dX10_isEndless_0 : decode cX10_isEndless 0 = .ok (.iconst 0, 1) := by decide +kernel
theorem dX10_isEndless_1 : decode cX10_isEndless 1 = .ok (.istore_n 2, 1) := by decide +kernel
theorem dX10_isEndless_2 : decode cX10_isEndless 2 = .ok (.iload_n 2, 1) := by decide +kernel
theorem dX10_isEndless_3 : decode cX10_isEndless 3 = .ok (.aload_n 0, 1) := by decide +kernel
theorem dX10_isEndless_4 : decode cX10_isEndless 4 = .ok (.getfield 43, 3) := by decide +kernel
theorem dX10_isEndless_7 : decode cX10_isEndless 7 = .ok (.iload_n 1, 1) := by decide +kernel
theorem dX10_isEndless_8 : decode cX10_isEndless 8 = .ok (.iaload, 1) := by decide +kernel
theorem dX10_isEndless_9 : decode cX10_isEndless 9 = .ok (.if_icmp .ge 24, 3) := by decide +kernel
theorem dX10_isEndless_12 : decode cX10_isEndless 12 = .ok (.aload_n 0, 1) := by decide +kernel
theorem dX10_isEndless_13 : decode cX10_isEndless 13 = .ok (.getfield 127, 3) := by decide +kernel
theorem dX10_isEndless_16 : decode cX10_isEndless 16 = .ok (.iload_n 2, 1) := by decide +kernel
theorem dX10_isEndless_17 : decode cX10_isEndless 17 = .ok (.iload_n 2, 1) := by decide +kernel
theorem dX10_isEndless_18 : decode cX10_isEndless 18 = .ok (.ifCond .ne 7, 3) := by decide +kernel
theorem dX10_isEndless_21 : decode cX10_isEndless 21 = .ok (.iconst 1, 1) := by decide +kernel
theorem dX10_isEndless_22 : decode cX10_isEndless 22 = .ok (.goto 4, 3) := by decide +kernel
theorem dX10_isEndless_25 : decode cX10_isEndless 25 = .ok (.iconst 0, 1) := by decide +kernel
theorem dX10_isEndless_26 : decode cX10_isEndless 26 = .ok (.bastore, 1) := by decide +kernel
theorem dX10_isEndless_27 : decode cX10_isEndless 27 = .ok (.iinc 2 1, 3) := by decide +kernel
theorem dX10_isEndless_30 : decode cX10_isEndless 30 = .ok (.goto (-28), 3) := by decide +kernel
theorem dX10_isEndless_33 : decode cX10_isEndless 33 = .ok (.iconst 0, 1) := by decide +kernel
theorem dX10_isEndless_34 : decode cX10_isEndless 34 = .ok (.istore_n 2, 1) := by decide +kernel
theorem dX10_isEndless_35 : decode cX10_isEndless 35 = .ok (.iload_n 2, 1) := by decide +kernel
theorem dX10_isEndless_36 : decode cX10_isEndless 36 = .ok (.iconst 2, 1) := by decide +kernel
theorem dX10_isEndless_37 : decode cX10_isEndless 37 = .ok (.aload_n 0, 1) := by decide +kernel
theorem dX10_isEndless_38 : decode cX10_isEndless 38 = .ok (.getfield 43, 3) := by decide +kernel
theorem dX10_isEndless_41 : decode cX10_isEndless 41 = .ok (.iload_n 1, 1) := by decide +kernel
theorem dX10_isEndless_42 : decode cX10_isEndless 42 = .ok (.iaload, 1) := by decide +kernel
theorem dX10_isEndless_43 : decode cX10_isEndless 43 = .ok (.imul, 1) := by decide +kernel
theorem dX10_isEndless_44 : decode cX10_isEndless 44 = .ok (.if_icmp .ge 168, 3) := by decide +kernel
theorem dX10_isEndless_47 : decode cX10_isEndless 47 = .ok (.iconst 0, 1) := by decide +kernel
theorem dX10_isEndless_48 : decode cX10_isEndless 48 = .ok (.istore_n 3, 1) := by decide +kernel
theorem dX10_isEndless_49 : decode cX10_isEndless 49 = .ok (.iload_n 3, 1) := by decide +kernel
theorem dX10_isEndless_50 : decode cX10_isEndless 50 = .ok (.aload_n 0, 1) := by decide +kernel
theorem dX10_isEndless_51 : decode cX10_isEndless 51 = .ok (.getfield 43, 3) := by decide +kernel
theorem dX10_isEndless_54 : decode cX10_isEndless 54 = .ok (.iload_n 1, 1) := by decide +kernel
theorem dX10_isEndless_55 : decode cX10_isEndless 55 = .ok (.iaload, 1) := by decide +kernel
theorem dX10_isEndless_56 : decode cX10_isEndless 56 = .ok (.if_icmp .ge 39, 3) := by decide +kernel
theorem dX10_isEndless_59 : decode cX10_isEndless 59 = .ok (.iload_n 2, 1) := by decide +kernel
theorem dX10_isEndless_60 : decode cX10_isEndless 60 = .ok (.aload_n 0, 1) := by decide +kernel
theorem dX10_isEndless_61 : decode cX10_isEndless 61 = .ok (.getfield 43, 3) := by decide +kernel
theorem dX10_isEndless_64 : decode cX10_isEndless 64 = .ok (.iload_n 1, 1) := by decide +kernel
theorem dX10_isEndless_65 : decode cX10_isEndless 65 = .ok (.iaload, 1) := by decide +kernel
theorem dX10_isEndless_66 : decode cX10_isEndless 66 = .ok (.if_icmp .lt 23, 3) := by decide +kernel
theorem dX10_isEndless_69 : decode cX10_isEndless 69 = .ok (.aload_n 0, 1) := by decide +kernel
theorem dX10_isEndless_70 : decode cX10_isEndless 70 = .ok (.getfield 127, 3) := by decide +kernel
theorem dX10_isEndless_73 : decode cX10_isEndless 73 = .ok (.iload_n 3, 1) := by decide +kernel
theorem dX10_isEndless_74 : decode cX10_isEndless 74 = .ok (.baload, 1) := by decide +kernel
theorem dX10_isEndless_75 : decode cX10_isEndless 75 = .ok (.ifCond .eq 14, 3) := by decide +kernel
theorem dX10_isEndless_78 : decode cX10_isEndless 78 = .ok (.aload_n 0, 1) := by decide +kernel
theorem dX10_isEndless_79 : decode cX10_isEndless 79 = .ok (.iload_n 1, 1) := by decide +kernel
theorem dX10_isEndless_80 : decode cX10_isEndless 80 = .ok (.iload_n 3, 1) := by decide +kernel
theorem dX10_isEndless_81 : decode cX10_isEndless 81 = .ok (.invokevirtual 284, 3) := by decide +kernel
theorem dX10_isEndless_84 : decode cX10_isEndless 84 = .ok (.ifCond .eq 5, 3) := by decide +kernel
theorem dX10_isEndless_87 : decode cX10_isEndless 87 = .ok (.iconst 1, 1) := by decide +kernel
theorem dX10_isEndless_88 : decode cX10_isEndless 88 = .ok (.ireturn, 1) := by decide +kernel
theorem dX10_isEndless_89 : decode cX10_isEndless 89 = .ok (.iinc 3 1, 3) := by decide +kernel
theorem dX10_isEndless_92 : decode cX10_isEndless 92 = .ok (.goto (-43), 3) := by decide +kernel
theorem dX10_isEndless_95 : decode cX10_isEndless 95 = .ok (.iconst 0, 1) := by decide +kernel
theorem dX10_isEndless_96 : decode cX10_isEndless 96 = .ok (.istore_n 3, 1) := by decide +kernel
theorem dX10_isEndless_97 : decode cX10_isEndless 97 = .ok (.iload_n 3, 1) := by decide +kernel
theorem dX10_isEndless_98 : decode cX10_isEndless 98 = .ok (.aload_n 0, 1) := by decide +kernel
theorem dX10_isEndless_99 : decode cX10_isEndless 99 = .ok (.getfield 43, 3) := by decide +kernel
theorem dX10_isEndless_102 : decode cX10_isEndless 102 = .ok (.iload_n 1, 1) := by decide +kernel
theorem dX10_isEndless_103 : decode cX10_isEndless 103 = .ok (.iaload, 1) := by decide +kernel
theorem dX10_isEndless_104 : decode cX10_isEndless 104 = .ok (.if_icmp .ge 16, 3) := by decide +kernel
theorem dX10_isEndless_107 : decode cX10_isEndless 107 = .ok (.aload_n 0, 1) := by decide +kernel
theorem dX10_isEndless_108 : decode cX10_isEndless 108 = .ok (.getfield 130, 3) := by decide +kernel
theorem dX10_isEndless_111 : decode cX10_isEndless 111 = .ok (.iload_n 3, 1) := by decide +kernel
theorem dX10_isEndless_112 : decode cX10_isEndless 112 = .ok (.iconst 0, 1) := by decide +kernel
theorem dX10_isEndless_113 : decode cX10_isEndless 113 = .ok (.bastore, 1) := by decide +kernel
theorem dX10_isEndless_114 : decode cX10_isEndless 114 = .ok (.iinc 3 1, 3) := by decide +kernel
theorem dX10_isEndless_117 : decode cX10_isEndless 117 = .ok (.goto (-20), 3) := by decide +kernel
theorem dX10_isEndless_120 : decode cX10_isEndless 120 = .ok (.iconst 0, 1) := by decide +kernel
theorem dX10_isEndless_121 : decode cX10_isEndless 121 = .ok (.istore_n 3, 1) := by decide +kernel
theorem dX10_isEndless_122 : decode cX10_isEndless 122 = .ok (.iload_n 3, 1) := by decide +kernel
theorem dX10_isEndless_123 : decode cX10_isEndless 123 = .ok (.aload_n 0, 1) := by decide +kernel
theorem dX10_isEndless_124 : decode cX10_isEndless 124 = .ok (.getfield 43, 3) := by decide +kernel
theorem dX10_isEndless_127 : decode cX10_isEndless 127 = .ok (.iload_n 1, 1) := by decide +kernel
theorem dX10_isEndless_128 : decode cX10_isEndless 128 = .ok (.iaload, 1) := by decide +kernel
theorem dX10_isEndless_129 : decode cX10_isEndless 129 = .ok (.if_icmp .ge 47, 3) := by decide +kernel
theorem dX10_isEndless_132 : decode cX10_isEndless 132 = .ok (.iconst 0, 1) := by decide +kernel
theorem dX10_isEndless_133 : decode cX10_isEndless 133 = .ok (.istore 4, 2) := by decide +kernel
theorem dX10_isEndless_135 : decode cX10_isEndless 135 = .ok (.iload 4, 2) := by decide +kernel
theorem dX10_isEndless_137 : decode cX10_isEndless 137 = .ok (.iconst 4, 1) := by decide +kernel
theorem dX10_isEndless_138 : decode cX10_isEndless 138 = .ok (.if_icmp .ge 32, 3) := by decide +kernel
theorem dX10_isEndless_141 : decode cX10_isEndless 141 = .ok (.aload_n 0, 1) := by decide +kernel
theorem dX10_isEndless_142 : decode cX10_isEndless 142 = .ok (.getfield 127, 3) := by decide +kernel
theorem dX10_isEndless_145 : decode cX10_isEndless 145 = .ok (.iload_n 3, 1) := by decide +kernel
theorem dX10_isEndless_146 : decode cX10_isEndless 146 = .ok (.baload, 1) := by decide +kernel
theorem dX10_isEndless_147 : decode cX10_isEndless 147 = .ok (.ifCond .eq 23, 3) := by decide +kernel
theorem dX10_isEndless_150 : decode cX10_isEndless 150 = .ok (.aload_n 0, 1) := by decide +kernel
theorem dX10_isEndless_151 : decode cX10_isEndless 151 = .ok (.getfield 130, 3) := by decide +kernel
theorem dX10_isEndless_154 : decode cX10_isEndless 154 = .ok (.aload_n 0, 1) := by decide +kernel
theorem dX10_isEndless_155 : decode cX10_isEndless 155 = .ok (.iload_n 1, 1) := by decide +kernel
theorem dX10_isEndless_156 : decode cX10_isEndless 156 = .ok (.iload_n 3, 1) := by decide +kernel
theorem dX10_isEndless_157 : decode cX10_isEndless 157 = .ok (.iload 4, 2) := by decide +kernel
theorem dX10_isEndless_159 : decode cX10_isEndless 159 = .ok (.invokevirtual 287, 3) := by decide +kernel
theorem dX10_isEndless_162 : decode cX10_isEndless 162 = .ok (.iconst 1, 1) := by decide +kernel
theorem dX10_isEndless_163 : decode cX10_isEndless 163 = .ok (.bastore, 1) := by decide +kernel
theorem dX10_isEndless_164 : decode cX10_isEndless 164 = .ok (.iinc 4 1, 3) := by decide +kernel
theorem dX10_isEndless_167 : decode cX10_isEndless 167 = .ok (.goto (-32), 3) := by decide +kernel
theorem dX10_isEndless_170 : decode cX10_isEndless 170 = .ok (.iinc 3 1, 3) := by decide +kernel
theorem dX10_isEndless_173 : decode cX10_isEndless 173 = .ok (.goto (-51), 3) := by decide +kernel
theorem dX10_isEndless_176 : decode cX10_isEndless 176 = .ok (.iconst 0, 1) := by decide +kernel
theorem dX10_isEndless_177 : decode cX10_isEndless 177 = .ok (.istore_n 3, 1) := by decide +kernel
theorem dX10_isEndless_178 : decode cX10_isEndless 178 = .ok (.iload_n 3, 1) := by decide +kernel
theorem dX10_isEndless_179 : decode cX10_isEndless 179 = .ok (.aload_n 0, 1) := by decide +kernel
theorem dX10_isEndless_180 : decode cX10_isEndless 180 = .ok (.getfield 43, 3) := by decide +kernel
theorem dX10_isEndless_183 : decode cX10_isEndless 183 = .ok (.iload_n 1, 1) := by decide +kernel
theorem dX10_isEndless_184 : decode cX10_isEndless 184 = .ok (.iaload, 1) := by decide +kernel
theorem dX10_isEndless_185 : decode cX10_isEndless 185 = .ok (.if_icmp .ge 21, 3) := by decide +kernel
theorem dX10_isEndless_188 : decode cX10_isEndless 188 = .ok (.aload_n 0, 1) := by decide +kernel
theorem dX10_isEndless_189 : decode cX10_isEndless 189 = .ok (.getfield 127, 3) := by decide +kernel
theorem dX10_isEndless_192 : decode cX10_isEndless 192 = .ok (.iload_n 3, 1) := by decide +kernel
theorem dX10_isEndless_193 : decode cX10_isEndless 193 = .ok (.aload_n 0, 1) := by decide +kernel
theorem dX10_isEndless_194 : decode cX10_isEndless 194 = .ok (.getfield 130, 3) := by decide +kernel
theorem dX10_isEndless_197 : decode cX10_isEndless 197 = .ok (.iload_n 3, 1) := by decide +kernel
theorem dX10_isEndless_198 : decode cX10_isEndless 198 = .ok (.baload, 1) := by decide +kernel
theorem dX10_isEndless_199 : decode cX10_isEndless 199 = .ok (.bastore, 1) := by decide +kernel
theorem dX10_isEndless_200 : decode cX10_isEndless 200 = .ok (.iinc 3 1, 3) := by decide +kernel
theorem dX10_isEndless_203 : decode cX10_isEndless 203 = .ok (.goto (-25), 3) := by decide +kernel
theorem dX10_isEndless_206 : decode cX10_isEndless 206 = .ok (.iinc 2 1, 3) := by decide +kernel
theorem dX10_isEndless_209 : decode cX10_isEndless 209 = .ok (.goto (-174), 3) := by decide +kernel
theorem dX10_isEndless_212 : decode cX10_isEndless 212 = .ok (.iconst 0, 1) := by decide +kernel
theorem dX10_isEndless_213 : decode cX10_isEndless 213 = .ok (.ireturn, 1) := by decide +kernel
theorem dX10_first_0 : decode cX10_first 0 = .ok (.iconst 0, 1) := by decide +kernel
theorem dX10_first_1 : decode cX10_first 1 = .ok (.istore_n 2, 1) := by decide +kernel
theorem dX10_first_2 : decode cX10_first 2 = .ok (.iload_n 2, 1) := by decide +kernel
theorem dX10_first_3 : decode cX10_first 3 = .ok (.aload_n 0, 1) := by decide +kernel
theorem dX10_first_4 : decode cX10_first 4 = .ok (.getfield 43, 3) := by decide +kernel
theorem dX10_first_7 : decode cX10_first 7 = .ok (.iload_n 1, 1) := by decide +kernel
theorem dX10_first_8 : decode cX10_first 8 = .ok (.iaload, 1) := by decide +kernel
theorem dX10_first_9 : decode cX10_first 9 = .ok (.if_icmp .ge 20, 3) := by decide +kernel
theorem dX10_first_12 : decode cX10_first 12 = .ok (.aload_n 0, 1) := by decide +kernel
theorem dX10_first_13 : decode cX10_first 13 = .ok (.iload_n 1, 1) := by decide +kernel
theorem dX10_first_14 : decode cX10_first 14 = .ok (.iload_n 2, 1) := by decide +kernel
theorem dX10_first_15 : decode cX10_first 15 = .ok (.invokevirtual 284, 3) := by decide +kernel
theorem dX10_first_18 : decode cX10_first 18 = .ok (.ifCond .eq 5, 3) := by decide +kernel
theorem dX10_first_21 : decode cX10_first 21 = .ok (.iload_n 2, 1) := by decide +kernel
theorem dX10_first_22 : decode cX10_first 22 = .ok (.ireturn, 1) := by decide +kernel
theorem dX10_first_23 : decode cX10_first 23 = .ok (.iinc 2 1, 3) := by decide +kernel
theorem dX10_first_26 : decode cX10_first 26 = .ok (.goto (-24), 3) := by decide +kernel
theorem dX10_first_29 : decode cX10_first 29 = .ok (.iconst (-1), 1) := by decide +kernel
theorem dX10_first_30 : decode cX10_first 30 = .ok (.ireturn, 1) := by decide +kernel
theorem dX10_look_0 : decode cX10_look 0 = .ok (.aload_n 0, 1) := by decide +kernel
theorem dX10_look_1 : decode cX10_look 1 = .ok (.iload_n 1, 1) := by decide +kernel
theorem dX10_look_2 : decode cX10_look 2 = .ok (.invokevirtual 281, 3) := by decide +kernel
theorem dX10_look_5 : decode cX10_look 5 = .ok (.ifCond .ne 5, 3) := by decide +kernel
theorem dX10_look_8 : decode cX10_look 8 = .ok (.iconst (-1), 1) := by decide +kernel
theorem dX10_look_9 : decode cX10_look 9 = .ok (.ireturn, 1) := by decide +kernel
theorem dX10_look_10 : decode cX10_look 10 = .ok (.iload_n 2, 1) := by decide +kernel
theorem dX10_look_11 : decode cX10_look 11 = .ok (.tableswitch 94 0 5 #[37, 44, 51, 58, 65, 80], 37) := by decide +kernel
theorem dX10_look_48 : decode cX10_look 48 = .ok (.aload_n 0, 1) := by decide +kernel
theorem dX10_look_49 : decode cX10_look 49 = .ok (.getfield 43, 3) := by decide +kernel
theorem dX10_look_52 : decode cX10_look 52 = .ok (.iload_n 1, 1) := by decide +kernel
theorem dX10_look_53 : decode cX10_look 53 = .ok (.iaload, 1) := by decide +kernel
theorem dX10_look_54 : decode cX10_look 54 = .ok (.ireturn, 1) := by decide +kernel
theorem dX10_look_55 : decode cX10_look 55 = .ok (.aload_n 0, 1) := by decide +kernel
theorem dX10_look_56 : decode cX10_look 56 = .ok (.getfield 52, 3) := by decide +kernel
theorem dX10_look_59 : decode cX10_look 59 = .ok (.iload_n 1, 1) := by decide +kernel
theorem dX10_look_60 : decode cX10_look 60 = .ok (.iaload, 1) := by decide +kernel
theorem dX10_look_61 : decode cX10_look 61 = .ok (.ireturn, 1) := by decide +kernel
theorem dX10_look_62 : decode cX10_look 62 = .ok (.aload_n 0, 1) := by decide +kernel
theorem dX10_look_63 : decode cX10_look 63 = .ok (.getfield 46, 3) := by decide +kernel
theorem dX10_look_66 : decode cX10_look 66 = .ok (.iload_n 1, 1) := by decide +kernel
theorem dX10_look_67 : decode cX10_look 67 = .ok (.iaload, 1) := by decide +kernel
theorem dX10_look_68 : decode cX10_look 68 = .ok (.ireturn, 1) := by decide +kernel
theorem dX10_look_69 : decode cX10_look 69 = .ok (.aload_n 0, 1) := by decide +kernel
theorem dX10_look_70 : decode cX10_look 70 = .ok (.getfield 49, 3) := by decide +kernel
theorem dX10_look_73 : decode cX10_look 73 = .ok (.iload_n 1, 1) := by decide +kernel
theorem dX10_look_74 : decode cX10_look 74 = .ok (.iaload, 1) := by decide +kernel
theorem dX10_look_75 : decode cX10_look 75 = .ok (.ireturn, 1) := by decide +kernel
theorem dX10_look_76 : decode cX10_look 76 = .ok (.aload_n 0, 1) := by decide +kernel
theorem dX10_look_77 : decode cX10_look 77 = .ok (.iload_n 1, 1) := by decide +kernel
theorem dX10_look_78 : decode cX10_look 78 = .ok (.invokevirtual 291, 3) := by decide +kernel
theorem dX10_look_81 : decode cX10_look 81 = .ok (.iconst (-1), 1) := by decide +kernel
theorem dX10_look_82 : decode cX10_look 82 = .ok (.if_icmp .ne 7, 3) := by decide +kernel
theorem dX10_look_85 : decode cX10_look 85 = .ok (.iconst 1, 1) := by decide +kernel
theorem dX10_look_86 : decode cX10_look 86 = .ok (.goto 4, 3) := by decide +kernel
theorem dX10_look_89 : decode cX10_look 89 = .ok (.iconst 0, 1) := by decide +kernel
theorem dX10_look_90 : decode cX10_look 90 = .ok (.ireturn, 1) := by decide +kernel
theorem dX10_look_91 : decode cX10_look 91 = .ok (.aload_n 0, 1) := by decide +kernel
theorem dX10_look_92 : decode cX10_look 92 = .ok (.iload_n 1, 1) := by decide +kernel
theorem dX10_look_93 : decode cX10_look 93 = .ok (.invokevirtual 294, 3) := by decide +kernel
theorem dX10_look_96 : decode cX10_look 96 = .ok (.ifCond .eq 7, 3) := by decide +kernel
theorem dX10_look_99 : decode cX10_look 99 = .ok (.iconst 0, 1) := by decide +kernel
theorem dX10_look_100 : decode cX10_look 100 = .ok (.goto 4, 3) := by decide +kernel
theorem dX10_look_103 : decode cX10_look 103 = .ok (.iconst 1, 1) := by decide +kernel
theorem dX10_look_104 : decode cX10_look 104 = .ok (.ireturn, 1) := by decide +kernel
theorem dX10_look_105 : decode cX10_look 105 = .ok (.iconst (-1), 1) := by decide +kernel
theorem dX10_look_106 : decode cX10_look 106 = .ok (.ireturn, 1) := by decide +kernel
theorem dX10_next_0 : decode cX10_next 0 = .ok (.aload_n 0, 1) := by decide +kernel
theorem dX10_next_1 : decode cX10_next 1 = .ok (.iload_n 1, 1) := by decide +kernel
theorem dX10_next_2 : decode cX10_next 2 = .ok (.iload_n 2, 1) := by decide +kernel
theorem dX10_next_3 : decode cX10_next 3 = .ok (.invokevirtual 297, 3) := by decide +kernel
theorem dX10_next_6 : decode cX10_next 6 = .ok (.ifCond .eq 22, 3) := by decide +kernel
theorem dX10_next_9 : decode cX10_next 9 = .ok (.iload_n 3, 1) := by decide +kernel
theorem dX10_next_10 : decode cX10_next 10 = .ok (.iconst 0, 1) := by decide +kernel
theorem dX10_next_11 : decode cX10_next 11 = .ok (.iconst 3, 1) := by decide +kernel
theorem dX10_next_12 : decode cX10_next 12 = .ok (.invokestatic 166, 3) := by decide +kernel
theorem dX10_next_15 : decode cX10_next 15 = .ok (.ifCond .eq 13, 3) := by decide +kernel
theorem dX10_next_18 : decode cX10_next 18 = .ok (.aload_n 0, 1) := by decide +kernel
theorem dX10_next_19 : decode cX10_next 19 = .ok (.iload_n 1, 1) := by decide +kernel
theorem dX10_next_20 : decode cX10_next 20 = .ok (.iload_n 2, 1) := by decide +kernel
theorem dX10_next_21 : decode cX10_next 21 = .ok (.iload_n 3, 1) := by decide +kernel
theorem dX10_next_22 : decode cX10_next 22 = .ok (.invokevirtual 287, 3) := by decide +kernel
theorem dX10_next_25 : decode cX10_next 25 = .ok (.goto 4, 3) := by decide +kernel
theorem dX10_next_28 : decode cX10_next 28 = .ok (.iconst (-1), 1) := by decide +kernel
theorem dX10_next_29 : decode cX10_next 29 = .ok (.ireturn, 1) := by decide +kernel
theorem dX10_accepts_0 : decode cX10_accepts 0 = .ok (.aload_n 0, 1) := by decide +kernel
theorem dX10_accepts_1 : decode cX10_accepts 1 = .ok (.iload_n 1, 1) := by decide +kernel
theorem dX10_accepts_2 : decode cX10_accepts 2 = .ok (.iload_n 2, 1) := by decide +kernel
theorem dX10_accepts_3 : decode cX10_accepts 3 = .ok (.invokevirtual 297, 3) := by decide +kernel
theorem dX10_accepts_6 : decode cX10_accepts 6 = .ok (.ifCond .ne 7, 3) := by decide +kernel
theorem dX10_accepts_9 : decode cX10_accepts 9 = .ok (.iconst (-1), 1) := by decide +kernel
theorem dX10_accepts_10 : decode cX10_accepts 10 = .ok (.goto 17, 3) := by decide +kernel
theorem dX10_accepts_13 : decode cX10_accepts 13 = .ok (.aload_n 0, 1) := by decide +kernel
theorem dX10_accepts_14 : decode cX10_accepts 14 = .ok (.iload_n 1, 1) := by decide +kernel
theorem dX10_accepts_15 : decode cX10_accepts 15 = .ok (.iload_n 2, 1) := by decide +kernel
theorem dX10_accepts_16 : decode cX10_accepts 16 = .ok (.invokevirtual 284, 3) := by decide +kernel
theorem dX10_accepts_19 : decode cX10_accepts 19 = .ok (.ifCond .eq 7, 3) := by decide +kernel
theorem dX10_accepts_22 : decode cX10_accepts 22 = .ok (.iconst 1, 1) := by decide +kernel
theorem dX10_accepts_23 : decode cX10_accepts 23 = .ok (.goto 4, 3) := by decide +kernel
theorem dX10_accepts_26 : decode cX10_accepts 26 = .ok (.iconst 0, 1) := by decide +kernel
theorem dX10_accepts_27 : decode cX10_accepts 27 = .ok (.ireturn, 1) := by decide +kernel
theorem dX10_spots_0 : decode cX10_spots 0 = .ok (.aload_n 0, 1) := by decide +kernel
theorem dX10_spots_1 : decode cX10_spots 1 = .ok (.iload_n 1, 1) := by decide +kernel
theorem dX10_spots_2 : decode cX10_spots 2 = .ok (.iload_n 2, 1) := by decide +kernel
theorem dX10_spots_3 : decode cX10_spots 3 = .ok (.invokevirtual 297, 3) := by decide +kernel
theorem dX10_spots_6 : decode cX10_spots 6 = .ok (.ifCond .eq 39, 3) := by decide +kernel
theorem dX10_spots_9 : decode cX10_spots 9 = .ok (.iload_n 3, 1) := by decide +kernel
theorem dX10_spots_10 : decode cX10_spots 10 = .ok (.iconst 0, 1) := by decide +kernel
theorem dX10_spots_11 : decode cX10_spots 11 = .ok (.aload_n 0, 1) := by decide +kernel
theorem dX10_spots_12 : decode cX10_spots 12 = .ok (.getfield 46, 3) := by decide +kernel
theorem dX10_spots_15 : decode cX10_spots 15 = .ok (.iload_n 1, 1) := by decide +kernel
theorem dX10_spots_16 : decode cX10_spots 16 = .ok (.iaload, 1) := by decide +kernel
theorem dX10_spots_17 : decode cX10_spots 17 = .ok (.iconst 1, 1) := by decide +kernel
theorem dX10_spots_18 : decode cX10_spots 18 = .ok (.isub, 1) := by decide +kernel
theorem dX10_spots_19 : decode cX10_spots 19 = .ok (.invokestatic 166, 3) := by decide +kernel
theorem dX10_spots_22 : decode cX10_spots 22 = .ok (.ifCond .eq 23, 3) := by decide +kernel
theorem dX10_spots_25 : decode cX10_spots 25 = .ok (.aload_n 0, 1) := by decide +kernel
theorem dX10_spots_26 : decode cX10_spots 26 = .ok (.getfield 61, 3) := by decide +kernel
theorem dX10_spots_29 : decode cX10_spots 29 = .ok (.bipush 6, 2) := by decide +kernel
theorem dX10_spots_31 : decode cX10_spots 31 = .ok (.sipush 150, 3) := by decide +kernel
theorem dX10_spots_34 : decode cX10_spots 34 = .ok (.iload_n 1, 1) := by decide +kernel
theorem dX10_spots_35 : decode cX10_spots 35 = .ok (.imul, 1) := by decide +kernel
theorem dX10_spots_36 : decode cX10_spots 36 = .ok (.iload_n 2, 1) := by decide +kernel
theorem dX10_spots_37 : decode cX10_spots 37 = .ok (.iadd, 1) := by decide +kernel
theorem dX10_spots_38 : decode cX10_spots 38 = .ok (.imul, 1) := by decide +kernel
theorem dX10_spots_39 : decode cX10_spots 39 = .ok (.iload_n 3, 1) := by decide +kernel
theorem dX10_spots_40 : decode cX10_spots 40 = .ok (.iadd, 1) := by decide +kernel
theorem dX10_spots_41 : decode cX10_spots 41 = .ok (.iaload, 1) := by decide +kernel
theorem dX10_spots_42 : decode cX10_spots 42 = .ok (.goto 4, 3) := by decide +kernel
theorem dX10_spots_45 : decode cX10_spots 45 = .ok (.iconst (-1), 1) := by decide +kernel
theorem dX10_spots_46 : decode cX10_spots 46 = .ok (.ireturn, 1) := by decide +kernel
theorem dX10_classOf_0 : decode cX10_classOf 0 = .ok (.aload_n 0, 1) := by decide +kernel
theorem dX10_classOf_1 : decode cX10_classOf 1 = .ok (.iload_n 1, 1) := by decide +kernel
theorem dX10_classOf_2 : decode cX10_classOf 2 = .ok (.iload_n 2, 1) := by decide +kernel
theorem dX10_classOf_3 : decode cX10_classOf 3 = .ok (.invokevirtual 297, 3) := by decide +kernel
theorem dX10_classOf_6 : decode cX10_classOf 6 = .ok (.ifCond .eq 18, 3) := by decide +kernel
theorem dX10_classOf_9 : decode cX10_classOf 9 = .ok (.aload_n 0, 1) := by decide +kernel
theorem dX10_classOf_10 : decode cX10_classOf 10 = .ok (.getfield 64, 3) := by decide +kernel
theorem dX10_classOf_13 : decode cX10_classOf 13 = .ok (.sipush 150, 3) := by decide +kernel
theorem dX10_classOf_16 : decode cX10_classOf 16 = .ok (.iload_n 1, 1) := by decide +kernel
theorem dX10_classOf_17 : decode cX10_classOf 17 = .ok (.imul, 1) := by decide +kernel
theorem dX10_classOf_18 : decode cX10_classOf 18 = .ok (.iload_n 2, 1) := by decide +kernel
theorem dX10_classOf_19 : decode cX10_classOf 19 = .ok (.iadd, 1) := by decide +kernel
theorem dX10_classOf_20 : decode cX10_classOf 20 = .ok (.iaload, 1) := by decide +kernel
theorem dX10_classOf_21 : decode cX10_classOf 21 = .ok (.goto 4, 3) := by decide +kernel
theorem dX10_classOf_24 : decode cX10_classOf 24 = .ok (.iconst (-1), 1) := by decide +kernel
theorem dX10_classOf_25 : decode cX10_classOf 25 = .ok (.ireturn, 1) := by decide +kernel
theorem dX10_means_0 : decode cX10_means 0 = .ok (.aload_n 0, 1) := by decide +kernel
theorem dX10_means_1 : decode cX10_means 1 = .ok (.iload_n 1, 1) := by decide +kernel
theorem dX10_means_2 : decode cX10_means 2 = .ok (.invokevirtual 281, 3) := by decide +kernel
theorem dX10_means_5 : decode cX10_means 5 = .ok (.ifCond .eq 15, 3) := by decide +kernel
theorem dX10_means_8 : decode cX10_means 8 = .ok (.iload_n 2, 1) := by decide +kernel
theorem dX10_means_9 : decode cX10_means 9 = .ok (.ifCond .lt 11, 3) := by decide +kernel
theorem dX10_means_12 : decode cX10_means 12 = .ok (.iload_n 2, 1) := by decide +kernel
theorem dX10_means_13 : decode cX10_means 13 = .ok (.aload_n 0, 1) := by decide +kernel
theorem dX10_means_14 : decode cX10_means 14 = .ok (.getfield 149, 3) := by decide +kernel
theorem dX10_means_17 : decode cX10_means 17 = .ok (.if_icmp .le 5, 3) := by decide +kernel
theorem dX10_means_20 : decode cX10_means 20 = .ok (.iconst (-1), 1) := by decide +kernel
theorem dX10_means_21 : decode cX10_means 21 = .ok (.ireturn, 1) := by decide +kernel
theorem dX10_means_22 : decode cX10_means 22 = .ok (.aload_n 0, 1) := by decide +kernel
theorem dX10_means_23 : decode cX10_means 23 = .ok (.iconst 0, 1) := by decide +kernel
theorem dX10_means_24 : decode cX10_means 24 = .ok (.putfield 149, 3) := by decide +kernel
theorem dX10_means_27 : decode cX10_means 27 = .ok (.iconst 0, 1) := by decide +kernel
theorem dX10_means_28 : decode cX10_means 28 = .ok (.istore_n 3, 1) := by decide +kernel
theorem dX10_means_29 : decode cX10_means 29 = .ok (.iconst 0, 1) := by decide +kernel
theorem dX10_means_30 : decode cX10_means 30 = .ok (.istore 4, 2) := by decide +kernel
theorem dX10_means_32 : decode cX10_means 32 = .ok (.iload 4, 2) := by decide +kernel
theorem dX10_means_34 : decode cX10_means 34 = .ok (.iload_n 2, 1) := by decide +kernel
theorem dX10_means_35 : decode cX10_means 35 = .ok (.if_icmp .ge 46, 3) := by decide +kernel
theorem dX10_means_38 : decode cX10_means 38 = .ok (.aload_n 0, 1) := by decide +kernel
theorem dX10_means_39 : decode cX10_means 39 = .ok (.getfield 7, 3) := by decide +kernel
theorem dX10_means_42 : decode cX10_means 42 = .ok (.iload 4, 2) := by decide +kernel
theorem dX10_means_44 : decode cX10_means 44 = .ok (.baload, 1) := by decide +kernel
theorem dX10_means_45 : decode cX10_means 45 = .ok (.sipush 255, 3) := by decide +kernel
theorem dX10_means_48 : decode cX10_means 48 = .ok (.iand, 1) := by decide +kernel
theorem dX10_means_49 : decode cX10_means 49 = .ok (.bipush 97, 2) := by decide +kernel
theorem dX10_means_51 : decode cX10_means 51 = .ok (.isub, 1) := by decide +kernel
theorem dX10_means_52 : decode cX10_means 52 = .ok (.istore 5, 2) := by decide +kernel
theorem dX10_means_54 : decode cX10_means 54 = .ok (.iload 5, 2) := by decide +kernel
theorem dX10_means_56 : decode cX10_means 56 = .ok (.iconst 0, 1) := by decide +kernel
theorem dX10_means_57 : decode cX10_means 57 = .ok (.iconst 3, 1) := by decide +kernel
theorem dX10_means_58 : decode cX10_means 58 = .ok (.invokestatic 166, 3) := by decide +kernel
theorem dX10_means_61 : decode cX10_means 61 = .ok (.ifCond .ne 5, 3) := by decide +kernel
theorem dX10_means_64 : decode cX10_means 64 = .ok (.iconst 0, 1) := by decide +kernel
theorem dX10_means_65 : decode cX10_means 65 = .ok (.ireturn, 1) := by decide +kernel
theorem dX10_means_66 : decode cX10_means 66 = .ok (.aload_n 0, 1) := by decide +kernel
theorem dX10_means_67 : decode cX10_means 67 = .ok (.iload_n 1, 1) := by decide +kernel
theorem dX10_means_68 : decode cX10_means 68 = .ok (.iload_n 3, 1) := by decide +kernel
theorem dX10_means_69 : decode cX10_means 69 = .ok (.iload 5, 2) := by decide +kernel
theorem dX10_means_71 : decode cX10_means 71 = .ok (.invokevirtual 287, 3) := by decide +kernel
theorem dX10_means_74 : decode cX10_means 74 = .ok (.istore_n 3, 1) := by decide +kernel
theorem dX10_means_75 : decode cX10_means 75 = .ok (.iinc 4 1, 3) := by decide +kernel
theorem dX10_means_78 : decode cX10_means 78 = .ok (.goto (-46), 3) := by decide +kernel
theorem dX10_means_81 : decode cX10_means 81 = .ok (.aload_n 0, 1) := by decide +kernel
theorem dX10_means_82 : decode cX10_means 82 = .ok (.iload_n 1, 1) := by decide +kernel
theorem dX10_means_83 : decode cX10_means 83 = .ok (.iload_n 3, 1) := by decide +kernel
theorem dX10_means_84 : decode cX10_means 84 = .ok (.invokevirtual 284, 3) := by decide +kernel
theorem dX10_means_87 : decode cX10_means 87 = .ok (.ifCond .eq 7, 3) := by decide +kernel
theorem dX10_means_90 : decode cX10_means 90 = .ok (.iconst 1, 1) := by decide +kernel
theorem dX10_means_91 : decode cX10_means 91 = .ok (.goto 4, 3) := by decide +kernel
theorem dX10_means_94 : decode cX10_means 94 = .ok (.iconst 0, 1) := by decide +kernel
theorem dX10_means_95 : decode cX10_means 95 = .ok (.ireturn, 1) := by decide +kernel
theorem dX10_counts_0 : decode cX10_counts 0 = .ok (.iconst 0, 1) := by decide +kernel
theorem dX10_counts_1 : decode cX10_counts 1 = .ok (.istore_n 3, 1) := by decide +kernel
theorem dX10_counts_2 : decode cX10_counts 2 = .ok (.iload_n 3, 1) := by decide +kernel
theorem dX10_counts_3 : decode cX10_counts 3 = .ok (.iload_n 2, 1) := by decide +kernel
theorem dX10_counts_4 : decode cX10_counts 4 = .ok (.if_icmp .gt 115, 3) := by decide +kernel
theorem dX10_counts_7 : decode cX10_counts 7 = .ok (.iconst 0, 1) := by decide +kernel
theorem dX10_counts_8 : decode cX10_counts 8 = .ok (.istore 4, 2) := by decide +kernel
theorem dX10_counts_10 : decode cX10_counts 10 = .ok (.iload 4, 2) := by decide +kernel
theorem dX10_counts_12 : decode cX10_counts 12 = .ok (.aload_n 0, 1) := by decide +kernel
theorem dX10_counts_13 : decode cX10_counts 13 = .ok (.getfield 43, 3) := by decide +kernel
theorem dX10_counts_16 : decode cX10_counts 16 = .ok (.iload_n 1, 1) := by decide +kernel
theorem dX10_counts_17 : decode cX10_counts 17 = .ok (.iaload, 1) := by decide +kernel
theorem dX10_counts_18 : decode cX10_counts 18 = .ok (.if_icmp .ge 95, 3) := by decide +kernel
theorem dX10_counts_21 : decode cX10_counts 21 = .ok (.lconst 0, 1) := by decide +kernel
theorem dX10_counts_22 : decode cX10_counts 22 = .ok (.lstore 5, 2) := by decide +kernel
theorem dX10_counts_24 : decode cX10_counts 24 = .ok (.iconst 0, 1) := by decide +kernel
theorem dX10_counts_25 : decode cX10_counts 25 = .ok (.istore 7, 2) := by decide +kernel
theorem dX10_counts_27 : decode cX10_counts 27 = .ok (.iload 7, 2) := by decide +kernel
theorem dX10_counts_29 : decode cX10_counts 29 = .ok (.iconst 4, 1) := by decide +kernel
theorem dX10_counts_30 : decode cX10_counts 30 = .ok (.if_icmp .ge 40, 3) := by decide +kernel
theorem dX10_counts_33 : decode cX10_counts 33 = .ok (.iload_n 3, 1) := by decide +kernel
theorem dX10_counts_34 : decode cX10_counts 34 = .ok (.ifCond .le 36, 3) := by decide +kernel
theorem dX10_counts_37 : decode cX10_counts 37 = .ok (.lload 5, 2) := by decide +kernel
theorem dX10_counts_39 : decode cX10_counts 39 = .ok (.aload_n 0, 1) := by decide +kernel
theorem dX10_counts_40 : decode cX10_counts 40 = .ok (.getfield 133, 3) := by decide +kernel
theorem dX10_counts_43 : decode cX10_counts 43 = .ok (.sipush 150, 3) := by decide +kernel
theorem dX10_counts_46 : decode cX10_counts 46 = .ok (.iload_n 3, 1) := by decide +kernel
theorem dX10_counts_47 : decode cX10_counts 47 = .ok (.iconst 1, 1) := by decide +kernel
theorem dX10_counts_48 : decode cX10_counts 48 = .ok (.isub, 1) := by decide +kernel
theorem dX10_counts_49 : decode cX10_counts 49 = .ok (.imul, 1) := by decide +kernel
theorem dX10_counts_50 : decode cX10_counts 50 = .ok (.aload_n 0, 1) := by decide +kernel
theorem dX10_counts_51 : decode cX10_counts 51 = .ok (.iload_n 1, 1) := by decide +kernel
theorem dX10_counts_52 : decode cX10_counts 52 = .ok (.iload 4, 2) := by decide +kernel
theorem dX10_counts_54 : decode cX10_counts 54 = .ok (.iload 7, 2) := by decide +kernel
theorem dX10_counts_56 : decode cX10_counts 56 = .ok (.invokevirtual 287, 3) := by decide +kernel
theorem dX10_counts_59 : decode cX10_counts 59 = .ok (.iadd, 1) := by decide +kernel
theorem dX10_counts_60 : decode cX10_counts 60 = .ok (.laload, 1) := by decide +kernel
theorem dX10_counts_61 : decode cX10_counts 61 = .ok (.ladd, 1) := by decide +kernel
theorem dX10_counts_62 : decode cX10_counts 62 = .ok (.lstore 5, 2) := by decide +kernel
theorem dX10_counts_64 : decode cX10_counts 64 = .ok (.iinc 7 1, 3) := by decide +kernel
theorem dX10_counts_67 : decode cX10_counts 67 = .ok (.goto (-40), 3) := by decide +kernel
theorem dX10_counts_70 : decode cX10_counts 70 = .ok (.aload_n 0, 1) := by decide +kernel
theorem dX10_counts_71 : decode cX10_counts 71 = .ok (.getfield 133, 3) := by decide +kernel
theorem dX10_counts_74 : decode cX10_counts 74 = .ok (.sipush 150, 3) := by decide +kernel
theorem dX10_counts_77 : decode cX10_counts 77 = .ok (.iload_n 3, 1) := by decide +kernel
theorem dX10_counts_78 : decode cX10_counts 78 = .ok (.imul, 1) := by decide +kernel
theorem dX10_counts_79 : decode cX10_counts 79 = .ok (.iload 4, 2) := by decide +kernel
theorem dX10_counts_81 : decode cX10_counts 81 = .ok (.iadd, 1) := by decide +kernel
theorem dX10_counts_82 : decode cX10_counts 82 = .ok (.iload_n 3, 1) := by decide +kernel
theorem dX10_counts_83 : decode cX10_counts 83 = .ok (.ifCond .le 8, 3) := by decide +kernel
theorem dX10_counts_86 : decode cX10_counts 86 = .ok (.lload 5, 2) := by decide +kernel
theorem dX10_counts_88 : decode cX10_counts 88 = .ok (.goto 18, 3) := by decide +kernel
theorem dX10_counts_91 : decode cX10_counts 91 = .ok (.aload_n 0, 1) := by decide +kernel
theorem dX10_counts_92 : decode cX10_counts 92 = .ok (.iload_n 1, 1) := by decide +kernel
theorem dX10_counts_93 : decode cX10_counts 93 = .ok (.iload 4, 2) := by decide +kernel
theorem dX10_counts_95 : decode cX10_counts 95 = .ok (.invokevirtual 284, 3) := by decide +kernel
theorem dX10_counts_98 : decode cX10_counts 98 = .ok (.ifCond .eq 7, 3) := by decide +kernel
theorem dX10_counts_101 : decode cX10_counts 101 = .ok (.lconst 1, 1) := by decide +kernel
theorem dX10_counts_102 : decode cX10_counts 102 = .ok (.goto 4, 3) := by decide +kernel
theorem dX10_counts_105 : decode cX10_counts 105 = .ok (.lconst 0, 1) := by decide +kernel
theorem dX10_counts_106 : decode cX10_counts 106 = .ok (.lastore, 1) := by decide +kernel
theorem dX10_counts_107 : decode cX10_counts 107 = .ok (.iinc 4 1, 3) := by decide +kernel
theorem dX10_counts_110 : decode cX10_counts 110 = .ok (.goto (-100), 3) := by decide +kernel
theorem dX10_counts_113 : decode cX10_counts 113 = .ok (.iinc 3 1, 3) := by decide +kernel
theorem dX10_counts_116 : decode cX10_counts 116 = .ok (.goto (-114), 3) := by decide +kernel
theorem dX10_counts_119 : decode cX10_counts 119 = .ok (.return_, 1) := by decide +kernel
theorem dX10_words_0 : decode cX10_words 0 = .ok (.aload_n 0, 1) := by decide +kernel
theorem dX10_words_1 : decode cX10_words 1 = .ok (.iload_n 1, 1) := by decide +kernel
theorem dX10_words_2 : decode cX10_words 2 = .ok (.invokevirtual 281, 3) := by decide +kernel
theorem dX10_words_5 : decode cX10_words 5 = .ok (.ifCond .eq 13, 3) := by decide +kernel
theorem dX10_words_8 : decode cX10_words 8 = .ok (.iload_n 2, 1) := by decide +kernel
theorem dX10_words_9 : decode cX10_words 9 = .ok (.iconst 0, 1) := by decide +kernel
theorem dX10_words_10 : decode cX10_words 10 = .ok (.bipush 28, 2) := by decide +kernel
theorem dX10_words_12 : decode cX10_words 12 = .ok (.invokestatic 166, 3) := by decide +kernel
theorem dX10_words_15 : decode cX10_words 15 = .ok (.ifCond .ne 7, 3) := by decide +kernel
theorem dX10_words_18 : decode cX10_words 18 = .ok (.ldc2_w 300, 3) := by decide +kernel
theorem dX10_words_21 : decode cX10_words 21 = .ok (.lreturn, 1) := by decide +kernel
theorem dX10_words_22 : decode cX10_words 22 = .ok (.aload_n 0, 1) := by decide +kernel
theorem dX10_words_23 : decode cX10_words 23 = .ok (.iload_n 1, 1) := by decide +kernel
theorem dX10_words_24 : decode cX10_words 24 = .ok (.iload_n 2, 1) := by decide +kernel
theorem dX10_words_25 : decode cX10_words 25 = .ok (.invokevirtual 302, 3) := by decide +kernel
theorem dX10_words_28 : decode cX10_words 28 = .ok (.aload_n 0, 1) := by decide +kernel
theorem dX10_words_29 : decode cX10_words 29 = .ok (.getfield 133, 3) := by decide +kernel
theorem dX10_words_32 : decode cX10_words 32 = .ok (.sipush 150, 3) := by decide +kernel
theorem dX10_words_35 : decode cX10_words 35 = .ok (.iload_n 2, 1) := by decide +kernel
theorem dX10_words_36 : decode cX10_words 36 = .ok (.imul, 1) := by decide +kernel
theorem dX10_words_37 : decode cX10_words 37 = .ok (.laload, 1) := by decide +kernel
theorem dX10_words_38 : decode cX10_words 38 = .ok (.lreturn, 1) := by decide +kernel
theorem dX10_word_0 : decode cX10_word 0 = .ok (.aload_n 0, 1) := by decide +kernel
theorem dX10_word_1 : decode cX10_word 1 = .ok (.iload_n 1, 1) := by decide +kernel
theorem dX10_word_2 : decode cX10_word 2 = .ok (.invokevirtual 281, 3) := by decide +kernel
theorem dX10_word_5 : decode cX10_word 5 = .ok (.ifCond .eq 19, 3) := by decide +kernel
theorem dX10_word_8 : decode cX10_word 8 = .ok (.iload_n 2, 1) := by decide +kernel
theorem dX10_word_9 : decode cX10_word 9 = .ok (.iconst 0, 1) := by decide +kernel
theorem dX10_word_10 : decode cX10_word 10 = .ok (.bipush 28, 2) := by decide +kernel
theorem dX10_word_12 : decode cX10_word 12 = .ok (.invokestatic 166, 3) := by decide +kernel
theorem dX10_word_15 : decode cX10_word 15 = .ok (.ifCond .eq 9, 3) := by decide +kernel
theorem dX10_word_18 : decode cX10_word 18 = .ok (.lload_n 3, 1) := by decide +kernel
theorem dX10_word_19 : decode cX10_word 19 = .ok (.lconst 0, 1) := by decide +kernel
theorem dX10_word_20 : decode cX10_word 20 = .ok (.lcmp, 1) := by decide +kernel
theorem dX10_word_21 : decode cX10_word 21 = .ok (.ifCond .ge 5, 3) := by decide +kernel
theorem dX10_word_24 : decode cX10_word 24 = .ok (.iconst 0, 1) := by decide +kernel
theorem dX10_word_25 : decode cX10_word 25 = .ok (.ireturn, 1) := by decide +kernel
theorem dX10_word_26 : decode cX10_word 26 = .ok (.aload_n 0, 1) := by decide +kernel
theorem dX10_word_27 : decode cX10_word 27 = .ok (.iload_n 1, 1) := by decide +kernel
theorem dX10_word_28 : decode cX10_word 28 = .ok (.iload_n 2, 1) := by decide +kernel
theorem dX10_word_29 : decode cX10_word 29 = .ok (.invokevirtual 302, 3) := by decide +kernel
theorem dX10_word_32 : decode cX10_word 32 = .ok (.lload_n 3, 1) := by decide +kernel
theorem dX10_word_33 : decode cX10_word 33 = .ok (.aload_n 0, 1) := by decide +kernel
theorem dX10_word_34 : decode cX10_word 34 = .ok (.getfield 133, 3) := by decide +kernel
theorem dX10_word_37 : decode cX10_word 37 = .ok (.sipush 150, 3) := by decide +kernel
theorem dX10_word_40 : decode cX10_word 40 = .ok (.iload_n 2, 1) := by decide +kernel
theorem dX10_word_41 : decode cX10_word 41 = .ok (.imul, 1) := by decide +kernel
theorem dX10_word_42 : decode cX10_word 42 = .ok (.laload, 1) := by decide +kernel
theorem dX10_word_43 : decode cX10_word 43 = .ok (.lcmp, 1) := by decide +kernel
theorem dX10_word_44 : decode cX10_word 44 = .ok (.ifCond .lt 5, 3) := by decide +kernel
theorem dX10_word_47 : decode cX10_word 47 = .ok (.iconst 0, 1) := by decide +kernel
theorem dX10_word_48 : decode cX10_word 48 = .ok (.ireturn, 1) := by decide +kernel
theorem dX10_word_49 : decode cX10_word 49 = .ok (.lload_n 3, 1) := by decide +kernel
theorem dX10_word_50 : decode cX10_word 50 = .ok (.lstore 5, 2) := by decide +kernel
theorem dX10_word_52 : decode cX10_word 52 = .ok (.iconst 0, 1) := by decide +kernel
theorem dX10_word_53 : decode cX10_word 53 = .ok (.istore 7, 2) := by decide +kernel
theorem dX10_word_55 : decode cX10_word 55 = .ok (.iconst 0, 1) := by decide +kernel
theorem dX10_word_56 : decode cX10_word 56 = .ok (.istore 8, 2) := by decide +kernel
theorem dX10_word_58 : decode cX10_word 58 = .ok (.iload 8, 2) := by decide +kernel
theorem dX10_word_60 : decode cX10_word 60 = .ok (.iload_n 2, 1) := by decide +kernel
theorem dX10_word_61 : decode cX10_word 61 = .ok (.if_icmp .ge 99, 3) := by decide +kernel
theorem dX10_word_64 : decode cX10_word 64 = .ok (.iconst 0, 1) := by decide +kernel
theorem dX10_word_65 : decode cX10_word 65 = .ok (.istore 9, 2) := by decide +kernel
theorem dX10_word_67 : decode cX10_word 67 = .ok (.lload 5, 2) := by decide +kernel
theorem dX10_word_69 : decode cX10_word 69 = .ok (.aload_n 0, 1) := by decide +kernel
theorem dX10_word_70 : decode cX10_word 70 = .ok (.getfield 133, 3) := by decide +kernel
theorem dX10_word_73 : decode cX10_word 73 = .ok (.sipush 150, 3) := by decide +kernel
theorem dX10_word_76 : decode cX10_word 76 = .ok (.iload_n 2, 1) := by decide +kernel
theorem dX10_word_77 : decode cX10_word 77 = .ok (.iconst 1, 1) := by decide +kernel
theorem dX10_word_78 : decode cX10_word 78 = .ok (.isub, 1) := by decide +kernel
theorem dX10_word_79 : decode cX10_word 79 = .ok (.iload 8, 2) := by decide +kernel
theorem dX10_word_81 : decode cX10_word 81 = .ok (.isub, 1) := by decide +kernel
theorem dX10_word_82 : decode cX10_word 82 = .ok (.imul, 1) := by decide +kernel
theorem dX10_word_83 : decode cX10_word 83 = .ok (.aload_n 0, 1) := by decide +kernel
theorem dX10_word_84 : decode cX10_word 84 = .ok (.iload_n 1, 1) := by decide +kernel
theorem dX10_word_85 : decode cX10_word 85 = .ok (.iload 7, 2) := by decide +kernel
theorem dX10_word_87 : decode cX10_word 87 = .ok (.iload 9, 2) := by decide +kernel
theorem dX10_word_89 : decode cX10_word 89 = .ok (.invokevirtual 287, 3) := by decide +kernel
theorem dX10_word_92 : decode cX10_word 92 = .ok (.iadd, 1) := by decide +kernel
theorem dX10_word_93 : decode cX10_word 93 = .ok (.laload, 1) := by decide +kernel
theorem dX10_word_94 : decode cX10_word 94 = .ok (.lcmp, 1) := by decide +kernel
theorem dX10_word_95 : decode cX10_word 95 = .ok (.ifCond .lt 39, 3) := by decide +kernel
theorem dX10_word_98 : decode cX10_word 98 = .ok (.lload 5, 2) := by decide +kernel
theorem dX10_word_100 : decode cX10_word 100 = .ok (.aload_n 0, 1) := by decide +kernel
theorem dX10_word_101 : decode cX10_word 101 = .ok (.getfield 133, 3) := by decide +kernel
theorem dX10_word_104 : decode cX10_word 104 = .ok (.sipush 150, 3) := by decide +kernel
theorem dX10_word_107 : decode cX10_word 107 = .ok (.iload_n 2, 1) := by decide +kernel
theorem dX10_word_108 : decode cX10_word 108 = .ok (.iconst 1, 1) := by decide +kernel
theorem dX10_word_109 : decode cX10_word 109 = .ok (.isub, 1) := by decide +kernel
theorem dX10_word_110 : decode cX10_word 110 = .ok (.iload 8, 2) := by decide +kernel
theorem dX10_word_112 : decode cX10_word 112 = .ok (.isub, 1) := by decide +kernel
theorem dX10_word_113 : decode cX10_word 113 = .ok (.imul, 1) := by decide +kernel
theorem dX10_word_114 : decode cX10_word 114 = .ok (.aload_n 0, 1) := by decide +kernel
theorem dX10_word_115 : decode cX10_word 115 = .ok (.iload_n 1, 1) := by decide +kernel
theorem dX10_word_116 : decode cX10_word 116 = .ok (.iload 7, 2) := by decide +kernel
theorem dX10_word_118 : decode cX10_word 118 = .ok (.iload 9, 2) := by decide +kernel
theorem dX10_word_120 : decode cX10_word 120 = .ok (.invokevirtual 287, 3) := by decide +kernel
theorem dX10_word_123 : decode cX10_word 123 = .ok (.iadd, 1) := by decide +kernel
theorem dX10_word_124 : decode cX10_word 124 = .ok (.laload, 1) := by decide +kernel
theorem dX10_word_125 : decode cX10_word 125 = .ok (.lsub, 1) := by decide +kernel
theorem dX10_word_126 : decode cX10_word 126 = .ok (.lstore 5, 2) := by decide +kernel
theorem dX10_word_128 : decode cX10_word 128 = .ok (.iinc 9 1, 3) := by decide +kernel
theorem dX10_word_131 : decode cX10_word 131 = .ok (.goto (-64), 3) := by decide +kernel
theorem dX10_word_134 : decode cX10_word 134 = .ok (.aload_n 0, 1) := by decide +kernel
theorem dX10_word_135 : decode cX10_word 135 = .ok (.getfield 73, 3) := by decide +kernel
theorem dX10_word_138 : decode cX10_word 138 = .ok (.iload 8, 2) := by decide +kernel
theorem dX10_word_140 : decode cX10_word 140 = .ok (.iload 9, 2) := by decide +kernel
theorem dX10_word_142 : decode cX10_word 142 = .ok (.iastore, 1) := by decide +kernel
theorem dX10_word_143 : decode cX10_word 143 = .ok (.aload_n 0, 1) := by decide +kernel
theorem dX10_word_144 : decode cX10_word 144 = .ok (.iload_n 1, 1) := by decide +kernel
theorem dX10_word_145 : decode cX10_word 145 = .ok (.iload 7, 2) := by decide +kernel
theorem dX10_word_147 : decode cX10_word 147 = .ok (.iload 9, 2) := by decide +kernel
theorem dX10_word_149 : decode cX10_word 149 = .ok (.invokevirtual 287, 3) := by decide +kernel
theorem dX10_word_152 : decode cX10_word 152 = .ok (.istore 7, 2) := by decide +kernel
theorem dX10_word_154 : decode cX10_word 154 = .ok (.iinc 8 1, 3) := by decide +kernel
theorem dX10_word_157 : decode cX10_word 157 = .ok (.goto (-99), 3) := by decide +kernel
theorem dX10_word_160 : decode cX10_word 160 = .ok (.aload_n 0, 1) := by decide +kernel
theorem dX10_word_161 : decode cX10_word 161 = .ok (.iload_n 2, 1) := by decide +kernel
theorem dX10_word_162 : decode cX10_word 162 = .ok (.putfield 305, 3) := by decide +kernel
theorem dX10_word_165 : decode cX10_word 165 = .ok (.iconst 1, 1) := by decide +kernel
theorem dX10_word_166 : decode cX10_word 166 = .ok (.ireturn, 1) := by decide +kernel
theorem dX10_shortest_0 : decode cX10_shortest 0 = .ok (.aload_n 0, 1) := by decide +kernel
theorem dX10_shortest_1 : decode cX10_shortest 1 = .ok (.iload_n 1, 1) := by decide +kernel
theorem dX10_shortest_2 : decode cX10_shortest 2 = .ok (.invokevirtual 281, 3) := by decide +kernel
theorem dX10_shortest_5 : decode cX10_shortest 5 = .ok (.ifCond .eq 11, 3) := by decide +kernel
theorem dX10_shortest_8 : decode cX10_shortest 8 = .ok (.aload_n 0, 1) := by decide +kernel
theorem dX10_shortest_9 : decode cX10_shortest 9 = .ok (.iload_n 1, 1) := by decide +kernel
theorem dX10_shortest_10 : decode cX10_shortest 10 = .ok (.invokevirtual 291, 3) := by decide +kernel
theorem dX10_shortest_13 : decode cX10_shortest 13 = .ok (.goto 4, 3) := by decide +kernel
theorem dX10_shortest_16 : decode cX10_shortest 16 = .ok (.iconst (-1), 1) := by decide +kernel
theorem dX10_shortest_17 : decode cX10_shortest 17 = .ok (.istore_n 2, 1) := by decide +kernel
theorem dX10_shortest_18 : decode cX10_shortest 18 = .ok (.iload_n 2, 1) := by decide +kernel
theorem dX10_shortest_19 : decode cX10_shortest 19 = .ok (.iconst (-1), 1) := by decide +kernel
theorem dX10_shortest_20 : decode cX10_shortest 20 = .ok (.if_icmp .ne 5, 3) := by decide +kernel
theorem dX10_shortest_23 : decode cX10_shortest 23 = .ok (.iconst (-1), 1) := by decide +kernel
theorem dX10_shortest_24 : decode cX10_shortest 24 = .ok (.ireturn, 1) := by decide +kernel
theorem dX10_shortest_25 : decode cX10_shortest 25 = .ok (.iconst 0, 1) := by decide +kernel
theorem dX10_shortest_26 : decode cX10_shortest 26 = .ok (.istore_n 3, 1) := by decide +kernel
theorem dX10_shortest_27 : decode cX10_shortest 27 = .ok (.iload_n 2, 1) := by decide +kernel
theorem dX10_shortest_28 : decode cX10_shortest 28 = .ok (.istore 4, 2) := by decide +kernel
theorem dX10_shortest_30 : decode cX10_shortest 30 = .ok (.iload 4, 2) := by decide +kernel
theorem dX10_shortest_32 : decode cX10_shortest 32 = .ok (.ifCond .le 24, 3) := by decide +kernel
theorem dX10_shortest_35 : decode cX10_shortest 35 = .ok (.iinc 3 1, 3) := by decide +kernel
theorem dX10_shortest_38 : decode cX10_shortest 38 = .ok (.aload_n 0, 1) := by decide +kernel
theorem dX10_shortest_39 : decode cX10_shortest 39 = .ok (.getfield 67, 3) := by decide +kernel
theorem dX10_shortest_42 : decode cX10_shortest 42 = .ok (.sipush 150, 3) := by decide +kernel
theorem dX10_shortest_45 : decode cX10_shortest 45 = .ok (.iload_n 1, 1) := by decide +kernel
theorem dX10_shortest_46 : decode cX10_shortest 46 = .ok (.imul, 1) := by decide +kernel
theorem dX10_shortest_47 : decode cX10_shortest 47 = .ok (.iload 4, 2) := by decide +kernel
theorem dX10_shortest_49 : decode cX10_shortest 49 = .ok (.iadd, 1) := by decide +kernel
theorem dX10_shortest_50 : decode cX10_shortest 50 = .ok (.iaload, 1) := by decide +kernel
theorem dX10_shortest_51 : decode cX10_shortest 51 = .ok (.istore 4, 2) := by decide +kernel
theorem dX10_shortest_53 : decode cX10_shortest 53 = .ok (.goto (-23), 3) := by decide +kernel
theorem dX10_shortest_56 : decode cX10_shortest 56 = .ok (.aload_n 0, 1) := by decide +kernel
theorem dX10_shortest_57 : decode cX10_shortest 57 = .ok (.iload_n 3, 1) := by decide +kernel
theorem dX10_shortest_58 : decode cX10_shortest 58 = .ok (.putfield 305, 3) := by decide +kernel
theorem dX10_shortest_61 : decode cX10_shortest 61 = .ok (.iload_n 2, 1) := by decide +kernel
theorem dX10_shortest_62 : decode cX10_shortest 62 = .ok (.istore 4, 2) := by decide +kernel
theorem dX10_shortest_64 : decode cX10_shortest 64 = .ok (.iload 4, 2) := by decide +kernel
theorem dX10_shortest_66 : decode cX10_shortest 66 = .ok (.ifCond .le 43, 3) := by decide +kernel
theorem dX10_shortest_69 : decode cX10_shortest 69 = .ok (.iinc 3 (-1), 3) := by decide +kernel
theorem dX10_shortest_72 : decode cX10_shortest 72 = .ok (.aload_n 0, 1) := by decide +kernel
theorem dX10_shortest_73 : decode cX10_shortest 73 = .ok (.getfield 73, 3) := by decide +kernel
theorem dX10_shortest_76 : decode cX10_shortest 76 = .ok (.iload_n 3, 1) := by decide +kernel
theorem dX10_shortest_77 : decode cX10_shortest 77 = .ok (.aload_n 0, 1) := by decide +kernel
theorem dX10_shortest_78 : decode cX10_shortest 78 = .ok (.getfield 70, 3) := by decide +kernel
theorem dX10_shortest_81 : decode cX10_shortest 81 = .ok (.sipush 150, 3) := by decide +kernel
theorem dX10_shortest_84 : decode cX10_shortest 84 = .ok (.iload_n 1, 1) := by decide +kernel
theorem dX10_shortest_85 : decode cX10_shortest 85 = .ok (.imul, 1) := by decide +kernel
theorem dX10_shortest_86 : decode cX10_shortest 86 = .ok (.iload 4, 2) := by decide +kernel
theorem dX10_shortest_88 : decode cX10_shortest 88 = .ok (.iadd, 1) := by decide +kernel
theorem dX10_shortest_89 : decode cX10_shortest 89 = .ok (.iaload, 1) := by decide +kernel
theorem dX10_shortest_90 : decode cX10_shortest 90 = .ok (.iastore, 1) := by decide +kernel
theorem dX10_shortest_91 : decode cX10_shortest 91 = .ok (.aload_n 0, 1) := by decide +kernel
theorem dX10_shortest_92 : decode cX10_shortest 92 = .ok (.getfield 67, 3) := by decide +kernel
theorem dX10_shortest_95 : decode cX10_shortest 95 = .ok (.sipush 150, 3) := by decide +kernel
theorem dX10_shortest_98 : decode cX10_shortest 98 = .ok (.iload_n 1, 1) := by decide +kernel
theorem dX10_shortest_99 : decode cX10_shortest 99 = .ok (.imul, 1) := by decide +kernel
theorem dX10_shortest_100 : decode cX10_shortest 100 = .ok (.iload 4, 2) := by decide +kernel
theorem dX10_shortest_102 : decode cX10_shortest 102 = .ok (.iadd, 1) := by decide +kernel
theorem dX10_shortest_103 : decode cX10_shortest 103 = .ok (.iaload, 1) := by decide +kernel
theorem dX10_shortest_104 : decode cX10_shortest 104 = .ok (.istore 4, 2) := by decide +kernel
theorem dX10_shortest_106 : decode cX10_shortest 106 = .ok (.goto (-42), 3) := by decide +kernel
theorem dX10_shortest_109 : decode cX10_shortest 109 = .ok (.aload_n 0, 1) := by decide +kernel
theorem dX10_shortest_110 : decode cX10_shortest 110 = .ok (.getfield 305, 3) := by decide +kernel
theorem dX10_shortest_113 : decode cX10_shortest 113 = .ok (.ireturn, 1) := by decide +kernel
theorem dX10_meets_0 : decode cX10_meets 0 = .ok (.aload_n 0, 1) := by decide +kernel
theorem dX10_meets_1 : decode cX10_meets 1 = .ok (.getfield 146, 3) := by decide +kernel
theorem dX10_meets_4 : decode cX10_meets 4 = .ok (.iload_n 1, 1) := by decide +kernel
theorem dX10_meets_5 : decode cX10_meets 5 = .ok (.baload, 1) := by decide +kernel
theorem dX10_meets_6 : decode cX10_meets 6 = .ok (.ifCond .eq 4, 3) := by decide +kernel
theorem dX10_meets_9 : decode cX10_meets 9 = .ok (.return_, 1) := by decide +kernel
theorem dX10_meets_10 : decode cX10_meets 10 = .ok (.aload_n 0, 1) := by decide +kernel
theorem dX10_meets_11 : decode cX10_meets 11 = .ok (.getfield 146, 3) := by decide +kernel
theorem dX10_meets_14 : decode cX10_meets 14 = .ok (.iload_n 1, 1) := by decide +kernel
theorem dX10_meets_15 : decode cX10_meets 15 = .ok (.iconst 1, 1) := by decide +kernel
theorem dX10_meets_16 : decode cX10_meets 16 = .ok (.bastore, 1) := by decide +kernel
theorem dX10_meets_17 : decode cX10_meets 17 = .ok (.aload_n 0, 1) := by decide +kernel
theorem dX10_meets_18 : decode cX10_meets 18 = .ok (.getfield 137, 3) := by decide +kernel
theorem dX10_meets_21 : decode cX10_meets 21 = .ok (.aload_n 0, 1) := by decide +kernel
theorem dX10_meets_22 : decode cX10_meets 22 = .ok (.getfield 308, 3) := by decide +kernel
theorem dX10_meets_25 : decode cX10_meets 25 = .ok (.iload_n 1, 1) := by decide +kernel
theorem dX10_meets_26 : decode cX10_meets 26 = .ok (.iastore, 1) := by decide +kernel
theorem dX10_meets_27 : decode cX10_meets 27 = .ok (.aload_n 0, 1) := by decide +kernel
theorem dX10_meets_28 : decode cX10_meets 28 = .ok (.getfield 140, 3) := by decide +kernel
theorem dX10_meets_31 : decode cX10_meets 31 = .ok (.aload_n 0, 1) := by decide +kernel
theorem dX10_meets_32 : decode cX10_meets 32 = .ok (.getfield 308, 3) := by decide +kernel
theorem dX10_meets_35 : decode cX10_meets 35 = .ok (.iload_n 2, 1) := by decide +kernel
theorem dX10_meets_36 : decode cX10_meets 36 = .ok (.iastore, 1) := by decide +kernel
theorem dX10_meets_37 : decode cX10_meets 37 = .ok (.aload_n 0, 1) := by decide +kernel
theorem dX10_meets_38 : decode cX10_meets 38 = .ok (.getfield 143, 3) := by decide +kernel
theorem dX10_meets_41 : decode cX10_meets 41 = .ok (.aload_n 0, 1) := by decide +kernel
theorem dX10_meets_42 : decode cX10_meets 42 = .ok (.getfield 308, 3) := by decide +kernel
theorem dX10_meets_45 : decode cX10_meets 45 = .ok (.iload_n 3, 1) := by decide +kernel
theorem dX10_meets_46 : decode cX10_meets 46 = .ok (.iastore, 1) := by decide +kernel
theorem dX10_meets_47 : decode cX10_meets 47 = .ok (.aload_n 0, 1) := by decide +kernel
theorem dX10_meets_48 : decode cX10_meets 48 = .ok (.dup, 1) := by decide +kernel
theorem dX10_meets_49 : decode cX10_meets 49 = .ok (.getfield 308, 3) := by decide +kernel
theorem dX10_meets_52 : decode cX10_meets 52 = .ok (.iconst 1, 1) := by decide +kernel
theorem dX10_meets_53 : decode cX10_meets 53 = .ok (.iadd, 1) := by decide +kernel
theorem dX10_meets_54 : decode cX10_meets 54 = .ok (.putfield 308, 3) := by decide +kernel
theorem dX10_meets_57 : decode cX10_meets 57 = .ok (.return_, 1) := by decide +kernel
theorem dX10_walks_0 : decode cX10_walks 0 = .ok (.iconst 0, 1) := by decide +kernel
theorem dX10_walks_1 : decode cX10_walks 1 = .ok (.istore_n 3, 1) := by decide +kernel
theorem dX10_walks_2 : decode cX10_walks 2 = .ok (.iload_n 3, 1) := by decide +kernel
theorem dX10_walks_3 : decode cX10_walks 3 = .ok (.sipush 22500, 3) := by decide +kernel
theorem dX10_walks_6 : decode cX10_walks 6 = .ok (.if_icmp .ge 16, 3) := by decide +kernel
theorem dX10_walks_9 : decode cX10_walks 9 = .ok (.aload_n 0, 1) := by decide +kernel
theorem dX10_walks_10 : decode cX10_walks 10 = .ok (.getfield 146, 3) := by decide +kernel
theorem dX10_walks_13 : decode cX10_walks 13 = .ok (.iload_n 3, 1) := by decide +kernel
theorem dX10_walks_14 : decode cX10_walks 14 = .ok (.iconst 0, 1) := by decide +kernel
theorem dX10_walks_15 : decode cX10_walks 15 = .ok (.bastore, 1) := by decide +kernel
theorem dX10_walks_16 : decode cX10_walks 16 = .ok (.iinc 3 1, 3) := by decide +kernel
theorem dX10_walks_19 : decode cX10_walks 19 = .ok (.goto (-17), 3) := by decide +kernel
theorem dX10_walks_22 : decode cX10_walks 22 = .ok (.aload_n 0, 1) := by decide +kernel
theorem dX10_walks_23 : decode cX10_walks 23 = .ok (.iconst 0, 1) := by decide +kernel
theorem dX10_walks_24 : decode cX10_walks 24 = .ok (.putfield 308, 3) := by decide +kernel
theorem dX10_walks_27 : decode cX10_walks 27 = .ok (.aload_n 0, 1) := by decide +kernel
theorem dX10_walks_28 : decode cX10_walks 28 = .ok (.iconst 0, 1) := by decide +kernel
theorem dX10_walks_29 : decode cX10_walks 29 = .ok (.iconst (-1), 1) := by decide +kernel
theorem dX10_walks_30 : decode cX10_walks 30 = .ok (.iconst 0, 1) := by decide +kernel
theorem dX10_walks_31 : decode cX10_walks 31 = .ok (.invokevirtual 311, 3) := by decide +kernel
theorem dX10_walks_34 : decode cX10_walks 34 = .ok (.iconst 0, 1) := by decide +kernel
theorem dX10_walks_35 : decode cX10_walks 35 = .ok (.istore_n 3, 1) := by decide +kernel
theorem dX10_walks_36 : decode cX10_walks 36 = .ok (.iload_n 3, 1) := by decide +kernel
theorem dX10_walks_37 : decode cX10_walks 37 = .ok (.aload_n 0, 1) := by decide +kernel
theorem dX10_walks_38 : decode cX10_walks 38 = .ok (.getfield 308, 3) := by decide +kernel
theorem dX10_walks_41 : decode cX10_walks 41 = .ok (.if_icmp .ge 70, 3) := by decide +kernel
theorem dX10_walks_44 : decode cX10_walks 44 = .ok (.iconst 0, 1) := by decide +kernel
theorem dX10_walks_45 : decode cX10_walks 45 = .ok (.istore 4, 2) := by decide +kernel
theorem dX10_walks_47 : decode cX10_walks 47 = .ok (.iload 4, 2) := by decide +kernel
theorem dX10_walks_49 : decode cX10_walks 49 = .ok (.iconst 4, 1) := by decide +kernel
theorem dX10_walks_50 : decode cX10_walks 50 = .ok (.if_icmp .ge 55, 3) := by decide +kernel
theorem dX10_walks_53 : decode cX10_walks 53 = .ok (.aload_n 0, 1) := by decide +kernel
theorem dX10_walks_54 : decode cX10_walks 54 = .ok (.sipush 150, 3) := by decide +kernel
theorem dX10_walks_57 : decode cX10_walks 57 = .ok (.aload_n 0, 1) := by decide +kernel
theorem dX10_walks_58 : decode cX10_walks 58 = .ok (.iload_n 1, 1) := by decide +kernel
theorem dX10_walks_59 : decode cX10_walks 59 = .ok (.aload_n 0, 1) := by decide +kernel
theorem dX10_walks_60 : decode cX10_walks 60 = .ok (.getfield 137, 3) := by decide +kernel
theorem dX10_walks_63 : decode cX10_walks 63 = .ok (.iload_n 3, 1) := by decide +kernel
theorem dX10_walks_64 : decode cX10_walks 64 = .ok (.iaload, 1) := by decide +kernel
theorem dX10_walks_65 : decode cX10_walks 65 = .ok (.sipush 150, 3) := by decide +kernel
theorem dX10_walks_68 : decode cX10_walks 68 = .ok (.idiv, 1) := by decide +kernel
theorem dX10_walks_69 : decode cX10_walks 69 = .ok (.iload 4, 2) := by decide +kernel
theorem dX10_walks_71 : decode cX10_walks 71 = .ok (.invokevirtual 287, 3) := by decide +kernel
theorem dX10_walks_74 : decode cX10_walks 74 = .ok (.imul, 1) := by decide +kernel
theorem dX10_walks_75 : decode cX10_walks 75 = .ok (.aload_n 0, 1) := by decide +kernel
theorem dX10_walks_76 : decode cX10_walks 76 = .ok (.iload_n 2, 1) := by decide +kernel
theorem dX10_walks_77 : decode cX10_walks 77 = .ok (.aload_n 0, 1) := by decide +kernel
theorem dX10_walks_78 : decode cX10_walks 78 = .ok (.getfield 137, 3) := by decide +kernel
theorem dX10_walks_81 : decode cX10_walks 81 = .ok (.iload_n 3, 1) := by decide +kernel
theorem dX10_walks_82 : decode cX10_walks 82 = .ok (.iaload, 1) := by decide +kernel
theorem dX10_walks_83 : decode cX10_walks 83 = .ok (.sipush 150, 3) := by decide +kernel
theorem dX10_walks_86 : decode cX10_walks 86 = .ok (.irem, 1) := by decide +kernel
theorem dX10_walks_87 : decode cX10_walks 87 = .ok (.iload 4, 2) := by decide +kernel
theorem dX10_walks_89 : decode cX10_walks 89 = .ok (.invokevirtual 287, 3) := by decide +kernel
theorem dX10_walks_92 : decode cX10_walks 92 = .ok (.iadd, 1) := by decide +kernel
theorem dX10_walks_93 : decode cX10_walks 93 = .ok (.iload_n 3, 1) := by decide +kernel
theorem dX10_walks_94 : decode cX10_walks 94 = .ok (.iload 4, 2) := by decide +kernel
theorem dX10_walks_96 : decode cX10_walks 96 = .ok (.invokevirtual 311, 3) := by decide +kernel
theorem dX10_walks_99 : decode cX10_walks 99 = .ok (.iinc 4 1, 3) := by decide +kernel
theorem dX10_walks_102 : decode cX10_walks 102 = .ok (.goto (-55), 3) := by decide +kernel
theorem dX10_walks_105 : decode cX10_walks 105 = .ok (.iinc 3 1, 3) := by decide +kernel
theorem dX10_walks_108 : decode cX10_walks 108 = .ok (.goto (-72), 3) := by decide +kernel
theorem dX10_walks_111 : decode cX10_walks 111 = .ok (.return_, 1) := by decide +kernel
theorem dX10_compare_0 : decode cX10_compare 0 = .ok (.aload_n 0, 1) := by decide +kernel
theorem dX10_compare_1 : decode cX10_compare 1 = .ok (.iload_n 1, 1) := by decide +kernel
theorem dX10_compare_2 : decode cX10_compare 2 = .ok (.invokevirtual 281, 3) := by decide +kernel
theorem dX10_compare_5 : decode cX10_compare 5 = .ok (.ifCond .eq 11, 3) := by decide +kernel
theorem dX10_compare_8 : decode cX10_compare 8 = .ok (.aload_n 0, 1) := by decide +kernel
theorem dX10_compare_9 : decode cX10_compare 9 = .ok (.iload_n 2, 1) := by decide +kernel
theorem dX10_compare_10 : decode cX10_compare 10 = .ok (.invokevirtual 281, 3) := by decide +kernel
theorem dX10_compare_13 : decode cX10_compare 13 = .ok (.ifCond .ne 5, 3) := by decide +kernel
theorem dX10_compare_16 : decode cX10_compare 16 = .ok (.iconst (-1), 1) := by decide +kernel
theorem dX10_compare_17 : decode cX10_compare 17 = .ok (.ireturn, 1) := by decide +kernel
theorem dX10_compare_18 : decode cX10_compare 18 = .ok (.aload_n 0, 1) := by decide +kernel
theorem dX10_compare_19 : decode cX10_compare 19 = .ok (.iload_n 1, 1) := by decide +kernel
theorem dX10_compare_20 : decode cX10_compare 20 = .ok (.iload_n 2, 1) := by decide +kernel
theorem dX10_compare_21 : decode cX10_compare 21 = .ok (.invokevirtual 314, 3) := by decide +kernel
theorem dX10_compare_24 : decode cX10_compare 24 = .ok (.iconst 0, 1) := by decide +kernel
theorem dX10_compare_25 : decode cX10_compare 25 = .ok (.istore_n 3, 1) := by decide +kernel
theorem dX10_compare_26 : decode cX10_compare 26 = .ok (.iconst 0, 1) := by decide +kernel
theorem dX10_compare_27 : decode cX10_compare 27 = .ok (.istore 4, 2) := by decide +kernel
theorem dX10_compare_29 : decode cX10_compare 29 = .ok (.iload 4, 2) := by decide +kernel
theorem dX10_compare_31 : decode cX10_compare 31 = .ok (.aload_n 0, 1) := by decide +kernel
theorem dX10_compare_32 : decode cX10_compare 32 = .ok (.getfield 308, 3) := by decide +kernel
theorem dX10_compare_35 : decode cX10_compare 35 = .ok (.if_icmp .ge 77, 3) := by decide +kernel
theorem dX10_compare_38 : decode cX10_compare 38 = .ok (.aload_n 0, 1) := by decide +kernel
theorem dX10_compare_39 : decode cX10_compare 39 = .ok (.iload_n 1, 1) := by decide +kernel
theorem dX10_compare_40 : decode cX10_compare 40 = .ok (.aload_n 0, 1) := by decide +kernel
theorem dX10_compare_41 : decode cX10_compare 41 = .ok (.getfield 137, 3) := by decide +kernel
theorem dX10_compare_44 : decode cX10_compare 44 = .ok (.iload 4, 2) := by decide +kernel
theorem dX10_compare_46 : decode cX10_compare 46 = .ok (.iaload, 1) := by decide +kernel
theorem dX10_compare_47 : decode cX10_compare 47 = .ok (.sipush 150, 3) := by decide +kernel
theorem dX10_compare_50 : decode cX10_compare 50 = .ok (.idiv, 1) := by decide +kernel
theorem dX10_compare_51 : decode cX10_compare 51 = .ok (.invokevirtual 284, 3) := by decide +kernel
theorem dX10_compare_54 : decode cX10_compare 54 = .ok (.istore 5, 2) := by decide +kernel
theorem dX10_compare_56 : decode cX10_compare 56 = .ok (.aload_n 0, 1) := by decide +kernel
theorem dX10_compare_57 : decode cX10_compare 57 = .ok (.iload_n 2, 1) := by decide +kernel
theorem dX10_compare_58 : decode cX10_compare 58 = .ok (.aload_n 0, 1) := by decide +kernel
theorem dX10_compare_59 : decode cX10_compare 59 = .ok (.getfield 137, 3) := by decide +kernel
theorem dX10_compare_62 : decode cX10_compare 62 = .ok (.iload 4, 2) := by decide +kernel
theorem dX10_compare_64 : decode cX10_compare 64 = .ok (.iaload, 1) := by decide +kernel
theorem dX10_compare_65 : decode cX10_compare 65 = .ok (.sipush 150, 3) := by decide +kernel
theorem dX10_compare_68 : decode cX10_compare 68 = .ok (.irem, 1) := by decide +kernel
theorem dX10_compare_69 : decode cX10_compare 69 = .ok (.invokevirtual 284, 3) := by decide +kernel
theorem dX10_compare_72 : decode cX10_compare 72 = .ok (.istore 6, 2) := by decide +kernel
theorem dX10_compare_74 : decode cX10_compare 74 = .ok (.iload_n 3, 1) := by decide +kernel
theorem dX10_compare_75 : decode cX10_compare 75 = .ok (.iload 5, 2) := by decide +kernel
theorem dX10_compare_77 : decode cX10_compare 77 = .ok (.ifCond .eq 12, 3) := by decide +kernel
theorem dX10_compare_80 : decode cX10_compare 80 = .ok (.iload 6, 2) := by decide +kernel
theorem dX10_compare_82 : decode cX10_compare 82 = .ok (.ifCond .ne 7, 3) := by decide +kernel
theorem dX10_compare_85 : decode cX10_compare 85 = .ok (.iconst 1, 1) := by decide +kernel
theorem dX10_compare_86 : decode cX10_compare 86 = .ok (.goto 18, 3) := by decide +kernel
theorem dX10_compare_89 : decode cX10_compare 89 = .ok (.iload 6, 2) := by decide +kernel
theorem dX10_compare_91 : decode cX10_compare 91 = .ok (.ifCond .eq 12, 3) := by decide +kernel
theorem dX10_compare_94 : decode cX10_compare 94 = .ok (.iload 5, 2) := by decide +kernel
theorem dX10_compare_96 : decode cX10_compare 96 = .ok (.ifCond .ne 7, 3) := by decide +kernel
theorem dX10_compare_99 : decode cX10_compare 99 = .ok (.iconst 2, 1) := by decide +kernel
theorem dX10_compare_100 : decode cX10_compare 100 = .ok (.goto 4, 3) := by decide +kernel
theorem dX10_compare_103 : decode cX10_compare 103 = .ok (.iconst 0, 1) := by decide +kernel
theorem dX10_compare_104 : decode cX10_compare 104 = .ok (.ior, 1) := by decide +kernel
theorem dX10_compare_105 : decode cX10_compare 105 = .ok (.istore_n 3, 1) := by decide +kernel
theorem dX10_compare_106 : decode cX10_compare 106 = .ok (.iinc 4 1, 3) := by decide +kernel
theorem dX10_compare_109 : decode cX10_compare 109 = .ok (.goto (-80), 3) := by decide +kernel
theorem dX10_compare_112 : decode cX10_compare 112 = .ok (.iload_n 3, 1) := by decide +kernel
theorem dX10_compare_113 : decode cX10_compare 113 = .ok (.ireturn, 1) := by decide +kernel
theorem dX10_differ_0 : decode cX10_differ 0 = .ok (.aload_n 0, 1) := by decide +kernel
theorem dX10_differ_1 : decode cX10_differ 1 = .ok (.iload_n 1, 1) := by decide +kernel
theorem dX10_differ_2 : decode cX10_differ 2 = .ok (.invokevirtual 281, 3) := by decide +kernel
theorem dX10_differ_5 : decode cX10_differ 5 = .ok (.ifCond .eq 11, 3) := by decide +kernel
theorem dX10_differ_8 : decode cX10_differ 8 = .ok (.aload_n 0, 1) := by decide +kernel
theorem dX10_differ_9 : decode cX10_differ 9 = .ok (.iload_n 2, 1) := by decide +kernel
theorem dX10_differ_10 : decode cX10_differ 10 = .ok (.invokevirtual 281, 3) := by decide +kernel
theorem dX10_differ_13 : decode cX10_differ 13 = .ok (.ifCond .ne 5, 3) := by decide +kernel
theorem dX10_differ_16 : decode cX10_differ 16 = .ok (.iconst (-1), 1) := by decide +kernel
theorem dX10_differ_17 : decode cX10_differ 17 = .ok (.ireturn, 1) := by decide +kernel
theorem dX10_differ_18 : decode cX10_differ 18 = .ok (.aload_n 0, 1) := by decide +kernel
theorem dX10_differ_19 : decode cX10_differ 19 = .ok (.iload_n 1, 1) := by decide +kernel
theorem dX10_differ_20 : decode cX10_differ 20 = .ok (.iload_n 2, 1) := by decide +kernel
theorem dX10_differ_21 : decode cX10_differ 21 = .ok (.invokevirtual 314, 3) := by decide +kernel
theorem dX10_differ_24 : decode cX10_differ 24 = .ok (.iconst 0, 1) := by decide +kernel
theorem dX10_differ_25 : decode cX10_differ 25 = .ok (.istore_n 3, 1) := by decide +kernel
theorem dX10_differ_26 : decode cX10_differ 26 = .ok (.iload_n 3, 1) := by decide +kernel
theorem dX10_differ_27 : decode cX10_differ 27 = .ok (.aload_n 0, 1) := by decide +kernel
theorem dX10_differ_28 : decode cX10_differ 28 = .ok (.getfield 308, 3) := by decide +kernel
theorem dX10_differ_31 : decode cX10_differ 31 = .ok (.if_icmp .ge 42, 3) := by decide +kernel
theorem dX10_differ_34 : decode cX10_differ 34 = .ok (.aload_n 0, 1) := by decide +kernel
theorem dX10_differ_35 : decode cX10_differ 35 = .ok (.iload_n 1, 1) := by decide +kernel
theorem dX10_differ_36 : decode cX10_differ 36 = .ok (.aload_n 0, 1) := by decide +kernel
theorem dX10_differ_37 : decode cX10_differ 37 = .ok (.getfield 137, 3) := by decide +kernel
theorem dX10_differ_40 : decode cX10_differ 40 = .ok (.iload_n 3, 1) := by decide +kernel
theorem dX10_differ_41 : decode cX10_differ 41 = .ok (.iaload, 1) := by decide +kernel
theorem dX10_differ_42 : decode cX10_differ 42 = .ok (.sipush 150, 3) := by decide +kernel
theorem dX10_differ_45 : decode cX10_differ 45 = .ok (.idiv, 1) := by decide +kernel
theorem dX10_differ_46 : decode cX10_differ 46 = .ok (.invokevirtual 284, 3) := by decide +kernel
theorem dX10_differ_49 : decode cX10_differ 49 = .ok (.aload_n 0, 1) := by decide +kernel
theorem dX10_differ_50 : decode cX10_differ 50 = .ok (.iload_n 2, 1) := by decide +kernel
theorem dX10_differ_51 : decode cX10_differ 51 = .ok (.aload_n 0, 1) := by decide +kernel
theorem dX10_differ_52 : decode cX10_differ 52 = .ok (.getfield 137, 3) := by decide +kernel
theorem dX10_differ_55 : decode cX10_differ 55 = .ok (.iload_n 3, 1) := by decide +kernel
theorem dX10_differ_56 : decode cX10_differ 56 = .ok (.iaload, 1) := by decide +kernel
theorem dX10_differ_57 : decode cX10_differ 57 = .ok (.sipush 150, 3) := by decide +kernel
theorem dX10_differ_60 : decode cX10_differ 60 = .ok (.irem, 1) := by decide +kernel
theorem dX10_differ_61 : decode cX10_differ 61 = .ok (.invokevirtual 284, 3) := by decide +kernel
theorem dX10_differ_64 : decode cX10_differ 64 = .ok (.if_icmp .ne 9, 3) := by decide +kernel
theorem dX10_differ_67 : decode cX10_differ 67 = .ok (.iinc 3 1, 3) := by decide +kernel
theorem dX10_differ_70 : decode cX10_differ 70 = .ok (.goto (-44), 3) := by decide +kernel
theorem dX10_differ_73 : decode cX10_differ 73 = .ok (.iload_n 3, 1) := by decide +kernel
theorem dX10_differ_74 : decode cX10_differ 74 = .ok (.aload_n 0, 1) := by decide +kernel
theorem dX10_differ_75 : decode cX10_differ 75 = .ok (.getfield 308, 3) := by decide +kernel
theorem dX10_differ_78 : decode cX10_differ 78 = .ok (.if_icmp .ne 5, 3) := by decide +kernel
theorem dX10_differ_81 : decode cX10_differ 81 = .ok (.iconst (-1), 1) := by decide +kernel
theorem dX10_differ_82 : decode cX10_differ 82 = .ok (.ireturn, 1) := by decide +kernel
theorem dX10_differ_83 : decode cX10_differ 83 = .ok (.iconst 0, 1) := by decide +kernel
theorem dX10_differ_84 : decode cX10_differ 84 = .ok (.istore 4, 2) := by decide +kernel
theorem dX10_differ_86 : decode cX10_differ 86 = .ok (.iload_n 3, 1) := by decide +kernel
theorem dX10_differ_87 : decode cX10_differ 87 = .ok (.istore 5, 2) := by decide +kernel
theorem dX10_differ_89 : decode cX10_differ 89 = .ok (.iload 5, 2) := by decide +kernel
theorem dX10_differ_91 : decode cX10_differ 91 = .ok (.ifCond .le 18, 3) := by decide +kernel
theorem dX10_differ_94 : decode cX10_differ 94 = .ok (.iinc 4 1, 3) := by decide +kernel
theorem dX10_differ_97 : decode cX10_differ 97 = .ok (.aload_n 0, 1) := by decide +kernel
theorem dX10_differ_98 : decode cX10_differ 98 = .ok (.getfield 140, 3) := by decide +kernel
theorem dX10_differ_101 : decode cX10_differ 101 = .ok (.iload 5, 2) := by decide +kernel
theorem dX10_differ_103 : decode cX10_differ 103 = .ok (.iaload, 1) := by decide +kernel
theorem dX10_differ_104 : decode cX10_differ 104 = .ok (.istore 5, 2) := by decide +kernel
theorem dX10_differ_106 : decode cX10_differ 106 = .ok (.goto (-17), 3) := by decide +kernel
theorem dX10_differ_109 : decode cX10_differ 109 = .ok (.aload_n 0, 1) := by decide +kernel
theorem dX10_differ_110 : decode cX10_differ 110 = .ok (.iload 4, 2) := by decide +kernel
theorem dX10_differ_112 : decode cX10_differ 112 = .ok (.putfield 305, 3) := by decide +kernel
theorem dX10_differ_115 : decode cX10_differ 115 = .ok (.iload_n 3, 1) := by decide +kernel
theorem dX10_differ_116 : decode cX10_differ 116 = .ok (.istore 5, 2) := by decide +kernel
theorem dX10_differ_118 : decode cX10_differ 118 = .ok (.iload 5, 2) := by decide +kernel
theorem dX10_differ_120 : decode cX10_differ 120 = .ok (.ifCond .le 32, 3) := by decide +kernel
theorem dX10_differ_123 : decode cX10_differ 123 = .ok (.iinc 4 (-1), 3) := by decide +kernel
theorem dX10_differ_126 : decode cX10_differ 126 = .ok (.aload_n 0, 1) := by decide +kernel
theorem dX10_differ_127 : decode cX10_differ 127 = .ok (.getfield 73, 3) := by decide +kernel
theorem dX10_differ_130 : decode cX10_differ 130 = .ok (.iload 4, 2) := by decide +kernel
theorem dX10_differ_132 : decode cX10_differ 132 = .ok (.aload_n 0, 1) := by decide +kernel
theorem dX10_differ_133 : decode cX10_differ 133 = .ok (.getfield 143, 3) := by decide +kernel
theorem dX10_differ_136 : decode cX10_differ 136 = .ok (.iload 5, 2) := by decide +kernel
theorem dX10_differ_138 : decode cX10_differ 138 = .ok (.iaload, 1) := by decide +kernel
theorem dX10_differ_139 : decode cX10_differ 139 = .ok (.iastore, 1) := by decide +kernel
theorem dX10_differ_140 : decode cX10_differ 140 = .ok (.aload_n 0, 1) := by decide +kernel
theorem dX10_differ_141 : decode cX10_differ 141 = .ok (.getfield 140, 3) := by decide +kernel
theorem dX10_differ_144 : decode cX10_differ 144 = .ok (.iload 5, 2) := by decide +kernel
theorem dX10_differ_146 : decode cX10_differ 146 = .ok (.iaload, 1) := by decide +kernel
theorem dX10_differ_147 : decode cX10_differ 147 = .ok (.istore 5, 2) := by decide +kernel
theorem dX10_differ_149 : decode cX10_differ 149 = .ok (.goto (-31), 3) := by decide +kernel
theorem dX10_differ_152 : decode cX10_differ 152 = .ok (.aload_n 0, 1) := by decide +kernel
theorem dX10_differ_153 : decode cX10_differ 153 = .ok (.getfield 305, 3) := by decide +kernel
theorem dX10_differ_156 : decode cX10_differ 156 = .ok (.ireturn, 1) := by decide +kernel
theorem dX10_letter_0 : decode cX10_letter 0 = .ok (.iload_n 1, 1) := by decide +kernel
theorem dX10_letter_1 : decode cX10_letter 1 = .ok (.iconst 0, 1) := by decide +kernel
theorem dX10_letter_2 : decode cX10_letter 2 = .ok (.aload_n 0, 1) := by decide +kernel
theorem dX10_letter_3 : decode cX10_letter 3 = .ok (.getfield 305, 3) := by decide +kernel
theorem dX10_letter_6 : decode cX10_letter 6 = .ok (.iconst 1, 1) := by decide +kernel
theorem dX10_letter_7 : decode cX10_letter 7 = .ok (.isub, 1) := by decide +kernel
theorem dX10_letter_8 : decode cX10_letter 8 = .ok (.invokestatic 166, 3) := by decide +kernel
theorem dX10_letter_11 : decode cX10_letter 11 = .ok (.ifCond .eq 12, 3) := by decide +kernel
theorem dX10_letter_14 : decode cX10_letter 14 = .ok (.aload_n 0, 1) := by decide +kernel
theorem dX10_letter_15 : decode cX10_letter 15 = .ok (.getfield 73, 3) := by decide +kernel
theorem dX10_letter_18 : decode cX10_letter 18 = .ok (.iload_n 1, 1) := by decide +kernel
theorem dX10_letter_19 : decode cX10_letter 19 = .ok (.iaload, 1) := by decide +kernel
theorem dX10_letter_20 : decode cX10_letter 20 = .ok (.goto 4, 3) := by decide +kernel
theorem dX10_letter_23 : decode cX10_letter 23 = .ok (.iconst (-1), 1) := by decide +kernel
theorem dX10_letter_24 : decode cX10_letter 24 = .ok (.ireturn, 1) := by decide +kernel
theorem dJ9_max_7cf53_0 : decode cJ9_max_7cf53 0 = .ok (.iload_n 0, 1) := by decide +kernel
theorem dJ9_max_7cf53_1 : decode cJ9_max_7cf53 1 = .ok (.iload_n 1, 1) := by decide +kernel
theorem dJ9_max_7cf53_2 : decode cJ9_max_7cf53 2 = .ok (.if_icmp .lt 7, 3) := by decide +kernel
theorem dJ9_max_7cf53_5 : decode cJ9_max_7cf53 5 = .ok (.iload_n 0, 1) := by decide +kernel
theorem dJ9_max_7cf53_6 : decode cJ9_max_7cf53 6 = .ok (.goto 4, 3) := by decide +kernel
theorem dJ9_max_7cf53_9 : decode cJ9_max_7cf53 9 = .ok (.iload_n 1, 1) := by decide +kernel
theorem dJ9_max_7cf53_10 : decode cJ9_max_7cf53 10 = .ok (.ireturn, 1) := by decide +kernel
theorem dJ9_min_7cf53_0 : decode cJ9_min_7cf53 0 = .ok (.iload_n 0, 1) := by decide +kernel
theorem dJ9_min_7cf53_1 : decode cJ9_min_7cf53 1 = .ok (.iload_n 1, 1) := by decide +kernel
theorem dJ9_min_7cf53_2 : decode cJ9_min_7cf53 2 = .ok (.if_icmp .gt 7, 3) := by decide +kernel
theorem dJ9_min_7cf53_5 : decode cJ9_min_7cf53 5 = .ok (.iload_n 0, 1) := by decide +kernel
theorem dJ9_min_7cf53_6 : decode cJ9_min_7cf53 6 = .ok (.goto 4, 3) := by decide +kernel
theorem dJ9_min_7cf53_9 : decode cJ9_min_7cf53 9 = .ok (.iload_n 1, 1) := by decide +kernel
theorem dJ9_min_7cf53_10 : decode cJ9_min_7cf53 10 = .ok (.ireturn, 1) := by decide +kernel
theorem dL_law_0 : decode cL_law 0 = .ok (.new 7, 3) := by decide +kernel
theorem dL_law_3 : decode cL_law 3 = .ok (.dup, 1) := by decide +kernel
theorem dL_law_4 : decode cL_law 4 = .ok (.invokespecial 9, 3) := by decide +kernel
theorem dL_law_7 : decode cL_law 7 = .ok (.astore_n 1, 1) := by decide +kernel
theorem dL_law_8 : decode cL_law 8 = .ok (.new 10, 3) := by decide +kernel
theorem dL_law_11 : decode cL_law 11 = .ok (.dup, 1) := by decide +kernel
theorem dL_law_12 : decode cL_law 12 = .ok (.invokespecial 12, 3) := by decide +kernel
theorem dL_law_15 : decode cL_law 15 = .ok (.astore_n 2, 1) := by decide +kernel
theorem dL_law_16 : decode cL_law 16 = .ok (.iconst 0, 1) := by decide +kernel
theorem dL_law_17 : decode cL_law 17 = .ok (.istore_n 3, 1) := by decide +kernel
theorem dL_law_18 : decode cL_law 18 = .ok (.iload_n 3, 1) := by decide +kernel
theorem dL_law_19 : decode cL_law 19 = .ok (.aload_n 0, 1) := by decide +kernel
theorem dL_law_20 : decode cL_law 20 = .ok (.arraylength, 1) := by decide +kernel
theorem dL_law_21 : decode cL_law 21 = .ok (.bipush 6, 2) := by decide +kernel
theorem dL_law_23 : decode cL_law 23 = .ok (.isub, 1) := by decide +kernel
theorem dL_law_24 : decode cL_law 24 = .ok (.if_icmp .gt 646, 3) := by decide +kernel
theorem dL_law_27 : decode cL_law 27 = .ok (.aload_n 0, 1) := by decide +kernel
theorem dL_law_28 : decode cL_law 28 = .ok (.iload_n 3, 1) := by decide +kernel
theorem dL_law_29 : decode cL_law 29 = .ok (.iaload, 1) := by decide +kernel
theorem dL_law_30 : decode cL_law 30 = .ok (.bipush 15, 2) := by decide +kernel
theorem dL_law_32 : decode cL_law 32 = .ok (.iand, 1) := by decide +kernel
theorem dL_law_33 : decode cL_law 33 = .ok (.tableswitch 631 0 14 #[75, 138, 171, 194, 227, 270, 303, 346, 379, 412, 446, 519, 542, 575, 608], 75) := by decide +kernel
theorem dL_law_108 : decode cL_law 108 = .ok (.aload_n 1, 1) := by decide +kernel
theorem dL_law_109 : decode cL_law 109 = .ok (.aload_n 0, 1) := by decide +kernel
theorem dL_law_110 : decode cL_law 110 = .ok (.iload_n 3, 1) := by decide +kernel
theorem dL_law_111 : decode cL_law 111 = .ok (.iconst 1, 1) := by decide +kernel
theorem dL_law_112 : decode cL_law 112 = .ok (.iadd, 1) := by decide +kernel
theorem dL_law_113 : decode cL_law 113 = .ok (.iaload, 1) := by decide +kernel
theorem dL_law_114 : decode cL_law 114 = .ok (.aload_n 0, 1) := by decide +kernel
theorem dL_law_115 : decode cL_law 115 = .ok (.iload_n 3, 1) := by decide +kernel
theorem dL_law_116 : decode cL_law 116 = .ok (.iconst 2, 1) := by decide +kernel
theorem dL_law_117 : decode cL_law 117 = .ok (.iadd, 1) := by decide +kernel
theorem dL_law_118 : decode cL_law 118 = .ok (.iaload, 1) := by decide +kernel
theorem dL_law_119 : decode cL_law 119 = .ok (.aload_n 0, 1) := by decide +kernel
theorem dL_law_120 : decode cL_law 120 = .ok (.iload_n 3, 1) := by decide +kernel
theorem dL_law_121 : decode cL_law 121 = .ok (.iconst 3, 1) := by decide +kernel
theorem dL_law_122 : decode cL_law 122 = .ok (.iadd, 1) := by decide +kernel
theorem dL_law_123 : decode cL_law 123 = .ok (.iaload, 1) := by decide +kernel
theorem dL_law_124 : decode cL_law 124 = .ok (.aload_n 0, 1) := by decide +kernel
theorem dL_law_125 : decode cL_law 125 = .ok (.iload_n 3, 1) := by decide +kernel
theorem dL_law_126 : decode cL_law 126 = .ok (.iconst 4, 1) := by decide +kernel
theorem dL_law_127 : decode cL_law 127 = .ok (.iadd, 1) := by decide +kernel
theorem dL_law_128 : decode cL_law 128 = .ok (.iaload, 1) := by decide +kernel
theorem dL_law_129 : decode cL_law 129 = .ok (.aload_n 0, 1) := by decide +kernel
theorem dL_law_130 : decode cL_law 130 = .ok (.iload_n 3, 1) := by decide +kernel
theorem dL_law_131 : decode cL_law 131 = .ok (.iconst 5, 1) := by decide +kernel
theorem dL_law_132 : decode cL_law 132 = .ok (.iadd, 1) := by decide +kernel
theorem dL_law_133 : decode cL_law 133 = .ok (.iaload, 1) := by decide +kernel
theorem dL_law_134 : decode cL_law 134 = .ok (.invokevirtual 13, 3) := by decide +kernel
theorem dL_law_137 : decode cL_law 137 = .ok (.aload_n 2, 1) := by decide +kernel
theorem dL_law_138 : decode cL_law 138 = .ok (.aload_n 0, 1) := by decide +kernel
theorem dL_law_139 : decode cL_law 139 = .ok (.iload_n 3, 1) := by decide +kernel
theorem dL_law_140 : decode cL_law 140 = .ok (.iconst 1, 1) := by decide +kernel
theorem dL_law_141 : decode cL_law 141 = .ok (.iadd, 1) := by decide +kernel
theorem dL_law_142 : decode cL_law 142 = .ok (.iaload, 1) := by decide +kernel
theorem dL_law_143 : decode cL_law 143 = .ok (.aload_n 0, 1) := by decide +kernel
theorem dL_law_144 : decode cL_law 144 = .ok (.iload_n 3, 1) := by decide +kernel
theorem dL_law_145 : decode cL_law 145 = .ok (.iconst 2, 1) := by decide +kernel
theorem dL_law_146 : decode cL_law 146 = .ok (.iadd, 1) := by decide +kernel
theorem dL_law_147 : decode cL_law 147 = .ok (.iaload, 1) := by decide +kernel
theorem dL_law_148 : decode cL_law 148 = .ok (.aload_n 0, 1) := by decide +kernel
theorem dL_law_149 : decode cL_law 149 = .ok (.iload_n 3, 1) := by decide +kernel
theorem dL_law_150 : decode cL_law 150 = .ok (.iconst 3, 1) := by decide +kernel
theorem dL_law_151 : decode cL_law 151 = .ok (.iadd, 1) := by decide +kernel
theorem dL_law_152 : decode cL_law 152 = .ok (.iaload, 1) := by decide +kernel
theorem dL_law_153 : decode cL_law 153 = .ok (.aload_n 0, 1) := by decide +kernel
theorem dL_law_154 : decode cL_law 154 = .ok (.iload_n 3, 1) := by decide +kernel
theorem dL_law_155 : decode cL_law 155 = .ok (.iconst 4, 1) := by decide +kernel
theorem dL_law_156 : decode cL_law 156 = .ok (.iadd, 1) := by decide +kernel
theorem dL_law_157 : decode cL_law 157 = .ok (.iaload, 1) := by decide +kernel
theorem dL_law_158 : decode cL_law 158 = .ok (.aload_n 0, 1) := by decide +kernel
theorem dL_law_159 : decode cL_law 159 = .ok (.iload_n 3, 1) := by decide +kernel
theorem dL_law_160 : decode cL_law 160 = .ok (.iconst 5, 1) := by decide +kernel
theorem dL_law_161 : decode cL_law 161 = .ok (.iadd, 1) := by decide +kernel
theorem dL_law_162 : decode cL_law 162 = .ok (.iaload, 1) := by decide +kernel
theorem dL_law_163 : decode cL_law 163 = .ok (.invokevirtual 17, 3) := by decide +kernel
theorem dL_law_166 : decode cL_law 166 = .ok (.if_icmp .eq 498, 3) := by decide +kernel
theorem dL_law_169 : decode cL_law 169 = .ok (.iconst 0, 1) := by decide +kernel
theorem dL_law_170 : decode cL_law 170 = .ok (.ireturn, 1) := by decide +kernel
theorem dL_law_171 : decode cL_law 171 = .ok (.aload_n 1, 1) := by decide +kernel
theorem dL_law_172 : decode cL_law 172 = .ok (.aload_n 0, 1) := by decide +kernel
theorem dL_law_173 : decode cL_law 173 = .ok (.iload_n 3, 1) := by decide +kernel
theorem dL_law_174 : decode cL_law 174 = .ok (.iconst 1, 1) := by decide +kernel
theorem dL_law_175 : decode cL_law 175 = .ok (.iadd, 1) := by decide +kernel
theorem dL_law_176 : decode cL_law 176 = .ok (.iaload, 1) := by decide +kernel
theorem dL_law_177 : decode cL_law 177 = .ok (.aload_n 0, 1) := by decide +kernel
theorem dL_law_178 : decode cL_law 178 = .ok (.iload_n 3, 1) := by decide +kernel
theorem dL_law_179 : decode cL_law 179 = .ok (.iconst 2, 1) := by decide +kernel
theorem dL_law_180 : decode cL_law 180 = .ok (.iadd, 1) := by decide +kernel
theorem dL_law_181 : decode cL_law 181 = .ok (.iaload, 1) := by decide +kernel
theorem dL_law_182 : decode cL_law 182 = .ok (.invokevirtual 18, 3) := by decide +kernel
theorem dL_law_185 : decode cL_law 185 = .ok (.aload_n 2, 1) := by decide +kernel
theorem dL_law_186 : decode cL_law 186 = .ok (.aload_n 0, 1) := by decide +kernel
theorem dL_law_187 : decode cL_law 187 = .ok (.iload_n 3, 1) := by decide +kernel
theorem dL_law_188 : decode cL_law 188 = .ok (.iconst 1, 1) := by decide +kernel
theorem dL_law_189 : decode cL_law 189 = .ok (.iadd, 1) := by decide +kernel
theorem dL_law_190 : decode cL_law 190 = .ok (.iaload, 1) := by decide +kernel
theorem dL_law_191 : decode cL_law 191 = .ok (.aload_n 0, 1) := by decide +kernel
theorem dL_law_192 : decode cL_law 192 = .ok (.iload_n 3, 1) := by decide +kernel
theorem dL_law_193 : decode cL_law 193 = .ok (.iconst 2, 1) := by decide +kernel
theorem dL_law_194 : decode cL_law 194 = .ok (.iadd, 1) := by decide +kernel
theorem dL_law_195 : decode cL_law 195 = .ok (.iaload, 1) := by decide +kernel
theorem dL_law_196 : decode cL_law 196 = .ok (.invokevirtual 22, 3) := by decide +kernel
theorem dL_law_199 : decode cL_law 199 = .ok (.if_icmp .eq 465, 3) := by decide +kernel
theorem dL_law_202 : decode cL_law 202 = .ok (.iconst 0, 1) := by decide +kernel
theorem dL_law_203 : decode cL_law 203 = .ok (.ireturn, 1) := by decide +kernel
theorem dL_law_204 : decode cL_law 204 = .ok (.aload_n 1, 1) := by decide +kernel
theorem dL_law_205 : decode cL_law 205 = .ok (.aload_n 0, 1) := by decide +kernel
theorem dL_law_206 : decode cL_law 206 = .ok (.iload_n 3, 1) := by decide +kernel
theorem dL_law_207 : decode cL_law 207 = .ok (.iconst 1, 1) := by decide +kernel
theorem dL_law_208 : decode cL_law 208 = .ok (.iadd, 1) := by decide +kernel
theorem dL_law_209 : decode cL_law 209 = .ok (.iaload, 1) := by decide +kernel
theorem dL_law_210 : decode cL_law 210 = .ok (.invokevirtual 23, 3) := by decide +kernel
theorem dL_law_213 : decode cL_law 213 = .ok (.aload_n 2, 1) := by decide +kernel
theorem dL_law_214 : decode cL_law 214 = .ok (.aload_n 0, 1) := by decide +kernel
theorem dL_law_215 : decode cL_law 215 = .ok (.iload_n 3, 1) := by decide +kernel
theorem dL_law_216 : decode cL_law 216 = .ok (.iconst 1, 1) := by decide +kernel
theorem dL_law_217 : decode cL_law 217 = .ok (.iadd, 1) := by decide +kernel
theorem dL_law_218 : decode cL_law 218 = .ok (.iaload, 1) := by decide +kernel
theorem dL_law_219 : decode cL_law 219 = .ok (.invokevirtual 27, 3) := by decide +kernel
theorem dL_law_222 : decode cL_law 222 = .ok (.if_icmp .eq 442, 3) := by decide +kernel
theorem dL_law_225 : decode cL_law 225 = .ok (.iconst 0, 1) := by decide +kernel
theorem dL_law_226 : decode cL_law 226 = .ok (.ireturn, 1) := by decide +kernel
theorem dL_law_227 : decode cL_law 227 = .ok (.aload_n 1, 1) := by decide +kernel
theorem dL_law_228 : decode cL_law 228 = .ok (.aload_n 0, 1) := by decide +kernel
theorem dL_law_229 : decode cL_law 229 = .ok (.iload_n 3, 1) := by decide +kernel
theorem dL_law_230 : decode cL_law 230 = .ok (.iconst 1, 1) := by decide +kernel
theorem dL_law_231 : decode cL_law 231 = .ok (.iadd, 1) := by decide +kernel
theorem dL_law_232 : decode cL_law 232 = .ok (.iaload, 1) := by decide +kernel
theorem dL_law_233 : decode cL_law 233 = .ok (.aload_n 0, 1) := by decide +kernel
theorem dL_law_234 : decode cL_law 234 = .ok (.iload_n 3, 1) := by decide +kernel
theorem dL_law_235 : decode cL_law 235 = .ok (.iconst 2, 1) := by decide +kernel
theorem dL_law_236 : decode cL_law 236 = .ok (.iadd, 1) := by decide +kernel
theorem dL_law_237 : decode cL_law 237 = .ok (.iaload, 1) := by decide +kernel
theorem dL_law_238 : decode cL_law 238 = .ok (.invokevirtual 28, 3) := by decide +kernel
theorem dL_law_241 : decode cL_law 241 = .ok (.aload_n 2, 1) := by decide +kernel
theorem dL_law_242 : decode cL_law 242 = .ok (.aload_n 0, 1) := by decide +kernel
theorem dL_law_243 : decode cL_law 243 = .ok (.iload_n 3, 1) := by decide +kernel
theorem dL_law_244 : decode cL_law 244 = .ok (.iconst 1, 1) := by decide +kernel
theorem dL_law_245 : decode cL_law 245 = .ok (.iadd, 1) := by decide +kernel
theorem dL_law_246 : decode cL_law 246 = .ok (.iaload, 1) := by decide +kernel
theorem dL_law_247 : decode cL_law 247 = .ok (.aload_n 0, 1) := by decide +kernel
theorem dL_law_248 : decode cL_law 248 = .ok (.iload_n 3, 1) := by decide +kernel
theorem dL_law_249 : decode cL_law 249 = .ok (.iconst 2, 1) := by decide +kernel
theorem dL_law_250 : decode cL_law 250 = .ok (.iadd, 1) := by decide +kernel
theorem dL_law_251 : decode cL_law 251 = .ok (.iaload, 1) := by decide +kernel
theorem dL_law_252 : decode cL_law 252 = .ok (.invokevirtual 31, 3) := by decide +kernel
theorem dL_law_255 : decode cL_law 255 = .ok (.if_icmp .eq 409, 3) := by decide +kernel
theorem dL_law_258 : decode cL_law 258 = .ok (.iconst 0, 1) := by decide +kernel
theorem dL_law_259 : decode cL_law 259 = .ok (.ireturn, 1) := by decide +kernel
theorem dL_law_260 : decode cL_law 260 = .ok (.aload_n 1, 1) := by decide +kernel
theorem dL_law_261 : decode cL_law 261 = .ok (.aload_n 0, 1) := by decide +kernel
theorem dL_law_262 : decode cL_law 262 = .ok (.iload_n 3, 1) := by decide +kernel
theorem dL_law_263 : decode cL_law 263 = .ok (.iconst 1, 1) := by decide +kernel
theorem dL_law_264 : decode cL_law 264 = .ok (.iadd, 1) := by decide +kernel
theorem dL_law_265 : decode cL_law 265 = .ok (.iaload, 1) := by decide +kernel
theorem dL_law_266 : decode cL_law 266 = .ok (.aload_n 0, 1) := by decide +kernel
theorem dL_law_267 : decode cL_law 267 = .ok (.iload_n 3, 1) := by decide +kernel
theorem dL_law_268 : decode cL_law 268 = .ok (.iconst 2, 1) := by decide +kernel
theorem dL_law_269 : decode cL_law 269 = .ok (.iadd, 1) := by decide +kernel
theorem dL_law_270 : decode cL_law 270 = .ok (.iaload, 1) := by decide +kernel
theorem dL_law_271 : decode cL_law 271 = .ok (.aload_n 0, 1) := by decide +kernel
theorem dL_law_272 : decode cL_law 272 = .ok (.iload_n 3, 1) := by decide +kernel
theorem dL_law_273 : decode cL_law 273 = .ok (.iconst 3, 1) := by decide +kernel
theorem dL_law_274 : decode cL_law 274 = .ok (.iadd, 1) := by decide +kernel
theorem dL_law_275 : decode cL_law 275 = .ok (.iaload, 1) := by decide +kernel
theorem dL_law_276 : decode cL_law 276 = .ok (.invokevirtual 32, 3) := by decide +kernel
theorem dL_law_279 : decode cL_law 279 = .ok (.aload_n 2, 1) := by decide +kernel
theorem dL_law_280 : decode cL_law 280 = .ok (.aload_n 0, 1) := by decide +kernel
theorem dL_law_281 : decode cL_law 281 = .ok (.iload_n 3, 1) := by decide +kernel
theorem dL_law_282 : decode cL_law 282 = .ok (.iconst 1, 1) := by decide +kernel
theorem dL_law_283 : decode cL_law 283 = .ok (.iadd, 1) := by decide +kernel
theorem dL_law_284 : decode cL_law 284 = .ok (.iaload, 1) := by decide +kernel
theorem dL_law_285 : decode cL_law 285 = .ok (.aload_n 0, 1) := by decide +kernel
theorem dL_law_286 : decode cL_law 286 = .ok (.iload_n 3, 1) := by decide +kernel
theorem dL_law_287 : decode cL_law 287 = .ok (.iconst 2, 1) := by decide +kernel
theorem dL_law_288 : decode cL_law 288 = .ok (.iadd, 1) := by decide +kernel
theorem dL_law_289 : decode cL_law 289 = .ok (.iaload, 1) := by decide +kernel
theorem dL_law_290 : decode cL_law 290 = .ok (.aload_n 0, 1) := by decide +kernel
theorem dL_law_291 : decode cL_law 291 = .ok (.iload_n 3, 1) := by decide +kernel
theorem dL_law_292 : decode cL_law 292 = .ok (.iconst 3, 1) := by decide +kernel
theorem dL_law_293 : decode cL_law 293 = .ok (.iadd, 1) := by decide +kernel
theorem dL_law_294 : decode cL_law 294 = .ok (.iaload, 1) := by decide +kernel
theorem dL_law_295 : decode cL_law 295 = .ok (.invokevirtual 36, 3) := by decide +kernel
theorem dL_law_298 : decode cL_law 298 = .ok (.if_icmp .eq 366, 3) := by decide +kernel
theorem dL_law_301 : decode cL_law 301 = .ok (.iconst 0, 1) := by decide +kernel
theorem dL_law_302 : decode cL_law 302 = .ok (.ireturn, 1) := by decide +kernel
theorem dL_law_303 : decode cL_law 303 = .ok (.aload_n 1, 1) := by decide +kernel
theorem dL_law_304 : decode cL_law 304 = .ok (.aload_n 0, 1) := by decide +kernel
theorem dL_law_305 : decode cL_law 305 = .ok (.iload_n 3, 1) := by decide +kernel
theorem dL_law_306 : decode cL_law 306 = .ok (.iconst 1, 1) := by decide +kernel
theorem dL_law_307 : decode cL_law 307 = .ok (.iadd, 1) := by decide +kernel
theorem dL_law_308 : decode cL_law 308 = .ok (.iaload, 1) := by decide +kernel
theorem dL_law_309 : decode cL_law 309 = .ok (.aload_n 0, 1) := by decide +kernel
theorem dL_law_310 : decode cL_law 310 = .ok (.iload_n 3, 1) := by decide +kernel
theorem dL_law_311 : decode cL_law 311 = .ok (.iconst 2, 1) := by decide +kernel
theorem dL_law_312 : decode cL_law 312 = .ok (.iadd, 1) := by decide +kernel
theorem dL_law_313 : decode cL_law 313 = .ok (.iaload, 1) := by decide +kernel
theorem dL_law_314 : decode cL_law 314 = .ok (.invokevirtual 37, 3) := by decide +kernel
theorem dL_law_317 : decode cL_law 317 = .ok (.aload_n 2, 1) := by decide +kernel
theorem dL_law_318 : decode cL_law 318 = .ok (.aload_n 0, 1) := by decide +kernel
theorem dL_law_319 : decode cL_law 319 = .ok (.iload_n 3, 1) := by decide +kernel
theorem dL_law_320 : decode cL_law 320 = .ok (.iconst 1, 1) := by decide +kernel
theorem dL_law_321 : decode cL_law 321 = .ok (.iadd, 1) := by decide +kernel
theorem dL_law_322 : decode cL_law 322 = .ok (.iaload, 1) := by decide +kernel
theorem dL_law_323 : decode cL_law 323 = .ok (.aload_n 0, 1) := by decide +kernel
theorem dL_law_324 : decode cL_law 324 = .ok (.iload_n 3, 1) := by decide +kernel
theorem dL_law_325 : decode cL_law 325 = .ok (.iconst 2, 1) := by decide +kernel
theorem dL_law_326 : decode cL_law 326 = .ok (.iadd, 1) := by decide +kernel
theorem dL_law_327 : decode cL_law 327 = .ok (.iaload, 1) := by decide +kernel
theorem dL_law_328 : decode cL_law 328 = .ok (.invokevirtual 40, 3) := by decide +kernel
theorem dL_law_331 : decode cL_law 331 = .ok (.if_icmp .eq 333, 3) := by decide +kernel
theorem dL_law_334 : decode cL_law 334 = .ok (.iconst 0, 1) := by decide +kernel
theorem dL_law_335 : decode cL_law 335 = .ok (.ireturn, 1) := by decide +kernel
theorem dL_law_336 : decode cL_law 336 = .ok (.aload_n 1, 1) := by decide +kernel
theorem dL_law_337 : decode cL_law 337 = .ok (.aload_n 0, 1) := by decide +kernel
theorem dL_law_338 : decode cL_law 338 = .ok (.iload_n 3, 1) := by decide +kernel
theorem dL_law_339 : decode cL_law 339 = .ok (.iconst 1, 1) := by decide +kernel
theorem dL_law_340 : decode cL_law 340 = .ok (.iadd, 1) := by decide +kernel
theorem dL_law_341 : decode cL_law 341 = .ok (.iaload, 1) := by decide +kernel
theorem dL_law_342 : decode cL_law 342 = .ok (.aload_n 0, 1) := by decide +kernel
theorem dL_law_343 : decode cL_law 343 = .ok (.iload_n 3, 1) := by decide +kernel
theorem dL_law_344 : decode cL_law 344 = .ok (.iconst 2, 1) := by decide +kernel
theorem dL_law_345 : decode cL_law 345 = .ok (.iadd, 1) := by decide +kernel
theorem dL_law_346 : decode cL_law 346 = .ok (.iaload, 1) := by decide +kernel
theorem dL_law_347 : decode cL_law 347 = .ok (.aload_n 0, 1) := by decide +kernel
theorem dL_law_348 : decode cL_law 348 = .ok (.iload_n 3, 1) := by decide +kernel
theorem dL_law_349 : decode cL_law 349 = .ok (.iconst 3, 1) := by decide +kernel
theorem dL_law_350 : decode cL_law 350 = .ok (.iadd, 1) := by decide +kernel
theorem dL_law_351 : decode cL_law 351 = .ok (.iaload, 1) := by decide +kernel
theorem dL_law_352 : decode cL_law 352 = .ok (.invokevirtual 41, 3) := by decide +kernel
theorem dL_law_355 : decode cL_law 355 = .ok (.aload_n 2, 1) := by decide +kernel
theorem dL_law_356 : decode cL_law 356 = .ok (.aload_n 0, 1) := by decide +kernel
theorem dL_law_357 : decode cL_law 357 = .ok (.iload_n 3, 1) := by decide +kernel
theorem dL_law_358 : decode cL_law 358 = .ok (.iconst 1, 1) := by decide +kernel
theorem dL_law_359 : decode cL_law 359 = .ok (.iadd, 1) := by decide +kernel
theorem dL_law_360 : decode cL_law 360 = .ok (.iaload, 1) := by decide +kernel
theorem dL_law_361 : decode cL_law 361 = .ok (.aload_n 0, 1) := by decide +kernel
theorem dL_law_362 : decode cL_law 362 = .ok (.iload_n 3, 1) := by decide +kernel
theorem dL_law_363 : decode cL_law 363 = .ok (.iconst 2, 1) := by decide +kernel
theorem dL_law_364 : decode cL_law 364 = .ok (.iadd, 1) := by decide +kernel
theorem dL_law_365 : decode cL_law 365 = .ok (.iaload, 1) := by decide +kernel
theorem dL_law_366 : decode cL_law 366 = .ok (.aload_n 0, 1) := by decide +kernel
theorem dL_law_367 : decode cL_law 367 = .ok (.iload_n 3, 1) := by decide +kernel
theorem dL_law_368 : decode cL_law 368 = .ok (.iconst 3, 1) := by decide +kernel
theorem dL_law_369 : decode cL_law 369 = .ok (.iadd, 1) := by decide +kernel
theorem dL_law_370 : decode cL_law 370 = .ok (.iaload, 1) := by decide +kernel
theorem dL_law_371 : decode cL_law 371 = .ok (.invokevirtual 44, 3) := by decide +kernel
theorem dL_law_374 : decode cL_law 374 = .ok (.if_icmp .eq 290, 3) := by decide +kernel
theorem dL_law_377 : decode cL_law 377 = .ok (.iconst 0, 1) := by decide +kernel
theorem dL_law_378 : decode cL_law 378 = .ok (.ireturn, 1) := by decide +kernel
theorem dL_law_379 : decode cL_law 379 = .ok (.aload_n 1, 1) := by decide +kernel
theorem dL_law_380 : decode cL_law 380 = .ok (.aload_n 0, 1) := by decide +kernel
theorem dL_law_381 : decode cL_law 381 = .ok (.iload_n 3, 1) := by decide +kernel
theorem dL_law_382 : decode cL_law 382 = .ok (.iconst 1, 1) := by decide +kernel
theorem dL_law_383 : decode cL_law 383 = .ok (.iadd, 1) := by decide +kernel
theorem dL_law_384 : decode cL_law 384 = .ok (.iaload, 1) := by decide +kernel
theorem dL_law_385 : decode cL_law 385 = .ok (.aload_n 0, 1) := by decide +kernel
theorem dL_law_386 : decode cL_law 386 = .ok (.iload_n 3, 1) := by decide +kernel
theorem dL_law_387 : decode cL_law 387 = .ok (.iconst 2, 1) := by decide +kernel
theorem dL_law_388 : decode cL_law 388 = .ok (.iadd, 1) := by decide +kernel
theorem dL_law_389 : decode cL_law 389 = .ok (.iaload, 1) := by decide +kernel
theorem dL_law_390 : decode cL_law 390 = .ok (.invokevirtual 45, 3) := by decide +kernel
theorem dL_law_393 : decode cL_law 393 = .ok (.aload_n 2, 1) := by decide +kernel
theorem dL_law_394 : decode cL_law 394 = .ok (.aload_n 0, 1) := by decide +kernel
theorem dL_law_395 : decode cL_law 395 = .ok (.iload_n 3, 1) := by decide +kernel
theorem dL_law_396 : decode cL_law 396 = .ok (.iconst 1, 1) := by decide +kernel
theorem dL_law_397 : decode cL_law 397 = .ok (.iadd, 1) := by decide +kernel
theorem dL_law_398 : decode cL_law 398 = .ok (.iaload, 1) := by decide +kernel
theorem dL_law_399 : decode cL_law 399 = .ok (.aload_n 0, 1) := by decide +kernel
theorem dL_law_400 : decode cL_law 400 = .ok (.iload_n 3, 1) := by decide +kernel
theorem dL_law_401 : decode cL_law 401 = .ok (.iconst 2, 1) := by decide +kernel
theorem dL_law_402 : decode cL_law 402 = .ok (.iadd, 1) := by decide +kernel
theorem dL_law_403 : decode cL_law 403 = .ok (.iaload, 1) := by decide +kernel
theorem dL_law_404 : decode cL_law 404 = .ok (.invokevirtual 48, 3) := by decide +kernel
theorem dL_law_407 : decode cL_law 407 = .ok (.if_icmp .eq 257, 3) := by decide +kernel
theorem dL_law_410 : decode cL_law 410 = .ok (.iconst 0, 1) := by decide +kernel
theorem dL_law_411 : decode cL_law 411 = .ok (.ireturn, 1) := by decide +kernel
theorem dL_law_412 : decode cL_law 412 = .ok (.aload_n 1, 1) := by decide +kernel
theorem dL_law_413 : decode cL_law 413 = .ok (.aload_n 0, 1) := by decide +kernel
theorem dL_law_414 : decode cL_law 414 = .ok (.iload_n 3, 1) := by decide +kernel
theorem dL_law_415 : decode cL_law 415 = .ok (.iconst 1, 1) := by decide +kernel
theorem dL_law_416 : decode cL_law 416 = .ok (.iadd, 1) := by decide +kernel
theorem dL_law_417 : decode cL_law 417 = .ok (.iaload, 1) := by decide +kernel
theorem dL_law_418 : decode cL_law 418 = .ok (.aload_n 0, 1) := by decide +kernel
theorem dL_law_419 : decode cL_law 419 = .ok (.iload_n 3, 1) := by decide +kernel
theorem dL_law_420 : decode cL_law 420 = .ok (.iconst 2, 1) := by decide +kernel
theorem dL_law_421 : decode cL_law 421 = .ok (.iadd, 1) := by decide +kernel
theorem dL_law_422 : decode cL_law 422 = .ok (.iaload, 1) := by decide +kernel
theorem dL_law_423 : decode cL_law 423 = .ok (.invokevirtual 49, 3) := by decide +kernel
theorem dL_law_426 : decode cL_law 426 = .ok (.aload_n 2, 1) := by decide +kernel
theorem dL_law_427 : decode cL_law 427 = .ok (.aload_n 0, 1) := by decide +kernel
theorem dL_law_428 : decode cL_law 428 = .ok (.iload_n 3, 1) := by decide +kernel
theorem dL_law_429 : decode cL_law 429 = .ok (.iconst 1, 1) := by decide +kernel
theorem dL_law_430 : decode cL_law 430 = .ok (.iadd, 1) := by decide +kernel
theorem dL_law_431 : decode cL_law 431 = .ok (.iaload, 1) := by decide +kernel
theorem dL_law_432 : decode cL_law 432 = .ok (.aload_n 0, 1) := by decide +kernel
theorem dL_law_433 : decode cL_law 433 = .ok (.iload_n 3, 1) := by decide +kernel
theorem dL_law_434 : decode cL_law 434 = .ok (.iconst 2, 1) := by decide +kernel
theorem dL_law_435 : decode cL_law 435 = .ok (.iadd, 1) := by decide +kernel
theorem dL_law_436 : decode cL_law 436 = .ok (.iaload, 1) := by decide +kernel
theorem dL_law_437 : decode cL_law 437 = .ok (.invokevirtual 52, 3) := by decide +kernel
theorem dL_law_440 : decode cL_law 440 = .ok (.if_icmp .eq 224, 3) := by decide +kernel
theorem dL_law_443 : decode cL_law 443 = .ok (.iconst 0, 1) := by decide +kernel
theorem dL_law_444 : decode cL_law 444 = .ok (.ireturn, 1) := by decide +kernel
theorem dL_law_445 : decode cL_law 445 = .ok (.aload_n 1, 1) := by decide +kernel
theorem dL_law_446 : decode cL_law 446 = .ok (.aload_n 0, 1) := by decide +kernel
theorem dL_law_447 : decode cL_law 447 = .ok (.iload_n 3, 1) := by decide +kernel
theorem dL_law_448 : decode cL_law 448 = .ok (.iconst 1, 1) := by decide +kernel
theorem dL_law_449 : decode cL_law 449 = .ok (.iadd, 1) := by decide +kernel
theorem dL_law_450 : decode cL_law 450 = .ok (.iaload, 1) := by decide +kernel
theorem dL_law_451 : decode cL_law 451 = .ok (.aload_n 0, 1) := by decide +kernel
theorem dL_law_452 : decode cL_law 452 = .ok (.iload_n 3, 1) := by decide +kernel
theorem dL_law_453 : decode cL_law 453 = .ok (.iconst 2, 1) := by decide +kernel
theorem dL_law_454 : decode cL_law 454 = .ok (.iadd, 1) := by decide +kernel
theorem dL_law_455 : decode cL_law 455 = .ok (.iaload, 1) := by decide +kernel
theorem dL_law_456 : decode cL_law 456 = .ok (.invokevirtual 53, 3) := by decide +kernel
theorem dL_law_459 : decode cL_law 459 = .ok (.aload_n 2, 1) := by decide +kernel
theorem dL_law_460 : decode cL_law 460 = .ok (.aload_n 0, 1) := by decide +kernel
theorem dL_law_461 : decode cL_law 461 = .ok (.iload_n 3, 1) := by decide +kernel
theorem dL_law_462 : decode cL_law 462 = .ok (.iconst 1, 1) := by decide +kernel
theorem dL_law_463 : decode cL_law 463 = .ok (.iadd, 1) := by decide +kernel
theorem dL_law_464 : decode cL_law 464 = .ok (.iaload, 1) := by decide +kernel
theorem dL_law_465 : decode cL_law 465 = .ok (.aload_n 0, 1) := by decide +kernel
theorem dL_law_466 : decode cL_law 466 = .ok (.iload_n 3, 1) := by decide +kernel
theorem dL_law_467 : decode cL_law 467 = .ok (.iconst 2, 1) := by decide +kernel
theorem dL_law_468 : decode cL_law 468 = .ok (.iadd, 1) := by decide +kernel
theorem dL_law_469 : decode cL_law 469 = .ok (.iaload, 1) := by decide +kernel
theorem dL_law_470 : decode cL_law 470 = .ok (.invokevirtual 57, 3) := by decide +kernel
theorem dL_law_473 : decode cL_law 473 = .ok (.lcmp, 1) := by decide +kernel
theorem dL_law_474 : decode cL_law 474 = .ok (.ifCond .eq 190, 3) := by decide +kernel
theorem dL_law_477 : decode cL_law 477 = .ok (.iconst 0, 1) := by decide +kernel
theorem dL_law_478 : decode cL_law 478 = .ok (.ireturn, 1) := by decide +kernel
theorem dL_law_479 : decode cL_law 479 = .ok (.aload_n 1, 1) := by decide +kernel
theorem dL_law_480 : decode cL_law 480 = .ok (.aload_n 0, 1) := by decide +kernel
theorem dL_law_481 : decode cL_law 481 = .ok (.iload_n 3, 1) := by decide +kernel
theorem dL_law_482 : decode cL_law 482 = .ok (.iconst 1, 1) := by decide +kernel
theorem dL_law_483 : decode cL_law 483 = .ok (.iadd, 1) := by decide +kernel
theorem dL_law_484 : decode cL_law 484 = .ok (.iaload, 1) := by decide +kernel
theorem dL_law_485 : decode cL_law 485 = .ok (.aload_n 0, 1) := by decide +kernel
theorem dL_law_486 : decode cL_law 486 = .ok (.iload_n 3, 1) := by decide +kernel
theorem dL_law_487 : decode cL_law 487 = .ok (.iconst 2, 1) := by decide +kernel
theorem dL_law_488 : decode cL_law 488 = .ok (.iadd, 1) := by decide +kernel
theorem dL_law_489 : decode cL_law 489 = .ok (.iaload, 1) := by decide +kernel
theorem dL_law_490 : decode cL_law 490 = .ok (.aload_n 0, 1) := by decide +kernel
theorem dL_law_491 : decode cL_law 491 = .ok (.iload_n 3, 1) := by decide +kernel
theorem dL_law_492 : decode cL_law 492 = .ok (.iconst 3, 1) := by decide +kernel
theorem dL_law_493 : decode cL_law 493 = .ok (.iadd, 1) := by decide +kernel
theorem dL_law_494 : decode cL_law 494 = .ok (.iaload, 1) := by decide +kernel
theorem dL_law_495 : decode cL_law 495 = .ok (.i2l, 1) := by decide +kernel
theorem dL_law_496 : decode cL_law 496 = .ok (.bipush 32, 2) := by decide +kernel
theorem dL_law_498 : decode cL_law 498 = .ok (.lshl, 1) := by decide +kernel
theorem dL_law_499 : decode cL_law 499 = .ok (.aload_n 0, 1) := by decide +kernel
theorem dL_law_500 : decode cL_law 500 = .ok (.iload_n 3, 1) := by decide +kernel
theorem dL_law_501 : decode cL_law 501 = .ok (.iconst 4, 1) := by decide +kernel
theorem dL_law_502 : decode cL_law 502 = .ok (.iadd, 1) := by decide +kernel
theorem dL_law_503 : decode cL_law 503 = .ok (.iaload, 1) := by decide +kernel
theorem dL_law_504 : decode cL_law 504 = .ok (.i2l, 1) := by decide +kernel
theorem dL_law_505 : decode cL_law 505 = .ok (.ldc2_w 58, 3) := by decide +kernel
theorem dL_law_508 : decode cL_law 508 = .ok (.land, 1) := by decide +kernel
theorem dL_law_509 : decode cL_law 509 = .ok (.lor, 1) := by decide +kernel
theorem dL_law_510 : decode cL_law 510 = .ok (.invokevirtual 60, 3) := by decide +kernel
theorem dL_law_513 : decode cL_law 513 = .ok (.aload_n 2, 1) := by decide +kernel
theorem dL_law_514 : decode cL_law 514 = .ok (.aload_n 0, 1) := by decide +kernel
theorem dL_law_515 : decode cL_law 515 = .ok (.iload_n 3, 1) := by decide +kernel
theorem dL_law_516 : decode cL_law 516 = .ok (.iconst 1, 1) := by decide +kernel
theorem dL_law_517 : decode cL_law 517 = .ok (.iadd, 1) := by decide +kernel
theorem dL_law_518 : decode cL_law 518 = .ok (.iaload, 1) := by decide +kernel
theorem dL_law_519 : decode cL_law 519 = .ok (.aload_n 0, 1) := by decide +kernel
theorem dL_law_520 : decode cL_law 520 = .ok (.iload_n 3, 1) := by decide +kernel
theorem dL_law_521 : decode cL_law 521 = .ok (.iconst 2, 1) := by decide +kernel
theorem dL_law_522 : decode cL_law 522 = .ok (.iadd, 1) := by decide +kernel
theorem dL_law_523 : decode cL_law 523 = .ok (.iaload, 1) := by decide +kernel
theorem dL_law_524 : decode cL_law 524 = .ok (.aload_n 0, 1) := by decide +kernel
theorem dL_law_525 : decode cL_law 525 = .ok (.iload_n 3, 1) := by decide +kernel
theorem dL_law_526 : decode cL_law 526 = .ok (.iconst 3, 1) := by decide +kernel
theorem dL_law_527 : decode cL_law 527 = .ok (.iadd, 1) := by decide +kernel
theorem dL_law_528 : decode cL_law 528 = .ok (.iaload, 1) := by decide +kernel
theorem dL_law_529 : decode cL_law 529 = .ok (.i2l, 1) := by decide +kernel
theorem dL_law_530 : decode cL_law 530 = .ok (.bipush 32, 2) := by decide +kernel
theorem dL_law_532 : decode cL_law 532 = .ok (.lshl, 1) := by decide +kernel
theorem dL_law_533 : decode cL_law 533 = .ok (.aload_n 0, 1) := by decide +kernel
theorem dL_law_534 : decode cL_law 534 = .ok (.iload_n 3, 1) := by decide +kernel
theorem dL_law_535 : decode cL_law 535 = .ok (.iconst 4, 1) := by decide +kernel
theorem dL_law_536 : decode cL_law 536 = .ok (.iadd, 1) := by decide +kernel
theorem dL_law_537 : decode cL_law 537 = .ok (.iaload, 1) := by decide +kernel
theorem dL_law_538 : decode cL_law 538 = .ok (.i2l, 1) := by decide +kernel
theorem dL_law_539 : decode cL_law 539 = .ok (.ldc2_w 58, 3) := by decide +kernel
theorem dL_law_542 : decode cL_law 542 = .ok (.land, 1) := by decide +kernel
theorem dL_law_543 : decode cL_law 543 = .ok (.lor, 1) := by decide +kernel
theorem dL_law_544 : decode cL_law 544 = .ok (.invokevirtual 64, 3) := by decide +kernel
theorem dL_law_547 : decode cL_law 547 = .ok (.if_icmp .eq 117, 3) := by decide +kernel
theorem dL_law_550 : decode cL_law 550 = .ok (.iconst 0, 1) := by decide +kernel
theorem dL_law_551 : decode cL_law 551 = .ok (.ireturn, 1) := by decide +kernel
theorem dL_law_552 : decode cL_law 552 = .ok (.aload_n 1, 1) := by decide +kernel
theorem dL_law_553 : decode cL_law 553 = .ok (.aload_n 0, 1) := by decide +kernel
theorem dL_law_554 : decode cL_law 554 = .ok (.iload_n 3, 1) := by decide +kernel
theorem dL_law_555 : decode cL_law 555 = .ok (.iconst 1, 1) := by decide +kernel
theorem dL_law_556 : decode cL_law 556 = .ok (.iadd, 1) := by decide +kernel
theorem dL_law_557 : decode cL_law 557 = .ok (.iaload, 1) := by decide +kernel
theorem dL_law_558 : decode cL_law 558 = .ok (.invokevirtual 65, 3) := by decide +kernel
theorem dL_law_561 : decode cL_law 561 = .ok (.aload_n 2, 1) := by decide +kernel
theorem dL_law_562 : decode cL_law 562 = .ok (.aload_n 0, 1) := by decide +kernel
theorem dL_law_563 : decode cL_law 563 = .ok (.iload_n 3, 1) := by decide +kernel
theorem dL_law_564 : decode cL_law 564 = .ok (.iconst 1, 1) := by decide +kernel
theorem dL_law_565 : decode cL_law 565 = .ok (.iadd, 1) := by decide +kernel
theorem dL_law_566 : decode cL_law 566 = .ok (.iaload, 1) := by decide +kernel
theorem dL_law_567 : decode cL_law 567 = .ok (.invokevirtual 68, 3) := by decide +kernel
theorem dL_law_570 : decode cL_law 570 = .ok (.if_icmp .eq 94, 3) := by decide +kernel
theorem dL_law_573 : decode cL_law 573 = .ok (.iconst 0, 1) := by decide +kernel
theorem dL_law_574 : decode cL_law 574 = .ok (.ireturn, 1) := by decide +kernel
theorem dL_law_575 : decode cL_law 575 = .ok (.aload_n 1, 1) := by decide +kernel
theorem dL_law_576 : decode cL_law 576 = .ok (.aload_n 0, 1) := by decide +kernel
theorem dL_law_577 : decode cL_law 577 = .ok (.iload_n 3, 1) := by decide +kernel
theorem dL_law_578 : decode cL_law 578 = .ok (.iconst 1, 1) := by decide +kernel
theorem dL_law_579 : decode cL_law 579 = .ok (.iadd, 1) := by decide +kernel
theorem dL_law_580 : decode cL_law 580 = .ok (.iaload, 1) := by decide +kernel
theorem dL_law_581 : decode cL_law 581 = .ok (.aload_n 0, 1) := by decide +kernel
theorem dL_law_582 : decode cL_law 582 = .ok (.iload_n 3, 1) := by decide +kernel
theorem dL_law_583 : decode cL_law 583 = .ok (.iconst 2, 1) := by decide +kernel
theorem dL_law_584 : decode cL_law 584 = .ok (.iadd, 1) := by decide +kernel
theorem dL_law_585 : decode cL_law 585 = .ok (.iaload, 1) := by decide +kernel
theorem dL_law_586 : decode cL_law 586 = .ok (.invokevirtual 69, 3) := by decide +kernel
theorem dL_law_589 : decode cL_law 589 = .ok (.aload_n 2, 1) := by decide +kernel
theorem dL_law_590 : decode cL_law 590 = .ok (.aload_n 0, 1) := by decide +kernel
theorem dL_law_591 : decode cL_law 591 = .ok (.iload_n 3, 1) := by decide +kernel
theorem dL_law_592 : decode cL_law 592 = .ok (.iconst 1, 1) := by decide +kernel
theorem dL_law_593 : decode cL_law 593 = .ok (.iadd, 1) := by decide +kernel
theorem dL_law_594 : decode cL_law 594 = .ok (.iaload, 1) := by decide +kernel
theorem dL_law_595 : decode cL_law 595 = .ok (.aload_n 0, 1) := by decide +kernel
theorem dL_law_596 : decode cL_law 596 = .ok (.iload_n 3, 1) := by decide +kernel
theorem dL_law_597 : decode cL_law 597 = .ok (.iconst 2, 1) := by decide +kernel
theorem dL_law_598 : decode cL_law 598 = .ok (.iadd, 1) := by decide +kernel
theorem dL_law_599 : decode cL_law 599 = .ok (.iaload, 1) := by decide +kernel
theorem dL_law_600 : decode cL_law 600 = .ok (.invokevirtual 72, 3) := by decide +kernel
theorem dL_law_603 : decode cL_law 603 = .ok (.if_icmp .eq 61, 3) := by decide +kernel
theorem dL_law_606 : decode cL_law 606 = .ok (.iconst 0, 1) := by decide +kernel
theorem dL_law_607 : decode cL_law 607 = .ok (.ireturn, 1) := by decide +kernel
theorem dL_law_608 : decode cL_law 608 = .ok (.aload_n 1, 1) := by decide +kernel
theorem dL_law_609 : decode cL_law 609 = .ok (.aload_n 0, 1) := by decide +kernel
theorem dL_law_610 : decode cL_law 610 = .ok (.iload_n 3, 1) := by decide +kernel
theorem dL_law_611 : decode cL_law 611 = .ok (.iconst 1, 1) := by decide +kernel
theorem dL_law_612 : decode cL_law 612 = .ok (.iadd, 1) := by decide +kernel
theorem dL_law_613 : decode cL_law 613 = .ok (.iaload, 1) := by decide +kernel
theorem dL_law_614 : decode cL_law 614 = .ok (.aload_n 0, 1) := by decide +kernel
theorem dL_law_615 : decode cL_law 615 = .ok (.iload_n 3, 1) := by decide +kernel
theorem dL_law_616 : decode cL_law 616 = .ok (.iconst 2, 1) := by decide +kernel
theorem dL_law_617 : decode cL_law 617 = .ok (.iadd, 1) := by decide +kernel
theorem dL_law_618 : decode cL_law 618 = .ok (.iaload, 1) := by decide +kernel
theorem dL_law_619 : decode cL_law 619 = .ok (.invokevirtual 73, 3) := by decide +kernel
theorem dL_law_622 : decode cL_law 622 = .ok (.aload_n 2, 1) := by decide +kernel
theorem dL_law_623 : decode cL_law 623 = .ok (.aload_n 0, 1) := by decide +kernel
theorem dL_law_624 : decode cL_law 624 = .ok (.iload_n 3, 1) := by decide +kernel
theorem dL_law_625 : decode cL_law 625 = .ok (.iconst 1, 1) := by decide +kernel
theorem dL_law_626 : decode cL_law 626 = .ok (.iadd, 1) := by decide +kernel
theorem dL_law_627 : decode cL_law 627 = .ok (.iaload, 1) := by decide +kernel
theorem dL_law_628 : decode cL_law 628 = .ok (.aload_n 0, 1) := by decide +kernel
theorem dL_law_629 : decode cL_law 629 = .ok (.iload_n 3, 1) := by decide +kernel
theorem dL_law_630 : decode cL_law 630 = .ok (.iconst 2, 1) := by decide +kernel
theorem dL_law_631 : decode cL_law 631 = .ok (.iadd, 1) := by decide +kernel
theorem dL_law_632 : decode cL_law 632 = .ok (.iaload, 1) := by decide +kernel
theorem dL_law_633 : decode cL_law 633 = .ok (.invokevirtual 76, 3) := by decide +kernel
theorem dL_law_636 : decode cL_law 636 = .ok (.if_icmp .eq 28, 3) := by decide +kernel
theorem dL_law_639 : decode cL_law 639 = .ok (.iconst 0, 1) := by decide +kernel
theorem dL_law_640 : decode cL_law 640 = .ok (.ireturn, 1) := by decide +kernel
theorem dL_law_641 : decode cL_law 641 = .ok (.aload_n 1, 1) := by decide +kernel
theorem dL_law_642 : decode cL_law 642 = .ok (.aload_n 0, 1) := by decide +kernel
theorem dL_law_643 : decode cL_law 643 = .ok (.iload_n 3, 1) := by decide +kernel
theorem dL_law_644 : decode cL_law 644 = .ok (.iconst 1, 1) := by decide +kernel
theorem dL_law_645 : decode cL_law 645 = .ok (.iadd, 1) := by decide +kernel
theorem dL_law_646 : decode cL_law 646 = .ok (.iaload, 1) := by decide +kernel
theorem dL_law_647 : decode cL_law 647 = .ok (.invokevirtual 77, 3) := by decide +kernel
theorem dL_law_650 : decode cL_law 650 = .ok (.aload_n 2, 1) := by decide +kernel
theorem dL_law_651 : decode cL_law 651 = .ok (.aload_n 0, 1) := by decide +kernel
theorem dL_law_652 : decode cL_law 652 = .ok (.iload_n 3, 1) := by decide +kernel
theorem dL_law_653 : decode cL_law 653 = .ok (.iconst 1, 1) := by decide +kernel
theorem dL_law_654 : decode cL_law 654 = .ok (.iadd, 1) := by decide +kernel
theorem dL_law_655 : decode cL_law 655 = .ok (.iaload, 1) := by decide +kernel
theorem dL_law_656 : decode cL_law 656 = .ok (.invokevirtual 80, 3) := by decide +kernel
theorem dL_law_659 : decode cL_law 659 = .ok (.if_icmp .eq 5, 3) := by decide +kernel
theorem dL_law_662 : decode cL_law 662 = .ok (.iconst 0, 1) := by decide +kernel
theorem dL_law_663 : decode cL_law 663 = .ok (.ireturn, 1) := by decide +kernel
theorem dL_law_664 : decode cL_law 664 = .ok (.iinc 3 6, 3) := by decide +kernel
theorem dL_law_667 : decode cL_law 667 = .ok (.goto (-649), 3) := by decide +kernel
theorem dL_law_670 : decode cL_law 670 = .ok (.iconst 1, 1) := by decide +kernel
theorem dL_law_671 : decode cL_law 671 = .ok (.ireturn, 1) := by decide +kernel
