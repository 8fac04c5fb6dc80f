theorem dX10_follows_34 : decode cX10_follows 34 = .ok (.goto (-32), 3) := by decide +kernel
theorem dX10_follows_37 : decode cX10_follows 37 = .ok (.return_, 1) := by decide +kernel
theorem dX10_spot_0 : decode cX10_spot 0 = .ok (.aload_n 0, 1) := by decide +kernel
theorem dX10_spot_1 : decode cX10_spot 1 = .ok (.getfield 20, 3) := by decide +kernel
theorem dX10_spot_4 : decode cX10_spot 4 = .ok (.aload_n 0, 1) := by decide +kernel
theorem dX10_spot_5 : decode cX10_spot 5 = .ok (.getfield 188, 3) := by decide +kernel
theorem dX10_spot_8 : decode cX10_spot 8 = .ok (.iconst 1, 1) := by decide +kernel
theorem dX10_spot_9 : decode cX10_spot 9 = .ok (.isub, 1) := by decide +kernel
theorem dX10_spot_10 : decode cX10_spot 10 = .ok (.iaload, 1) := by decide +kernel
theorem dX10_spot_11 : decode cX10_spot 11 = .ok (.istore_n 3, 1) := by decide +kernel
theorem dX10_spot_12 : decode cX10_spot 12 = .ok (.iload_n 3, 1) := by decide +kernel
theorem dX10_spot_13 : decode cX10_spot 13 = .ok (.bipush 30, 2) := by decide +kernel
theorem dX10_spot_15 : decode cX10_spot 15 = .ok (.if_icmp .ne 10, 3) := by decide +kernel
theorem dX10_spot_18 : decode cX10_spot 18 = .ok (.aload_n 0, 1) := by decide +kernel
theorem dX10_spot_19 : decode cX10_spot 19 = .ok (.iconst 2, 1) := by decide +kernel
theorem dX10_spot_20 : decode cX10_spot 20 = .ok (.iload_n 2, 1) := by decide +kernel
theorem dX10_spot_21 : decode cX10_spot 21 = .ok (.invokevirtual 181, 3) := by decide +kernel
theorem dX10_spot_24 : decode cX10_spot 24 = .ok (.return_, 1) := by decide +kernel
theorem dX10_spot_25 : decode cX10_spot 25 = .ok (.aload_n 0, 1) := by decide +kernel
theorem dX10_spot_26 : decode cX10_spot 26 = .ok (.getfield 34, 3) := by decide +kernel
theorem dX10_spot_29 : decode cX10_spot 29 = .ok (.aload_n 0, 1) := by decide +kernel
theorem dX10_spot_30 : decode cX10_spot 30 = .ok (.iload_n 3, 1) := by decide +kernel
theorem dX10_spot_31 : decode cX10_spot 31 = .ok (.invokevirtual 191, 3) := by decide +kernel
theorem dX10_spot_34 : decode cX10_spot 34 = .ok (.iload_n 1, 1) := by decide +kernel
theorem dX10_spot_35 : decode cX10_spot 35 = .ok (.iastore, 1) := by decide +kernel
theorem dX10_spot_36 : decode cX10_spot 36 = .ok (.aload_n 0, 1) := by decide +kernel
theorem dX10_spot_37 : decode cX10_spot 37 = .ok (.getfield 37, 3) := by decide +kernel
theorem dX10_spot_40 : decode cX10_spot 40 = .ok (.aload_n 0, 1) := by decide +kernel
theorem dX10_spot_41 : decode cX10_spot 41 = .ok (.iload_n 3, 1) := by decide +kernel
theorem dX10_spot_42 : decode cX10_spot 42 = .ok (.invokevirtual 191, 3) := by decide +kernel
theorem dX10_spot_45 : decode cX10_spot 45 = .ok (.iconst 0, 1) := by decide +kernel
theorem dX10_spot_46 : decode cX10_spot 46 = .ok (.iastore, 1) := by decide +kernel
theorem dX10_spot_47 : decode cX10_spot 47 = .ok (.aload_n 0, 1) := by decide +kernel
theorem dX10_spot_48 : decode cX10_spot 48 = .ok (.getfield 20, 3) := by decide +kernel
theorem dX10_spot_51 : decode cX10_spot 51 = .ok (.aload_n 0, 1) := by decide +kernel
theorem dX10_spot_52 : decode cX10_spot 52 = .ok (.getfield 188, 3) := by decide +kernel
theorem dX10_spot_55 : decode cX10_spot 55 = .ok (.iconst 1, 1) := by decide +kernel
theorem dX10_spot_56 : decode cX10_spot 56 = .ok (.isub, 1) := by decide +kernel
theorem dX10_spot_57 : decode cX10_spot 57 = .ok (.dup2, 1) := by decide +kernel
theorem dX10_spot_58 : decode cX10_spot 58 = .ok (.iaload, 1) := by decide +kernel
theorem dX10_spot_59 : decode cX10_spot 59 = .ok (.iconst 1, 1) := by decide +kernel
theorem dX10_spot_60 : decode cX10_spot 60 = .ok (.iadd, 1) := by decide +kernel
theorem dX10_spot_61 : decode cX10_spot 61 = .ok (.iastore, 1) := by decide +kernel
theorem dX10_spot_62 : decode cX10_spot 62 = .ok (.aload_n 0, 1) := by decide +kernel
theorem dX10_spot_63 : decode cX10_spot 63 = .ok (.iconst 0, 1) := by decide +kernel
theorem dX10_spot_64 : decode cX10_spot 64 = .ok (.putfield 195, 3) := by decide +kernel
theorem dX10_spot_67 : decode cX10_spot 67 = .ok (.aload_n 0, 1) := by decide +kernel
theorem dX10_spot_68 : decode cX10_spot 68 = .ok (.iconst 1, 1) := by decide +kernel
theorem dX10_spot_69 : decode cX10_spot 69 = .ok (.iload_n 3, 1) := by decide +kernel
theorem dX10_spot_70 : decode cX10_spot 70 = .ok (.ishl, 1) := by decide +kernel
theorem dX10_spot_71 : decode cX10_spot 71 = .ok (.putfield 199, 3) := by decide +kernel
theorem dX10_spot_74 : decode cX10_spot 74 = .ok (.aload_n 0, 1) := by decide +kernel
theorem dX10_spot_75 : decode cX10_spot 75 = .ok (.iconst 1, 1) := by decide +kernel
theorem dX10_spot_76 : decode cX10_spot 76 = .ok (.iload_n 3, 1) := by decide +kernel
theorem dX10_spot_77 : decode cX10_spot 77 = .ok (.ishl, 1) := by decide +kernel
theorem dX10_spot_78 : decode cX10_spot 78 = .ok (.putfield 202, 3) := by decide +kernel
theorem dX10_spot_81 : decode cX10_spot 81 = .ok (.return_, 1) := by decide +kernel
theorem dX10_bracket_0 : decode cX10_bracket 0 = .ok (.aload_n 0, 1) := by decide +kernel
theorem dX10_bracket_1 : decode cX10_bracket 1 = .ok (.dup, 1) := by decide +kernel
theorem dX10_bracket_2 : decode cX10_bracket 2 = .ok (.getfield 156, 3) := by decide +kernel
theorem dX10_bracket_5 : decode cX10_bracket 5 = .ok (.iconst 1, 1) := by decide +kernel
theorem dX10_bracket_6 : decode cX10_bracket 6 = .ok (.iadd, 1) := by decide +kernel
theorem dX10_bracket_7 : decode cX10_bracket 7 = .ok (.putfield 156, 3) := by decide +kernel
theorem dX10_bracket_10 : decode cX10_bracket 10 = .ok (.aload_n 0, 1) := by decide +kernel
theorem dX10_bracket_11 : decode cX10_bracket 11 = .ok (.bipush 94, 2) := by decide +kernel
theorem dX10_bracket_13 : decode cX10_bracket 13 = .ok (.invokevirtual 174, 3) := by decide +kernel
theorem dX10_bracket_16 : decode cX10_bracket 16 = .ok (.istore_n 1, 1) := by decide +kernel
theorem dX10_bracket_17 : decode cX10_bracket 17 = .ok (.aload_n 0, 1) := by decide +kernel
theorem dX10_bracket_18 : decode cX10_bracket 18 = .ok (.dup, 1) := by decide +kernel
theorem dX10_bracket_19 : decode cX10_bracket 19 = .ok (.getfield 156, 3) := by decide +kernel
theorem dX10_bracket_22 : decode cX10_bracket 22 = .ok (.iload_n 1, 1) := by decide +kernel
theorem dX10_bracket_23 : decode cX10_bracket 23 = .ok (.ifCond .eq 7, 3) := by decide +kernel
theorem dX10_bracket_26 : decode cX10_bracket 26 = .ok (.iconst 1, 1) := by decide +kernel
theorem dX10_bracket_27 : decode cX10_bracket 27 = .ok (.goto 4, 3) := by decide +kernel
theorem dX10_bracket_30 : decode cX10_bracket 30 = .ok (.iconst 0, 1) := by decide +kernel
theorem dX10_bracket_31 : decode cX10_bracket 31 = .ok (.iadd, 1) := by decide +kernel
theorem dX10_bracket_32 : decode cX10_bracket 32 = .ok (.putfield 156, 3) := by decide +kernel
theorem dX10_bracket_35 : decode cX10_bracket 35 = .ok (.iconst 0, 1) := by decide +kernel
theorem dX10_bracket_36 : decode cX10_bracket 36 = .ok (.istore_n 2, 1) := by decide +kernel
theorem dX10_bracket_37 : decode cX10_bracket 37 = .ok (.aload_n 0, 1) := by decide +kernel
theorem dX10_bracket_38 : decode cX10_bracket 38 = .ok (.aload_n 0, 1) := by decide +kernel
theorem dX10_bracket_39 : decode cX10_bracket 39 = .ok (.invokevirtual 170, 3) := by decide +kernel
theorem dX10_bracket_42 : decode cX10_bracket 42 = .ok (.invokevirtual 205, 3) := by decide +kernel
theorem dX10_bracket_45 : decode cX10_bracket 45 = .ok (.aload_n 0, 1) := by decide +kernel
theorem dX10_bracket_46 : decode cX10_bracket 46 = .ok (.getfield 178, 3) := by decide +kernel
theorem dX10_bracket_49 : decode cX10_bracket 49 = .ok (.ifCond .ne 125, 3) := by decide +kernel
theorem dX10_bracket_52 : decode cX10_bracket 52 = .ok (.aload_n 0, 1) := by decide +kernel
theorem dX10_bracket_53 : decode cX10_bracket 53 = .ok (.invokevirtual 170, 3) := by decide +kernel
theorem dX10_bracket_56 : decode cX10_bracket 56 = .ok (.ifCond .eq 118, 3) := by decide +kernel
theorem dX10_bracket_59 : decode cX10_bracket 59 = .ok (.aload_n 0, 1) := by decide +kernel
theorem dX10_bracket_60 : decode cX10_bracket 60 = .ok (.invokevirtual 162, 3) := by decide +kernel
theorem dX10_bracket_63 : decode cX10_bracket 63 = .ok (.bipush 97, 2) := by decide +kernel
theorem dX10_bracket_65 : decode cX10_bracket 65 = .ok (.isub, 1) := by decide +kernel
theorem dX10_bracket_66 : decode cX10_bracket 66 = .ok (.istore_n 3, 1) := by decide +kernel
theorem dX10_bracket_67 : decode cX10_bracket 67 = .ok (.iload_n 3, 1) := by decide +kernel
theorem dX10_bracket_68 : decode cX10_bracket 68 = .ok (.istore 4, 2) := by decide +kernel
theorem dX10_bracket_70 : decode cX10_bracket 70 = .ok (.aload_n 0, 1) := by decide +kernel
theorem dX10_bracket_71 : decode cX10_bracket 71 = .ok (.dup, 1) := by decide +kernel
theorem dX10_bracket_72 : decode cX10_bracket 72 = .ok (.getfield 156, 3) := by decide +kernel
theorem dX10_bracket_75 : decode cX10_bracket 75 = .ok (.iconst 1, 1) := by decide +kernel
theorem dX10_bracket_76 : decode cX10_bracket 76 = .ok (.iadd, 1) := by decide +kernel
theorem dX10_bracket_77 : decode cX10_bracket 77 = .ok (.putfield 156, 3) := by decide +kernel
theorem dX10_bracket_80 : decode cX10_bracket 80 = .ok (.aload_n 0, 1) := by decide +kernel
theorem dX10_bracket_81 : decode cX10_bracket 81 = .ok (.bipush 45, 2) := by decide +kernel
theorem dX10_bracket_83 : decode cX10_bracket 83 = .ok (.invokevirtual 174, 3) := by decide +kernel
theorem dX10_bracket_86 : decode cX10_bracket 86 = .ok (.ifCond .eq 55, 3) := by decide +kernel
theorem dX10_bracket_89 : decode cX10_bracket 89 = .ok (.aload_n 0, 1) := by decide +kernel
theorem dX10_bracket_90 : decode cX10_bracket 90 = .ok (.dup, 1) := by decide +kernel
theorem dX10_bracket_91 : decode cX10_bracket 91 = .ok (.getfield 156, 3) := by decide +kernel
theorem dX10_bracket_94 : decode cX10_bracket 94 = .ok (.iconst 1, 1) := by decide +kernel
theorem dX10_bracket_95 : decode cX10_bracket 95 = .ok (.iadd, 1) := by decide +kernel
theorem dX10_bracket_96 : decode cX10_bracket 96 = .ok (.putfield 156, 3) := by decide +kernel
theorem dX10_bracket_99 : decode cX10_bracket 99 = .ok (.aload_n 0, 1) := by decide +kernel
theorem dX10_bracket_100 : decode cX10_bracket 100 = .ok (.aload_n 0, 1) := by decide +kernel
theorem dX10_bracket_101 : decode cX10_bracket 101 = .ok (.invokevirtual 170, 3) := by decide +kernel
theorem dX10_bracket_104 : decode cX10_bracket 104 = .ok (.invokevirtual 205, 3) := by decide +kernel
theorem dX10_bracket_107 : decode cX10_bracket 107 = .ok (.aload_n 0, 1) := by decide +kernel
theorem dX10_bracket_108 : decode cX10_bracket 108 = .ok (.invokevirtual 162, 3) := by decide +kernel
theorem dX10_bracket_111 : decode cX10_bracket 111 = .ok (.bipush 97, 2) := by decide +kernel
theorem dX10_bracket_113 : decode cX10_bracket 113 = .ok (.isub, 1) := by decide +kernel
theorem dX10_bracket_114 : decode cX10_bracket 114 = .ok (.istore 4, 2) := by decide +kernel
theorem dX10_bracket_116 : decode cX10_bracket 116 = .ok (.aload_n 0, 1) := by decide +kernel
theorem dX10_bracket_117 : decode cX10_bracket 117 = .ok (.iload 4, 2) := by decide +kernel
theorem dX10_bracket_119 : decode cX10_bracket 119 = .ok (.iload_n 3, 1) := by decide +kernel
theorem dX10_bracket_120 : decode cX10_bracket 120 = .ok (.if_icmp .lt 7, 3) := by decide +kernel
theorem dX10_bracket_123 : decode cX10_bracket 123 = .ok (.iconst 1, 1) := by decide +kernel
theorem dX10_bracket_124 : decode cX10_bracket 124 = .ok (.goto 4, 3) := by decide +kernel
theorem dX10_bracket_127 : decode cX10_bracket 127 = .ok (.iconst 0, 1) := by decide +kernel
theorem dX10_bracket_128 : decode cX10_bracket 128 = .ok (.invokevirtual 205, 3) := by decide +kernel
theorem dX10_bracket_131 : decode cX10_bracket 131 = .ok (.aload_n 0, 1) := by decide +kernel
theorem dX10_bracket_132 : decode cX10_bracket 132 = .ok (.dup, 1) := by decide +kernel
theorem dX10_bracket_133 : decode cX10_bracket 133 = .ok (.getfield 156, 3) := by decide +kernel
theorem dX10_bracket_136 : decode cX10_bracket 136 = .ok (.iconst 1, 1) := by decide +kernel
theorem dX10_bracket_137 : decode cX10_bracket 137 = .ok (.iadd, 1) := by decide +kernel
theorem dX10_bracket_138 : decode cX10_bracket 138 = .ok (.putfield 156, 3) := by decide +kernel
theorem dX10_bracket_141 : decode cX10_bracket 141 = .ok (.iload_n 3, 1) := by decide +kernel
theorem dX10_bracket_142 : decode cX10_bracket 142 = .ok (.istore 5, 2) := by decide +kernel
theorem dX10_bracket_144 : decode cX10_bracket 144 = .ok (.aload_n 0, 1) := by decide +kernel
theorem dX10_bracket_145 : decode cX10_bracket 145 = .ok (.getfield 178, 3) := by decide +kernel
theorem dX10_bracket_148 : decode cX10_bracket 148 = .ok (.ifCond .ne 23, 3) := by decide +kernel
theorem dX10_bracket_151 : decode cX10_bracket 151 = .ok (.iload 5, 2) := by decide +kernel
theorem dX10_bracket_153 : decode cX10_bracket 153 = .ok (.iload 4, 2) := by decide +kernel
theorem dX10_bracket_155 : decode cX10_bracket 155 = .ok (.if_icmp .gt 16, 3) := by decide +kernel
theorem dX10_bracket_158 : decode cX10_bracket 158 = .ok (.iload_n 2, 1) := by decide +kernel
theorem dX10_bracket_159 : decode cX10_bracket 159 = .ok (.iconst 1, 1) := by decide +kernel
theorem dX10_bracket_160 : decode cX10_bracket 160 = .ok (.iload 5, 2) := by decide +kernel
theorem dX10_bracket_162 : decode cX10_bracket 162 = .ok (.ishl, 1) := by decide +kernel
theorem dX10_bracket_163 : decode cX10_bracket 163 = .ok (.ior, 1) := by decide +kernel
theorem dX10_bracket_164 : decode cX10_bracket 164 = .ok (.istore_n 2, 1) := by decide +kernel
theorem dX10_bracket_165 : decode cX10_bracket 165 = .ok (.iinc 5 1, 3) := by decide +kernel
theorem dX10_bracket_168 : decode cX10_bracket 168 = .ok (.goto (-24), 3) := by decide +kernel
theorem dX10_bracket_171 : decode cX10_bracket 171 = .ok (.goto (-126), 3) := by decide +kernel
theorem dX10_bracket_174 : decode cX10_bracket 174 = .ok (.aload_n 0, 1) := by decide +kernel
theorem dX10_bracket_175 : decode cX10_bracket 175 = .ok (.aload_n 0, 1) := by decide +kernel
theorem dX10_bracket_176 : decode cX10_bracket 176 = .ok (.bipush 93, 2) := by decide +kernel
theorem dX10_bracket_178 : decode cX10_bracket 178 = .ok (.invokevirtual 174, 3) := by decide +kernel
theorem dX10_bracket_181 : decode cX10_bracket 181 = .ok (.invokevirtual 205, 3) := by decide +kernel
theorem dX10_bracket_184 : decode cX10_bracket 184 = .ok (.aload_n 0, 1) := by decide +kernel
theorem dX10_bracket_185 : decode cX10_bracket 185 = .ok (.dup, 1) := by decide +kernel
theorem dX10_bracket_186 : decode cX10_bracket 186 = .ok (.getfield 156, 3) := by decide +kernel
theorem dX10_bracket_189 : decode cX10_bracket 189 = .ok (.iconst 1, 1) := by decide +kernel
theorem dX10_bracket_190 : decode cX10_bracket 190 = .ok (.iadd, 1) := by decide +kernel
theorem dX10_bracket_191 : decode cX10_bracket 191 = .ok (.putfield 156, 3) := by decide +kernel
theorem dX10_bracket_194 : decode cX10_bracket 194 = .ok (.iload_n 1, 1) := by decide +kernel
theorem dX10_bracket_195 : decode cX10_bracket 195 = .ok (.ifCond .eq 12, 3) := by decide +kernel
theorem dX10_bracket_198 : decode cX10_bracket 198 = .ok (.bipush 15, 2) := by decide +kernel
theorem dX10_bracket_200 : decode cX10_bracket 200 = .ok (.iload_n 2, 1) := by decide +kernel
theorem dX10_bracket_201 : decode cX10_bracket 201 = .ok (.iconst (-1), 1) := by decide +kernel
theorem dX10_bracket_202 : decode cX10_bracket 202 = .ok (.ixor, 1) := by decide +kernel
theorem dX10_bracket_203 : decode cX10_bracket 203 = .ok (.iand, 1) := by decide +kernel
theorem dX10_bracket_204 : decode cX10_bracket 204 = .ok (.goto 4, 3) := by decide +kernel
theorem dX10_bracket_207 : decode cX10_bracket 207 = .ok (.iload_n 2, 1) := by decide +kernel
theorem dX10_bracket_208 : decode cX10_bracket 208 = .ok (.ireturn, 1) := by decide +kernel
theorem dX10_item_0 : decode cX10_item 0 = .ok (.aload_n 0, 1) := by decide +kernel
theorem dX10_item_1 : decode cX10_item 1 = .ok (.getfield 178, 3) := by decide +kernel
theorem dX10_item_4 : decode cX10_item 4 = .ok (.ifCond .ne 89, 3) := by decide +kernel
theorem dX10_item_7 : decode cX10_item 7 = .ok (.aload_n 0, 1) := by decide +kernel
theorem dX10_item_8 : decode cX10_item 8 = .ok (.bipush 42, 2) := by decide +kernel
theorem dX10_item_10 : decode cX10_item 10 = .ok (.invokevirtual 174, 3) := by decide +kernel
theorem dX10_item_13 : decode cX10_item 13 = .ok (.ifCond .ne 21, 3) := by decide +kernel
theorem dX10_item_16 : decode cX10_item 16 = .ok (.aload_n 0, 1) := by decide +kernel
theorem dX10_item_17 : decode cX10_item 17 = .ok (.bipush 43, 2) := by decide +kernel
theorem dX10_item_19 : decode cX10_item 19 = .ok (.invokevirtual 174, 3) := by decide +kernel
theorem dX10_item_22 : decode cX10_item 22 = .ok (.ifCond .ne 12, 3) := by decide +kernel
theorem dX10_item_25 : decode cX10_item 25 = .ok (.aload_n 0, 1) := by decide +kernel
theorem dX10_item_26 : decode cX10_item 26 = .ok (.bipush 63, 2) := by decide +kernel
theorem dX10_item_28 : decode cX10_item 28 = .ok (.invokevirtual 174, 3) := by decide +kernel
theorem dX10_item_31 : decode cX10_item 31 = .ok (.ifCond .eq 62, 3) := by decide +kernel
theorem dX10_item_34 : decode cX10_item 34 = .ok (.aload_n 0, 1) := by decide +kernel
theorem dX10_item_35 : decode cX10_item 35 = .ok (.bipush 63, 2) := by decide +kernel
theorem dX10_item_37 : decode cX10_item 37 = .ok (.invokevirtual 174, 3) := by decide +kernel
theorem dX10_item_40 : decode cX10_item 40 = .ok (.ifCond .ne 15, 3) := by decide +kernel
theorem dX10_item_43 : decode cX10_item 43 = .ok (.aload_n 0, 1) := by decide +kernel
theorem dX10_item_44 : decode cX10_item 44 = .ok (.aload_n 0, 1) := by decide +kernel
theorem dX10_item_45 : decode cX10_item 45 = .ok (.getfield 202, 3) := by decide +kernel
theorem dX10_item_48 : decode cX10_item 48 = .ok (.aload_n 0, 1) := by decide +kernel
theorem dX10_item_49 : decode cX10_item 49 = .ok (.getfield 199, 3) := by decide +kernel
theorem dX10_item_52 : decode cX10_item 52 = .ok (.invokevirtual 209, 3) := by decide +kernel
theorem dX10_item_55 : decode cX10_item 55 = .ok (.aload_n 0, 1) := by decide +kernel
theorem dX10_item_56 : decode cX10_item 56 = .ok (.aload_n 0, 1) := by decide +kernel
theorem dX10_item_57 : decode cX10_item 57 = .ok (.getfield 195, 3) := by decide +kernel
theorem dX10_item_60 : decode cX10_item 60 = .ok (.ifCond .ne 12, 3) := by decide +kernel
theorem dX10_item_63 : decode cX10_item 63 = .ok (.aload_n 0, 1) := by decide +kernel
theorem dX10_item_64 : decode cX10_item 64 = .ok (.bipush 43, 2) := by decide +kernel
theorem dX10_item_66 : decode cX10_item 66 = .ok (.invokevirtual 174, 3) := by decide +kernel
theorem dX10_item_69 : decode cX10_item 69 = .ok (.ifCond .ne 7, 3) := by decide +kernel
theorem dX10_item_72 : decode cX10_item 72 = .ok (.iconst 1, 1) := by decide +kernel
theorem dX10_item_73 : decode cX10_item 73 = .ok (.goto 4, 3) := by decide +kernel
theorem dX10_item_76 : decode cX10_item 76 = .ok (.iconst 0, 1) := by decide +kernel
theorem dX10_item_77 : decode cX10_item 77 = .ok (.putfield 195, 3) := by decide +kernel
theorem dX10_item_80 : decode cX10_item 80 = .ok (.aload_n 0, 1) := by decide +kernel
theorem dX10_item_81 : decode cX10_item 81 = .ok (.dup, 1) := by decide +kernel
theorem dX10_item_82 : decode cX10_item 82 = .ok (.getfield 156, 3) := by decide +kernel
theorem dX10_item_85 : decode cX10_item 85 = .ok (.iconst 1, 1) := by decide +kernel
theorem dX10_item_86 : decode cX10_item 86 = .ok (.iadd, 1) := by decide +kernel
theorem dX10_item_87 : decode cX10_item 87 = .ok (.putfield 156, 3) := by decide +kernel
theorem dX10_item_90 : decode cX10_item 90 = .ok (.goto (-90), 3) := by decide +kernel
theorem dX10_item_93 : decode cX10_item 93 = .ok (.aload_n 0, 1) := by decide +kernel
theorem dX10_item_94 : decode cX10_item 94 = .ok (.getfield 76, 3) := by decide +kernel
theorem dX10_item_97 : decode cX10_item 97 = .ok (.aload_n 0, 1) := by decide +kernel
theorem dX10_item_98 : decode cX10_item 98 = .ok (.getfield 185, 3) := by decide +kernel
theorem dX10_item_101 : decode cX10_item 101 = .ok (.baload, 1) := by decide +kernel
theorem dX10_item_102 : decode cX10_item 102 = .ok (.ifCond .ne 53, 3) := by decide +kernel
theorem dX10_item_105 : decode cX10_item 105 = .ok (.aload_n 0, 1) := by decide +kernel
theorem dX10_item_106 : decode cX10_item 106 = .ok (.getfield 76, 3) := by decide +kernel
theorem dX10_item_109 : decode cX10_item 109 = .ok (.aload_n 0, 1) := by decide +kernel
theorem dX10_item_110 : decode cX10_item 110 = .ok (.getfield 185, 3) := by decide +kernel
theorem dX10_item_113 : decode cX10_item 113 = .ok (.iconst 1, 1) := by decide +kernel
theorem dX10_item_114 : decode cX10_item 114 = .ok (.bastore, 1) := by decide +kernel
theorem dX10_item_115 : decode cX10_item 115 = .ok (.aload_n 0, 1) := by decide +kernel
theorem dX10_item_116 : decode cX10_item 116 = .ok (.getfield 79, 3) := by decide +kernel
theorem dX10_item_119 : decode cX10_item 119 = .ok (.aload_n 0, 1) := by decide +kernel
theorem dX10_item_120 : decode cX10_item 120 = .ok (.getfield 185, 3) := by decide +kernel
theorem dX10_item_123 : decode cX10_item 123 = .ok (.aload_n 0, 1) := by decide +kernel
theorem dX10_item_124 : decode cX10_item 124 = .ok (.getfield 195, 3) := by decide +kernel
theorem dX10_item_127 : decode cX10_item 127 = .ok (.bastore, 1) := by decide +kernel
theorem dX10_item_128 : decode cX10_item 128 = .ok (.aload_n 0, 1) := by decide +kernel
theorem dX10_item_129 : decode cX10_item 129 = .ok (.getfield 82, 3) := by decide +kernel
theorem dX10_item_132 : decode cX10_item 132 = .ok (.aload_n 0, 1) := by decide +kernel
theorem dX10_item_133 : decode cX10_item 133 = .ok (.getfield 185, 3) := by decide +kernel
theorem dX10_item_136 : decode cX10_item 136 = .ok (.aload_n 0, 1) := by decide +kernel
theorem dX10_item_137 : decode cX10_item 137 = .ok (.getfield 199, 3) := by decide +kernel
theorem dX10_item_140 : decode cX10_item 140 = .ok (.iastore, 1) := by decide +kernel
theorem dX10_item_141 : decode cX10_item 141 = .ok (.aload_n 0, 1) := by decide +kernel
theorem dX10_item_142 : decode cX10_item 142 = .ok (.getfield 85, 3) := by decide +kernel
theorem dX10_item_145 : decode cX10_item 145 = .ok (.aload_n 0, 1) := by decide +kernel
theorem dX10_item_146 : decode cX10_item 146 = .ok (.getfield 185, 3) := by decide +kernel
theorem dX10_item_149 : decode cX10_item 149 = .ok (.aload_n 0, 1) := by decide +kernel
theorem dX10_item_150 : decode cX10_item 150 = .ok (.getfield 202, 3) := by decide +kernel
theorem dX10_item_153 : decode cX10_item 153 = .ok (.iastore, 1) := by decide +kernel
theorem dX10_item_154 : decode cX10_item 154 = .ok (.return_, 1) := by decide +kernel
theorem dX10_item_155 : decode cX10_item 155 = .ok (.aload_n 0, 1) := by decide +kernel
theorem dX10_item_156 : decode cX10_item 156 = .ok (.aload_n 0, 1) := by decide +kernel
theorem dX10_item_157 : decode cX10_item 157 = .ok (.getfield 85, 3) := by decide +kernel
theorem dX10_item_160 : decode cX10_item 160 = .ok (.aload_n 0, 1) := by decide +kernel
theorem dX10_item_161 : decode cX10_item 161 = .ok (.getfield 185, 3) := by decide +kernel
theorem dX10_item_164 : decode cX10_item 164 = .ok (.iaload, 1) := by decide +kernel
theorem dX10_item_165 : decode cX10_item 165 = .ok (.aload_n 0, 1) := by decide +kernel
theorem dX10_item_166 : decode cX10_item 166 = .ok (.getfield 199, 3) := by decide +kernel
theorem dX10_item_169 : decode cX10_item 169 = .ok (.invokevirtual 209, 3) := by decide +kernel
theorem dX10_item_172 : decode cX10_item 172 = .ok (.aload_n 0, 1) := by decide +kernel
theorem dX10_item_173 : decode cX10_item 173 = .ok (.getfield 82, 3) := by decide +kernel
theorem dX10_item_176 : decode cX10_item 176 = .ok (.aload_n 0, 1) := by decide +kernel
theorem dX10_item_177 : decode cX10_item 177 = .ok (.getfield 185, 3) := by decide +kernel
theorem dX10_item_180 : decode cX10_item 180 = .ok (.dup2, 1) := by decide +kernel
theorem dX10_item_181 : decode cX10_item 181 = .ok (.iaload, 1) := by decide +kernel
theorem dX10_item_182 : decode cX10_item 182 = .ok (.aload_n 0, 1) := by decide +kernel
theorem dX10_item_183 : decode cX10_item 183 = .ok (.getfield 79, 3) := by decide +kernel
theorem dX10_item_186 : decode cX10_item 186 = .ok (.aload_n 0, 1) := by decide +kernel
theorem dX10_item_187 : decode cX10_item 187 = .ok (.getfield 185, 3) := by decide +kernel
theorem dX10_item_190 : decode cX10_item 190 = .ok (.baload, 1) := by decide +kernel
theorem dX10_item_191 : decode cX10_item 191 = .ok (.ifCond .eq 10, 3) := by decide +kernel
theorem dX10_item_194 : decode cX10_item 194 = .ok (.aload_n 0, 1) := by decide +kernel
theorem dX10_item_195 : decode cX10_item 195 = .ok (.getfield 199, 3) := by decide +kernel
theorem dX10_item_198 : decode cX10_item 198 = .ok (.goto 4, 3) := by decide +kernel
theorem dX10_item_201 : decode cX10_item 201 = .ok (.iconst 0, 1) := by decide +kernel
theorem dX10_item_202 : decode cX10_item 202 = .ok (.ior, 1) := by decide +kernel
theorem dX10_item_203 : decode cX10_item 203 = .ok (.iastore, 1) := by decide +kernel
theorem dX10_item_204 : decode cX10_item 204 = .ok (.aload_n 0, 1) := by decide +kernel
theorem dX10_item_205 : decode cX10_item 205 = .ok (.getfield 85, 3) := by decide +kernel
theorem dX10_item_208 : decode cX10_item 208 = .ok (.aload_n 0, 1) := by decide +kernel
theorem dX10_item_209 : decode cX10_item 209 = .ok (.getfield 185, 3) := by decide +kernel
theorem dX10_item_212 : decode cX10_item 212 = .ok (.aload_n 0, 1) := by decide +kernel
theorem dX10_item_213 : decode cX10_item 213 = .ok (.getfield 202, 3) := by decide +kernel
theorem dX10_item_216 : decode cX10_item 216 = .ok (.aload_n 0, 1) := by decide +kernel
theorem dX10_item_217 : decode cX10_item 217 = .ok (.getfield 195, 3) := by decide +kernel
theorem dX10_item_220 : decode cX10_item 220 = .ok (.ifCond .eq 15, 3) := by decide +kernel
theorem dX10_item_223 : decode cX10_item 223 = .ok (.aload_n 0, 1) := by decide +kernel
theorem dX10_item_224 : decode cX10_item 224 = .ok (.getfield 85, 3) := by decide +kernel
theorem dX10_item_227 : decode cX10_item 227 = .ok (.aload_n 0, 1) := by decide +kernel
theorem dX10_item_228 : decode cX10_item 228 = .ok (.getfield 185, 3) := by decide +kernel
theorem dX10_item_231 : decode cX10_item 231 = .ok (.iaload, 1) := by decide +kernel
theorem dX10_item_232 : decode cX10_item 232 = .ok (.goto 4, 3) := by decide +kernel
theorem dX10_item_235 : decode cX10_item 235 = .ok (.iconst 0, 1) := by decide +kernel
theorem dX10_item_236 : decode cX10_item 236 = .ok (.ior, 1) := by decide +kernel
theorem dX10_item_237 : decode cX10_item 237 = .ok (.iastore, 1) := by decide +kernel
theorem dX10_item_238 : decode cX10_item 238 = .ok (.aload_n 0, 1) := by decide +kernel
theorem dX10_item_239 : decode cX10_item 239 = .ok (.getfield 79, 3) := by decide +kernel
theorem dX10_item_242 : decode cX10_item 242 = .ok (.aload_n 0, 1) := by decide +kernel
theorem dX10_item_243 : decode cX10_item 243 = .ok (.getfield 185, 3) := by decide +kernel
theorem dX10_item_246 : decode cX10_item 246 = .ok (.aload_n 0, 1) := by decide +kernel
theorem dX10_item_247 : decode cX10_item 247 = .ok (.getfield 79, 3) := by decide +kernel
theorem dX10_item_250 : decode cX10_item 250 = .ok (.aload_n 0, 1) := by decide +kernel
theorem dX10_item_251 : decode cX10_item 251 = .ok (.getfield 185, 3) := by decide +kernel
theorem dX10_item_254 : decode cX10_item 254 = .ok (.baload, 1) := by decide +kernel
theorem dX10_item_255 : decode cX10_item 255 = .ok (.ifCond .eq 14, 3) := by decide +kernel
theorem dX10_item_258 : decode cX10_item 258 = .ok (.aload_n 0, 1) := by decide +kernel
theorem dX10_item_259 : decode cX10_item 259 = .ok (.getfield 195, 3) := by decide +kernel
theorem dX10_item_262 : decode cX10_item 262 = .ok (.ifCond .eq 7, 3) := by decide +kernel
theorem dX10_item_265 : decode cX10_item 265 = .ok (.iconst 1, 1) := by decide +kernel
theorem dX10_item_266 : decode cX10_item 266 = .ok (.goto 4, 3) := by decide +kernel
theorem dX10_item_269 : decode cX10_item 269 = .ok (.iconst 0, 1) := by decide +kernel
theorem dX10_item_270 : decode cX10_item 270 = .ok (.bastore, 1) := by decide +kernel
theorem dX10_item_271 : decode cX10_item 271 = .ok (.return_, 1) := by decide +kernel
theorem dX10_rowEnds_0 : decode cX10_rowEnds 0 = .ok (.aload_n 0, 1) := by decide +kernel
theorem dX10_rowEnds_1 : decode cX10_rowEnds 1 = .ok (.getfield 88, 3) := by decide +kernel
theorem dX10_rowEnds_4 : decode cX10_rowEnds 4 = .ok (.aload_n 0, 1) := by decide +kernel
theorem dX10_rowEnds_5 : decode cX10_rowEnds 5 = .ok (.getfield 185, 3) := by decide +kernel
theorem dX10_rowEnds_8 : decode cX10_rowEnds 8 = .ok (.aload_n 0, 1) := by decide +kernel
theorem dX10_rowEnds_9 : decode cX10_rowEnds 9 = .ok (.getfield 88, 3) := by decide +kernel
theorem dX10_rowEnds_12 : decode cX10_rowEnds 12 = .ok (.aload_n 0, 1) := by decide +kernel
theorem dX10_rowEnds_13 : decode cX10_rowEnds 13 = .ok (.getfield 185, 3) := by decide +kernel
theorem dX10_rowEnds_16 : decode cX10_rowEnds 16 = .ok (.baload, 1) := by decide +kernel
theorem dX10_rowEnds_17 : decode cX10_rowEnds 17 = .ok (.ifCond .ne 15, 3) := by decide +kernel
theorem dX10_rowEnds_20 : decode cX10_rowEnds 20 = .ok (.aload_n 0, 1) := by decide +kernel
theorem dX10_rowEnds_21 : decode cX10_rowEnds 21 = .ok (.getfield 79, 3) := by decide +kernel
theorem dX10_rowEnds_24 : decode cX10_rowEnds 24 = .ok (.aload_n 0, 1) := by decide +kernel
theorem dX10_rowEnds_25 : decode cX10_rowEnds 25 = .ok (.getfield 185, 3) := by decide +kernel
theorem dX10_rowEnds_28 : decode cX10_rowEnds 28 = .ok (.baload, 1) := by decide +kernel
theorem dX10_rowEnds_29 : decode cX10_rowEnds 29 = .ok (.ifCond .eq 7, 3) := by decide +kernel
theorem dX10_rowEnds_32 : decode cX10_rowEnds 32 = .ok (.iconst 1, 1) := by decide +kernel
theorem dX10_rowEnds_33 : decode cX10_rowEnds 33 = .ok (.goto 4, 3) := by decide +kernel
theorem dX10_rowEnds_36 : decode cX10_rowEnds 36 = .ok (.iconst 0, 1) := by decide +kernel
theorem dX10_rowEnds_37 : decode cX10_rowEnds 37 = .ok (.bastore, 1) := by decide +kernel
theorem dX10_rowEnds_38 : decode cX10_rowEnds 38 = .ok (.aload_n 0, 1) := by decide +kernel
theorem dX10_rowEnds_39 : decode cX10_rowEnds 39 = .ok (.getfield 91, 3) := by decide +kernel
theorem dX10_rowEnds_42 : decode cX10_rowEnds 42 = .ok (.aload_n 0, 1) := by decide +kernel
theorem dX10_rowEnds_43 : decode cX10_rowEnds 43 = .ok (.getfield 185, 3) := by decide +kernel
theorem dX10_rowEnds_46 : decode cX10_rowEnds 46 = .ok (.dup2, 1) := by decide +kernel
theorem dX10_rowEnds_47 : decode cX10_rowEnds 47 = .ok (.iaload, 1) := by decide +kernel
theorem dX10_rowEnds_48 : decode cX10_rowEnds 48 = .ok (.aload_n 0, 1) := by decide +kernel
theorem dX10_rowEnds_49 : decode cX10_rowEnds 49 = .ok (.getfield 82, 3) := by decide +kernel
theorem dX10_rowEnds_52 : decode cX10_rowEnds 52 = .ok (.aload_n 0, 1) := by decide +kernel
theorem dX10_rowEnds_53 : decode cX10_rowEnds 53 = .ok (.getfield 185, 3) := by decide +kernel
theorem dX10_rowEnds_56 : decode cX10_rowEnds 56 = .ok (.iaload, 1) := by decide +kernel
theorem dX10_rowEnds_57 : decode cX10_rowEnds 57 = .ok (.ior, 1) := by decide +kernel
theorem dX10_rowEnds_58 : decode cX10_rowEnds 58 = .ok (.iastore, 1) := by decide +kernel
theorem dX10_rowEnds_59 : decode cX10_rowEnds 59 = .ok (.aload_n 0, 1) := by decide +kernel
theorem dX10_rowEnds_60 : decode cX10_rowEnds 60 = .ok (.getfield 94, 3) := by decide +kernel
theorem dX10_rowEnds_63 : decode cX10_rowEnds 63 = .ok (.aload_n 0, 1) := by decide +kernel
theorem dX10_rowEnds_64 : decode cX10_rowEnds 64 = .ok (.getfield 185, 3) := by decide +kernel
theorem dX10_rowEnds_67 : decode cX10_rowEnds 67 = .ok (.dup2, 1) := by decide +kernel
theorem dX10_rowEnds_68 : decode cX10_rowEnds 68 = .ok (.iaload, 1) := by decide +kernel
theorem dX10_rowEnds_69 : decode cX10_rowEnds 69 = .ok (.aload_n 0, 1) := by decide +kernel
theorem dX10_rowEnds_70 : decode cX10_rowEnds 70 = .ok (.getfield 85, 3) := by decide +kernel
theorem dX10_rowEnds_73 : decode cX10_rowEnds 73 = .ok (.aload_n 0, 1) := by decide +kernel
theorem dX10_rowEnds_74 : decode cX10_rowEnds 74 = .ok (.getfield 185, 3) := by decide +kernel
theorem dX10_rowEnds_77 : decode cX10_rowEnds 77 = .ok (.iaload, 1) := by decide +kernel
theorem dX10_rowEnds_78 : decode cX10_rowEnds 78 = .ok (.ior, 1) := by decide +kernel
theorem dX10_rowEnds_79 : decode cX10_rowEnds 79 = .ok (.iastore, 1) := by decide +kernel
theorem dX10_rowEnds_80 : decode cX10_rowEnds 80 = .ok (.aload_n 0, 1) := by decide +kernel
theorem dX10_rowEnds_81 : decode cX10_rowEnds 81 = .ok (.getfield 76, 3) := by decide +kernel
theorem dX10_rowEnds_84 : decode cX10_rowEnds 84 = .ok (.aload_n 0, 1) := by decide +kernel
theorem dX10_rowEnds_85 : decode cX10_rowEnds 85 = .ok (.getfield 185, 3) := by decide +kernel
theorem dX10_rowEnds_88 : decode cX10_rowEnds 88 = .ok (.iconst 0, 1) := by decide +kernel
theorem dX10_rowEnds_89 : decode cX10_rowEnds 89 = .ok (.bastore, 1) := by decide +kernel
theorem dX10_rowEnds_90 : decode cX10_rowEnds 90 = .ok (.return_, 1) := by decide +kernel
theorem dX10_atom_0 : decode cX10_atom 0 = .ok (.aload_n 0, 1) := by decide +kernel
theorem dX10_atom_1 : decode cX10_atom 1 = .ok (.getfield 156, 3) := by decide +kernel
theorem dX10_atom_4 : decode cX10_atom 4 = .ok (.istore_n 1, 1) := by decide +kernel
theorem dX10_atom_5 : decode cX10_atom 5 = .ok (.aload_n 0, 1) := by decide +kernel
theorem dX10_atom_6 : decode cX10_atom 6 = .ok (.invokevirtual 170, 3) := by decide +kernel
theorem dX10_atom_9 : decode cX10_atom 9 = .ok (.ifCond .eq 32, 3) := by decide +kernel
theorem dX10_atom_12 : decode cX10_atom 12 = .ok (.aload_n 0, 1) := by decide +kernel
theorem dX10_atom_13 : decode cX10_atom 13 = .ok (.invokevirtual 162, 3) := by decide +kernel
theorem dX10_atom_16 : decode cX10_atom 16 = .ok (.bipush 97, 2) := by decide +kernel
theorem dX10_atom_18 : decode cX10_atom 18 = .ok (.isub, 1) := by decide +kernel
theorem dX10_atom_19 : decode cX10_atom 19 = .ok (.istore_n 2, 1) := by decide +kernel
theorem dX10_atom_20 : decode cX10_atom 20 = .ok (.aload_n 0, 1) := by decide +kernel
theorem dX10_atom_21 : decode cX10_atom 21 = .ok (.iconst 1, 1) := by decide +kernel
theorem dX10_atom_22 : decode cX10_atom 22 = .ok (.iload_n 2, 1) := by decide +kernel
theorem dX10_atom_23 : decode cX10_atom 23 = .ok (.ishl, 1) := by decide +kernel
theorem dX10_atom_24 : decode cX10_atom 24 = .ok (.iload_n 1, 1) := by decide +kernel
theorem dX10_atom_25 : decode cX10_atom 25 = .ok (.invokevirtual 212, 3) := by decide +kernel
theorem dX10_atom_28 : decode cX10_atom 28 = .ok (.aload_n 0, 1) := by decide +kernel
theorem dX10_atom_29 : decode cX10_atom 29 = .ok (.dup, 1) := by decide +kernel
theorem dX10_atom_30 : decode cX10_atom 30 = .ok (.getfield 156, 3) := by decide +kernel
theorem dX10_atom_33 : decode cX10_atom 33 = .ok (.iconst 1, 1) := by decide +kernel
theorem dX10_atom_34 : decode cX10_atom 34 = .ok (.iadd, 1) := by decide +kernel
theorem dX10_atom_35 : decode cX10_atom 35 = .ok (.putfield 156, 3) := by decide +kernel
theorem dX10_atom_38 : decode cX10_atom 38 = .ok (.goto 125, 3) := by decide +kernel
theorem dX10_atom_41 : decode cX10_atom 41 = .ok (.aload_n 0, 1) := by decide +kernel
theorem dX10_atom_42 : decode cX10_atom 42 = .ok (.bipush 46, 2) := by decide +kernel
theorem dX10_atom_44 : decode cX10_atom 44 = .ok (.invokevirtual 174, 3) := by decide +kernel
theorem dX10_atom_47 : decode cX10_atom 47 = .ok (.ifCond .eq 23, 3) := by decide +kernel
theorem dX10_atom_50 : decode cX10_atom 50 = .ok (.aload_n 0, 1) := by decide +kernel
theorem dX10_atom_51 : decode cX10_atom 51 = .ok (.bipush 15, 2) := by decide +kernel
theorem dX10_atom_53 : decode cX10_atom 53 = .ok (.iload_n 1, 1) := by decide +kernel
theorem dX10_atom_54 : decode cX10_atom 54 = .ok (.invokevirtual 212, 3) := by decide +kernel
theorem dX10_atom_57 : decode cX10_atom 57 = .ok (.aload_n 0, 1) := by decide +kernel
theorem dX10_atom_58 : decode cX10_atom 58 = .ok (.dup, 1) := by decide +kernel
theorem dX10_atom_59 : decode cX10_atom 59 = .ok (.getfield 156, 3) := by decide +kernel
theorem dX10_atom_62 : decode cX10_atom 62 = .ok (.iconst 1, 1) := by decide +kernel
theorem dX10_atom_63 : decode cX10_atom 63 = .ok (.iadd, 1) := by decide +kernel
theorem dX10_atom_64 : decode cX10_atom 64 = .ok (.putfield 156, 3) := by decide +kernel
theorem dX10_atom_67 : decode cX10_atom 67 = .ok (.goto 96, 3) := by decide +kernel
theorem dX10_atom_70 : decode cX10_atom 70 = .ok (.aload_n 0, 1) := by decide +kernel
theorem dX10_atom_71 : decode cX10_atom 71 = .ok (.bipush 91, 2) := by decide +kernel
theorem dX10_atom_73 : decode cX10_atom 73 = .ok (.invokevirtual 174, 3) := by decide +kernel
theorem dX10_atom_76 : decode cX10_atom 76 = .ok (.ifCond .eq 57, 3) := by decide +kernel
theorem dX10_atom_79 : decode cX10_atom 79 = .ok (.aload_n 0, 1) := by decide +kernel
theorem dX10_atom_80 : decode cX10_atom 80 = .ok (.getfield 20, 3) := by decide +kernel
theorem dX10_atom_83 : decode cX10_atom 83 = .ok (.aload_n 0, 1) := by decide +kernel
theorem dX10_atom_84 : decode cX10_atom 84 = .ok (.getfield 188, 3) := by decide +kernel
theorem dX10_atom_87 : decode cX10_atom 87 = .ok (.iconst 1, 1) := by decide +kernel
theorem dX10_atom_88 : decode cX10_atom 88 = .ok (.isub, 1) := by decide +kernel
theorem dX10_atom_89 : decode cX10_atom 89 = .ok (.iaload, 1) := by decide +kernel
theorem dX10_atom_90 : decode cX10_atom 90 = .ok (.bipush 30, 2) := by decide +kernel
theorem dX10_atom_92 : decode cX10_atom 92 = .ok (.if_icmp .ne 9, 3) := by decide +kernel
theorem dX10_atom_95 : decode cX10_atom 95 = .ok (.aload_n 0, 1) := by decide +kernel
theorem dX10_atom_96 : decode cX10_atom 96 = .ok (.iconst 2, 1) := by decide +kernel
theorem dX10_atom_97 : decode cX10_atom 97 = .ok (.iload_n 1, 1) := by decide +kernel
theorem dX10_atom_98 : decode cX10_atom 98 = .ok (.invokevirtual 181, 3) := by decide +kernel
theorem dX10_atom_101 : decode cX10_atom 101 = .ok (.aload_n 0, 1) := by decide +kernel
theorem dX10_atom_102 : decode cX10_atom 102 = .ok (.getfield 178, 3) := by decide +kernel
theorem dX10_atom_105 : decode cX10_atom 105 = .ok (.ifCond .le 7, 3) := by decide +kernel
theorem dX10_atom_108 : decode cX10_atom 108 = .ok (.iconst 0, 1) := by decide +kernel
theorem dX10_atom_109 : decode cX10_atom 109 = .ok (.goto 7, 3) := by decide +kernel
theorem dX10_atom_112 : decode cX10_atom 112 = .ok (.aload_n 0, 1) := by decide +kernel
theorem dX10_atom_113 : decode cX10_atom 113 = .ok (.invokevirtual 215, 3) := by decide +kernel
theorem dX10_atom_116 : decode cX10_atom 116 = .ok (.istore_n 2, 1) := by decide +kernel
theorem dX10_atom_117 : decode cX10_atom 117 = .ok (.aload_n 0, 1) := by decide +kernel
theorem dX10_atom_118 : decode cX10_atom 118 = .ok (.getfield 178, 3) := by decide +kernel
theorem dX10_atom_121 : decode cX10_atom 121 = .ok (.ifCond .ne 9, 3) := by decide +kernel
theorem dX10_atom_124 : decode cX10_atom 124 = .ok (.aload_n 0, 1) := by decide +kernel
theorem dX10_atom_125 : decode cX10_atom 125 = .ok (.iload_n 2, 1) := by decide +kernel
theorem dX10_atom_126 : decode cX10_atom 126 = .ok (.iload_n 1, 1) := by decide +kernel
theorem dX10_atom_127 : decode cX10_atom 127 = .ok (.invokevirtual 212, 3) := by decide +kernel
theorem dX10_atom_130 : decode cX10_atom 130 = .ok (.goto 33, 3) := by decide +kernel
theorem dX10_atom_133 : decode cX10_atom 133 = .ok (.aload_n 0, 1) := by decide +kernel
theorem dX10_atom_134 : decode cX10_atom 134 = .ok (.aload_n 0, 1) := by decide +kernel
theorem dX10_atom_135 : decode cX10_atom 135 = .ok (.bipush 49, 2) := by decide +kernel
theorem dX10_atom_137 : decode cX10_atom 137 = .ok (.invokevirtual 174, 3) := by decide +kernel
theorem dX10_atom_140 : decode cX10_atom 140 = .ok (.putfield 195, 3) := by decide +kernel
theorem dX10_atom_143 : decode cX10_atom 143 = .ok (.aload_n 0, 1) := by decide +kernel
theorem dX10_atom_144 : decode cX10_atom 144 = .ok (.iconst 0, 1) := by decide +kernel
theorem dX10_atom_145 : decode cX10_atom 145 = .ok (.putfield 199, 3) := by decide +kernel
theorem dX10_atom_148 : decode cX10_atom 148 = .ok (.aload_n 0, 1) := by decide +kernel
theorem dX10_atom_149 : decode cX10_atom 149 = .ok (.iconst 0, 1) := by decide +kernel
theorem dX10_atom_150 : decode cX10_atom 150 = .ok (.putfield 202, 3) := by decide +kernel
theorem dX10_atom_153 : decode cX10_atom 153 = .ok (.aload_n 0, 1) := by decide +kernel
theorem dX10_atom_154 : decode cX10_atom 154 = .ok (.dup, 1) := by decide +kernel
theorem dX10_atom_155 : decode cX10_atom 155 = .ok (.getfield 156, 3) := by decide +kernel
theorem dX10_atom_158 : decode cX10_atom 158 = .ok (.iconst 1, 1) := by decide +kernel
theorem dX10_atom_159 : decode cX10_atom 159 = .ok (.iadd, 1) := by decide +kernel
theorem dX10_atom_160 : decode cX10_atom 160 = .ok (.putfield 156, 3) := by decide +kernel
theorem dX10_atom_163 : decode cX10_atom 163 = .ok (.return_, 1) := by decide +kernel
theorem dX10_part_0 : decode cX10_part 0 = .ok (.aload_n 0, 1) := by decide +kernel
theorem dX10_part_1 : decode cX10_part 1 = .ok (.getfield 188, 3) := by decide +kernel
theorem dX10_part_4 : decode cX10_part 4 = .ok (.bipush 6, 2) := by decide +kernel
theorem dX10_part_6 : decode cX10_part 6 = .ok (.if_icmp .ne 13, 3) := by decide +kernel
theorem dX10_part_9 : decode cX10_part 9 = .ok (.aload_n 0, 1) := by decide +kernel
theorem dX10_part_10 : decode cX10_part 10 = .ok (.iconst 2, 1) := by decide +kernel
theorem dX10_part_11 : decode cX10_part 11 = .ok (.aload_n 0, 1) := by decide +kernel
theorem dX10_part_12 : decode cX10_part 12 = .ok (.getfield 156, 3) := by decide +kernel
theorem dX10_part_15 : decode cX10_part 15 = .ok (.invokevirtual 181, 3) := by decide +kernel
theorem dX10_part_18 : decode cX10_part 18 = .ok (.return_, 1) := by decide +kernel
theorem dX10_part_19 : decode cX10_part 19 = .ok (.aload_n 0, 1) := by decide +kernel
theorem dX10_part_20 : decode cX10_part 20 = .ok (.dup, 1) := by decide +kernel
theorem dX10_part_21 : decode cX10_part 21 = .ok (.getfield 188, 3) := by decide +kernel
theorem dX10_part_24 : decode cX10_part 24 = .ok (.iconst 1, 1) := by decide +kernel
theorem dX10_part_25 : decode cX10_part 25 = .ok (.iadd, 1) := by decide +kernel
theorem dX10_part_26 : decode cX10_part 26 = .ok (.putfield 188, 3) := by decide +kernel
theorem dX10_part_29 : decode cX10_part 29 = .ok (.aload_n 0, 1) := by decide +kernel
theorem dX10_part_30 : decode cX10_part 30 = .ok (.getfield 20, 3) := by decide +kernel
theorem dX10_part_33 : decode cX10_part 33 = .ok (.aload_n 0, 1) := by decide +kernel
theorem dX10_part_34 : decode cX10_part 34 = .ok (.getfield 188, 3) := by decide +kernel
theorem dX10_part_37 : decode cX10_part 37 = .ok (.iconst 1, 1) := by decide +kernel
theorem dX10_part_38 : decode cX10_part 38 = .ok (.isub, 1) := by decide +kernel
theorem dX10_part_39 : decode cX10_part 39 = .ok (.iconst 0, 1) := by decide +kernel
theorem dX10_part_40 : decode cX10_part 40 = .ok (.iastore, 1) := by decide +kernel
theorem dX10_part_41 : decode cX10_part 41 = .ok (.aload_n 0, 1) := by decide +kernel
theorem dX10_part_42 : decode cX10_part 42 = .ok (.iconst 0, 1) := by decide +kernel
theorem dX10_part_43 : decode cX10_part 43 = .ok (.putfield 185, 3) := by decide +kernel
theorem dX10_part_46 : decode cX10_part 46 = .ok (.aload_n 0, 1) := by decide +kernel
theorem dX10_part_47 : decode cX10_part 47 = .ok (.invokevirtual 218, 3) := by decide +kernel
theorem dX10_part_50 : decode cX10_part 50 = .ok (.iconst 1, 1) := by decide +kernel
theorem dX10_part_51 : decode cX10_part 51 = .ok (.istore_n 1, 1) := by decide +kernel
theorem dX10_part_52 : decode cX10_part 52 = .ok (.iload_n 1, 1) := by decide +kernel
theorem dX10_part_53 : decode cX10_part 53 = .ok (.ifCond .eq 251, 3) := by decide +kernel
theorem dX10_part_56 : decode cX10_part 56 = .ok (.aload_n 0, 1) := by decide +kernel
theorem dX10_part_57 : decode cX10_part 57 = .ok (.getfield 178, 3) := by decide +kernel
theorem dX10_part_60 : decode cX10_part 60 = .ok (.ifCond .ne 244, 3) := by decide +kernel
theorem dX10_part_63 : decode cX10_part 63 = .ok (.aload_n 0, 1) := by decide +kernel
theorem dX10_part_64 : decode cX10_part 64 = .ok (.aload_n 0, 1) := by decide +kernel
theorem dX10_part_65 : decode cX10_part 65 = .ok (.invokevirtual 221, 3) := by decide +kernel
theorem dX10_part_68 : decode cX10_part 68 = .ok (.invokevirtual 205, 3) := by decide +kernel
theorem dX10_part_71 : decode cX10_part 71 = .ok (.aload_n 0, 1) := by decide +kernel
theorem dX10_part_72 : decode cX10_part 72 = .ok (.getfield 178, 3) := by decide +kernel
theorem dX10_part_75 : decode cX10_part 75 = .ok (.ifCond .le 4, 3) := by decide +kernel
theorem dX10_part_78 : decode cX10_part 78 = .ok (.return_, 1) := by decide +kernel
theorem dX10_part_79 : decode cX10_part 79 = .ok (.aload_n 0, 1) := by decide +kernel
theorem dX10_part_80 : decode cX10_part 80 = .ok (.bipush 40, 2) := by decide +kernel
theorem dX10_part_82 : decode cX10_part 82 = .ok (.invokevirtual 174, 3) := by decide +kernel
theorem dX10_part_85 : decode cX10_part 85 = .ok (.ifCond .eq 56, 3) := by decide +kernel
theorem dX10_part_88 : decode cX10_part 88 = .ok (.aload_n 0, 1) := by decide +kernel
theorem dX10_part_89 : decode cX10_part 89 = .ok (.getfield 185, 3) := by decide +kernel
theorem dX10_part_92 : decode cX10_part 92 = .ok (.bipush 10, 2) := by decide +kernel
theorem dX10_part_94 : decode cX10_part 94 = .ok (.if_icmp .ne 12, 3) := by decide +kernel
theorem dX10_part_97 : decode cX10_part 97 = .ok (.aload_n 0, 1) := by decide +kernel
theorem dX10_part_98 : decode cX10_part 98 = .ok (.iconst 2, 1) := by decide +kernel
theorem dX10_part_99 : decode cX10_part 99 = .ok (.aload_n 0, 1) := by decide +kernel
theorem dX10_part_100 : decode cX10_part 100 = .ok (.getfield 156, 3) := by decide +kernel
theorem dX10_part_103 : decode cX10_part 103 = .ok (.invokevirtual 181, 3) := by decide +kernel
theorem dX10_part_106 : decode cX10_part 106 = .ok (.aload_n 0, 1) := by decide +kernel
theorem dX10_part_107 : decode cX10_part 107 = .ok (.getfield 178, 3) := by decide +kernel
theorem dX10_part_110 : decode cX10_part 110 = .ok (.ifCond .le 4, 3) := by decide +kernel
theorem dX10_part_113 : decode cX10_part 113 = .ok (.return_, 1) := by decide +kernel
theorem dX10_part_114 : decode cX10_part 114 = .ok (.aload_n 0, 1) := by decide +kernel
theorem dX10_part_115 : decode cX10_part 115 = .ok (.dup, 1) := by decide +kernel
theorem dX10_part_116 : decode cX10_part 116 = .ok (.getfield 185, 3) := by decide +kernel
theorem dX10_part_119 : decode cX10_part 119 = .ok (.iconst 1, 1) := by decide +kernel
theorem dX10_part_120 : decode cX10_part 120 = .ok (.iadd, 1) := by decide +kernel
theorem dX10_part_121 : decode cX10_part 121 = .ok (.putfield 185, 3) := by decide +kernel
theorem dX10_part_124 : decode cX10_part 124 = .ok (.aload_n 0, 1) := by decide +kernel
theorem dX10_part_125 : decode cX10_part 125 = .ok (.invokevirtual 218, 3) := by decide +kernel
theorem dX10_part_128 : decode cX10_part 128 = .ok (.aload_n 0, 1) := by decide +kernel
theorem dX10_part_129 : decode cX10_part 129 = .ok (.dup, 1) := by decide +kernel
theorem dX10_part_130 : decode cX10_part 130 = .ok (.getfield 156, 3) := by decide +kernel
theorem dX10_part_133 : decode cX10_part 133 = .ok (.iconst 1, 1) := by decide +kernel
theorem dX10_part_134 : decode cX10_part 134 = .ok (.iadd, 1) := by decide +kernel
theorem dX10_part_135 : decode cX10_part 135 = .ok (.putfield 156, 3) := by decide +kernel
theorem dX10_part_138 : decode cX10_part 138 = .ok (.goto (-86), 3) := by decide +kernel
theorem dX10_part_141 : decode cX10_part 141 = .ok (.aload_n 0, 1) := by decide +kernel
theorem dX10_part_142 : decode cX10_part 142 = .ok (.invokevirtual 224, 3) := by decide +kernel
theorem dX10_part_145 : decode cX10_part 145 = .ok (.aload_n 0, 1) := by decide +kernel
theorem dX10_part_146 : decode cX10_part 146 = .ok (.getfield 178, 3) := by decide +kernel
theorem dX10_part_149 : decode cX10_part 149 = .ok (.ifCond .le 4, 3) := by decide +kernel
theorem dX10_part_152 : decode cX10_part 152 = .ok (.return_, 1) := by decide +kernel
theorem dX10_part_153 : decode cX10_part 153 = .ok (.aload_n 0, 1) := by decide +kernel
theorem dX10_part_154 : decode cX10_part 154 = .ok (.invokevirtual 227, 3) := by decide +kernel
theorem dX10_part_157 : decode cX10_part 157 = .ok (.aload_n 0, 1) := by decide +kernel
theorem dX10_part_158 : decode cX10_part 158 = .ok (.getfield 178, 3) := by decide +kernel
theorem dX10_part_161 : decode cX10_part 161 = .ok (.ifCond .ne 89, 3) := by decide +kernel
theorem dX10_part_164 : decode cX10_part 164 = .ok (.aload_n 0, 1) := by decide +kernel
theorem dX10_part_165 : decode cX10_part 165 = .ok (.getfield 185, 3) := by decide +kernel
theorem dX10_part_168 : decode cX10_part 168 = .ok (.ifCond .le 82, 3) := by decide +kernel
theorem dX10_part_171 : decode cX10_part 171 = .ok (.aload_n 0, 1) := by decide +kernel
theorem dX10_part_172 : decode cX10_part 172 = .ok (.bipush 41, 2) := by decide +kernel
theorem dX10_part_174 : decode cX10_part 174 = .ok (.invokevirtual 174, 3) := by decide +kernel
theorem dX10_part_177 : decode cX10_part 177 = .ok (.ifCond .eq 73, 3) := by decide +kernel
theorem dX10_part_180 : decode cX10_part 180 = .ok (.aload_n 0, 1) := by decide +kernel
theorem dX10_part_181 : decode cX10_part 181 = .ok (.invokevirtual 230, 3) := by decide +kernel
theorem dX10_part_184 : decode cX10_part 184 = .ok (.aload_n 0, 1) := by decide +kernel
theorem dX10_part_185 : decode cX10_part 185 = .ok (.aload_n 0, 1) := by decide +kernel
theorem dX10_part_186 : decode cX10_part 186 = .ok (.getfield 88, 3) := by decide +kernel
theorem dX10_part_189 : decode cX10_part 189 = .ok (.aload_n 0, 1) := by decide +kernel
theorem dX10_part_190 : decode cX10_part 190 = .ok (.getfield 185, 3) := by decide +kernel
theorem dX10_part_193 : decode cX10_part 193 = .ok (.baload, 1) := by decide +kernel
theorem dX10_part_194 : decode cX10_part 194 = .ok (.putfield 195, 3) := by decide +kernel
theorem dX10_part_197 : decode cX10_part 197 = .ok (.aload_n 0, 1) := by decide +kernel
theorem dX10_part_198 : decode cX10_part 198 = .ok (.aload_n 0, 1) := by decide +kernel
theorem dX10_part_199 : decode cX10_part 199 = .ok (.getfield 91, 3) := by decide +kernel
theorem dX10_part_202 : decode cX10_part 202 = .ok (.aload_n 0, 1) := by decide +kernel
theorem dX10_part_203 : decode cX10_part 203 = .ok (.getfield 185, 3) := by decide +kernel
theorem dX10_part_206 : decode cX10_part 206 = .ok (.iaload, 1) := by decide +kernel
theorem dX10_part_207 : decode cX10_part 207 = .ok (.putfield 199, 3) := by decide +kernel
theorem dX10_part_210 : decode cX10_part 210 = .ok (.aload_n 0, 1) := by decide +kernel
theorem dX10_part_211 : decode cX10_part 211 = .ok (.aload_n 0, 1) := by decide +kernel
theorem dX10_part_212 : decode cX10_part 212 = .ok (.getfield 94, 3) := by decide +kernel
theorem dX10_part_215 : decode cX10_part 215 = .ok (.aload_n 0, 1) := by decide +kernel
theorem dX10_part_216 : decode cX10_part 216 = .ok (.getfield 185, 3) := by decide +kernel
theorem dX10_part_219 : decode cX10_part 219 = .ok (.iaload, 1) := by decide +kernel
theorem dX10_part_220 : decode cX10_part 220 = .ok (.putfield 202, 3) := by decide +kernel
theorem dX10_part_223 : decode cX10_part 223 = .ok (.aload_n 0, 1) := by decide +kernel
theorem dX10_part_224 : decode cX10_part 224 = .ok (.dup, 1) := by decide +kernel
theorem dX10_part_225 : decode cX10_part 225 = .ok (.getfield 185, 3) := by decide +kernel
theorem dX10_part_228 : decode cX10_part 228 = .ok (.iconst 1, 1) := by decide +kernel
theorem dX10_part_229 : decode cX10_part 229 = .ok (.isub, 1) := by decide +kernel
theorem dX10_part_230 : decode cX10_part 230 = .ok (.putfield 185, 3) := by decide +kernel
theorem dX10_part_233 : decode cX10_part 233 = .ok (.aload_n 0, 1) := by decide +kernel
theorem dX10_part_234 : decode cX10_part 234 = .ok (.dup, 1) := by decide +kernel
theorem dX10_part_235 : decode cX10_part 235 = .ok (.getfield 156, 3) := by decide +kernel
theorem dX10_part_238 : decode cX10_part 238 = .ok (.iconst 1, 1) := by decide +kernel
theorem dX10_part_239 : decode cX10_part 239 = .ok (.iadd, 1) := by decide +kernel
theorem dX10_part_240 : decode cX10_part 240 = .ok (.putfield 156, 3) := by decide +kernel
theorem dX10_part_243 : decode cX10_part 243 = .ok (.aload_n 0, 1) := by decide +kernel
theorem dX10_part_244 : decode cX10_part 244 = .ok (.invokevirtual 227, 3) := by decide +kernel
theorem dX10_part_247 : decode cX10_part 247 = .ok (.goto (-90), 3) := by decide +kernel
theorem dX10_part_250 : decode cX10_part 250 = .ok (.aload_n 0, 1) := by decide +kernel
theorem dX10_part_251 : decode cX10_part 251 = .ok (.bipush 124, 2) := by decide +kernel
theorem dX10_part_253 : decode cX10_part 253 = .ok (.invokevirtual 174, 3) := by decide +kernel
theorem dX10_part_256 : decode cX10_part 256 = .ok (.ifCond .eq 20, 3) := by decide +kernel
theorem dX10_part_259 : decode cX10_part 259 = .ok (.aload_n 0, 1) := by decide +kernel
theorem dX10_part_260 : decode cX10_part 260 = .ok (.invokevirtual 230, 3) := by decide +kernel
theorem dX10_part_263 : decode cX10_part 263 = .ok (.aload_n 0, 1) := by decide +kernel
theorem dX10_part_264 : decode cX10_part 264 = .ok (.dup, 1) := by decide +kernel
theorem dX10_part_265 : decode cX10_part 265 = .ok (.getfield 156, 3) := by decide +kernel
theorem dX10_part_268 : decode cX10_part 268 = .ok (.iconst 1, 1) := by decide +kernel
theorem dX10_part_269 : decode cX10_part 269 = .ok (.iadd, 1) := by decide +kernel
theorem dX10_part_270 : decode cX10_part 270 = .ok (.putfield 156, 3) := by decide +kernel
theorem dX10_part_273 : decode cX10_part 273 = .ok (.goto (-221), 3) := by decide +kernel
theorem dX10_part_276 : decode cX10_part 276 = .ok (.aload_n 0, 1) := by decide +kernel
theorem dX10_part_277 : decode cX10_part 277 = .ok (.invokevirtual 221, 3) := by decide +kernel
theorem dX10_part_280 : decode cX10_part 280 = .ok (.ifCond .ne (-228), 3) := by decide +kernel
theorem dX10_part_283 : decode cX10_part 283 = .ok (.aload_n 0, 1) := by decide +kernel
theorem dX10_part_284 : decode cX10_part 284 = .ok (.aload_n 0, 1) := by decide +kernel
theorem dX10_part_285 : decode cX10_part 285 = .ok (.getfield 185, 3) := by decide +kernel
theorem dX10_part_288 : decode cX10_part 288 = .ok (.ifCond .ne 7, 3) := by decide +kernel
theorem dX10_part_291 : decode cX10_part 291 = .ok (.iconst 1, 1) := by decide +kernel
theorem dX10_part_292 : decode cX10_part 292 = .ok (.goto 4, 3) := by decide +kernel
theorem dX10_part_295 : decode cX10_part 295 = .ok (.iconst 0, 1) := by decide +kernel
theorem dX10_part_296 : decode cX10_part 296 = .ok (.invokevirtual 205, 3) := by decide +kernel
theorem dX10_part_299 : decode cX10_part 299 = .ok (.iconst 0, 1) := by decide +kernel
theorem dX10_part_300 : decode cX10_part 300 = .ok (.istore_n 1, 1) := by decide +kernel
theorem dX10_part_301 : decode cX10_part 301 = .ok (.goto (-249), 3) := by decide +kernel
theorem dX10_part_304 : decode cX10_part 304 = .ok (.aload_n 0, 1) := by decide +kernel
theorem dX10_part_305 : decode cX10_part 305 = .ok (.getfield 178, 3) := by decide +kernel
theorem dX10_part_308 : decode cX10_part 308 = .ok (.ifCond .le 4, 3) := by decide +kernel
theorem dX10_part_311 : decode cX10_part 311 = .ok (.return_, 1) := by decide +kernel
theorem dX10_part_312 : decode cX10_part 312 = .ok (.aload_n 0, 1) := by decide +kernel
theorem dX10_part_313 : decode cX10_part 313 = .ok (.invokevirtual 230, 3) := by decide +kernel
theorem dX10_part_316 : decode cX10_part 316 = .ok (.aload_n 0, 1) := by decide +kernel
theorem dX10_part_317 : decode cX10_part 317 = .ok (.getfield 24, 3) := by decide +kernel
theorem dX10_part_320 : decode cX10_part 320 = .ok (.aload_n 0, 1) := by decide +kernel
theorem dX10_part_321 : decode cX10_part 321 = .ok (.getfield 188, 3) := by decide +kernel
theorem dX10_part_324 : decode cX10_part 324 = .ok (.iconst 1, 1) := by decide +kernel
theorem dX10_part_325 : decode cX10_part 325 = .ok (.isub, 1) := by decide +kernel
theorem dX10_part_326 : decode cX10_part 326 = .ok (.aload_n 0, 1) := by decide +kernel
theorem dX10_part_327 : decode cX10_part 327 = .ok (.getfield 88, 3) := by decide +kernel
theorem dX10_part_330 : decode cX10_part 330 = .ok (.iconst 0, 1) := by decide +kernel
theorem dX10_part_331 : decode cX10_part 331 = .ok (.baload, 1) := by decide +kernel
theorem dX10_part_332 : decode cX10_part 332 = .ok (.bastore, 1) := by decide +kernel
theorem dX10_part_333 : decode cX10_part 333 = .ok (.aload_n 0, 1) := by decide +kernel
theorem dX10_part_334 : decode cX10_part 334 = .ok (.getfield 28, 3) := by decide +kernel
theorem dX10_part_337 : decode cX10_part 337 = .ok (.aload_n 0, 1) := by decide +kernel
theorem dX10_part_338 : decode cX10_part 338 = .ok (.getfield 188, 3) := by decide +kernel
theorem dX10_part_341 : decode cX10_part 341 = .ok (.iconst 1, 1) := by decide +kernel
theorem dX10_part_342 : decode cX10_part 342 = .ok (.isub, 1) := by decide +kernel
theorem dX10_part_343 : decode cX10_part 343 = .ok (.aload_n 0, 1) := by decide +kernel
theorem dX10_part_344 : decode cX10_part 344 = .ok (.getfield 91, 3) := by decide +kernel
theorem dX10_part_347 : decode cX10_part 347 = .ok (.iconst 0, 1) := by decide +kernel
theorem dX10_part_348 : decode cX10_part 348 = .ok (.iaload, 1) := by decide +kernel
theorem dX10_part_349 : decode cX10_part 349 = .ok (.iastore, 1) := by decide +kernel
theorem dX10_part_350 : decode cX10_part 350 = .ok (.aload_n 0, 1) := by decide +kernel
theorem dX10_part_351 : decode cX10_part 351 = .ok (.getfield 31, 3) := by decide +kernel
theorem dX10_part_354 : decode cX10_part 354 = .ok (.aload_n 0, 1) := by decide +kernel
theorem dX10_part_355 : decode cX10_part 355 = .ok (.getfield 188, 3) := by decide +kernel
theorem dX10_part_358 : decode cX10_part 358 = .ok (.iconst 1, 1) := by decide +kernel
theorem dX10_part_359 : decode cX10_part 359 = .ok (.isub, 1) := by decide +kernel
theorem dX10_part_360 : decode cX10_part 360 = .ok (.aload_n 0, 1) := by decide +kernel
theorem dX10_part_361 : decode cX10_part 361 = .ok (.getfield 94, 3) := by decide +kernel
theorem dX10_part_364 : decode cX10_part 364 = .ok (.iconst 0, 1) := by decide +kernel
theorem dX10_part_365 : decode cX10_part 365 = .ok (.iaload, 1) := by decide +kernel
theorem dX10_part_366 : decode cX10_part 366 = .ok (.iastore, 1) := by decide +kernel
theorem dX10_part_367 : decode cX10_part 367 = .ok (.aload_n 0, 1) := by decide +kernel
theorem dX10_part_368 : decode cX10_part 368 = .ok (.aload_n 0, 1) := by decide +kernel
theorem dX10_part_369 : decode cX10_part 369 = .ok (.getfield 188, 3) := by decide +kernel
theorem dX10_part_372 : decode cX10_part 372 = .ok (.iconst 1, 1) := by decide +kernel
theorem dX10_part_373 : decode cX10_part 373 = .ok (.isub, 1) := by decide +kernel
theorem dX10_part_374 : decode cX10_part 374 = .ok (.invokevirtual 232, 3) := by decide +kernel
theorem dX10_part_377 : decode cX10_part 377 = .ok (.return_, 1) := by decide +kernel
theorem dX10_says_0 : decode cX10_says 0 = .ok (.aload_n 0, 1) := by decide +kernel
theorem dX10_says_1 : decode cX10_says 1 = .ok (.getfield 40, 3) := by decide +kernel
theorem dX10_says_4 : decode cX10_says 4 = .ok (.aload_n 0, 1) := by decide +kernel
theorem dX10_says_5 : decode cX10_says 5 = .ok (.getfield 235, 3) := by decide +kernel
theorem dX10_says_8 : decode cX10_says 8 = .ok (.iload_n 1, 1) := by decide +kernel
theorem dX10_says_9 : decode cX10_says 9 = .ok (.iastore, 1) := by decide +kernel
theorem dX10_says_10 : decode cX10_says 10 = .ok (.aload_n 0, 1) := by decide +kernel
theorem dX10_says_11 : decode cX10_says 11 = .ok (.dup, 1) := by decide +kernel
theorem dX10_says_12 : decode cX10_says 12 = .ok (.getfield 235, 3) := by decide +kernel
theorem dX10_says_15 : decode cX10_says 15 = .ok (.iconst 1, 1) := by decide +kernel
theorem dX10_says_16 : decode cX10_says 16 = .ok (.iadd, 1) := by decide +kernel
theorem dX10_says_17 : decode cX10_says 17 = .ok (.putfield 235, 3) := by decide +kernel
theorem dX10_says_20 : decode cX10_says 20 = .ok (.return_, 1) := by decide +kernel
theorem dX10_meetEnds_0 : decode cX10_meetEnds 0 = .ok (.aload_n 0, 1) := by decide +kernel
theorem dX10_meetEnds_1 : decode cX10_meetEnds 1 = .ok (.getfield 103, 3) := by decide +kernel
theorem dX10_meetEnds_4 : decode cX10_meetEnds 4 = .ok (.aload_n 0, 1) := by decide +kernel
theorem dX10_meetEnds_5 : decode cX10_meetEnds 5 = .ok (.getfield 238, 3) := by decide +kernel
theorem dX10_meetEnds_8 : decode cX10_meetEnds 8 = .ok (.baload, 1) := by decide +kernel
theorem dX10_meetEnds_9 : decode cX10_meetEnds 9 = .ok (.ifCond .eq 9, 3) := by decide +kernel
theorem dX10_meetEnds_12 : decode cX10_meetEnds 12 = .ok (.aload_n 0, 1) := by decide +kernel
theorem dX10_meetEnds_13 : decode cX10_meetEnds 13 = .ok (.bipush (-2), 2) := by decide +kernel
theorem dX10_meetEnds_15 : decode cX10_meetEnds 15 = .ok (.invokevirtual 232, 3) := by decide +kernel
theorem dX10_meetEnds_18 : decode cX10_meetEnds 18 = .ok (.aload_n 0, 1) := by decide +kernel
theorem dX10_meetEnds_19 : decode cX10_meetEnds 19 = .ok (.getfield 103, 3) := by decide +kernel
theorem dX10_meetEnds_22 : decode cX10_meetEnds 22 = .ok (.aload_n 0, 1) := by decide +kernel
theorem dX10_meetEnds_23 : decode cX10_meetEnds 23 = .ok (.getfield 238, 3) := by decide +kernel
theorem dX10_meetEnds_26 : decode cX10_meetEnds 26 = .ok (.iconst 0, 1) := by decide +kernel
theorem dX10_meetEnds_27 : decode cX10_meetEnds 27 = .ok (.bastore, 1) := by decide +kernel
theorem dX10_meetEnds_28 : decode cX10_meetEnds 28 = .ok (.return_, 1) := by decide +kernel
theorem dX10_sideEnds_0 : decode cX10_sideEnds 0 = .ok (.aload_n 0, 1) := by decide +kernel
theorem dX10_sideEnds_1 : decode cX10_sideEnds 1 = .ok (.getfield 241, 3) := by decide +kernel
theorem dX10_sideEnds_4 : decode cX10_sideEnds 4 = .ok (.ifCond .le 36, 3) := by decide +kernel
theorem dX10_sideEnds_7 : decode cX10_sideEnds 7 = .ok (.aload_n 0, 1) := by decide +kernel
theorem dX10_sideEnds_8 : decode cX10_sideEnds 8 = .ok (.getfield 97, 3) := by decide +kernel
theorem dX10_sideEnds_11 : decode cX10_sideEnds 11 = .ok (.aload_n 0, 1) := by decide +kernel
theorem dX10_sideEnds_12 : decode cX10_sideEnds 12 = .ok (.getfield 241, 3) := by decide +kernel
theorem dX10_sideEnds_15 : decode cX10_sideEnds 15 = .ok (.iconst 1, 1) := by decide +kernel
theorem dX10_sideEnds_16 : decode cX10_sideEnds 16 = .ok (.isub, 1) := by decide +kernel
theorem dX10_sideEnds_17 : decode cX10_sideEnds 17 = .ok (.baload, 1) := by decide +kernel
theorem dX10_sideEnds_18 : decode cX10_sideEnds 18 = .ok (.ifCond .ne 22, 3) := by decide +kernel
theorem dX10_sideEnds_21 : decode cX10_sideEnds 21 = .ok (.aload_n 0, 1) := by decide +kernel
theorem dX10_sideEnds_22 : decode cX10_sideEnds 22 = .ok (.bipush (-3), 2) := by decide +kernel
theorem dX10_sideEnds_24 : decode cX10_sideEnds 24 = .ok (.invokevirtual 232, 3) := by decide +kernel
theorem dX10_sideEnds_27 : decode cX10_sideEnds 27 = .ok (.aload_n 0, 1) := by decide +kernel
theorem dX10_sideEnds_28 : decode cX10_sideEnds 28 = .ok (.dup, 1) := by decide +kernel
theorem dX10_sideEnds_29 : decode cX10_sideEnds 29 = .ok (.getfield 241, 3) := by decide +kernel
theorem dX10_sideEnds_32 : decode cX10_sideEnds 32 = .ok (.iconst 1, 1) := by decide +kernel
theorem dX10_sideEnds_33 : decode cX10_sideEnds 33 = .ok (.isub, 1) := by decide +kernel
theorem dX10_sideEnds_34 : decode cX10_sideEnds 34 = .ok (.putfield 241, 3) := by decide +kernel
theorem dX10_sideEnds_37 : decode cX10_sideEnds 37 = .ok (.goto (-37), 3) := by decide +kernel
theorem dX10_sideEnds_40 : decode cX10_sideEnds 40 = .ok (.aload_n 0, 1) := by decide +kernel
theorem dX10_sideEnds_41 : decode cX10_sideEnds 41 = .ok (.getfield 100, 3) := by decide +kernel
theorem dX10_sideEnds_44 : decode cX10_sideEnds 44 = .ok (.aload_n 0, 1) := by decide +kernel
theorem dX10_sideEnds_45 : decode cX10_sideEnds 45 = .ok (.getfield 238, 3) := by decide +kernel
theorem dX10_sideEnds_48 : decode cX10_sideEnds 48 = .ok (.baload, 1) := by decide +kernel
theorem dX10_sideEnds_49 : decode cX10_sideEnds 49 = .ok (.ifCond .eq 8, 3) := by decide +kernel
theorem dX10_sideEnds_52 : decode cX10_sideEnds 52 = .ok (.aload_n 0, 1) := by decide +kernel
theorem dX10_sideEnds_53 : decode cX10_sideEnds 53 = .ok (.iconst (-1), 1) := by decide +kernel
theorem dX10_sideEnds_54 : decode cX10_sideEnds 54 = .ok (.invokevirtual 232, 3) := by decide +kernel
theorem dX10_sideEnds_57 : decode cX10_sideEnds 57 = .ok (.aload_n 0, 1) := by decide +kernel
theorem dX10_sideEnds_58 : decode cX10_sideEnds 58 = .ok (.getfield 100, 3) := by decide +kernel
theorem dX10_sideEnds_61 : decode cX10_sideEnds 61 = .ok (.aload_n 0, 1) := by decide +kernel
theorem dX10_sideEnds_62 : decode cX10_sideEnds 62 = .ok (.getfield 238, 3) := by decide +kernel
theorem dX10_sideEnds_65 : decode cX10_sideEnds 65 = .ok (.iconst 0, 1) := by decide +kernel
theorem dX10_sideEnds_66 : decode cX10_sideEnds 66 = .ok (.bastore, 1) := by decide +kernel
theorem dX10_sideEnds_67 : decode cX10_sideEnds 67 = .ok (.return_, 1) := by decide +kernel
theorem dX10_whole_0 : decode cX10_whole 0 = .ok (.aload_n 0, 1) := by decide +kernel
theorem dX10_whole_1 : decode cX10_whole 1 = .ok (.iconst 0, 1) := by decide +kernel
theorem dX10_whole_2 : decode cX10_whole 2 = .ok (.putfield 178, 3) := by decide +kernel
theorem dX10_whole_5 : decode cX10_whole 5 = .ok (.aload_n 0, 1) := by decide +kernel
theorem dX10_whole_6 : decode cX10_whole 6 = .ok (.iconst (-1), 1) := by decide +kernel
theorem dX10_whole_7 : decode cX10_whole 7 = .ok (.putfield 16, 3) := by decide +kernel
theorem dX10_whole_10 : decode cX10_whole 10 = .ok (.aload_n 0, 1) := by decide +kernel
theorem dX10_whole_11 : decode cX10_whole 11 = .ok (.iconst 0, 1) := by decide +kernel
theorem dX10_whole_12 : decode cX10_whole 12 = .ok (.putfield 156, 3) := by decide +kernel
theorem dX10_whole_15 : decode cX10_whole 15 = .ok (.aload_n 0, 1) := by decide +kernel
theorem dX10_whole_16 : decode cX10_whole 16 = .ok (.iconst 0, 1) := by decide +kernel
theorem dX10_whole_17 : decode cX10_whole 17 = .ok (.putfield 188, 3) := by decide +kernel
theorem dX10_whole_20 : decode cX10_whole 20 = .ok (.aload_n 0, 1) := by decide +kernel
theorem dX10_whole_21 : decode cX10_whole 21 = .ok (.iconst 0, 1) := by decide +kernel
theorem dX10_whole_22 : decode cX10_whole 22 = .ok (.putfield 235, 3) := by decide +kernel
theorem dX10_whole_25 : decode cX10_whole 25 = .ok (.aload_n 0, 1) := by decide +kernel
theorem dX10_whole_26 : decode cX10_whole 26 = .ok (.iconst 0, 1) := by decide +kernel
theorem dX10_whole_27 : decode cX10_whole 27 = .ok (.putfield 241, 3) := by decide +kernel
theorem dX10_whole_30 : decode cX10_whole 30 = .ok (.aload_n 0, 1) := by decide +kernel
theorem dX10_whole_31 : decode cX10_whole 31 = .ok (.iconst 0, 1) := by decide +kernel
theorem dX10_whole_32 : decode cX10_whole 32 = .ok (.putfield 238, 3) := by decide +kernel
theorem dX10_whole_35 : decode cX10_whole 35 = .ok (.aload_n 0, 1) := by decide +kernel
theorem dX10_whole_36 : decode cX10_whole 36 = .ok (.getfield 100, 3) := by decide +kernel
theorem dX10_whole_39 : decode cX10_whole 39 = .ok (.iconst 0, 1) := by decide +kernel
theorem dX10_whole_40 : decode cX10_whole 40 = .ok (.iconst 0, 1) := by decide +kernel
theorem dX10_whole_41 : decode cX10_whole 41 = .ok (.bastore, 1) := by decide +kernel
theorem dX10_whole_42 : decode cX10_whole 42 = .ok (.aload_n 0, 1) := by decide +kernel
theorem dX10_whole_43 : decode cX10_whole 43 = .ok (.getfield 103, 3) := by decide +kernel
theorem dX10_whole_46 : decode cX10_whole 46 = .ok (.iconst 0, 1) := by decide +kernel
theorem dX10_whole_47 : decode cX10_whole 47 = .ok (.iconst 0, 1) := by decide +kernel
theorem dX10_whole_48 : decode cX10_whole 48 = .ok (.bastore, 1) := by decide +kernel
theorem dX10_whole_49 : decode cX10_whole 49 = .ok (.iconst 1, 1) := by decide +kernel
theorem dX10_whole_50 : decode cX10_whole 50 = .ok (.istore_n 1, 1) := by decide +kernel
theorem dX10_whole_51 : decode cX10_whole 51 = .ok (.iload_n 1, 1) := by decide +kernel
theorem dX10_whole_52 : decode cX10_whole 52 = .ok (.ifCond .eq 326, 3) := by decide +kernel
theorem dX10_whole_55 : decode cX10_whole 55 = .ok (.aload_n 0, 1) := by decide +kernel
theorem dX10_whole_56 : decode cX10_whole 56 = .ok (.getfield 178, 3) := by decide +kernel
theorem dX10_whole_59 : decode cX10_whole 59 = .ok (.ifCond .ne 319, 3) := by decide +kernel
theorem dX10_whole_62 : decode cX10_whole 62 = .ok (.aload_n 0, 1) := by decide +kernel
theorem dX10_whole_63 : decode cX10_whole 63 = .ok (.getfield 178, 3) := by decide +kernel
theorem dX10_whole_66 : decode cX10_whole 66 = .ok (.ifCond .ne 124, 3) := by decide +kernel
theorem dX10_whole_69 : decode cX10_whole 69 = .ok (.aload_n 0, 1) := by decide +kernel
theorem dX10_whole_70 : decode cX10_whole 70 = .ok (.bipush 33, 2) := by decide +kernel
theorem dX10_whole_72 : decode cX10_whole 72 = .ok (.invokevirtual 174, 3) := by decide +kernel
theorem dX10_whole_75 : decode cX10_whole 75 = .ok (.ifCond .ne 12, 3) := by decide +kernel
theorem dX10_whole_78 : decode cX10_whole 78 = .ok (.aload_n 0, 1) := by decide +kernel
theorem dX10_whole_79 : decode cX10_whole 79 = .ok (.bipush 123, 2) := by decide +kernel
theorem dX10_whole_81 : decode cX10_whole 81 = .ok (.invokevirtual 174, 3) := by decide +kernel
theorem dX10_whole_84 : decode cX10_whole 84 = .ok (.ifCond .eq 106, 3) := by decide +kernel
theorem dX10_whole_87 : decode cX10_whole 87 = .ok (.aload_n 0, 1) := by decide +kernel
theorem dX10_whole_88 : decode cX10_whole 88 = .ok (.getfield 241, 3) := by decide +kernel
theorem dX10_whole_91 : decode cX10_whole 91 = .ok (.bipush 10, 2) := by decide +kernel
theorem dX10_whole_93 : decode cX10_whole 93 = .ok (.if_icmp .ne 12, 3) := by decide +kernel
theorem dX10_whole_96 : decode cX10_whole 96 = .ok (.aload_n 0, 1) := by decide +kernel
theorem dX10_whole_97 : decode cX10_whole 97 = .ok (.iconst 2, 1) := by decide +kernel
theorem dX10_whole_98 : decode cX10_whole 98 = .ok (.aload_n 0, 1) := by decide +kernel
theorem dX10_whole_99 : decode cX10_whole 99 = .ok (.getfield 156, 3) := by decide +kernel
theorem dX10_whole_102 : decode cX10_whole 102 = .ok (.invokevirtual 181, 3) := by decide +kernel
theorem dX10_whole_105 : decode cX10_whole 105 = .ok (.aload_n 0, 1) := by decide +kernel
theorem dX10_whole_106 : decode cX10_whole 106 = .ok (.getfield 178, 3) := by decide +kernel
theorem dX10_whole_109 : decode cX10_whole 109 = .ok (.ifCond .le 4, 3) := by decide +kernel
theorem dX10_whole_112 : decode cX10_whole 112 = .ok (.return_, 1) := by decide +kernel
theorem dX10_whole_113 : decode cX10_whole 113 = .ok (.aload_n 0, 1) := by decide +kernel
theorem dX10_whole_114 : decode cX10_whole 114 = .ok (.getfield 97, 3) := by decide +kernel
theorem dX10_whole_117 : decode cX10_whole 117 = .ok (.aload_n 0, 1) := by decide +kernel
theorem dX10_whole_118 : decode cX10_whole 118 = .ok (.getfield 241, 3) := by decide +kernel
theorem dX10_whole_121 : decode cX10_whole 121 = .ok (.aload_n 0, 1) := by decide +kernel
theorem dX10_whole_122 : decode cX10_whole 122 = .ok (.bipush 123, 2) := by decide +kernel
theorem dX10_whole_124 : decode cX10_whole 124 = .ok (.invokevirtual 174, 3) := by decide +kernel
theorem dX10_whole_127 : decode cX10_whole 127 = .ok (.bastore, 1) := by decide +kernel
theorem dX10_whole_128 : decode cX10_whole 128 = .ok (.aload_n 0, 1) := by decide +kernel
theorem dX10_whole_129 : decode cX10_whole 129 = .ok (.dup, 1) := by decide +kernel
theorem dX10_whole_130 : decode cX10_whole 130 = .ok (.getfield 241, 3) := by decide +kernel
theorem dX10_whole_133 : decode cX10_whole 133 = .ok (.iconst 1, 1) := by decide +kernel
theorem dX10_whole_134 : decode cX10_whole 134 = .ok (.iadd, 1) := by decide +kernel
theorem dX10_whole_135 : decode cX10_whole 135 = .ok (.putfield 241, 3) := by decide +kernel
theorem dX10_whole_138 : decode cX10_whole 138 = .ok (.aload_n 0, 1) := by decide +kernel
theorem dX10_whole_139 : decode cX10_whole 139 = .ok (.bipush 123, 2) := by decide +kernel
theorem dX10_whole_141 : decode cX10_whole 141 = .ok (.invokevirtual 174, 3) := by decide +kernel
theorem dX10_whole_144 : decode cX10_whole 144 = .ok (.ifCond .eq 33, 3) := by decide +kernel
theorem dX10_whole_147 : decode cX10_whole 147 = .ok (.aload_n 0, 1) := by decide +kernel
theorem dX10_whole_148 : decode cX10_whole 148 = .ok (.dup, 1) := by decide +kernel
theorem dX10_whole_149 : decode cX10_whole 149 = .ok (.getfield 238, 3) := by decide +kernel
theorem dX10_whole_152 : decode cX10_whole 152 = .ok (.iconst 1, 1) := by decide +kernel
theorem dX10_whole_153 : decode cX10_whole 153 = .ok (.iadd, 1) := by decide +kernel
theorem dX10_whole_154 : decode cX10_whole 154 = .ok (.putfield 238, 3) := by decide +kernel
theorem dX10_whole_157 : decode cX10_whole 157 = .ok (.aload_n 0, 1) := by decide +kernel
theorem dX10_whole_158 : decode cX10_whole 158 = .ok (.getfield 100, 3) := by decide +kernel
theorem dX10_whole_161 : decode cX10_whole 161 = .ok (.aload_n 0, 1) := by decide +kernel
theorem dX10_whole_162 : decode cX10_whole 162 = .ok (.getfield 238, 3) := by decide +kernel
theorem dX10_whole_165 : decode cX10_whole 165 = .ok (.iconst 0, 1) := by decide +kernel
theorem dX10_whole_166 : decode cX10_whole 166 = .ok (.bastore, 1) := by decide +kernel
theorem dX10_whole_167 : decode cX10_whole 167 = .ok (.aload_n 0, 1) := by decide +kernel
theorem dX10_whole_168 : decode cX10_whole 168 = .ok (.getfield 103, 3) := by decide +kernel
theorem dX10_whole_171 : decode cX10_whole 171 = .ok (.aload_n 0, 1) := by decide +kernel
theorem dX10_whole_172 : decode cX10_whole 172 = .ok (.getfield 238, 3) := by decide +kernel
theorem dX10_whole_175 : decode cX10_whole 175 = .ok (.iconst 0, 1) := by decide +kernel
theorem dX10_whole_176 : decode cX10_whole 176 = .ok (.bastore, 1) := by decide +kernel
theorem dX10_whole_177 : decode cX10_whole 177 = .ok (.aload_n 0, 1) := by decide +kernel
theorem dX10_whole_178 : decode cX10_whole 178 = .ok (.dup, 1) := by decide +kernel
theorem dX10_whole_179 : decode cX10_whole 179 = .ok (.getfield 156, 3) := by decide +kernel
theorem dX10_whole_182 : decode cX10_whole 182 = .ok (.iconst 1, 1) := by decide +kernel
theorem dX10_whole_183 : decode cX10_whole 183 = .ok (.iadd, 1) := by decide +kernel
theorem dX10_whole_184 : decode cX10_whole 184 = .ok (.putfield 156, 3) := by decide +kernel
theorem dX10_whole_187 : decode cX10_whole 187 = .ok (.goto (-125), 3) := by decide +kernel
theorem dX10_whole_190 : decode cX10_whole 190 = .ok (.aload_n 0, 1) := by decide +kernel
theorem dX10_whole_191 : decode cX10_whole 191 = .ok (.aload_n 0, 1) := by decide +kernel
theorem dX10_whole_192 : decode cX10_whole 192 = .ok (.invokevirtual 221, 3) := by decide +kernel
theorem dX10_whole_195 : decode cX10_whole 195 = .ok (.invokevirtual 205, 3) := by decide +kernel
theorem dX10_whole_198 : decode cX10_whole 198 = .ok (.aload_n 0, 1) := by decide +kernel
theorem dX10_whole_199 : decode cX10_whole 199 = .ok (.getfield 178, 3) := by decide +kernel
theorem dX10_whole_202 : decode cX10_whole 202 = .ok (.ifCond .ne 7, 3) := by decide +kernel
theorem dX10_whole_205 : decode cX10_whole 205 = .ok (.aload_n 0, 1) := by decide +kernel
theorem dX10_whole_206 : decode cX10_whole 206 = .ok (.invokevirtual 244, 3) := by decide +kernel
theorem dX10_whole_209 : decode cX10_whole 209 = .ok (.aload_n 0, 1) := by decide +kernel
theorem dX10_whole_210 : decode cX10_whole 210 = .ok (.getfield 178, 3) := by decide +kernel
theorem dX10_whole_213 : decode cX10_whole 213 = .ok (.ifCond .le 4, 3) := by decide +kernel
theorem dX10_whole_216 : decode cX10_whole 216 = .ok (.return_, 1) := by decide +kernel
theorem dX10_whole_217 : decode cX10_whole 217 = .ok (.aload_n 0, 1) := by decide +kernel
theorem dX10_whole_218 : decode cX10_whole 218 = .ok (.invokevirtual 247, 3) := by decide +kernel
theorem dX10_whole_221 : decode cX10_whole 221 = .ok (.aload_n 0, 1) := by decide +kernel
theorem dX10_whole_222 : decode cX10_whole 222 = .ok (.getfield 238, 3) := by decide +kernel
theorem dX10_whole_225 : decode cX10_whole 225 = .ok (.ifCond .le 53, 3) := by decide +kernel
theorem dX10_whole_228 : decode cX10_whole 228 = .ok (.aload_n 0, 1) := by decide +kernel
theorem dX10_whole_229 : decode cX10_whole 229 = .ok (.bipush 125, 2) := by decide +kernel
theorem dX10_whole_231 : decode cX10_whole 231 = .ok (.invokevirtual 174, 3) := by decide +kernel
theorem dX10_whole_234 : decode cX10_whole 234 = .ok (.ifCond .eq 44, 3) := by decide +kernel
theorem dX10_whole_237 : decode cX10_whole 237 = .ok (.aload_n 0, 1) := by decide +kernel
theorem dX10_whole_238 : decode cX10_whole 238 = .ok (.invokevirtual 250, 3) := by decide +kernel
theorem dX10_whole_241 : decode cX10_whole 241 = .ok (.aload_n 0, 1) := by decide +kernel
theorem dX10_whole_242 : decode cX10_whole 242 = .ok (.dup, 1) := by decide +kernel
theorem dX10_whole_243 : decode cX10_whole 243 = .ok (.getfield 238, 3) := by decide +kernel
theorem dX10_whole_246 : decode cX10_whole 246 = .ok (.iconst 1, 1) := by decide +kernel
theorem dX10_whole_247 : decode cX10_whole 247 = .ok (.isub, 1) := by decide +kernel
theorem dX10_whole_248 : decode cX10_whole 248 = .ok (.putfield 238, 3) := by decide +kernel
theorem dX10_whole_251 : decode cX10_whole 251 = .ok (.aload_n 0, 1) := by decide +kernel
theorem dX10_whole_252 : decode cX10_whole 252 = .ok (.dup, 1) := by decide +kernel
theorem dX10_whole_253 : decode cX10_whole 253 = .ok (.getfield 241, 3) := by decide +kernel
theorem dX10_whole_256 : decode cX10_whole 256 = .ok (.iconst 1, 1) := by decide +kernel
theorem dX10_whole_257 : decode cX10_whole 257 = .ok (.isub, 1) := by decide +kernel
theorem dX10_whole_258 : decode cX10_whole 258 = .ok (.putfield 241, 3) := by decide +kernel
theorem dX10_whole_261 : decode cX10_whole 261 = .ok (.aload_n 0, 1) := by decide +kernel
theorem dX10_whole_262 : decode cX10_whole 262 = .ok (.dup, 1) := by decide +kernel
theorem dX10_whole_263 : decode cX10_whole 263 = .ok (.getfield 156, 3) := by decide +kernel
theorem dX10_whole_266 : decode cX10_whole 266 = .ok (.iconst 1, 1) := by decide +kernel
theorem dX10_whole_267 : decode cX10_whole 267 = .ok (.iadd, 1) := by decide +kernel
theorem dX10_whole_268 : decode cX10_whole 268 = .ok (.putfield 156, 3) := by decide +kernel
theorem dX10_whole_271 : decode cX10_whole 271 = .ok (.aload_n 0, 1) := by decide +kernel
theorem dX10_whole_272 : decode cX10_whole 272 = .ok (.invokevirtual 247, 3) := by decide +kernel
theorem dX10_whole_275 : decode cX10_whole 275 = .ok (.goto (-54), 3) := by decide +kernel
theorem dX10_whole_278 : decode cX10_whole 278 = .ok (.aload_n 0, 1) := by decide +kernel
theorem dX10_whole_279 : decode cX10_whole 279 = .ok (.bipush 38, 2) := by decide +kernel
theorem dX10_whole_281 : decode cX10_whole 281 = .ok (.invokevirtual 174, 3) := by decide +kernel
theorem dX10_whole_284 : decode cX10_whole 284 = .ok (.ifCond .eq 26, 3) := by decide +kernel
theorem dX10_whole_287 : decode cX10_whole 287 = .ok (.aload_n 0, 1) := by decide +kernel
theorem dX10_whole_288 : decode cX10_whole 288 = .ok (.getfield 100, 3) := by decide +kernel
theorem dX10_whole_291 : decode cX10_whole 291 = .ok (.aload_n 0, 1) := by decide +kernel
theorem dX10_whole_292 : decode cX10_whole 292 = .ok (.getfield 238, 3) := by decide +kernel
theorem dX10_whole_295 : decode cX10_whole 295 = .ok (.iconst 1, 1) := by decide +kernel
theorem dX10_whole_296 : decode cX10_whole 296 = .ok (.bastore, 1) := by decide +kernel
theorem dX10_whole_297 : decode cX10_whole 297 = .ok (.aload_n 0, 1) := by decide +kernel
theorem dX10_whole_298 : decode cX10_whole 298 = .ok (.dup, 1) := by decide +kernel
theorem dX10_whole_299 : decode cX10_whole 299 = .ok (.getfield 156, 3) := by decide +kernel
theorem dX10_whole_302 : decode cX10_whole 302 = .ok (.iconst 1, 1) := by decide +kernel
theorem dX10_whole_303 : decode cX10_whole 303 = .ok (.iadd, 1) := by decide +kernel
theorem dX10_whole_304 : decode cX10_whole 304 = .ok (.putfield 156, 3) := by decide +kernel
theorem dX10_whole_307 : decode cX10_whole 307 = .ok (.goto (-256), 3) := by decide +kernel
theorem dX10_whole_310 : decode cX10_whole 310 = .ok (.aload_n 0, 1) := by decide +kernel
theorem dX10_whole_311 : decode cX10_whole 311 = .ok (.bipush 44, 2) := by decide +kernel
theorem dX10_whole_313 : decode cX10_whole 313 = .ok (.invokevirtual 174, 3) := by decide +kernel
theorem dX10_whole_316 : decode cX10_whole 316 = .ok (.ifCond .eq 30, 3) := by decide +kernel
theorem dX10_whole_319 : decode cX10_whole 319 = .ok (.aload_n 0, 1) := by decide +kernel
theorem dX10_whole_320 : decode cX10_whole 320 = .ok (.invokevirtual 250, 3) := by decide +kernel
theorem dX10_whole_323 : decode cX10_whole 323 = .ok (.aload_n 0, 1) := by decide +kernel
theorem dX10_whole_324 : decode cX10_whole 324 = .ok (.getfield 103, 3) := by decide +kernel
theorem dX10_whole_327 : decode cX10_whole 327 = .ok (.aload_n 0, 1) := by decide +kernel
theorem dX10_whole_328 : decode cX10_whole 328 = .ok (.getfield 238, 3) := by decide +kernel
theorem dX10_whole_331 : decode cX10_whole 331 = .ok (.iconst 1, 1) := by decide +kernel
theorem dX10_whole_332 : decode cX10_whole 332 = .ok (.bastore, 1) := by decide +kernel
theorem dX10_whole_333 : decode cX10_whole 333 = .ok (.aload_n 0, 1) := by decide +kernel
theorem dX10_whole_334 : decode cX10_whole 334 = .ok (.dup, 1) := by decide +kernel
theorem dX10_whole_335 : decode cX10_whole 335 = .ok (.getfield 156, 3) := by decide +kernel
theorem dX10_whole_338 : decode cX10_whole 338 = .ok (.iconst 1, 1) := by decide +kernel
theorem dX10_whole_339 : decode cX10_whole 339 = .ok (.iadd, 1) := by decide +kernel
theorem dX10_whole_340 : decode cX10_whole 340 = .ok (.putfield 156, 3) := by decide +kernel
theorem dX10_whole_343 : decode cX10_whole 343 = .ok (.goto (-292), 3) := by decide +kernel
theorem dX10_whole_346 : decode cX10_whole 346 = .ok (.aload_n 0, 1) := by decide +kernel
theorem dX10_whole_347 : decode cX10_whole 347 = .ok (.aload_n 0, 1) := by decide +kernel
theorem dX10_whole_348 : decode cX10_whole 348 = .ok (.getfield 156, 3) := by decide +kernel
theorem dX10_whole_351 : decode cX10_whole 351 = .ok (.aload_n 0, 1) := by decide +kernel
theorem dX10_whole_352 : decode cX10_whole 352 = .ok (.getfield 159, 3) := by decide +kernel
theorem dX10_whole_355 : decode cX10_whole 355 = .ok (.if_icmp .ne 14, 3) := by decide +kernel
theorem dX10_whole_358 : decode cX10_whole 358 = .ok (.aload_n 0, 1) := by decide +kernel
theorem dX10_whole_359 : decode cX10_whole 359 = .ok (.getfield 238, 3) := by decide +kernel
theorem dX10_whole_362 : decode cX10_whole 362 = .ok (.ifCond .ne 7, 3) := by decide +kernel
theorem dX10_whole_365 : decode cX10_whole 365 = .ok (.iconst 1, 1) := by decide +kernel
theorem dX10_whole_366 : decode cX10_whole 366 = .ok (.goto 4, 3) := by decide +kernel
theorem dX10_whole_369 : decode cX10_whole 369 = .ok (.iconst 0, 1) := by decide +kernel
theorem dX10_whole_370 : decode cX10_whole 370 = .ok (.invokevirtual 205, 3) := by decide +kernel
theorem dX10_whole_373 : decode cX10_whole 373 = .ok (.iconst 0, 1) := by decide +kernel
theorem dX10_whole_374 : decode cX10_whole 374 = .ok (.istore_n 1, 1) := by decide +kernel
theorem dX10_whole_375 : decode cX10_whole 375 = .ok (.goto (-324), 3) := by decide +kernel
theorem dX10_whole_378 : decode cX10_whole 378 = .ok (.aload_n 0, 1) := by decide +kernel
theorem dX10_whole_379 : decode cX10_whole 379 = .ok (.getfield 178, 3) := by decide +kernel
theorem dX10_whole_382 : decode cX10_whole 382 = .ok (.ifCond .ne 7, 3) := by decide +kernel
theorem dX10_whole_385 : decode cX10_whole 385 = .ok (.aload_n 0, 1) := by decide +kernel
theorem dX10_whole_386 : decode cX10_whole 386 = .ok (.invokevirtual 250, 3) := by decide +kernel
theorem dX10_whole_389 : decode cX10_whole 389 = .ok (.return_, 1) := by decide +kernel
theorem dX10_meant_0 : decode cX10_meant 0 = .ok (.iconst 0, 1) := by decide +kernel
theorem dX10_meant_1 : decode cX10_meant 1 = .ok (.istore_n 3, 1) := by decide +kernel
theorem dX10_meant_2 : decode cX10_meant 2 = .ok (.iconst 0, 1) := by decide +kernel
theorem dX10_meant_3 : decode cX10_meant 3 = .ok (.istore 4, 2) := by decide +kernel
theorem dX10_meant_5 : decode cX10_meant 5 = .ok (.iload 4, 2) := by decide +kernel
theorem dX10_meant_7 : decode cX10_meant 7 = .ok (.aload_n 0, 1) := by decide +kernel
theorem dX10_meant_8 : decode cX10_meant 8 = .ok (.getfield 235, 3) := by decide +kernel
theorem dX10_meant_11 : decode cX10_meant 11 = .ok (.if_icmp .ge 191, 3) := by decide +kernel
theorem dX10_meant_14 : decode cX10_meant 14 = .ok (.aload_n 0, 1) := by decide +kernel
theorem dX10_meant_15 : decode cX10_meant 15 = .ok (.getfield 40, 3) := by decide +kernel
theorem dX10_meant_18 : decode cX10_meant 18 = .ok (.iload 4, 2) := by decide +kernel
theorem dX10_meant_20 : decode cX10_meant 20 = .ok (.iaload, 1) := by decide +kernel
theorem dX10_meant_21 : decode cX10_meant 21 = .ok (.istore 5, 2) := by decide +kernel
theorem dX10_meant_23 : decode cX10_meant 23 = .ok (.iload 5, 2) := by decide +kernel
theorem dX10_meant_25 : decode cX10_meant 25 = .ok (.ifCond .lt 63, 3) := by decide +kernel
theorem dX10_meant_28 : decode cX10_meant 28 = .ok (.aload_n 0, 1) := by decide +kernel
theorem dX10_meant_29 : decode cX10_meant 29 = .ok (.getfield 106, 3) := by decide +kernel
theorem dX10_meant_32 : decode cX10_meant 32 = .ok (.iload_n 3, 1) := by decide +kernel
theorem dX10_meant_33 : decode cX10_meant 33 = .ok (.iload_n 2, 1) := by decide +kernel
theorem dX10_meant_34 : decode cX10_meant 34 = .ok (.ifCond .ne 13, 3) := by decide +kernel
theorem dX10_meant_37 : decode cX10_meant 37 = .ok (.aload_n 0, 1) := by decide +kernel
theorem dX10_meant_38 : decode cX10_meant 38 = .ok (.getfield 24, 3) := by decide +kernel
theorem dX10_meant_41 : decode cX10_meant 41 = .ok (.iload 5, 2) := by decide +kernel
theorem dX10_meant_43 : decode cX10_meant 43 = .ok (.baload, 1) := by decide +kernel
theorem dX10_meant_44 : decode cX10_meant 44 = .ok (.goto 37, 3) := by decide +kernel
theorem dX10_meant_47 : decode cX10_meant 47 = .ok (.aload_n 0, 1) := by decide +kernel
theorem dX10_meant_48 : decode cX10_meant 48 = .ok (.getfield 61, 3) := by decide +kernel
theorem dX10_meant_51 : decode cX10_meant 51 = .ok (.bipush 6, 2) := by decide +kernel
theorem dX10_meant_53 : decode cX10_meant 53 = .ok (.sipush 150, 3) := by decide +kernel
theorem dX10_meant_56 : decode cX10_meant 56 = .ok (.iload_n 1, 1) := by decide +kernel
theorem dX10_meant_57 : decode cX10_meant 57 = .ok (.imul, 1) := by decide +kernel
theorem dX10_meant_58 : decode cX10_meant 58 = .ok (.iload_n 2, 1) := by decide +kernel
theorem dX10_meant_59 : decode cX10_meant 59 = .ok (.iadd, 1) := by decide +kernel
theorem dX10_meant_60 : decode cX10_meant 60 = .ok (.imul, 1) := by decide +kernel
theorem dX10_meant_61 : decode cX10_meant 61 = .ok (.iload 5, 2) := by decide +kernel
theorem dX10_meant_63 : decode cX10_meant 63 = .ok (.iadd, 1) := by decide +kernel
theorem dX10_meant_64 : decode cX10_meant 64 = .ok (.iaload, 1) := by decide +kernel
theorem dX10_meant_65 : decode cX10_meant 65 = .ok (.aload_n 0, 1) := by decide +kernel
theorem dX10_meant_66 : decode cX10_meant 66 = .ok (.getfield 31, 3) := by decide +kernel
theorem dX10_meant_69 : decode cX10_meant 69 = .ok (.iload 5, 2) := by decide +kernel
theorem dX10_meant_71 : decode cX10_meant 71 = .ok (.iaload, 1) := by decide +kernel
theorem dX10_meant_72 : decode cX10_meant 72 = .ok (.iand, 1) := by decide +kernel
theorem dX10_meant_73 : decode cX10_meant 73 = .ok (.ifCond .eq 7, 3) := by decide +kernel
theorem dX10_meant_76 : decode cX10_meant 76 = .ok (.iconst 1, 1) := by decide +kernel
theorem dX10_meant_77 : decode cX10_meant 77 = .ok (.goto 4, 3) := by decide +kernel
theorem dX10_meant_80 : decode cX10_meant 80 = .ok (.iconst 0, 1) := by decide +kernel
theorem dX10_meant_81 : decode cX10_meant 81 = .ok (.bastore, 1) := by decide +kernel
theorem dX10_meant_82 : decode cX10_meant 82 = .ok (.iinc 3 1, 3) := by decide +kernel
theorem dX10_meant_85 : decode cX10_meant 85 = .ok (.goto 111, 3) := by decide +kernel
theorem dX10_meant_88 : decode cX10_meant 88 = .ok (.iload 5, 2) := by decide +kernel
theorem dX10_meant_90 : decode cX10_meant 90 = .ok (.bipush (-3), 2) := by decide +kernel
theorem dX10_meant_92 : decode cX10_meant 92 = .ok (.if_icmp .ne 30, 3) := by decide +kernel
theorem dX10_meant_95 : decode cX10_meant 95 = .ok (.aload_n 0, 1) := by decide +kernel
theorem dX10_meant_96 : decode cX10_meant 96 = .ok (.getfield 106, 3) := by decide +kernel
theorem dX10_meant_99 : decode cX10_meant 99 = .ok (.iload_n 3, 1) := by decide +kernel
theorem dX10_meant_100 : decode cX10_meant 100 = .ok (.iconst 1, 1) := by decide +kernel
theorem dX10_meant_101 : decode cX10_meant 101 = .ok (.isub, 1) := by decide +kernel
theorem dX10_meant_102 : decode cX10_meant 102 = .ok (.aload_n 0, 1) := by decide +kernel
theorem dX10_meant_103 : decode cX10_meant 103 = .ok (.getfield 106, 3) := by decide +kernel
theorem dX10_meant_106 : decode cX10_meant 106 = .ok (.iload_n 3, 1) := by decide +kernel
theorem dX10_meant_107 : decode cX10_meant 107 = .ok (.iconst 1, 1) := by decide +kernel
theorem dX10_meant_108 : decode cX10_meant 108 = .ok (.isub, 1) := by decide +kernel
theorem dX10_meant_109 : decode cX10_meant 109 = .ok (.baload, 1) := by decide +kernel
theorem dX10_meant_110 : decode cX10_meant 110 = .ok (.ifCond .ne 7, 3) := by decide +kernel
theorem dX10_meant_113 : decode cX10_meant 113 = .ok (.iconst 1, 1) := by decide +kernel
theorem dX10_meant_114 : decode cX10_meant 114 = .ok (.goto 4, 3) := by decide +kernel
theorem dX10_meant_117 : decode cX10_meant 117 = .ok (.iconst 0, 1) := by decide +kernel
theorem dX10_meant_118 : decode cX10_meant 118 = .ok (.bastore, 1) := by decide +kernel
theorem dX10_meant_119 : decode cX10_meant 119 = .ok (.goto 77, 3) := by decide +kernel
theorem dX10_meant_122 : decode cX10_meant 122 = .ok (.aload_n 0, 1) := by decide +kernel
theorem dX10_meant_123 : decode cX10_meant 123 = .ok (.getfield 106, 3) := by decide +kernel
theorem dX10_meant_126 : decode cX10_meant 126 = .ok (.iload_n 3, 1) := by decide +kernel
theorem dX10_meant_127 : decode cX10_meant 127 = .ok (.iconst 2, 1) := by decide +kernel
theorem dX10_meant_128 : decode cX10_meant 128 = .ok (.isub, 1) := by decide +kernel
theorem dX10_meant_129 : decode cX10_meant 129 = .ok (.iload 5, 2) := by decide +kernel
theorem dX10_meant_131 : decode cX10_meant 131 = .ok (.iconst (-1), 1) := by decide +kernel
theorem dX10_meant_132 : decode cX10_meant 132 = .ok (.if_icmp .ne 33, 3) := by decide +kernel
theorem dX10_meant_135 : decode cX10_meant 135 = .ok (.aload_n 0, 1) := by decide +kernel
theorem dX10_meant_136 : decode cX10_meant 136 = .ok (.getfield 106, 3) := by decide +kernel
theorem dX10_meant_139 : decode cX10_meant 139 = .ok (.iload_n 3, 1) := by decide +kernel
theorem dX10_meant_140 : decode cX10_meant 140 = .ok (.iconst 2, 1) := by decide +kernel
theorem dX10_meant_141 : decode cX10_meant 141 = .ok (.isub, 1) := by decide +kernel
theorem dX10_meant_142 : decode cX10_meant 142 = .ok (.baload, 1) := by decide +kernel
theorem dX10_meant_143 : decode cX10_meant 143 = .ok (.ifCond .eq 18, 3) := by decide +kernel
theorem dX10_meant_146 : decode cX10_meant 146 = .ok (.aload_n 0, 1) := by decide +kernel
theorem dX10_meant_147 : decode cX10_meant 147 = .ok (.getfield 106, 3) := by decide +kernel
theorem dX10_meant_150 : decode cX10_meant 150 = .ok (.iload_n 3, 1) := by decide +kernel
theorem dX10_meant_151 : decode cX10_meant 151 = .ok (.iconst 1, 1) := by decide +kernel
theorem dX10_meant_152 : decode cX10_meant 152 = .ok (.isub, 1) := by decide +kernel
theorem dX10_meant_153 : decode cX10_meant 153 = .ok (.baload, 1) := by decide +kernel
theorem dX10_meant_154 : decode cX10_meant 154 = .ok (.ifCond .eq 7, 3) := by decide +kernel
theorem dX10_meant_157 : decode cX10_meant 157 = .ok (.iconst 1, 1) := by decide +kernel
theorem dX10_meant_158 : decode cX10_meant 158 = .ok (.goto 34, 3) := by decide +kernel
theorem dX10_meant_161 : decode cX10_meant 161 = .ok (.iconst 0, 1) := by decide +kernel
theorem dX10_meant_162 : decode cX10_meant 162 = .ok (.goto 30, 3) := by decide +kernel
theorem dX10_meant_165 : decode cX10_meant 165 = .ok (.aload_n 0, 1) := by decide +kernel
theorem dX10_meant_166 : decode cX10_meant 166 = .ok (.getfield 106, 3) := by decide +kernel
theorem dX10_meant_169 : decode cX10_meant 169 = .ok (.iload_n 3, 1) := by decide +kernel
theorem dX10_meant_170 : decode cX10_meant 170 = .ok (.iconst 2, 1) := by decide +kernel
theorem dX10_meant_171 : decode cX10_meant 171 = .ok (.isub, 1) := by decide +kernel
theorem dX10_meant_172 : decode cX10_meant 172 = .ok (.baload, 1) := by decide +kernel
theorem dX10_meant_173 : decode cX10_meant 173 = .ok (.ifCond .ne 14, 3) := by decide +kernel
theorem dX10_meant_176 : decode cX10_meant 176 = .ok (.aload_n 0, 1) := by decide +kernel
theorem dX10_meant_177 : decode cX10_meant 177 = .ok (.getfield 106, 3) := by decide +kernel
theorem dX10_meant_180 : decode cX10_meant 180 = .ok (.iload_n 3, 1) := by decide +kernel
theorem dX10_meant_181 : decode cX10_meant 181 = .ok (.iconst 1, 1) := by decide +kernel
theorem dX10_meant_182 : decode cX10_meant 182 = .ok (.isub, 1) := by decide +kernel
theorem dX10_meant_183 : decode cX10_meant 183 = .ok (.baload, 1) := by decide +kernel
theorem dX10_meant_184 : decode cX10_meant 184 = .ok (.ifCond .eq 7, 3) := by decide +kernel
theorem dX10_meant_187 : decode cX10_meant 187 = .ok (.iconst 1, 1) := by decide +kernel
theorem dX10_meant_188 : decode cX10_meant 188 = .ok (.goto 4, 3) := by decide +kernel
theorem dX10_meant_191 : decode cX10_meant 191 = .ok (.iconst 0, 1) := by decide +kernel
theorem dX10_meant_192 : decode cX10_meant 192 = .ok (.bastore, 1) := by decide +kernel
theorem dX10_meant_193 : decode cX10_meant 193 = .ok (.iinc 3 (-1), 3) := by decide +kernel
theorem dX10_meant_196 : decode cX10_meant 196 = .ok (.iinc 4 1, 3) := by decide +kernel
theorem dX10_meant_199 : decode cX10_meant 199 = .ok (.goto (-194), 3) := by decide +kernel
theorem dX10_meant_202 : decode cX10_meant 202 = .ok (.aload_n 0, 1) := by decide +kernel
theorem dX10_meant_203 : decode cX10_meant 203 = .ok (.getfield 106, 3) := by decide +kernel
theorem dX10_meant_206 : decode cX10_meant 206 = .ok (.iconst 0, 1) := by decide +kernel
theorem dX10_meant_207 : decode cX10_meant 207 = .ok (.baload, 1) := by decide +kernel
theorem dX10_meant_208 : decode cX10_meant 208 = .ok (.ireturn, 1) := by decide +kernel
theorem dX10_makes_0 : decode cX10_makes 0 = .ok (.iconst 0, 1) := by decide +kernel
theorem dX10_makes_1 : decode cX10_makes 1 = .ok (.istore 4, 2) := by decide +kernel
theorem dX10_makes_3 : decode cX10_makes 3 = .ok (.iload 4, 2) := by decide +kernel
theorem dX10_makes_5 : decode cX10_makes 5 = .ok (.aload_n 0, 1) := by decide +kernel
theorem dX10_makes_6 : decode cX10_makes 6 = .ok (.getfield 188, 3) := by decide +kernel
theorem dX10_makes_9 : decode cX10_makes 9 = .ok (.if_icmp .ge 183, 3) := by decide +kernel
theorem dX10_makes_12 : decode cX10_makes 12 = .ok (.iload_n 2, 1) := by decide +kernel
theorem dX10_makes_13 : decode cX10_makes 13 = .ok (.ifCond .ne 13, 3) := by decide +kernel
theorem dX10_makes_16 : decode cX10_makes 16 = .ok (.aload_n 0, 1) := by decide +kernel
theorem dX10_makes_17 : decode cX10_makes 17 = .ok (.getfield 28, 3) := by decide +kernel
theorem dX10_makes_20 : decode cX10_makes 20 = .ok (.iload 4, 2) := by decide +kernel
theorem dX10_makes_22 : decode cX10_makes 22 = .ok (.iaload, 1) := by decide +kernel
theorem dX10_makes_23 : decode cX10_makes 23 = .ok (.goto 4, 3) := by decide +kernel
theorem dX10_makes_26 : decode cX10_makes 26 = .ok (.iconst 0, 1) := by decide +kernel
theorem dX10_makes_27 : decode cX10_makes 27 = .ok (.istore 5, 2) := by decide +kernel
theorem dX10_makes_29 : decode cX10_makes 29 = .ok (.iload_n 2, 1) := by decide +kernel
theorem dX10_makes_30 : decode cX10_makes 30 = .ok (.ifCond .ne 7, 3) := by decide +kernel
theorem dX10_makes_33 : decode cX10_makes 33 = .ok (.iconst 0, 1) := by decide +kernel
theorem dX10_makes_34 : decode cX10_makes 34 = .ok (.goto 21, 3) := by decide +kernel
theorem dX10_makes_37 : decode cX10_makes 37 = .ok (.aload_n 0, 1) := by decide +kernel
theorem dX10_makes_38 : decode cX10_makes 38 = .ok (.getfield 61, 3) := by decide +kernel
theorem dX10_makes_41 : decode cX10_makes 41 = .ok (.bipush 6, 2) := by decide +kernel
theorem dX10_makes_43 : decode cX10_makes 43 = .ok (.sipush 150, 3) := by decide +kernel
theorem dX10_makes_46 : decode cX10_makes 46 = .ok (.iload_n 1, 1) := by decide +kernel
theorem dX10_makes_47 : decode cX10_makes 47 = .ok (.imul, 1) := by decide +kernel
theorem dX10_makes_48 : decode cX10_makes 48 = .ok (.iload_n 2, 1) := by decide +kernel
theorem dX10_makes_49 : decode cX10_makes 49 = .ok (.iadd, 1) := by decide +kernel
theorem dX10_makes_50 : decode cX10_makes 50 = .ok (.imul, 1) := by decide +kernel
theorem dX10_makes_51 : decode cX10_makes 51 = .ok (.iload 4, 2) := by decide +kernel
theorem dX10_makes_53 : decode cX10_makes 53 = .ok (.iadd, 1) := by decide +kernel
theorem dX10_makes_54 : decode cX10_makes 54 = .ok (.iaload, 1) := by decide +kernel
theorem dX10_makes_55 : decode cX10_makes 55 = .ok (.istore 6, 2) := by decide +kernel
theorem dX10_makes_57 : decode cX10_makes 57 = .ok (.iconst 0, 1) := by decide +kernel
theorem dX10_makes_58 : decode cX10_makes 58 = .ok (.istore 7, 2) := by decide +kernel
theorem dX10_makes_60 : decode cX10_makes 60 = .ok (.iload 7, 2) := by decide +kernel
theorem dX10_makes_62 : decode cX10_makes 62 = .ok (.aload_n 0, 1) := by decide +kernel
theorem dX10_makes_63 : decode cX10_makes 63 = .ok (.getfield 20, 3) := by decide +kernel
theorem dX10_makes_66 : decode cX10_makes 66 = .ok (.iload 4, 2) := by decide +kernel
theorem dX10_makes_68 : decode cX10_makes 68 = .ok (.iaload, 1) := by decide +kernel
theorem dX10_makes_69 : decode cX10_makes 69 = .ok (.if_icmp .ge 42, 3) := by decide +kernel
theorem dX10_makes_72 : decode cX10_makes 72 = .ok (.iload 5, 2) := by decide +kernel
theorem dX10_makes_74 : decode cX10_makes 74 = .ok (.iload 6, 2) := by decide +kernel
theorem dX10_makes_76 : decode cX10_makes 76 = .ok (.iload 7, 2) := by decide +kernel
theorem dX10_makes_78 : decode cX10_makes 78 = .ok (.ishr, 1) := by decide +kernel
theorem dX10_makes_79 : decode cX10_makes 79 = .ok (.iconst 1, 1) := by decide +kernel
theorem dX10_makes_80 : decode cX10_makes 80 = .ok (.iand, 1) := by decide +kernel
theorem dX10_makes_81 : decode cX10_makes 81 = .ok (.iconst 1, 1) := by decide +kernel
theorem dX10_makes_82 : decode cX10_makes 82 = .ok (.if_icmp .ne 19, 3) := by decide +kernel
theorem dX10_makes_85 : decode cX10_makes 85 = .ok (.aload_n 0, 1) := by decide +kernel
theorem dX10_makes_86 : decode cX10_makes 86 = .ok (.getfield 37, 3) := by decide +kernel
theorem dX10_makes_89 : decode cX10_makes 89 = .ok (.bipush 30, 2) := by decide +kernel
theorem dX10_makes_91 : decode cX10_makes 91 = .ok (.iload 4, 2) := by decide +kernel
theorem dX10_makes_93 : decode cX10_makes 93 = .ok (.imul, 1) := by decide +kernel
theorem dX10_makes_94 : decode cX10_makes 94 = .ok (.iload 7, 2) := by decide +kernel
theorem dX10_makes_96 : decode cX10_makes 96 = .ok (.iadd, 1) := by decide +kernel
theorem dX10_makes_97 : decode cX10_makes 97 = .ok (.iaload, 1) := by decide +kernel
theorem dX10_makes_98 : decode cX10_makes 98 = .ok (.goto 4, 3) := by decide +kernel
theorem dX10_makes_101 : decode cX10_makes 101 = .ok (.iconst 0, 1) := by decide +kernel
theorem dX10_makes_102 : decode cX10_makes 102 = .ok (.ior, 1) := by decide +kernel
theorem dX10_makes_103 : decode cX10_makes 103 = .ok (.istore 5, 2) := by decide +kernel
theorem dX10_makes_105 : decode cX10_makes 105 = .ok (.iinc 7 1, 3) := by decide +kernel
theorem dX10_makes_108 : decode cX10_makes 108 = .ok (.goto (-48), 3) := by decide +kernel
theorem dX10_makes_111 : decode cX10_makes 111 = .ok (.aload_n 0, 1) := by decide +kernel
theorem dX10_makes_112 : decode cX10_makes 112 = .ok (.getfield 109, 3) := by decide +kernel
theorem dX10_makes_115 : decode cX10_makes 115 = .ok (.iload 4, 2) := by decide +kernel
theorem dX10_makes_117 : decode cX10_makes 117 = .ok (.iconst 0, 1) := by decide +kernel
theorem dX10_makes_118 : decode cX10_makes 118 = .ok (.iastore, 1) := by decide +kernel
theorem dX10_makes_119 : decode cX10_makes 119 = .ok (.iconst 0, 1) := by decide +kernel
theorem dX10_makes_120 : decode cX10_makes 120 = .ok (.istore 7, 2) := by decide +kernel
theorem dX10_makes_122 : decode cX10_makes 122 = .ok (.iload 7, 2) := by decide +kernel
theorem dX10_makes_124 : decode cX10_makes 124 = .ok (.aload_n 0, 1) := by decide +kernel
theorem dX10_makes_125 : decode cX10_makes 125 = .ok (.getfield 20, 3) := by decide +kernel
theorem dX10_makes_128 : decode cX10_makes 128 = .ok (.iload 4, 2) := by decide +kernel
theorem dX10_makes_130 : decode cX10_makes 130 = .ok (.iaload, 1) := by decide +kernel
theorem dX10_makes_131 : decode cX10_makes 131 = .ok (.if_icmp .ge 55, 3) := by decide +kernel
theorem dX10_makes_134 : decode cX10_makes 134 = .ok (.iload 5, 2) := by decide +kernel
theorem dX10_makes_136 : decode cX10_makes 136 = .ok (.iload 7, 2) := by decide +kernel
theorem dX10_makes_138 : decode cX10_makes 138 = .ok (.ishr, 1) := by decide +kernel
theorem dX10_makes_139 : decode cX10_makes 139 = .ok (.iconst 1, 1) := by decide +kernel
theorem dX10_makes_140 : decode cX10_makes 140 = .ok (.iand, 1) := by decide +kernel
theorem dX10_makes_141 : decode cX10_makes 141 = .ok (.iconst 1, 1) := by decide +kernel
theorem dX10_makes_142 : decode cX10_makes 142 = .ok (.if_icmp .ne 38, 3) := by decide +kernel
theorem dX10_makes_145 : decode cX10_makes 145 = .ok (.aload_n 0, 1) := by decide +kernel
theorem dX10_makes_146 : decode cX10_makes 146 = .ok (.getfield 34, 3) := by decide +kernel
theorem dX10_makes_149 : decode cX10_makes 149 = .ok (.bipush 30, 2) := by decide +kernel
theorem dX10_makes_151 : decode cX10_makes 151 = .ok (.iload 4, 2) := by decide +kernel
theorem dX10_makes_153 : decode cX10_makes 153 = .ok (.imul, 1) := by decide +kernel
theorem dX10_makes_154 : decode cX10_makes 154 = .ok (.iload 7, 2) := by decide +kernel
theorem dX10_makes_156 : decode cX10_makes 156 = .ok (.iadd, 1) := by decide +kernel
theorem dX10_makes_157 : decode cX10_makes 157 = .ok (.iaload, 1) := by decide +kernel
theorem dX10_makes_158 : decode cX10_makes 158 = .ok (.iload_n 3, 1) := by decide +kernel
theorem dX10_makes_159 : decode cX10_makes 159 = .ok (.ishr, 1) := by decide +kernel
theorem dX10_makes_160 : decode cX10_makes 160 = .ok (.iconst 1, 1) := by decide +kernel
theorem dX10_makes_161 : decode cX10_makes 161 = .ok (.iand, 1) := by decide +kernel
theorem dX10_makes_162 : decode cX10_makes 162 = .ok (.iconst 1, 1) := by decide +kernel
theorem dX10_makes_163 : decode cX10_makes 163 = .ok (.if_icmp .ne 17, 3) := by decide +kernel
theorem dX10_makes_166 : decode cX10_makes 166 = .ok (.aload_n 0, 1) := by decide +kernel
theorem dX10_makes_167 : decode cX10_makes 167 = .ok (.getfield 109, 3) := by decide +kernel
theorem dX10_makes_170 : decode cX10_makes 170 = .ok (.iload 4, 2) := by decide +kernel
theorem dX10_makes_172 : decode cX10_makes 172 = .ok (.dup2, 1) := by decide +kernel
theorem dX10_makes_173 : decode cX10_makes 173 = .ok (.iaload, 1) := by decide +kernel
theorem dX10_makes_174 : decode cX10_makes 174 = .ok (.iconst 1, 1) := by decide +kernel
theorem dX10_makes_175 : decode cX10_makes 175 = .ok (.iload 7, 2) := by decide +kernel
theorem dX10_makes_177 : decode cX10_makes 177 = .ok (.ishl, 1) := by decide +kernel
theorem dX10_makes_178 : decode cX10_makes 178 = .ok (.ior, 1) := by decide +kernel
theorem dX10_makes_179 : decode cX10_makes 179 = .ok (.iastore, 1) := by decide +kernel
theorem dX10_makes_180 : decode cX10_makes 180 = .ok (.iinc 7 1, 3) := by decide +kernel
theorem dX10_makes_183 : decode cX10_makes 183 = .ok (.goto (-61), 3) := by decide +kernel
theorem dX10_makes_186 : decode cX10_makes 186 = .ok (.iinc 4 1, 3) := by decide +kernel
theorem dX10_makes_189 : decode cX10_makes 189 = .ok (.goto (-186), 3) := by decide +kernel
theorem dX10_makes_192 : decode cX10_makes 192 = .ok (.return_, 1) := by decide +kernel
theorem dX10_find_0 : decode cX10_find 0 = .ok (.iconst 1, 1) := by decide +kernel
theorem dX10_find_1 : decode cX10_find 1 = .ok (.istore_n 3, 1) := by decide +kernel
theorem dX10_find_2 : decode cX10_find 2 = .ok (.iload_n 3, 1) := by decide +kernel
theorem dX10_find_3 : decode cX10_find 3 = .ok (.iload_n 2, 1) := by decide +kernel
theorem dX10_find_4 : decode cX10_find 4 = .ok (.if_icmp .ge 77, 3) := by decide +kernel
theorem dX10_find_7 : decode cX10_find 7 = .ok (.iconst 1, 1) := by decide +kernel
theorem dX10_find_8 : decode cX10_find 8 = .ok (.istore 4, 2) := by decide +kernel
theorem dX10_find_10 : decode cX10_find 10 = .ok (.iconst 0, 1) := by decide +kernel
theorem dX10_find_11 : decode cX10_find 11 = .ok (.istore 5, 2) := by decide +kernel
theorem dX10_find_13 : decode cX10_find 13 = .ok (.iload 5, 2) := by decide +kernel
theorem dX10_find_15 : decode cX10_find 15 = .ok (.aload_n 0, 1) := by decide +kernel
theorem dX10_find_16 : decode cX10_find 16 = .ok (.getfield 188, 3) := by decide +kernel
theorem dX10_find_19 : decode cX10_find 19 = .ok (.if_icmp .ge 49, 3) := by decide +kernel
theorem dX10_find_22 : decode cX10_find 22 = .ok (.iload 4, 2) := by decide +kernel
theorem dX10_find_24 : decode cX10_find 24 = .ok (.ifCond .eq 35, 3) := by decide +kernel
theorem dX10_find_27 : decode cX10_find 27 = .ok (.aload_n 0, 1) := by decide +kernel
theorem dX10_find_28 : decode cX10_find 28 = .ok (.getfield 61, 3) := by decide +kernel
theorem dX10_find_31 : decode cX10_find 31 = .ok (.bipush 6, 2) := by decide +kernel
theorem dX10_find_33 : decode cX10_find 33 = .ok (.sipush 150, 3) := by decide +kernel
theorem dX10_find_36 : decode cX10_find 36 = .ok (.iload_n 1, 1) := by decide +kernel
theorem dX10_find_37 : decode cX10_find 37 = .ok (.imul, 1) := by decide +kernel
theorem dX10_find_38 : decode cX10_find 38 = .ok (.iload_n 3, 1) := by decide +kernel
theorem dX10_find_39 : decode cX10_find 39 = .ok (.iadd, 1) := by decide +kernel
theorem dX10_find_40 : decode cX10_find 40 = .ok (.imul, 1) := by decide +kernel
theorem dX10_find_41 : decode cX10_find 41 = .ok (.iload 5, 2) := by decide +kernel
theorem dX10_find_43 : decode cX10_find 43 = .ok (.iadd, 1) := by decide +kernel
theorem dX10_find_44 : decode cX10_find 44 = .ok (.iaload, 1) := by decide +kernel
theorem dX10_find_45 : decode cX10_find 45 = .ok (.aload_n 0, 1) := by decide +kernel
theorem dX10_find_46 : decode cX10_find 46 = .ok (.getfield 109, 3) := by decide +kernel
theorem dX10_find_49 : decode cX10_find 49 = .ok (.iload 5, 2) := by decide +kernel
theorem dX10_find_51 : decode cX10_find 51 = .ok (.iaload, 1) := by decide +kernel
theorem dX10_find_52 : decode cX10_find 52 = .ok (.if_icmp .ne 7, 3) := by decide +kernel
theorem dX10_find_55 : decode cX10_find 55 = .ok (.iconst 1, 1) := by decide +kernel
theorem dX10_find_56 : decode cX10_find 56 = .ok (.goto 4, 3) := by decide +kernel
theorem dX10_find_59 : decode cX10_find 59 = .ok (.iconst 0, 1) := by decide +kernel
theorem dX10_find_60 : decode cX10_find 60 = .ok (.istore 4, 2) := by decide +kernel
theorem dX10_find_62 : decode cX10_find 62 = .ok (.iinc 5 1, 3) := by decide +kernel
theorem dX10_find_65 : decode cX10_find 65 = .ok (.goto (-52), 3) := by decide +kernel
theorem dX10_find_68 : decode cX10_find 68 = .ok (.iload 4, 2) := by decide +kernel
theorem dX10_find_70 : decode cX10_find 70 = .ok (.ifCond .eq 5, 3) := by decide +kernel
theorem dX10_find_73 : decode cX10_find 73 = .ok (.iload_n 3, 1) := by decide +kernel
theorem dX10_find_74 : decode cX10_find 74 = .ok (.ireturn, 1) := by decide +kernel
theorem dX10_find_75 : decode cX10_find 75 = .ok (.iinc 3 1, 3) := by decide +kernel
theorem dX10_find_78 : decode cX10_find 78 = .ok (.goto (-76), 3) := by decide +kernel
theorem dX10_find_81 : decode cX10_find 81 = .ok (.iconst (-1), 1) := by decide +kernel
theorem dX10_find_82 : decode cX10_find 82 = .ok (.ireturn, 1) := by decide +kernel
theorem dX10_builds_0 : decode cX10_builds 0 = .ok (.iconst 1, 1) := by decide +kernel
theorem dX10_builds_1 : decode cX10_builds 1 = .ok (.istore_n 2, 1) := by decide +kernel
theorem dX10_builds_2 : decode cX10_builds 2 = .ok (.iconst 0, 1) := by decide +kernel
theorem dX10_builds_3 : decode cX10_builds 3 = .ok (.istore_n 3, 1) := by decide +kernel
theorem dX10_builds_4 : decode cX10_builds 4 = .ok (.iload_n 3, 1) := by decide +kernel
theorem dX10_builds_5 : decode cX10_builds 5 = .ok (.bipush 6, 2) := by decide +kernel
theorem dX10_builds_7 : decode cX10_builds 7 = .ok (.if_icmp .ge 22, 3) := by decide +kernel
theorem dX10_builds_10 : decode cX10_builds 10 = .ok (.aload_n 0, 1) := by decide +kernel
theorem dX10_builds_11 : decode cX10_builds 11 = .ok (.getfield 61, 3) := by decide +kernel
theorem dX10_builds_14 : decode cX10_builds 14 = .ok (.sipush 900, 3) := by decide +kernel
theorem dX10_builds_17 : decode cX10_builds 17 = .ok (.iload_n 1, 1) := by decide +kernel
theorem dX10_builds_18 : decode cX10_builds 18 = .ok (.imul, 1) := by decide +kernel
theorem dX10_builds_19 : decode cX10_builds 19 = .ok (.iload_n 3, 1) := by decide +kernel
theorem dX10_builds_20 : decode cX10_builds 20 = .ok (.iadd, 1) := by decide +kernel
theorem dX10_builds_21 : decode cX10_builds 21 = .ok (.iconst 0, 1) := by decide +kernel
theorem dX10_builds_22 : decode cX10_builds 22 = .ok (.iastore, 1) := by decide +kernel
theorem dX10_builds_23 : decode cX10_builds 23 = .ok (.iinc 3 1, 3) := by decide +kernel
theorem dX10_builds_26 : decode cX10_builds 26 = .ok (.goto (-22), 3) := by decide +kernel
theorem dX10_builds_29 : decode cX10_builds 29 = .ok (.aload_n 0, 1) := by decide +kernel
theorem dX10_builds_30 : decode cX10_builds 30 = .ok (.getfield 67, 3) := by decide +kernel
theorem dX10_builds_33 : decode cX10_builds 33 = .ok (.sipush 150, 3) := by decide +kernel
theorem dX10_builds_36 : decode cX10_builds 36 = .ok (.iload_n 1, 1) := by decide +kernel
theorem dX10_builds_37 : decode cX10_builds 37 = .ok (.imul, 1) := by decide +kernel
theorem dX10_builds_38 : decode cX10_builds 38 = .ok (.iconst (-1), 1) := by decide +kernel
theorem dX10_builds_39 : decode cX10_builds 39 = .ok (.iastore, 1) := by decide +kernel
theorem dX10_builds_40 : decode cX10_builds 40 = .ok (.iconst 0, 1) := by decide +kernel
theorem dX10_builds_41 : decode cX10_builds 41 = .ok (.istore_n 3, 1) := by decide +kernel
theorem dX10_builds_42 : decode cX10_builds 42 = .ok (.iload_n 3, 1) := by decide +kernel
theorem dX10_builds_43 : decode cX10_builds 43 = .ok (.iload_n 2, 1) := by decide +kernel
theorem dX10_builds_44 : decode cX10_builds 44 = .ok (.if_icmp .ge 165, 3) := by decide +kernel
theorem dX10_builds_47 : decode cX10_builds 47 = .ok (.iconst 0, 1) := by decide +kernel
theorem dX10_builds_48 : decode cX10_builds 48 = .ok (.istore 4, 2) := by decide +kernel
theorem dX10_builds_50 : decode cX10_builds 50 = .ok (.iload 4, 2) := by decide +kernel
theorem dX10_builds_52 : decode cX10_builds 52 = .ok (.iconst 4, 1) := by decide +kernel
theorem dX10_builds_53 : decode cX10_builds 53 = .ok (.if_icmp .ge 150, 3) := by decide +kernel
theorem dX10_builds_56 : decode cX10_builds 56 = .ok (.aload_n 0, 1) := by decide +kernel
theorem dX10_builds_57 : decode cX10_builds 57 = .ok (.iload_n 1, 1) := by decide +kernel
theorem dX10_builds_58 : decode cX10_builds 58 = .ok (.iload_n 3, 1) := by decide +kernel
theorem dX10_builds_59 : decode cX10_builds 59 = .ok (.iload 4, 2) := by decide +kernel
theorem dX10_builds_61 : decode cX10_builds 61 = .ok (.invokevirtual 253, 3) := by decide +kernel
theorem dX10_builds_64 : decode cX10_builds 64 = .ok (.aload_n 0, 1) := by decide +kernel
theorem dX10_builds_65 : decode cX10_builds 65 = .ok (.iload_n 1, 1) := by decide +kernel
theorem dX10_builds_66 : decode cX10_builds 66 = .ok (.iload_n 2, 1) := by decide +kernel
theorem dX10_builds_67 : decode cX10_builds 67 = .ok (.invokevirtual 257, 3) := by decide +kernel
theorem dX10_builds_70 : decode cX10_builds 70 = .ok (.istore 5, 2) := by decide +kernel
theorem dX10_builds_72 : decode cX10_builds 72 = .ok (.iload 5, 2) := by decide +kernel
theorem dX10_builds_74 : decode cX10_builds 74 = .ok (.iconst (-1), 1) := by decide +kernel
theorem dX10_builds_75 : decode cX10_builds 75 = .ok (.if_icmp .ne 103, 3) := by decide +kernel
theorem dX10_builds_78 : decode cX10_builds 78 = .ok (.iload_n 2, 1) := by decide +kernel
theorem dX10_builds_79 : decode cX10_builds 79 = .ok (.sipush 150, 3) := by decide +kernel
theorem dX10_builds_82 : decode cX10_builds 82 = .ok (.if_icmp .ne 6, 3) := by decide +kernel
theorem dX10_builds_85 : decode cX10_builds 85 = .ok (.bipush (-2), 2) := by decide +kernel
theorem dX10_builds_87 : decode cX10_builds 87 = .ok (.ireturn, 1) := by decide +kernel
theorem dX10_builds_88 : decode cX10_builds 88 = .ok (.iload_n 2, 1) := by decide +kernel
theorem dX10_builds_89 : decode cX10_builds 89 = .ok (.istore 5, 2) := by decide +kernel
theorem dX10_builds_91 : decode cX10_builds 91 = .ok (.iinc 2 1, 3) := by decide +kernel
theorem dX10_builds_94 : decode cX10_builds 94 = .ok (.iconst 0, 1) := by decide +kernel
theorem dX10_builds_95 : decode cX10_builds 95 = .ok (.istore 6, 2) := by decide +kernel
theorem dX10_builds_97 : decode cX10_builds 97 = .ok (.iload 6, 2) := by decide +kernel
theorem dX10_builds_99 : decode cX10_builds 99 = .ok (.bipush 6, 2) := by decide +kernel
theorem dX10_builds_101 : decode cX10_builds 101 = .ok (.if_icmp .ge 48, 3) := by decide +kernel
theorem dX10_builds_104 : decode cX10_builds 104 = .ok (.aload_n 0, 1) := by decide +kernel
theorem dX10_builds_105 : decode cX10_builds 105 = .ok (.getfield 61, 3) := by decide +kernel
theorem dX10_builds_108 : decode cX10_builds 108 = .ok (.bipush 6, 2) := by decide +kernel
theorem dX10_builds_110 : decode cX10_builds 110 = .ok (.sipush 150, 3) := by decide +kernel
theorem dX10_builds_113 : decode cX10_builds 113 = .ok (.iload_n 1, 1) := by decide +kernel
theorem dX10_builds_114 : decode cX10_builds 114 = .ok (.imul, 1) := by decide +kernel
theorem dX10_builds_115 : decode cX10_builds 115 = .ok (.iload 5, 2) := by decide +kernel
theorem dX10_builds_117 : decode cX10_builds 117 = .ok (.iadd, 1) := by decide +kernel
theorem dX10_builds_118 : decode cX10_builds 118 = .ok (.imul, 1) := by decide +kernel
theorem dX10_builds_119 : decode cX10_builds 119 = .ok (.iload 6, 2) := by decide +kernel
theorem dX10_builds_121 : decode cX10_builds 121 = .ok (.iadd, 1) := by decide +kernel
theorem dX10_builds_122 : decode cX10_builds 122 = .ok (.iload 6, 2) := by decide +kernel
theorem dX10_builds_124 : decode cX10_builds 124 = .ok (.aload_n 0, 1) := by decide +kernel
theorem dX10_builds_125 : decode cX10_builds 125 = .ok (.getfield 188, 3) := by decide +kernel
theorem dX10_builds_128 : decode cX10_builds 128 = .ok (.if_icmp .ge 13, 3) := by decide +kernel
theorem dX10_builds_131 : decode cX10_builds 131 = .ok (.aload_n 0, 1) := by decide +kernel
theorem dX10_builds_132 : decode cX10_builds 132 = .ok (.getfield 109, 3) := by decide +kernel
theorem dX10_builds_135 : decode cX10_builds 135 = .ok (.iload 6, 2) := by decide +kernel
theorem dX10_builds_137 : decode cX10_builds 137 = .ok (.iaload, 1) := by decide +kernel
theorem dX10_builds_138 : decode cX10_builds 138 = .ok (.goto 4, 3) := by decide +kernel
theorem dX10_builds_141 : decode cX10_builds 141 = .ok (.iconst 0, 1) := by decide +kernel
theorem dX10_builds_142 : decode cX10_builds 142 = .ok (.iastore, 1) := by decide +kernel
theorem dX10_builds_143 : decode cX10_builds 143 = .ok (.iinc 6 1, 3) := by decide +kernel
theorem dX10_builds_146 : decode cX10_builds 146 = .ok (.goto (-49), 3) := by decide +kernel
theorem dX10_builds_149 : decode cX10_builds 149 = .ok (.aload_n 0, 1) := by decide +kernel
theorem dX10_builds_150 : decode cX10_builds 150 = .ok (.getfield 67, 3) := by decide +kernel
theorem dX10_builds_153 : decode cX10_builds 153 = .ok (.sipush 150, 3) := by decide +kernel
theorem dX10_builds_156 : decode cX10_builds 156 = .ok (.iload_n 1, 1) := by decide +kernel
theorem dX10_builds_157 : decode cX10_builds 157 = .ok (.imul, 1) := by decide +kernel
theorem dX10_builds_158 : decode cX10_builds 158 = .ok (.iload 5, 2) := by decide +kernel
theorem dX10_builds_160 : decode cX10_builds 160 = .ok (.iadd, 1) := by decide +kernel
theorem dX10_builds_161 : decode cX10_builds 161 = .ok (.iload_n 3, 1) := by decide +kernel
theorem dX10_builds_162 : decode cX10_builds 162 = .ok (.iastore, 1) := by decide +kernel
theorem dX10_builds_163 : decode cX10_builds 163 = .ok (.aload_n 0, 1) := by decide +kernel
theorem dX10_builds_164 : decode cX10_builds 164 = .ok (.getfield 70, 3) := by decide +kernel
theorem dX10_builds_167 : decode cX10_builds 167 = .ok (.sipush 150, 3) := by decide +kernel
theorem dX10_builds_170 : decode cX10_builds 170 = .ok (.iload_n 1, 1) := by decide +kernel
theorem dX10_builds_171 : decode cX10_builds 171 = .ok (.imul, 1) := by decide +kernel
theorem dX10_builds_172 : decode cX10_builds 172 = .ok (.iload 5, 2) := by decide +kernel
theorem dX10_builds_174 : decode cX10_builds 174 = .ok (.iadd, 1) := by decide +kernel
theorem dX10_builds_175 : decode cX10_builds 175 = .ok (.iload 4, 2) := by decide +kernel
theorem dX10_builds_177 : decode cX10_builds 177 = .ok (.iastore, 1) := by decide +kernel
theorem dX10_builds_178 : decode cX10_builds 178 = .ok (.aload_n 0, 1) := by decide +kernel
theorem dX10_builds_179 : decode cX10_builds 179 = .ok (.getfield 55, 3) := by decide +kernel
theorem dX10_builds_182 : decode cX10_builds 182 = .ok (.iconst 4, 1) := by decide +kernel
theorem dX10_builds_183 : decode cX10_builds 183 = .ok (.sipush 150, 3) := by decide +kernel
theorem dX10_builds_186 : decode cX10_builds 186 = .ok (.iload_n 1, 1) := by decide +kernel
theorem dX10_builds_187 : decode cX10_builds 187 = .ok (.imul, 1) := by decide +kernel
theorem dX10_builds_188 : decode cX10_builds 188 = .ok (.iload_n 3, 1) := by decide +kernel
theorem dX10_builds_189 : decode cX10_builds 189 = .ok (.iadd, 1) := by decide +kernel
theorem dX10_builds_190 : decode cX10_builds 190 = .ok (.imul, 1) := by decide +kernel
theorem dX10_builds_191 : decode cX10_builds 191 = .ok (.iload 4, 2) := by decide +kernel
theorem dX10_builds_193 : decode cX10_builds 193 = .ok (.iadd, 1) := by decide +kernel
theorem dX10_builds_194 : decode cX10_builds 194 = .ok (.iload 5, 2) := by decide +kernel
theorem dX10_builds_196 : decode cX10_builds 196 = .ok (.iastore, 1) := by decide +kernel
theorem dX10_builds_197 : decode cX10_builds 197 = .ok (.iinc 4 1, 3) := by decide +kernel
theorem dX10_builds_200 : decode cX10_builds 200 = .ok (.goto (-150), 3) := by decide +kernel
theorem dX10_builds_203 : decode cX10_builds 203 = .ok (.iinc 3 1, 3) := by decide +kernel
theorem dX10_builds_206 : decode cX10_builds 206 = .ok (.goto (-164), 3) := by decide +kernel
theorem dX10_builds_209 : decode cX10_builds 209 = .ok (.iconst 0, 1) := by decide +kernel
theorem dX10_builds_210 : decode cX10_builds 210 = .ok (.istore_n 3, 1) := by decide +kernel
theorem dX10_builds_211 : decode cX10_builds 211 = .ok (.iload_n 3, 1) := by decide +kernel
theorem dX10_builds_212 : decode cX10_builds 212 = .ok (.iload_n 2, 1) := by decide +kernel
theorem dX10_builds_213 : decode cX10_builds 213 = .ok (.if_icmp .ge 27, 3) := by decide +kernel
theorem dX10_builds_216 : decode cX10_builds 216 = .ok (.aload_n 0, 1) := by decide +kernel
theorem dX10_builds_217 : decode cX10_builds 217 = .ok (.getfield 58, 3) := by decide +kernel
theorem dX10_builds_220 : decode cX10_builds 220 = .ok (.sipush 150, 3) := by decide +kernel
theorem dX10_builds_223 : decode cX10_builds 223 = .ok (.iload_n 1, 1) := by decide +kernel
theorem dX10_builds_224 : decode cX10_builds 224 = .ok (.imul, 1) := by decide +kernel
theorem dX10_builds_225 : decode cX10_builds 225 = .ok (.iload_n 3, 1) := by decide +kernel
theorem dX10_builds_226 : decode cX10_builds 226 = .ok (.iadd, 1) := by decide +kernel
theorem dX10_builds_227 : decode cX10_builds 227 = .ok (.aload_n 0, 1) := by decide +kernel
theorem dX10_builds_228 : decode cX10_builds 228 = .ok (.iload_n 1, 1) := by decide +kernel
theorem dX10_builds_229 : decode cX10_builds 229 = .ok (.iload_n 3, 1) := by decide +kernel
theorem dX10_builds_230 : decode cX10_builds 230 = .ok (.invokevirtual 261, 3) := by decide +kernel
theorem dX10_builds_233 : decode cX10_builds 233 = .ok (.bastore, 1) := by decide +kernel
theorem dX10_builds_234 : decode cX10_builds 234 = .ok (.iinc 3 1, 3) := by decide +kernel
theorem dX10_builds_237 : decode cX10_builds 237 = .ok (.goto (-26), 3) := by decide +kernel
theorem dX10_builds_240 : decode cX10_builds 240 = .ok (.iload_n 2, 1) := by decide +kernel
theorem dX10_builds_241 : decode cX10_builds 241 = .ok (.ireturn, 1) := by decide +kernel
theorem dX10_areAlike_0 : decode cX10_areAlike 0 = .ok (.aload_n 0, 1) := by decide +kernel
theorem dX10_areAlike_1 : decode cX10_areAlike 1 = .ok (.getfield 64, 3) := by decide +kernel
theorem dX10_areAlike_4 : decode cX10_areAlike 4 = .ok (.sipush 150, 3) := by decide +kernel
theorem dX10_areAlike_7 : decode cX10_areAlike 7 = .ok (.iload_n 1, 1) := by decide +kernel
theorem dX10_areAlike_8 : decode cX10_areAlike 8 = .ok (.imul, 1) := by decide +kernel
theorem dX10_areAlike_9 : decode cX10_areAlike 9 = .ok (.iload_n 2, 1) := by decide +kernel
theorem dX10_areAlike_10 : decode cX10_areAlike 10 = .ok (.iadd, 1) := by decide +kernel
theorem dX10_areAlike_11 : decode cX10_areAlike 11 = .ok (.iaload, 1) := by decide +kernel
theorem dX10_areAlike_12 : decode cX10_areAlike 12 = .ok (.aload_n 0, 1) := by decide +kernel
theorem dX10_areAlike_13 : decode cX10_areAlike 13 = .ok (.getfield 64, 3) := by decide +kernel
theorem dX10_areAlike_16 : decode cX10_areAlike 16 = .ok (.sipush 150, 3) := by decide +kernel
theorem dX10_areAlike_19 : decode cX10_areAlike 19 = .ok (.iload_n 1, 1) := by decide +kernel
theorem dX10_areAlike_20 : decode cX10_areAlike 20 = .ok (.imul, 1) := by decide +kernel
theorem dX10_areAlike_21 : decode cX10_areAlike 21 = .ok (.iload_n 3, 1) := by decide +kernel
theorem dX10_areAlike_22 : decode cX10_areAlike 22 = .ok (.iadd, 1) := by decide +kernel
theorem dX10_areAlike_23 : decode cX10_areAlike 23 = .ok (.iaload, 1) := by decide +kernel
theorem dX10_areAlike_24 : decode cX10_areAlike 24 = .ok (.if_icmp .eq 5, 3) := by decide +kernel
theorem dX10_areAlike_27 : decode cX10_areAlike 27 = .ok (.iconst 0, 1) := by decide +kernel
theorem dX10_areAlike_28 : decode cX10_areAlike 28 = .ok (.ireturn, 1) := by decide +kernel
theorem dX10_areAlike_29 : decode cX10_areAlike 29 = .ok (.iconst 0, 1) := by decide +kernel
theorem dX10_areAlike_30 : decode cX10_areAlike 30 = .ok (.istore 4, 2) := by decide +kernel
theorem dX10_areAlike_32 : decode cX10_areAlike 32 = .ok (.iload 4, 2) := by decide +kernel
theorem dX10_areAlike_34 : decode cX10_areAlike 34 = .ok (.iconst 4, 1) := by decide +kernel
theorem dX10_areAlike_35 : decode cX10_areAlike 35 = .ok (.if_icmp .ge 70, 3) := by decide +kernel
theorem dX10_areAlike_38 : decode cX10_areAlike 38 = .ok (.aload_n 0, 1) := by decide +kernel
theorem dX10_areAlike_39 : decode cX10_areAlike 39 = .ok (.getfield 64, 3) := by decide +kernel
theorem dX10_areAlike_42 : decode cX10_areAlike 42 = .ok (.sipush 150, 3) := by decide +kernel
theorem dX10_areAlike_45 : decode cX10_areAlike 45 = .ok (.iload_n 1, 1) := by decide +kernel
theorem dX10_areAlike_46 : decode cX10_areAlike 46 = .ok (.imul, 1) := by decide +kernel
theorem dX10_areAlike_47 : decode cX10_areAlike 47 = .ok (.aload_n 0, 1) := by decide +kernel
theorem dX10_areAlike_48 : decode cX10_areAlike 48 = .ok (.getfield 55, 3) := by decide +kernel
theorem dX10_areAlike_51 : decode cX10_areAlike 51 = .ok (.iconst 4, 1) := by decide +kernel
theorem dX10_areAlike_52 : decode cX10_areAlike 52 = .ok (.sipush 150, 3) := by decide +kernel
theorem dX10_areAlike_55 : decode cX10_areAlike 55 = .ok (.iload_n 1, 1) := by decide +kernel
theorem dX10_areAlike_56 : decode cX10_areAlike 56 = .ok (.imul, 1) := by decide +kernel
theorem dX10_areAlike_57 : decode cX10_areAlike 57 = .ok (.iload_n 2, 1) := by decide +kernel
theorem dX10_areAlike_58 : decode cX10_areAlike 58 = .ok (.iadd, 1) := by decide +kernel
theorem dX10_areAlike_59 : decode cX10_areAlike 59 = .ok (.imul, 1) := by decide +kernel
theorem dX10_areAlike_60 : decode cX10_areAlike 60 = .ok (.iload 4, 2) := by decide +kernel
theorem dX10_areAlike_62 : decode cX10_areAlike 62 = .ok (.iadd, 1) := by decide +kernel
theorem dX10_areAlike_63 : decode cX10_areAlike 63 = .ok (.iaload, 1) := by decide +kernel
theorem dX10_areAlike_64 : decode cX10_areAlike 64 = .ok (.iadd, 1) := by decide +kernel
theorem dX10_areAlike_65 : decode cX10_areAlike 65 = .ok (.iaload, 1) := by decide +kernel
theorem dX10_areAlike_66 : decode cX10_areAlike 66 = .ok (.aload_n 0, 1) := by decide +kernel
theorem dX10_areAlike_67 : decode cX10_areAlike 67 = .ok (.getfield 64, 3) := by decide +kernel
theorem dX10_areAlike_70 : decode cX10_areAlike 70 = .ok (.sipush 150, 3) := by decide +kernel
theorem dX10_areAlike_73 : decode cX10_areAlike 73 = .ok (.iload_n 1, 1) := by decide +kernel
theorem dX10_areAlike_74 : decode cX10_areAlike 74 = .ok (.imul, 1) := by decide +kernel
theorem dX10_areAlike_75 : decode cX10_areAlike 75 = .ok (.aload_n 0, 1) := by decide +kernel
theorem dX10_areAlike_76 : decode cX10_areAlike 76 = .ok (.getfield 55, 3) := by decide +kernel
theorem dX10_areAlike_79 : decode cX10_areAlike 79 = .ok (.iconst 4, 1) := by decide +kernel
theorem dX10_areAlike_80 : decode cX10_areAlike 80 = .ok (.sipush 150, 3) := by decide +kernel
theorem dX10_areAlike_83 : decode cX10_areAlike 83 = .ok (.iload_n 1, 1) := by decide +kernel
theorem dX10_areAlike_84 : decode cX10_areAlike 84 = .ok (.imul, 1) := by decide +kernel
theorem dX10_areAlike_85 : decode cX10_areAlike 85 = .ok (.iload_n 3, 1) := by decide +kernel
theorem dX10_areAlike_86 : decode cX10_areAlike 86 = .ok (.iadd, 1) := by decide +kernel
theorem dX10_areAlike_87 : decode cX10_areAlike 87 = .ok (.imul, 1) := by decide +kernel
theorem dX10_areAlike_88 : decode cX10_areAlike 88 = .ok (.iload 4, 2) := by decide +kernel
theorem dX10_areAlike_90 : decode cX10_areAlike 90 = .ok (.iadd, 1) := by decide +kernel
theorem dX10_areAlike_91 : decode cX10_areAlike 91 = .ok (.iaload, 1) := by decide +kernel
theorem dX10_areAlike_92 : decode cX10_areAlike 92 = .ok (.iadd, 1) := by decide +kernel
theorem dX10_areAlike_93 : decode cX10_areAlike 93 = .ok (.iaload, 1) := by decide +kernel
theorem dX10_areAlike_94 : decode cX10_areAlike 94 = .ok (.if_icmp .eq 5, 3) := by decide +kernel
theorem dX10_areAlike_97 : decode cX10_areAlike 97 = .ok (.iconst 0, 1) := by decide +kernel
theorem dX10_areAlike_98 : decode cX10_areAlike 98 = .ok (.ireturn, 1) := by decide +kernel
theorem dX10_areAlike_99 : decode cX10_areAlike 99 = .ok (.iinc 4 1, 3) := by decide +kernel
theorem dX10_areAlike_102 : decode cX10_areAlike 102 = .ok (.goto (-70), 3) := by decide +kernel
theorem dX10_areAlike_105 : decode cX10_areAlike 105 = .ok (.iconst 1, 1) := by decide +kernel
theorem dX10_areAlike_106 : decode cX10_areAlike 106 = .ok (.ireturn, 1) := by decide +kernel
theorem dX10_divides_0 : decode cX10_divides 0 = .ok (.iconst 0, 1) := by decide +kernel
theorem dX10_divides_1 : decode cX10_divides 1 = .ok (.istore_n 3, 1) := by decide +kernel
theorem dX10_divides_2 : decode cX10_divides 2 = .ok (.iload_n 3, 1) := by decide +kernel
theorem dX10_divides_3 : decode cX10_divides 3 = .ok (.iload_n 2, 1) := by decide +kernel
theorem dX10_divides_4 : decode cX10_divides 4 = .ok (.if_icmp .ge 51, 3) := by decide +kernel
theorem dX10_divides_7 : decode cX10_divides 7 = .ok (.aload_n 0, 1) := by decide +kernel
theorem dX10_divides_8 : decode cX10_divides 8 = .ok (.getfield 64, 3) := by decide +kernel
theorem dX10_divides_11 : decode cX10_divides 11 = .ok (.sipush 150, 3) := by decide +kernel
theorem dX10_divides_14 : decode cX10_divides 14 = .ok (.iload_n 1, 1) := by decide +kernel
theorem dX10_divides_15 : decode cX10_divides 15 = .ok (.imul, 1) := by decide +kernel
theorem dX10_divides_16 : decode cX10_divides 16 = .ok (.iload_n 3, 1) := by decide +kernel
theorem dX10_divides_17 : decode cX10_divides 17 = .ok (.iadd, 1) := by decide +kernel
theorem dX10_divides_18 : decode cX10_divides 18 = .ok (.aload_n 0, 1) := by decide +kernel
theorem dX10_divides_19 : decode cX10_divides 19 = .ok (.getfield 58, 3) := by decide +kernel
theorem dX10_divides_22 : decode cX10_divides 22 = .ok (.sipush 150, 3) := by decide +kernel
theorem dX10_divides_25 : decode cX10_divides 25 = .ok (.iload_n 1, 1) := by decide +kernel
theorem dX10_divides_26 : decode cX10_divides 26 = .ok (.imul, 1) := by decide +kernel
theorem dX10_divides_27 : decode cX10_divides 27 = .ok (.iload_n 3, 1) := by decide +kernel
theorem dX10_divides_28 : decode cX10_divides 28 = .ok (.iadd, 1) := by decide +kernel
theorem dX10_divides_29 : decode cX10_divides 29 = .ok (.baload, 1) := by decide +kernel
theorem dX10_divides_30 : decode cX10_divides 30 = .ok (.aload_n 0, 1) := by decide +kernel
theorem dX10_divides_31 : decode cX10_divides 31 = .ok (.getfield 58, 3) := by decide +kernel
theorem dX10_divides_34 : decode cX10_divides 34 = .ok (.sipush 150, 3) := by decide +kernel
theorem dX10_divides_37 : decode cX10_divides 37 = .ok (.iload_n 1, 1) := by decide +kernel
theorem dX10_divides_38 : decode cX10_divides 38 = .ok (.imul, 1) := by decide +kernel
theorem dX10_divides_39 : decode cX10_divides 39 = .ok (.baload, 1) := by decide +kernel
theorem dX10_divides_40 : decode cX10_divides 40 = .ok (.if_icmp .ne 7, 3) := by decide +kernel
theorem dX10_divides_43 : decode cX10_divides 43 = .ok (.iconst 0, 1) := by decide +kernel
theorem dX10_divides_44 : decode cX10_divides 44 = .ok (.goto 4, 3) := by decide +kernel
theorem dX10_divides_47 : decode cX10_divides 47 = .ok (.iconst 1, 1) := by decide +kernel
theorem dX10_divides_48 : decode cX10_divides 48 = .ok (.iastore, 1) := by decide +kernel
theorem dX10_divides_49 : decode cX10_divides 49 = .ok (.iinc 3 1, 3) := by decide +kernel
theorem dX10_divides_52 : decode cX10_divides 52 = .ok (.goto (-50), 3) := by decide +kernel
theorem dX10_divides_55 : decode cX10_divides 55 = .ok (.iconst 0, 1) := by decide +kernel
theorem dX10_divides_56 : decode cX10_divides 56 = .ok (.istore_n 3, 1) := by decide +kernel
theorem dX10_divides_57 : decode cX10_divides 57 = .ok (.iconst 1, 1) := by decide +kernel
theorem dX10_divides_58 : decode cX10_divides 58 = .ok (.istore 4, 2) := by decide +kernel
theorem dX10_divides_60 : decode cX10_divides 60 = .ok (.iload 4, 2) := by decide +kernel
theorem dX10_divides_62 : decode cX10_divides 62 = .ok (.iload_n 3, 1) := by decide +kernel
theorem dX10_divides_63 : decode cX10_divides 63 = .ok (.if_icmp .eq 133, 3) := by decide +kernel
theorem dX10_divides_66 : decode cX10_divides 66 = .ok (.iload 4, 2) := by decide +kernel
theorem dX10_divides_68 : decode cX10_divides 68 = .ok (.istore_n 3, 1) := by decide +kernel
theorem dX10_divides_69 : decode cX10_divides 69 = .ok (.iconst 0, 1) := by decide +kernel
theorem dX10_divides_70 : decode cX10_divides 70 = .ok (.istore 4, 2) := by decide +kernel
theorem dX10_divides_72 : decode cX10_divides 72 = .ok (.iconst 0, 1) := by decide +kernel
theorem dX10_divides_73 : decode cX10_divides 73 = .ok (.istore 5, 2) := by decide +kernel
theorem dX10_divides_75 : decode cX10_divides 75 = .ok (.iload 5, 2) := by decide +kernel
theorem dX10_divides_77 : decode cX10_divides 77 = .ok (.iload_n 2, 1) := by decide +kernel
theorem dX10_divides_78 : decode cX10_divides 78 = .ok (.if_icmp .ge 80, 3) := by decide +kernel
theorem dX10_divides_81 : decode cX10_divides 81 = .ok (.iconst 0, 1) := by decide +kernel
theorem dX10_divides_82 : decode cX10_divides 82 = .ok (.istore 6, 2) := by decide +kernel
theorem dX10_divides_84 : decode cX10_divides 84 = .ok (.iload 6, 2) := by decide +kernel
theorem dX10_divides_86 : decode cX10_divides 86 = .ok (.iload 5, 2) := by decide +kernel
theorem dX10_divides_88 : decode cX10_divides 88 = .ok (.if_icmp .ge 21, 3) := by decide +kernel
theorem dX10_divides_91 : decode cX10_divides 91 = .ok (.aload_n 0, 1) := by decide +kernel
theorem dX10_divides_92 : decode cX10_divides 92 = .ok (.iload_n 1, 1) := by decide +kernel
theorem dX10_divides_93 : decode cX10_divides 93 = .ok (.iload 6, 2) := by decide +kernel
theorem dX10_divides_95 : decode cX10_divides 95 = .ok (.iload 5, 2) := by decide +kernel
theorem dX10_divides_97 : decode cX10_divides 97 = .ok (.invokevirtual 265, 3) := by decide +kernel
theorem dX10_divides_100 : decode cX10_divides 100 = .ok (.ifCond .ne 9, 3) := by decide +kernel
theorem dX10_divides_103 : decode cX10_divides 103 = .ok (.iinc 6 1, 3) := by decide +kernel
theorem dX10_divides_106 : decode cX10_divides 106 = .ok (.goto (-22), 3) := by decide +kernel
theorem dX10_divides_109 : decode cX10_divides 109 = .ok (.aload_n 0, 1) := by decide +kernel
theorem dX10_divides_110 : decode cX10_divides 110 = .ok (.getfield 112, 3) := by decide +kernel
theorem dX10_divides_113 : decode cX10_divides 113 = .ok (.iload 5, 2) := by decide +kernel
theorem dX10_divides_115 : decode cX10_divides 115 = .ok (.iload 6, 2) := by decide +kernel
theorem dX10_divides_117 : decode cX10_divides 117 = .ok (.iload 5, 2) := by decide +kernel
theorem dX10_divides_119 : decode cX10_divides 119 = .ok (.if_icmp .ge 13, 3) := by decide +kernel
theorem dX10_divides_122 : decode cX10_divides 122 = .ok (.aload_n 0, 1) := by decide +kernel
theorem dX10_divides_123 : decode cX10_divides 123 = .ok (.getfield 112, 3) := by decide +kernel
theorem dX10_divides_126 : decode cX10_divides 126 = .ok (.iload 6, 2) := by decide +kernel
theorem dX10_divides_128 : decode cX10_divides 128 = .ok (.iaload, 1) := by decide +kernel
theorem dX10_divides_129 : decode cX10_divides 129 = .ok (.goto 5, 3) := by decide +kernel
theorem dX10_divides_132 : decode cX10_divides 132 = .ok (.iload 4, 2) := by decide +kernel
theorem dX10_divides_134 : decode cX10_divides 134 = .ok (.iastore, 1) := by decide +kernel
theorem dX10_divides_135 : decode cX10_divides 135 = .ok (.iload 4, 2) := by decide +kernel
theorem dX10_divides_137 : decode cX10_divides 137 = .ok (.iload 6, 2) := by decide +kernel
theorem dX10_divides_139 : decode cX10_divides 139 = .ok (.iload 5, 2) := by decide +kernel
theorem dX10_divides_141 : decode cX10_divides 141 = .ok (.if_icmp .ge 7, 3) := by decide +kernel
theorem dX10_divides_144 : decode cX10_divides 144 = .ok (.iconst 0, 1) := by decide +kernel
theorem dX10_divides_145 : decode cX10_divides 145 = .ok (.goto 4, 3) := by decide +kernel
theorem dX10_divides_148 : decode cX10_divides 148 = .ok (.iconst 1, 1) := by decide +kernel
theorem dX10_divides_149 : decode cX10_divides 149 = .ok (.iadd, 1) := by decide +kernel
theorem dX10_divides_150 : decode cX10_divides 150 = .ok (.istore 4, 2) := by decide +kernel
theorem dX10_divides_152 : decode cX10_divides 152 = .ok (.iinc 5 1, 3) := by decide +kernel
theorem dX10_divides_155 : decode cX10_divides 155 = .ok (.goto (-80), 3) := by decide +kernel
theorem dX10_divides_158 : decode cX10_divides 158 = .ok (.iconst 0, 1) := by decide +kernel
theorem dX10_divides_159 : decode cX10_divides 159 = .ok (.istore 5, 2) := by decide +kernel
theorem dX10_divides_161 : decode cX10_divides 161 = .ok (.iload 5, 2) := by decide +kernel
theorem dX10_divides_163 : decode cX10_divides 163 = .ok (.iload_n 2, 1) := by decide +kernel
theorem dX10_divides_164 : decode cX10_divides 164 = .ok (.if_icmp .ge 29, 3) := by decide +kernel
theorem dX10_divides_167 : decode cX10_divides 167 = .ok (.aload_n 0, 1) := by decide +kernel
theorem dX10_divides_168 : decode cX10_divides 168 = .ok (.getfield 64, 3) := by decide +kernel
theorem dX10_divides_171 : decode cX10_divides 171 = .ok (.sipush 150, 3) := by decide +kernel
theorem dX10_divides_174 : decode cX10_divides 174 = .ok (.iload_n 1, 1) := by decide +kernel
theorem dX10_divides_175 : decode cX10_divides 175 = .ok (.imul, 1) := by decide +kernel
theorem dX10_divides_176 : decode cX10_divides 176 = .ok (.iload 5, 2) := by decide +kernel
theorem dX10_divides_178 : decode cX10_divides 178 = .ok (.iadd, 1) := by decide +kernel
theorem dX10_divides_179 : decode cX10_divides 179 = .ok (.aload_n 0, 1) := by decide +kernel
theorem dX10_divides_180 : decode cX10_divides 180 = .ok (.getfield 112, 3) := by decide +kernel
theorem dX10_divides_183 : decode cX10_divides 183 = .ok (.iload 5, 2) := by decide +kernel
theorem dX10_divides_185 : decode cX10_divides 185 = .ok (.iaload, 1) := by decide +kernel
theorem dX10_divides_186 : decode cX10_divides 186 = .ok (.iastore, 1) := by decide +kernel
theorem dX10_divides_187 : decode cX10_divides 187 = .ok (.iinc 5 1, 3) := by decide +kernel
theorem dX10_divides_190 : decode cX10_divides 190 = .ok (.goto (-29), 3) := by decide +kernel
theorem dX10_divides_193 : decode cX10_divides 193 = .ok (.goto (-133), 3) := by decide +kernel
theorem dX10_divides_196 : decode cX10_divides 196 = .ok (.aload_n 0, 1) := by decide +kernel
theorem dX10_divides_197 : decode cX10_divides 197 = .ok (.getfield 52, 3) := by decide +kernel
theorem dX10_divides_200 : decode cX10_divides 200 = .ok (.iload_n 1, 1) := by decide +kernel
theorem dX10_divides_201 : decode cX10_divides 201 = .ok (.iload 4, 2) := by decide +kernel
theorem dX10_divides_203 : decode cX10_divides 203 = .ok (.iastore, 1) := by decide +kernel
theorem dX10_divides_204 : decode cX10_divides 204 = .ok (.return_, 1) := by decide +kernel
theorem dX10_keeps_0 : decode cX10_keeps 0 = .ok (.iconst 0, 1) := by decide +kernel
theorem dX10_keeps_1 : decode cX10_keeps 1 = .ok (.istore_n 3, 1) := by decide +kernel
theorem dX10_keeps_2 : decode cX10_keeps 2 = .ok (.iload_n 3, 1) := by decide +kernel
theorem dX10_keeps_3 : decode cX10_keeps 3 = .ok (.sipush 900, 3) := by decide +kernel
theorem dX10_keeps_6 : decode cX10_keeps 6 = .ok (.if_icmp .ge 52, 3) := by decide +kernel
theorem dX10_keeps_9 : decode cX10_keeps 9 = .ok (.iload_n 2, 1) := by decide +kernel
theorem dX10_keeps_10 : decode cX10_keeps 10 = .ok (.ifCond .eq 24, 3) := by decide +kernel
theorem dX10_keeps_13 : decode cX10_keeps 13 = .ok (.aload_n 0, 1) := by decide +kernel
theorem dX10_keeps_14 : decode cX10_keeps 14 = .ok (.getfield 61, 3) := by decide +kernel
theorem dX10_keeps_17 : decode cX10_keeps 17 = .ok (.sipush 900, 3) := by decide +kernel
theorem dX10_keeps_20 : decode cX10_keeps 20 = .ok (.iload_n 1, 1) := by decide +kernel
theorem dX10_keeps_21 : decode cX10_keeps 21 = .ok (.imul, 1) := by decide +kernel
theorem dX10_keeps_22 : decode cX10_keeps 22 = .ok (.iload_n 3, 1) := by decide +kernel
theorem dX10_keeps_23 : decode cX10_keeps 23 = .ok (.iadd, 1) := by decide +kernel
theorem dX10_keeps_24 : decode cX10_keeps 24 = .ok (.aload_n 0, 1) := by decide +kernel
theorem dX10_keeps_25 : decode cX10_keeps 25 = .ok (.getfield 115, 3) := by decide +kernel
theorem dX10_keeps_28 : decode cX10_keeps 28 = .ok (.iload_n 3, 1) := by decide +kernel
theorem dX10_keeps_29 : decode cX10_keeps 29 = .ok (.iaload, 1) := by decide +kernel
theorem dX10_keeps_30 : decode cX10_keeps 30 = .ok (.iastore, 1) := by decide +kernel
theorem dX10_keeps_31 : decode cX10_keeps 31 = .ok (.goto 21, 3) := by decide +kernel
theorem dX10_keeps_34 : decode cX10_keeps 34 = .ok (.aload_n 0, 1) := by decide +kernel
theorem dX10_keeps_35 : decode cX10_keeps 35 = .ok (.getfield 115, 3) := by decide +kernel
theorem dX10_keeps_38 : decode cX10_keeps 38 = .ok (.iload_n 3, 1) := by decide +kernel
theorem dX10_keeps_39 : decode cX10_keeps 39 = .ok (.aload_n 0, 1) := by decide +kernel
theorem dX10_keeps_40 : decode cX10_keeps 40 = .ok (.getfield 61, 3) := by decide +kernel
theorem dX10_keeps_43 : decode cX10_keeps 43 = .ok (.sipush 900, 3) := by decide +kernel
theorem dX10_keeps_46 : decode cX10_keeps 46 = .ok (.iload_n 1, 1) := by decide +kernel
theorem dX10_keeps_47 : decode cX10_keeps 47 = .ok (.imul, 1) := by decide +kernel
theorem dX10_keeps_48 : decode cX10_keeps 48 = .ok (.iload_n 3, 1) := by decide +kernel
theorem dX10_keeps_49 : decode cX10_keeps 49 = .ok (.iadd, 1) := by decide +kernel
theorem dX10_keeps_50 : decode cX10_keeps 50 = .ok (.iaload, 1) := by decide +kernel
theorem dX10_keeps_51 : decode cX10_keeps 51 = .ok (.iastore, 1) := by decide +kernel
theorem dX10_keeps_52 : decode cX10_keeps 52 = .ok (.iinc 3 1, 3) := by decide +kernel
theorem dX10_keeps_55 : decode cX10_keeps 55 = .ok (.goto (-53), 3) := by decide +kernel
theorem dX10_keeps_58 : decode cX10_keeps 58 = .ok (.iconst 0, 1) := by decide +kernel
theorem dX10_keeps_59 : decode cX10_keeps 59 = .ok (.istore_n 3, 1) := by decide +kernel
theorem dX10_keeps_60 : decode cX10_keeps 60 = .ok (.iload_n 3, 1) := by decide +kernel
theorem dX10_keeps_61 : decode cX10_keeps 61 = .ok (.sipush 600, 3) := by decide +kernel
theorem dX10_keeps_64 : decode cX10_keeps 64 = .ok (.if_icmp .ge 52, 3) := by decide +kernel
theorem dX10_keeps_67 : decode cX10_keeps 67 = .ok (.iload_n 2, 1) := by decide +kernel
theorem dX10_keeps_68 : decode cX10_keeps 68 = .ok (.ifCond .eq 24, 3) := by decide +kernel
theorem dX10_keeps_71 : decode cX10_keeps 71 = .ok (.aload_n 0, 1) := by decide +kernel
theorem dX10_keeps_72 : decode cX10_keeps 72 = .ok (.getfield 55, 3) := by decide +kernel
theorem dX10_keeps_75 : decode cX10_keeps 75 = .ok (.sipush 600, 3) := by decide +kernel
theorem dX10_keeps_78 : decode cX10_keeps 78 = .ok (.iload_n 1, 1) := by decide +kernel
theorem dX10_keeps_79 : decode cX10_keeps 79 = .ok (.imul, 1) := by decide +kernel
theorem dX10_keeps_80 : decode cX10_keeps 80 = .ok (.iload_n 3, 1) := by decide +kernel
theorem dX10_keeps_81 : decode cX10_keeps 81 = .ok (.iadd, 1) := by decide +kernel
theorem dX10_keeps_82 : decode cX10_keeps 82 = .ok (.aload_n 0, 1) := by decide +kernel
theorem dX10_keeps_83 : decode cX10_keeps 83 = .ok (.getfield 118, 3) := by decide +kernel
theorem dX10_keeps_86 : decode cX10_keeps 86 = .ok (.iload_n 3, 1) := by decide +kernel
theorem dX10_keeps_87 : decode cX10_keeps 87 = .ok (.iaload, 1) := by decide +kernel
theorem dX10_keeps_88 : decode cX10_keeps 88 = .ok (.iastore, 1) := by decide +kernel
theorem dX10_keeps_89 : decode cX10_keeps 89 = .ok (.goto 21, 3) := by decide +kernel
theorem dX10_keeps_92 : decode cX10_keeps 92 = .ok (.aload_n 0, 1) := by decide +kernel
theorem dX10_keeps_93 : decode cX10_keeps 93 = .ok (.getfield 118, 3) := by decide +kernel
theorem dX10_keeps_96 : decode cX10_keeps 96 = .ok (.iload_n 3, 1) := by decide +kernel
theorem dX10_keeps_97 : decode cX10_keeps 97 = .ok (.aload_n 0, 1) := by decide +kernel
theorem dX10_keeps_98 : decode cX10_keeps 98 = .ok (.getfield 55, 3) := by decide +kernel
theorem dX10_keeps_101 : decode cX10_keeps 101 = .ok (.sipush 600, 3) := by decide +kernel
theorem dX10_keeps_104 : decode cX10_keeps 104 = .ok (.iload_n 1, 1) := by decide +kernel
theorem dX10_keeps_105 : decode cX10_keeps 105 = .ok (.imul, 1) := by decide +kernel
theorem dX10_keeps_106 : decode cX10_keeps 106 = .ok (.iload_n 3, 1) := by decide +kernel
theorem dX10_keeps_107 : decode cX10_keeps 107 = .ok (.iadd, 1) := by decide +kernel
theorem dX10_keeps_108 : decode cX10_keeps 108 = .ok (.iaload, 1) := by decide +kernel
theorem dX10_keeps_109 : decode cX10_keeps 109 = .ok (.iastore, 1) := by decide +kernel
theorem dX10_keeps_110 : decode cX10_keeps 110 = .ok (.iinc 3 1, 3) := by decide +kernel
theorem dX10_keeps_113 : decode cX10_keeps 113 = .ok (.goto (-53), 3) := by decide +kernel
theorem dX10_keeps_116 : decode cX10_keeps 116 = .ok (.iconst 0, 1) := by decide +kernel
theorem dX10_keeps_117 : decode cX10_keeps 117 = .ok (.istore_n 3, 1) := by decide +kernel
theorem dX10_keeps_118 : decode cX10_keeps 118 = .ok (.iload_n 3, 1) := by decide +kernel
theorem dX10_keeps_119 : decode cX10_keeps 119 = .ok (.sipush 150, 3) := by decide +kernel
theorem dX10_keeps_122 : decode cX10_keeps 122 = .ok (.if_icmp .ge 88, 3) := by decide +kernel
theorem dX10_keeps_125 : decode cX10_keeps 125 = .ok (.iload_n 2, 1) := by decide +kernel
theorem dX10_keeps_126 : decode cX10_keeps 126 = .ok (.ifCond .eq 42, 3) := by decide +kernel
theorem dX10_keeps_129 : decode cX10_keeps 129 = .ok (.aload_n 0, 1) := by decide +kernel
theorem dX10_keeps_130 : decode cX10_keeps 130 = .ok (.getfield 67, 3) := by decide +kernel
theorem dX10_keeps_133 : decode cX10_keeps 133 = .ok (.sipush 150, 3) := by decide +kernel
theorem dX10_keeps_136 : decode cX10_keeps 136 = .ok (.iload_n 1, 1) := by decide +kernel
theorem dX10_keeps_137 : decode cX10_keeps 137 = .ok (.imul, 1) := by decide +kernel
theorem dX10_keeps_138 : decode cX10_keeps 138 = .ok (.iload_n 3, 1) := by decide +kernel
theorem dX10_keeps_139 : decode cX10_keeps 139 = .ok (.iadd, 1) := by decide +kernel
theorem dX10_keeps_140 : decode cX10_keeps 140 = .ok (.aload_n 0, 1) := by decide +kernel
theorem dX10_keeps_141 : decode cX10_keeps 141 = .ok (.getfield 121, 3) := by decide +kernel
theorem dX10_keeps_144 : decode cX10_keeps 144 = .ok (.iload_n 3, 1) := by decide +kernel
theorem dX10_keeps_145 : decode cX10_keeps 145 = .ok (.iaload, 1) := by decide +kernel
theorem dX10_keeps_146 : decode cX10_keeps 146 = .ok (.iastore, 1) := by decide +kernel
theorem dX10_keeps_147 : decode cX10_keeps 147 = .ok (.aload_n 0, 1) := by decide +kernel
theorem dX10_keeps_148 : decode cX10_keeps 148 = .ok (.getfield 70, 3) := by decide +kernel
theorem dX10_keeps_151 : decode cX10_keeps 151 = .ok (.sipush 150, 3) := by decide +kernel
theorem dX10_keeps_154 : decode cX10_keeps 154 = .ok (.iload_n 1, 1) := by decide +kernel
theorem dX10_keeps_155 : decode cX10_keeps 155 = .ok (.imul, 1) := by decide +kernel
theorem dX10_keeps_156 : decode cX10_keeps 156 = .ok (.iload_n 3, 1) := by decide +kernel
theorem dX10_keeps_157 : decode cX10_keeps 157 = .ok (.iadd, 1) := by decide +kernel
theorem dX10_keeps_158 : decode cX10_keeps 158 = .ok (.aload_n 0, 1) := by decide +kernel
theorem dX10_keeps_159 : decode cX10_keeps 159 = .ok (.getfield 124, 3) := by decide +kernel
theorem dX10_keeps_162 : decode cX10_keeps 162 = .ok (.iload_n 3, 1) := by decide +kernel
theorem dX10_keeps_163 : decode cX10_keeps 163 = .ok (.iaload, 1) := by decide +kernel
theorem dX10_keeps_164 : decode cX10_keeps 164 = .ok (.iastore, 1) := by decide +kernel
theorem dX10_keeps_165 : decode cX10_keeps 165 = .ok (.goto 39, 3) := by decide +kernel
theorem dX10_keeps_168 : decode cX10_keeps 168 = .ok (.aload_n 0, 1) := by decide +kernel
theorem dX10_keeps_169 : decode cX10_keeps 169 = .ok (.getfield 121, 3) := by decide +kernel
theorem dX10_keeps_172 : decode cX10_keeps 172 = .ok (.iload_n 3, 1) := by decide +kernel
theorem dX10_keeps_173 : decode cX10_keeps 173 = .ok (.aload_n 0, 1) := by decide +kernel
theorem dX10_keeps_174 : decode cX10_keeps 174 = .ok (.getfield 67, 3) := by decide +kernel
theorem dX10_keeps_177 : decode cX10_keeps 177 = .ok (.sipush 150, 3) := by decide +kernel
theorem dX10_keeps_180 : decode cX10_keeps 180 = .ok (.iload_n 1, 1) := by decide +kernel
theorem dX10_keeps_181 : decode cX10_keeps 181 = .ok (.imul, 1) := by decide +kernel
theorem dX10_keeps_182 : decode cX10_keeps 182 = .ok (.iload_n 3, 1) := by decide +kernel
theorem dX10_keeps_183 : decode cX10_keeps 183 = .ok (.iadd, 1) := by decide +kernel
theorem dX10_keeps_184 : decode cX10_keeps 184 = .ok (.iaload, 1) := by decide +kernel
theorem dX10_keeps_185 : decode cX10_keeps 185 = .ok (.iastore, 1) := by decide +kernel
theorem dX10_keeps_186 : decode cX10_keeps 186 = .ok (.aload_n 0, 1) := by decide +kernel
theorem dX10_keeps_187 : decode cX10_keeps 187 = .ok (.getfield 124, 3) := by decide +kernel
