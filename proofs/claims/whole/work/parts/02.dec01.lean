theorem dX6_joinedPart_66 : decode cX6_joinedPart 66 = .ok (.invokevirtual 104, 3) := by decide +kernel
theorem dX6_joinedPart_69 : decode cX6_joinedPart 69 = .ok (.getstatic 108, 3) := by decide +kernel
theorem dX6_joinedPart_72 : decode cX6_joinedPart 72 = .ok (.iload_n 1, 1) := by decide +kernel
theorem dX6_joinedPart_73 : decode cX6_joinedPart 73 = .ok (.laload, 1) := by decide +kernel
theorem dX6_joinedPart_74 : decode cX6_joinedPart 74 = .ok (.lreturn, 1) := by decide +kernel
theorem dX6_part_0 : decode cX6_part 0 = .ok (.aload_n 0, 1) := by decide +kernel
theorem dX6_part_1 : decode cX6_part 1 = .ok (.iload_n 1, 1) := by decide +kernel
theorem dX6_part_2 : decode cX6_part 2 = .ok (.invokevirtual 112, 3) := by decide +kernel
theorem dX6_part_5 : decode cX6_part 5 = .ok (.aload_n 0, 1) := by decide +kernel
theorem dX6_part_6 : decode cX6_part 6 = .ok (.getfield 35, 3) := by decide +kernel
theorem dX6_part_9 : decode cX6_part 9 = .ok (.istore_n 2, 1) := by decide +kernel
theorem dX6_part_10 : decode cX6_part 10 = .ok (.aload_n 0, 1) := by decide +kernel
theorem dX6_part_11 : decode cX6_part 11 = .ok (.getfield 38, 3) := by decide +kernel
theorem dX6_part_14 : decode cX6_part 14 = .ok (.istore_n 3, 1) := by decide +kernel
theorem dX6_part_15 : decode cX6_part 15 = .ok (.aload_n 0, 1) := by decide +kernel
theorem dX6_part_16 : decode cX6_part 16 = .ok (.getfield 41, 3) := by decide +kernel
theorem dX6_part_19 : decode cX6_part 19 = .ok (.istore 4, 2) := by decide +kernel
theorem dX6_part_21 : decode cX6_part 21 = .ok (.iconst 0, 1) := by decide +kernel
theorem dX6_part_22 : decode cX6_part 22 = .ok (.istore 5, 2) := by decide +kernel
theorem dX6_part_24 : decode cX6_part 24 = .ok (.iload 5, 2) := by decide +kernel
theorem dX6_part_26 : decode cX6_part 26 = .ok (.aload_n 0, 1) := by decide +kernel
theorem dX6_part_27 : decode cX6_part 27 = .ok (.getfield 15, 3) := by decide +kernel
theorem dX6_part_30 : decode cX6_part 30 = .ok (.if_icmp .ge 66, 3) := by decide +kernel
theorem dX6_part_33 : decode cX6_part 33 = .ok (.aload_n 0, 1) := by decide +kernel
theorem dX6_part_34 : decode cX6_part 34 = .ok (.invokevirtual 75, 3) := by decide +kernel
theorem dX6_part_37 : decode cX6_part 37 = .ok (.bipush 124, 2) := by decide +kernel
theorem dX6_part_39 : decode cX6_part 39 = .ok (.if_icmp .ne 57, 3) := by decide +kernel
theorem dX6_part_42 : decode cX6_part 42 = .ok (.aload_n 0, 1) := by decide +kernel
theorem dX6_part_43 : decode cX6_part 43 = .ok (.dup, 1) := by decide +kernel
theorem dX6_part_44 : decode cX6_part 44 = .ok (.getfield 19, 3) := by decide +kernel
theorem dX6_part_47 : decode cX6_part 47 = .ok (.iconst 1, 1) := by decide +kernel
theorem dX6_part_48 : decode cX6_part 48 = .ok (.iadd, 1) := by decide +kernel
theorem dX6_part_49 : decode cX6_part 49 = .ok (.putfield 19, 3) := by decide +kernel
theorem dX6_part_52 : decode cX6_part 52 = .ok (.aload_n 0, 1) := by decide +kernel
theorem dX6_part_53 : decode cX6_part 53 = .ok (.iload_n 1, 1) := by decide +kernel
theorem dX6_part_54 : decode cX6_part 54 = .ok (.invokevirtual 112, 3) := by decide +kernel
theorem dX6_part_57 : decode cX6_part 57 = .ok (.iload_n 2, 1) := by decide +kernel
theorem dX6_part_58 : decode cX6_part 58 = .ok (.aload_n 0, 1) := by decide +kernel
theorem dX6_part_59 : decode cX6_part 59 = .ok (.getfield 35, 3) := by decide +kernel
theorem dX6_part_62 : decode cX6_part 62 = .ok (.ior, 1) := by decide +kernel
theorem dX6_part_63 : decode cX6_part 63 = .ok (.istore_n 2, 1) := by decide +kernel
theorem dX6_part_64 : decode cX6_part 64 = .ok (.iload_n 3, 1) := by decide +kernel
theorem dX6_part_65 : decode cX6_part 65 = .ok (.aload_n 0, 1) := by decide +kernel
theorem dX6_part_66 : decode cX6_part 66 = .ok (.getfield 38, 3) := by decide +kernel
theorem dX6_part_69 : decode cX6_part 69 = .ok (.ior, 1) := by decide +kernel
theorem dX6_part_70 : decode cX6_part 70 = .ok (.istore_n 3, 1) := by decide +kernel
theorem dX6_part_71 : decode cX6_part 71 = .ok (.iload 4, 2) := by decide +kernel
theorem dX6_part_73 : decode cX6_part 73 = .ok (.ifCond .ne 10, 3) := by decide +kernel
theorem dX6_part_76 : decode cX6_part 76 = .ok (.aload_n 0, 1) := by decide +kernel
theorem dX6_part_77 : decode cX6_part 77 = .ok (.getfield 41, 3) := by decide +kernel
theorem dX6_part_80 : decode cX6_part 80 = .ok (.ifCond .eq 7, 3) := by decide +kernel
theorem dX6_part_83 : decode cX6_part 83 = .ok (.iconst 1, 1) := by decide +kernel
theorem dX6_part_84 : decode cX6_part 84 = .ok (.goto 4, 3) := by decide +kernel
theorem dX6_part_87 : decode cX6_part 87 = .ok (.iconst 0, 1) := by decide +kernel
theorem dX6_part_88 : decode cX6_part 88 = .ok (.istore 4, 2) := by decide +kernel
theorem dX6_part_90 : decode cX6_part 90 = .ok (.iinc 5 1, 3) := by decide +kernel
theorem dX6_part_93 : decode cX6_part 93 = .ok (.goto (-69), 3) := by decide +kernel
theorem dX6_part_96 : decode cX6_part 96 = .ok (.aload_n 0, 1) := by decide +kernel
theorem dX6_part_97 : decode cX6_part 97 = .ok (.iload_n 2, 1) := by decide +kernel
theorem dX6_part_98 : decode cX6_part 98 = .ok (.iload_n 3, 1) := by decide +kernel
theorem dX6_part_99 : decode cX6_part 99 = .ok (.iload 4, 2) := by decide +kernel
theorem dX6_part_101 : decode cX6_part 101 = .ok (.invokevirtual 115, 3) := by decide +kernel
theorem dX6_part_104 : decode cX6_part 104 = .ok (.return_, 1) := by decide +kernel
theorem dX6_row_0 : decode cX6_row 0 = .ok (.aload_n 0, 1) := by decide +kernel
theorem dX6_row_1 : decode cX6_row 1 = .ok (.iload_n 1, 1) := by decide +kernel
theorem dX6_row_2 : decode cX6_row 2 = .ok (.invokevirtual 118, 3) := by decide +kernel
theorem dX6_row_5 : decode cX6_row 5 = .ok (.aload_n 0, 1) := by decide +kernel
theorem dX6_row_6 : decode cX6_row 6 = .ok (.getfield 35, 3) := by decide +kernel
theorem dX6_row_9 : decode cX6_row 9 = .ok (.istore_n 2, 1) := by decide +kernel
theorem dX6_row_10 : decode cX6_row 10 = .ok (.aload_n 0, 1) := by decide +kernel
theorem dX6_row_11 : decode cX6_row 11 = .ok (.getfield 38, 3) := by decide +kernel
theorem dX6_row_14 : decode cX6_row 14 = .ok (.istore_n 3, 1) := by decide +kernel
theorem dX6_row_15 : decode cX6_row 15 = .ok (.aload_n 0, 1) := by decide +kernel
theorem dX6_row_16 : decode cX6_row 16 = .ok (.getfield 41, 3) := by decide +kernel
theorem dX6_row_19 : decode cX6_row 19 = .ok (.istore 4, 2) := by decide +kernel
theorem dX6_row_21 : decode cX6_row 21 = .ok (.iconst 0, 1) := by decide +kernel
theorem dX6_row_22 : decode cX6_row 22 = .ok (.istore 5, 2) := by decide +kernel
theorem dX6_row_24 : decode cX6_row 24 = .ok (.iload 5, 2) := by decide +kernel
theorem dX6_row_26 : decode cX6_row 26 = .ok (.aload_n 0, 1) := by decide +kernel
theorem dX6_row_27 : decode cX6_row 27 = .ok (.getfield 15, 3) := by decide +kernel
theorem dX6_row_30 : decode cX6_row 30 = .ok (.if_icmp .ge 92, 3) := by decide +kernel
theorem dX6_row_33 : decode cX6_row 33 = .ok (.aload_n 0, 1) := by decide +kernel
theorem dX6_row_34 : decode cX6_row 34 = .ok (.invokevirtual 75, 3) := by decide +kernel
theorem dX6_row_37 : decode cX6_row 37 = .ok (.invokestatic 94, 3) := by decide +kernel
theorem dX6_row_40 : decode cX6_row 40 = .ok (.ifCond .eq 82, 3) := by decide +kernel
theorem dX6_row_43 : decode cX6_row 43 = .ok (.aload_n 0, 1) := by decide +kernel
theorem dX6_row_44 : decode cX6_row 44 = .ok (.iload_n 1, 1) := by decide +kernel
theorem dX6_row_45 : decode cX6_row 45 = .ok (.invokevirtual 118, 3) := by decide +kernel
theorem dX6_row_48 : decode cX6_row 48 = .ok (.aload_n 0, 1) := by decide +kernel
theorem dX6_row_49 : decode cX6_row 49 = .ok (.getfield 25, 3) := by decide +kernel
theorem dX6_row_52 : decode cX6_row 52 = .ok (.iload_n 3, 1) := by decide +kernel
theorem dX6_row_53 : decode cX6_row 53 = .ok (.aload_n 0, 1) := by decide +kernel
theorem dX6_row_54 : decode cX6_row 54 = .ok (.getfield 35, 3) := by decide +kernel
theorem dX6_row_57 : decode cX6_row 57 = .ok (.invokevirtual 121, 3) := by decide +kernel
theorem dX6_row_60 : decode cX6_row 60 = .ok (.iload_n 2, 1) := by decide +kernel
theorem dX6_row_61 : decode cX6_row 61 = .ok (.iload 4, 2) := by decide +kernel
theorem dX6_row_63 : decode cX6_row 63 = .ok (.ifCond .eq 10, 3) := by decide +kernel
theorem dX6_row_66 : decode cX6_row 66 = .ok (.aload_n 0, 1) := by decide +kernel
theorem dX6_row_67 : decode cX6_row 67 = .ok (.getfield 35, 3) := by decide +kernel
theorem dX6_row_70 : decode cX6_row 70 = .ok (.goto 4, 3) := by decide +kernel
theorem dX6_row_73 : decode cX6_row 73 = .ok (.iconst 0, 1) := by decide +kernel
theorem dX6_row_74 : decode cX6_row 74 = .ok (.ior, 1) := by decide +kernel
theorem dX6_row_75 : decode cX6_row 75 = .ok (.istore_n 2, 1) := by decide +kernel
theorem dX6_row_76 : decode cX6_row 76 = .ok (.aload_n 0, 1) := by decide +kernel
theorem dX6_row_77 : decode cX6_row 77 = .ok (.getfield 41, 3) := by decide +kernel
theorem dX6_row_80 : decode cX6_row 80 = .ok (.ifCond .eq 12, 3) := by decide +kernel
theorem dX6_row_83 : decode cX6_row 83 = .ok (.iload_n 3, 1) := by decide +kernel
theorem dX6_row_84 : decode cX6_row 84 = .ok (.aload_n 0, 1) := by decide +kernel
theorem dX6_row_85 : decode cX6_row 85 = .ok (.getfield 38, 3) := by decide +kernel
theorem dX6_row_88 : decode cX6_row 88 = .ok (.ior, 1) := by decide +kernel
theorem dX6_row_89 : decode cX6_row 89 = .ok (.goto 7, 3) := by decide +kernel
theorem dX6_row_92 : decode cX6_row 92 = .ok (.aload_n 0, 1) := by decide +kernel
theorem dX6_row_93 : decode cX6_row 93 = .ok (.getfield 38, 3) := by decide +kernel
theorem dX6_row_96 : decode cX6_row 96 = .ok (.istore_n 3, 1) := by decide +kernel
theorem dX6_row_97 : decode cX6_row 97 = .ok (.iload 4, 2) := by decide +kernel
theorem dX6_row_99 : decode cX6_row 99 = .ok (.ifCond .eq 14, 3) := by decide +kernel
theorem dX6_row_102 : decode cX6_row 102 = .ok (.aload_n 0, 1) := by decide +kernel
theorem dX6_row_103 : decode cX6_row 103 = .ok (.getfield 41, 3) := by decide +kernel
theorem dX6_row_106 : decode cX6_row 106 = .ok (.ifCond .eq 7, 3) := by decide +kernel
theorem dX6_row_109 : decode cX6_row 109 = .ok (.iconst 1, 1) := by decide +kernel
theorem dX6_row_110 : decode cX6_row 110 = .ok (.goto 4, 3) := by decide +kernel
theorem dX6_row_113 : decode cX6_row 113 = .ok (.iconst 0, 1) := by decide +kernel
theorem dX6_row_114 : decode cX6_row 114 = .ok (.istore 4, 2) := by decide +kernel
theorem dX6_row_116 : decode cX6_row 116 = .ok (.iinc 5 1, 3) := by decide +kernel
theorem dX6_row_119 : decode cX6_row 119 = .ok (.goto (-95), 3) := by decide +kernel
theorem dX6_row_122 : decode cX6_row 122 = .ok (.aload_n 0, 1) := by decide +kernel
theorem dX6_row_123 : decode cX6_row 123 = .ok (.iload_n 2, 1) := by decide +kernel
theorem dX6_row_124 : decode cX6_row 124 = .ok (.iload_n 3, 1) := by decide +kernel
theorem dX6_row_125 : decode cX6_row 125 = .ok (.iload 4, 2) := by decide +kernel
theorem dX6_row_127 : decode cX6_row 127 = .ok (.invokevirtual 115, 3) := by decide +kernel
theorem dX6_row_130 : decode cX6_row 130 = .ok (.return_, 1) := by decide +kernel
theorem dX6_item_0 : decode cX6_item 0 = .ok (.aload_n 0, 1) := by decide +kernel
theorem dX6_item_1 : decode cX6_item 1 = .ok (.iload_n 1, 1) := by decide +kernel
theorem dX6_item_2 : decode cX6_item 2 = .ok (.invokevirtual 125, 3) := by decide +kernel
theorem dX6_item_5 : decode cX6_item 5 = .ok (.iconst 0, 1) := by decide +kernel
theorem dX6_item_6 : decode cX6_item 6 = .ok (.istore_n 2, 1) := by decide +kernel
theorem dX6_item_7 : decode cX6_item 7 = .ok (.iload_n 2, 1) := by decide +kernel
theorem dX6_item_8 : decode cX6_item 8 = .ok (.aload_n 0, 1) := by decide +kernel
theorem dX6_item_9 : decode cX6_item 9 = .ok (.getfield 15, 3) := by decide +kernel
theorem dX6_item_12 : decode cX6_item 12 = .ok (.if_icmp .ge 67, 3) := by decide +kernel
theorem dX6_item_15 : decode cX6_item 15 = .ok (.aload_n 0, 1) := by decide +kernel
theorem dX6_item_16 : decode cX6_item 16 = .ok (.invokevirtual 75, 3) := by decide +kernel
theorem dX6_item_19 : decode cX6_item 19 = .ok (.invokestatic 128, 3) := by decide +kernel
theorem dX6_item_22 : decode cX6_item 22 = .ok (.ifCond .eq 57, 3) := by decide +kernel
theorem dX6_item_25 : decode cX6_item 25 = .ok (.aload_n 0, 1) := by decide +kernel
theorem dX6_item_26 : decode cX6_item 26 = .ok (.invokevirtual 75, 3) := by decide +kernel
theorem dX6_item_29 : decode cX6_item 29 = .ok (.bipush 63, 2) := by decide +kernel
theorem dX6_item_31 : decode cX6_item 31 = .ok (.if_icmp .eq 18, 3) := by decide +kernel
theorem dX6_item_34 : decode cX6_item 34 = .ok (.aload_n 0, 1) := by decide +kernel
theorem dX6_item_35 : decode cX6_item 35 = .ok (.getfield 25, 3) := by decide +kernel
theorem dX6_item_38 : decode cX6_item 38 = .ok (.aload_n 0, 1) := by decide +kernel
theorem dX6_item_39 : decode cX6_item 39 = .ok (.getfield 38, 3) := by decide +kernel
theorem dX6_item_42 : decode cX6_item 42 = .ok (.aload_n 0, 1) := by decide +kernel
theorem dX6_item_43 : decode cX6_item 43 = .ok (.getfield 35, 3) := by decide +kernel
theorem dX6_item_46 : decode cX6_item 46 = .ok (.invokevirtual 121, 3) := by decide +kernel
theorem dX6_item_49 : decode cX6_item 49 = .ok (.aload_n 0, 1) := by decide +kernel
theorem dX6_item_50 : decode cX6_item 50 = .ok (.invokevirtual 75, 3) := by decide +kernel
theorem dX6_item_53 : decode cX6_item 53 = .ok (.bipush 43, 2) := by decide +kernel
theorem dX6_item_55 : decode cX6_item 55 = .ok (.if_icmp .eq 8, 3) := by decide +kernel
theorem dX6_item_58 : decode cX6_item 58 = .ok (.aload_n 0, 1) := by decide +kernel
theorem dX6_item_59 : decode cX6_item 59 = .ok (.iconst 1, 1) := by decide +kernel
theorem dX6_item_60 : decode cX6_item 60 = .ok (.putfield 41, 3) := by decide +kernel
theorem dX6_item_63 : decode cX6_item 63 = .ok (.aload_n 0, 1) := by decide +kernel
theorem dX6_item_64 : decode cX6_item 64 = .ok (.dup, 1) := by decide +kernel
theorem dX6_item_65 : decode cX6_item 65 = .ok (.getfield 19, 3) := by decide +kernel
theorem dX6_item_68 : decode cX6_item 68 = .ok (.iconst 1, 1) := by decide +kernel
theorem dX6_item_69 : decode cX6_item 69 = .ok (.iadd, 1) := by decide +kernel
theorem dX6_item_70 : decode cX6_item 70 = .ok (.putfield 19, 3) := by decide +kernel
theorem dX6_item_73 : decode cX6_item 73 = .ok (.iinc 2 1, 3) := by decide +kernel
theorem dX6_item_76 : decode cX6_item 76 = .ok (.goto (-69), 3) := by decide +kernel
theorem dX6_item_79 : decode cX6_item 79 = .ok (.return_, 1) := by decide +kernel
theorem dX6_atom_0 : decode cX6_atom 0 = .ok (.aload_n 0, 1) := by decide +kernel
theorem dX6_atom_1 : decode cX6_atom 1 = .ok (.invokevirtual 75, 3) := by decide +kernel
theorem dX6_atom_4 : decode cX6_atom 4 = .ok (.istore_n 2, 1) := by decide +kernel
theorem dX6_atom_5 : decode cX6_atom 5 = .ok (.iload_n 2, 1) := by decide +kernel
theorem dX6_atom_6 : decode cX6_atom 6 = .ok (.bipush 40, 2) := by decide +kernel
theorem dX6_atom_8 : decode cX6_atom 8 = .ok (.if_icmp .ne 11, 3) := by decide +kernel
theorem dX6_atom_11 : decode cX6_atom 11 = .ok (.aload_n 0, 1) := by decide +kernel
theorem dX6_atom_12 : decode cX6_atom 12 = .ok (.iload_n 1, 1) := by decide +kernel
theorem dX6_atom_13 : decode cX6_atom 13 = .ok (.invokevirtual 131, 3) := by decide +kernel
theorem dX6_atom_16 : decode cX6_atom 16 = .ok (.goto 120, 3) := by decide +kernel
theorem dX6_atom_19 : decode cX6_atom 19 = .ok (.iload_n 2, 1) := by decide +kernel
theorem dX6_atom_20 : decode cX6_atom 20 = .ok (.bipush 48, 2) := by decide +kernel
theorem dX6_atom_22 : decode cX6_atom 22 = .ok (.if_icmp .eq 9, 3) := by decide +kernel
theorem dX6_atom_25 : decode cX6_atom 25 = .ok (.iload_n 2, 1) := by decide +kernel
theorem dX6_atom_26 : decode cX6_atom 26 = .ok (.bipush 49, 2) := by decide +kernel
theorem dX6_atom_28 : decode cX6_atom 28 = .ok (.if_icmp .ne 33, 3) := by decide +kernel
theorem dX6_atom_31 : decode cX6_atom 31 = .ok (.aload_n 0, 1) := by decide +kernel
theorem dX6_atom_32 : decode cX6_atom 32 = .ok (.dup, 1) := by decide +kernel
theorem dX6_atom_33 : decode cX6_atom 33 = .ok (.getfield 19, 3) := by decide +kernel
theorem dX6_atom_36 : decode cX6_atom 36 = .ok (.iconst 1, 1) := by decide +kernel
theorem dX6_atom_37 : decode cX6_atom 37 = .ok (.iadd, 1) := by decide +kernel
theorem dX6_atom_38 : decode cX6_atom 38 = .ok (.putfield 19, 3) := by decide +kernel
theorem dX6_atom_41 : decode cX6_atom 41 = .ok (.aload_n 0, 1) := by decide +kernel
theorem dX6_atom_42 : decode cX6_atom 42 = .ok (.iconst 0, 1) := by decide +kernel
theorem dX6_atom_43 : decode cX6_atom 43 = .ok (.iconst 0, 1) := by decide +kernel
theorem dX6_atom_44 : decode cX6_atom 44 = .ok (.iload_n 2, 1) := by decide +kernel
theorem dX6_atom_45 : decode cX6_atom 45 = .ok (.bipush 49, 2) := by decide +kernel
theorem dX6_atom_47 : decode cX6_atom 47 = .ok (.if_icmp .ne 7, 3) := by decide +kernel
theorem dX6_atom_50 : decode cX6_atom 50 = .ok (.iconst 1, 1) := by decide +kernel
theorem dX6_atom_51 : decode cX6_atom 51 = .ok (.goto 4, 3) := by decide +kernel
theorem dX6_atom_54 : decode cX6_atom 54 = .ok (.iconst 0, 1) := by decide +kernel
theorem dX6_atom_55 : decode cX6_atom 55 = .ok (.invokevirtual 115, 3) := by decide +kernel
theorem dX6_atom_58 : decode cX6_atom 58 = .ok (.goto 78, 3) := by decide +kernel
theorem dX6_atom_61 : decode cX6_atom 61 = .ok (.iload_n 2, 1) := by decide +kernel
theorem dX6_atom_62 : decode cX6_atom 62 = .ok (.invokestatic 94, 3) := by decide +kernel
theorem dX6_atom_65 : decode cX6_atom 65 = .ok (.ifCond .ne 11, 3) := by decide +kernel
theorem dX6_atom_68 : decode cX6_atom 68 = .ok (.aload_n 0, 1) := by decide +kernel
theorem dX6_atom_69 : decode cX6_atom 69 = .ok (.iconst 1, 1) := by decide +kernel
theorem dX6_atom_70 : decode cX6_atom 70 = .ok (.invokevirtual 71, 3) := by decide +kernel
theorem dX6_atom_73 : decode cX6_atom 73 = .ok (.goto 63, 3) := by decide +kernel
theorem dX6_atom_76 : decode cX6_atom 76 = .ok (.aload_n 0, 1) := by decide +kernel
theorem dX6_atom_77 : decode cX6_atom 77 = .ok (.getfield 25, 3) := by decide +kernel
theorem dX6_atom_80 : decode cX6_atom 80 = .ok (.invokevirtual 134, 3) := by decide +kernel
theorem dX6_atom_83 : decode cX6_atom 83 = .ok (.ifCond .eq 11, 3) := by decide +kernel
theorem dX6_atom_86 : decode cX6_atom 86 = .ok (.aload_n 0, 1) := by decide +kernel
theorem dX6_atom_87 : decode cX6_atom 87 = .ok (.iconst 2, 1) := by decide +kernel
theorem dX6_atom_88 : decode cX6_atom 88 = .ok (.invokevirtual 71, 3) := by decide +kernel
theorem dX6_atom_91 : decode cX6_atom 91 = .ok (.goto 45, 3) := by decide +kernel
theorem dX6_atom_94 : decode cX6_atom 94 = .ok (.aload_n 0, 1) := by decide +kernel
theorem dX6_atom_95 : decode cX6_atom 95 = .ok (.dup, 1) := by decide +kernel
theorem dX6_atom_96 : decode cX6_atom 96 = .ok (.getfield 19, 3) := by decide +kernel
theorem dX6_atom_99 : decode cX6_atom 99 = .ok (.iconst 1, 1) := by decide +kernel
theorem dX6_atom_100 : decode cX6_atom 100 = .ok (.iadd, 1) := by decide +kernel
theorem dX6_atom_101 : decode cX6_atom 101 = .ok (.putfield 19, 3) := by decide +kernel
theorem dX6_atom_104 : decode cX6_atom 104 = .ok (.aload_n 0, 1) := by decide +kernel
theorem dX6_atom_105 : decode cX6_atom 105 = .ok (.getfield 25, 3) := by decide +kernel
theorem dX6_atom_108 : decode cX6_atom 108 = .ok (.iload_n 2, 1) := by decide +kernel
theorem dX6_atom_109 : decode cX6_atom 109 = .ok (.bipush 91, 2) := by decide +kernel
theorem dX6_atom_111 : decode cX6_atom 111 = .ok (.if_icmp .ne 10, 3) := by decide +kernel
theorem dX6_atom_114 : decode cX6_atom 114 = .ok (.aload_n 0, 1) := by decide +kernel
theorem dX6_atom_115 : decode cX6_atom 115 = .ok (.invokevirtual 138, 3) := by decide +kernel
theorem dX6_atom_118 : decode cX6_atom 118 = .ok (.goto 7, 3) := by decide +kernel
theorem dX6_atom_121 : decode cX6_atom 121 = .ok (.iload_n 2, 1) := by decide +kernel
theorem dX6_atom_122 : decode cX6_atom 122 = .ok (.invokestatic 141, 3) := by decide +kernel
theorem dX6_atom_125 : decode cX6_atom 125 = .ok (.invokevirtual 145, 3) := by decide +kernel
theorem dX6_atom_128 : decode cX6_atom 128 = .ok (.istore_n 3, 1) := by decide +kernel
theorem dX6_atom_129 : decode cX6_atom 129 = .ok (.aload_n 0, 1) := by decide +kernel
theorem dX6_atom_130 : decode cX6_atom 130 = .ok (.iload_n 3, 1) := by decide +kernel
theorem dX6_atom_131 : decode cX6_atom 131 = .ok (.iload_n 3, 1) := by decide +kernel
theorem dX6_atom_132 : decode cX6_atom 132 = .ok (.iconst 0, 1) := by decide +kernel
theorem dX6_atom_133 : decode cX6_atom 133 = .ok (.invokevirtual 115, 3) := by decide +kernel
theorem dX6_atom_136 : decode cX6_atom 136 = .ok (.return_, 1) := by decide +kernel
theorem dX6_group_0 : decode cX6_group 0 = .ok (.iload_n 1, 1) := by decide +kernel
theorem dX6_group_1 : decode cX6_group 1 = .ok (.bipush 10, 2) := by decide +kernel
theorem dX6_group_3 : decode cX6_group 3 = .ok (.if_icmp .lt 9, 3) := by decide +kernel
theorem dX6_group_6 : decode cX6_group 6 = .ok (.aload_n 0, 1) := by decide +kernel
theorem dX6_group_7 : decode cX6_group 7 = .ok (.iconst 2, 1) := by decide +kernel
theorem dX6_group_8 : decode cX6_group 8 = .ok (.invokevirtual 71, 3) := by decide +kernel
theorem dX6_group_11 : decode cX6_group 11 = .ok (.return_, 1) := by decide +kernel
theorem dX6_group_12 : decode cX6_group 12 = .ok (.aload_n 0, 1) := by decide +kernel
theorem dX6_group_13 : decode cX6_group 13 = .ok (.dup, 1) := by decide +kernel
theorem dX6_group_14 : decode cX6_group 14 = .ok (.getfield 19, 3) := by decide +kernel
theorem dX6_group_17 : decode cX6_group 17 = .ok (.iconst 1, 1) := by decide +kernel
theorem dX6_group_18 : decode cX6_group 18 = .ok (.iadd, 1) := by decide +kernel
theorem dX6_group_19 : decode cX6_group 19 = .ok (.putfield 19, 3) := by decide +kernel
theorem dX6_group_22 : decode cX6_group 22 = .ok (.aload_n 0, 1) := by decide +kernel
theorem dX6_group_23 : decode cX6_group 23 = .ok (.iload_n 1, 1) := by decide +kernel
theorem dX6_group_24 : decode cX6_group 24 = .ok (.iconst 1, 1) := by decide +kernel
theorem dX6_group_25 : decode cX6_group 25 = .ok (.iadd, 1) := by decide +kernel
theorem dX6_group_26 : decode cX6_group 26 = .ok (.invokevirtual 101, 3) := by decide +kernel
theorem dX6_group_29 : decode cX6_group 29 = .ok (.aload_n 0, 1) := by decide +kernel
theorem dX6_group_30 : decode cX6_group 30 = .ok (.bipush 41, 2) := by decide +kernel
theorem dX6_group_32 : decode cX6_group 32 = .ok (.invokevirtual 91, 3) := by decide +kernel
theorem dX6_group_35 : decode cX6_group 35 = .ok (.return_, 1) := by decide +kernel
theorem dX6_lettersOf_0 : decode cX6_lettersOf 0 = .ok (.iload_n 0, 1) := by decide +kernel
theorem dX6_lettersOf_1 : decode cX6_lettersOf 1 = .ok (.bipush 46, 2) := by decide +kernel
theorem dX6_lettersOf_3 : decode cX6_lettersOf 3 = .ok (.if_icmp .ne 8, 3) := by decide +kernel
theorem dX6_lettersOf_6 : decode cX6_lettersOf 6 = .ok (.bipush 15, 2) := by decide +kernel
theorem dX6_lettersOf_8 : decode cX6_lettersOf 8 = .ok (.goto 9, 3) := by decide +kernel
theorem dX6_lettersOf_11 : decode cX6_lettersOf 11 = .ok (.iconst 1, 1) := by decide +kernel
theorem dX6_lettersOf_12 : decode cX6_lettersOf 12 = .ok (.iload_n 0, 1) := by decide +kernel
theorem dX6_lettersOf_13 : decode cX6_lettersOf 13 = .ok (.bipush 97, 2) := by decide +kernel
theorem dX6_lettersOf_15 : decode cX6_lettersOf 15 = .ok (.isub, 1) := by decide +kernel
theorem dX6_lettersOf_16 : decode cX6_lettersOf 16 = .ok (.ishl, 1) := by decide +kernel
theorem dX6_lettersOf_17 : decode cX6_lettersOf 17 = .ok (.ireturn, 1) := by decide +kernel
theorem dX6_bracket_0 : decode cX6_bracket 0 = .ok (.aload_n 0, 1) := by decide +kernel
theorem dX6_bracket_1 : decode cX6_bracket 1 = .ok (.invokevirtual 75, 3) := by decide +kernel
theorem dX6_bracket_4 : decode cX6_bracket 4 = .ok (.bipush 94, 2) := by decide +kernel
theorem dX6_bracket_6 : decode cX6_bracket 6 = .ok (.if_icmp .ne 7, 3) := by decide +kernel
theorem dX6_bracket_9 : decode cX6_bracket 9 = .ok (.iconst 1, 1) := by decide +kernel
theorem dX6_bracket_10 : decode cX6_bracket 10 = .ok (.goto 4, 3) := by decide +kernel
theorem dX6_bracket_13 : decode cX6_bracket 13 = .ok (.iconst 0, 1) := by decide +kernel
theorem dX6_bracket_14 : decode cX6_bracket 14 = .ok (.istore_n 1, 1) := by decide +kernel
theorem dX6_bracket_15 : decode cX6_bracket 15 = .ok (.iload_n 1, 1) := by decide +kernel
theorem dX6_bracket_16 : decode cX6_bracket 16 = .ok (.ifCond .eq 13, 3) := by decide +kernel
theorem dX6_bracket_19 : decode cX6_bracket 19 = .ok (.aload_n 0, 1) := by decide +kernel
theorem dX6_bracket_20 : decode cX6_bracket 20 = .ok (.dup, 1) := by decide +kernel
theorem dX6_bracket_21 : decode cX6_bracket 21 = .ok (.getfield 19, 3) := by decide +kernel
theorem dX6_bracket_24 : decode cX6_bracket 24 = .ok (.iconst 1, 1) := by decide +kernel
theorem dX6_bracket_25 : decode cX6_bracket 25 = .ok (.iadd, 1) := by decide +kernel
theorem dX6_bracket_26 : decode cX6_bracket 26 = .ok (.putfield 19, 3) := by decide +kernel
theorem dX6_bracket_29 : decode cX6_bracket 29 = .ok (.aload_n 0, 1) := by decide +kernel
theorem dX6_bracket_30 : decode cX6_bracket 30 = .ok (.invokevirtual 148, 3) := by decide +kernel
theorem dX6_bracket_33 : decode cX6_bracket 33 = .ok (.istore_n 2, 1) := by decide +kernel
theorem dX6_bracket_34 : decode cX6_bracket 34 = .ok (.iconst 0, 1) := by decide +kernel
theorem dX6_bracket_35 : decode cX6_bracket 35 = .ok (.istore_n 3, 1) := by decide +kernel
theorem dX6_bracket_36 : decode cX6_bracket 36 = .ok (.iload_n 3, 1) := by decide +kernel
theorem dX6_bracket_37 : decode cX6_bracket 37 = .ok (.aload_n 0, 1) := by decide +kernel
theorem dX6_bracket_38 : decode cX6_bracket 38 = .ok (.getfield 15, 3) := by decide +kernel
theorem dX6_bracket_41 : decode cX6_bracket 41 = .ok (.if_icmp .ge 26, 3) := by decide +kernel
theorem dX6_bracket_44 : decode cX6_bracket 44 = .ok (.aload_n 0, 1) := by decide +kernel
theorem dX6_bracket_45 : decode cX6_bracket 45 = .ok (.invokevirtual 75, 3) := by decide +kernel
theorem dX6_bracket_48 : decode cX6_bracket 48 = .ok (.invokestatic 151, 3) := by decide +kernel
theorem dX6_bracket_51 : decode cX6_bracket 51 = .ok (.ifCond .eq 16, 3) := by decide +kernel
theorem dX6_bracket_54 : decode cX6_bracket 54 = .ok (.iload_n 2, 1) := by decide +kernel
theorem dX6_bracket_55 : decode cX6_bracket 55 = .ok (.aload_n 0, 1) := by decide +kernel
theorem dX6_bracket_56 : decode cX6_bracket 56 = .ok (.invokevirtual 148, 3) := by decide +kernel
theorem dX6_bracket_59 : decode cX6_bracket 59 = .ok (.ior, 1) := by decide +kernel
theorem dX6_bracket_60 : decode cX6_bracket 60 = .ok (.istore_n 2, 1) := by decide +kernel
theorem dX6_bracket_61 : decode cX6_bracket 61 = .ok (.iinc 3 1, 3) := by decide +kernel
theorem dX6_bracket_64 : decode cX6_bracket 64 = .ok (.goto (-28), 3) := by decide +kernel
theorem dX6_bracket_67 : decode cX6_bracket 67 = .ok (.aload_n 0, 1) := by decide +kernel
theorem dX6_bracket_68 : decode cX6_bracket 68 = .ok (.bipush 93, 2) := by decide +kernel
theorem dX6_bracket_70 : decode cX6_bracket 70 = .ok (.invokevirtual 91, 3) := by decide +kernel
theorem dX6_bracket_73 : decode cX6_bracket 73 = .ok (.iload_n 1, 1) := by decide +kernel
theorem dX6_bracket_74 : decode cX6_bracket 74 = .ok (.ifCond .eq 12, 3) := by decide +kernel
theorem dX6_bracket_77 : decode cX6_bracket 77 = .ok (.bipush 15, 2) := by decide +kernel
theorem dX6_bracket_79 : decode cX6_bracket 79 = .ok (.iload_n 2, 1) := by decide +kernel
theorem dX6_bracket_80 : decode cX6_bracket 80 = .ok (.iconst (-1), 1) := by decide +kernel
theorem dX6_bracket_81 : decode cX6_bracket 81 = .ok (.ixor, 1) := by decide +kernel
theorem dX6_bracket_82 : decode cX6_bracket 82 = .ok (.iand, 1) := by decide +kernel
theorem dX6_bracket_83 : decode cX6_bracket 83 = .ok (.goto 4, 3) := by decide +kernel
theorem dX6_bracket_86 : decode cX6_bracket 86 = .ok (.iload_n 2, 1) := by decide +kernel
theorem dX6_bracket_87 : decode cX6_bracket 87 = .ok (.ireturn, 1) := by decide +kernel
theorem dX6_range_0 : decode cX6_range 0 = .ok (.aload_n 0, 1) := by decide +kernel
theorem dX6_range_1 : decode cX6_range 1 = .ok (.invokevirtual 75, 3) := by decide +kernel
theorem dX6_range_4 : decode cX6_range 4 = .ok (.istore_n 1, 1) := by decide +kernel
theorem dX6_range_5 : decode cX6_range 5 = .ok (.iload_n 1, 1) := by decide +kernel
theorem dX6_range_6 : decode cX6_range 6 = .ok (.invokestatic 151, 3) := by decide +kernel
theorem dX6_range_9 : decode cX6_range 9 = .ok (.ifCond .ne 10, 3) := by decide +kernel
theorem dX6_range_12 : decode cX6_range 12 = .ok (.aload_n 0, 1) := by decide +kernel
theorem dX6_range_13 : decode cX6_range 13 = .ok (.iconst 1, 1) := by decide +kernel
theorem dX6_range_14 : decode cX6_range 14 = .ok (.invokevirtual 71, 3) := by decide +kernel
theorem dX6_range_17 : decode cX6_range 17 = .ok (.iconst 0, 1) := by decide +kernel
theorem dX6_range_18 : decode cX6_range 18 = .ok (.ireturn, 1) := by decide +kernel
theorem dX6_range_19 : decode cX6_range 19 = .ok (.aload_n 0, 1) := by decide +kernel
theorem dX6_range_20 : decode cX6_range 20 = .ok (.dup, 1) := by decide +kernel
theorem dX6_range_21 : decode cX6_range 21 = .ok (.getfield 19, 3) := by decide +kernel
theorem dX6_range_24 : decode cX6_range 24 = .ok (.iconst 1, 1) := by decide +kernel
theorem dX6_range_25 : decode cX6_range 25 = .ok (.iadd, 1) := by decide +kernel
theorem dX6_range_26 : decode cX6_range 26 = .ok (.putfield 19, 3) := by decide +kernel
theorem dX6_range_29 : decode cX6_range 29 = .ok (.aload_n 0, 1) := by decide +kernel
theorem dX6_range_30 : decode cX6_range 30 = .ok (.invokevirtual 75, 3) := by decide +kernel
theorem dX6_range_33 : decode cX6_range 33 = .ok (.bipush 45, 2) := by decide +kernel
theorem dX6_range_35 : decode cX6_range 35 = .ok (.if_icmp .eq 8, 3) := by decide +kernel
theorem dX6_range_38 : decode cX6_range 38 = .ok (.iload_n 1, 1) := by decide +kernel
theorem dX6_range_39 : decode cX6_range 39 = .ok (.invokestatic 141, 3) := by decide +kernel
theorem dX6_range_42 : decode cX6_range 42 = .ok (.ireturn, 1) := by decide +kernel
theorem dX6_range_43 : decode cX6_range 43 = .ok (.aload_n 0, 1) := by decide +kernel
theorem dX6_range_44 : decode cX6_range 44 = .ok (.dup, 1) := by decide +kernel
theorem dX6_range_45 : decode cX6_range 45 = .ok (.getfield 19, 3) := by decide +kernel
theorem dX6_range_48 : decode cX6_range 48 = .ok (.iconst 1, 1) := by decide +kernel
theorem dX6_range_49 : decode cX6_range 49 = .ok (.iadd, 1) := by decide +kernel
theorem dX6_range_50 : decode cX6_range 50 = .ok (.putfield 19, 3) := by decide +kernel
theorem dX6_range_53 : decode cX6_range 53 = .ok (.aload_n 0, 1) := by decide +kernel
theorem dX6_range_54 : decode cX6_range 54 = .ok (.invokevirtual 75, 3) := by decide +kernel
theorem dX6_range_57 : decode cX6_range 57 = .ok (.istore_n 2, 1) := by decide +kernel
theorem dX6_range_58 : decode cX6_range 58 = .ok (.iload_n 2, 1) := by decide +kernel
theorem dX6_range_59 : decode cX6_range 59 = .ok (.invokestatic 151, 3) := by decide +kernel
theorem dX6_range_62 : decode cX6_range 62 = .ok (.ifCond .eq 8, 3) := by decide +kernel
theorem dX6_range_65 : decode cX6_range 65 = .ok (.iload_n 2, 1) := by decide +kernel
theorem dX6_range_66 : decode cX6_range 66 = .ok (.iload_n 1, 1) := by decide +kernel
theorem dX6_range_67 : decode cX6_range 67 = .ok (.if_icmp .ge 10, 3) := by decide +kernel
theorem dX6_range_70 : decode cX6_range 70 = .ok (.aload_n 0, 1) := by decide +kernel
theorem dX6_range_71 : decode cX6_range 71 = .ok (.iconst 1, 1) := by decide +kernel
theorem dX6_range_72 : decode cX6_range 72 = .ok (.invokevirtual 71, 3) := by decide +kernel
theorem dX6_range_75 : decode cX6_range 75 = .ok (.iconst 0, 1) := by decide +kernel
theorem dX6_range_76 : decode cX6_range 76 = .ok (.ireturn, 1) := by decide +kernel
theorem dX6_range_77 : decode cX6_range 77 = .ok (.aload_n 0, 1) := by decide +kernel
theorem dX6_range_78 : decode cX6_range 78 = .ok (.dup, 1) := by decide +kernel
theorem dX6_range_79 : decode cX6_range 79 = .ok (.getfield 19, 3) := by decide +kernel
theorem dX6_range_82 : decode cX6_range 82 = .ok (.iconst 1, 1) := by decide +kernel
theorem dX6_range_83 : decode cX6_range 83 = .ok (.iadd, 1) := by decide +kernel
theorem dX6_range_84 : decode cX6_range 84 = .ok (.putfield 19, 3) := by decide +kernel
theorem dX6_range_87 : decode cX6_range 87 = .ok (.iconst 2, 1) := by decide +kernel
theorem dX6_range_88 : decode cX6_range 88 = .ok (.iload_n 2, 1) := by decide +kernel
theorem dX6_range_89 : decode cX6_range 89 = .ok (.bipush 97, 2) := by decide +kernel
theorem dX6_range_91 : decode cX6_range 91 = .ok (.isub, 1) := by decide +kernel
theorem dX6_range_92 : decode cX6_range 92 = .ok (.ishl, 1) := by decide +kernel
theorem dX6_range_93 : decode cX6_range 93 = .ok (.iconst 1, 1) := by decide +kernel
theorem dX6_range_94 : decode cX6_range 94 = .ok (.iload_n 1, 1) := by decide +kernel
theorem dX6_range_95 : decode cX6_range 95 = .ok (.bipush 97, 2) := by decide +kernel
theorem dX6_range_97 : decode cX6_range 97 = .ok (.isub, 1) := by decide +kernel
theorem dX6_range_98 : decode cX6_range 98 = .ok (.ishl, 1) := by decide +kernel
theorem dX6_range_99 : decode cX6_range 99 = .ok (.isub, 1) := by decide +kernel
theorem dX6_range_100 : decode cX6_range 100 = .ok (.ireturn, 1) := by decide +kernel
theorem dX6_setPiece_0 : decode cX6_setPiece 0 = .ok (.aload_n 0, 1) := by decide +kernel
theorem dX6_setPiece_1 : decode cX6_setPiece 1 = .ok (.iload_n 1, 1) := by decide +kernel
theorem dX6_setPiece_2 : decode cX6_setPiece 2 = .ok (.putfield 35, 3) := by decide +kernel
theorem dX6_setPiece_5 : decode cX6_setPiece 5 = .ok (.aload_n 0, 1) := by decide +kernel
theorem dX6_setPiece_6 : decode cX6_setPiece 6 = .ok (.iload_n 2, 1) := by decide +kernel
theorem dX6_setPiece_7 : decode cX6_setPiece 7 = .ok (.putfield 38, 3) := by decide +kernel
theorem dX6_setPiece_10 : decode cX6_setPiece 10 = .ok (.aload_n 0, 1) := by decide +kernel
theorem dX6_setPiece_11 : decode cX6_setPiece 11 = .ok (.iload_n 3, 1) := by decide +kernel
theorem dX6_setPiece_12 : decode cX6_setPiece 12 = .ok (.putfield 41, 3) := by decide +kernel
theorem dX6_setPiece_15 : decode cX6_setPiece 15 = .ok (.return_, 1) := by decide +kernel
theorem dX6_beginsAtom_0 : decode cX6_beginsAtom 0 = .ok (.iload_n 0, 1) := by decide +kernel
theorem dX6_beginsAtom_1 : decode cX6_beginsAtom 1 = .ok (.invokestatic 151, 3) := by decide +kernel
theorem dX6_beginsAtom_4 : decode cX6_beginsAtom 4 = .ok (.ifCond .ne 33, 3) := by decide +kernel
theorem dX6_beginsAtom_7 : decode cX6_beginsAtom 7 = .ok (.iload_n 0, 1) := by decide +kernel
theorem dX6_beginsAtom_8 : decode cX6_beginsAtom 8 = .ok (.bipush 46, 2) := by decide +kernel
theorem dX6_beginsAtom_10 : decode cX6_beginsAtom 10 = .ok (.if_icmp .eq 27, 3) := by decide +kernel
theorem dX6_beginsAtom_13 : decode cX6_beginsAtom 13 = .ok (.iload_n 0, 1) := by decide +kernel
theorem dX6_beginsAtom_14 : decode cX6_beginsAtom 14 = .ok (.bipush 91, 2) := by decide +kernel
theorem dX6_beginsAtom_16 : decode cX6_beginsAtom 16 = .ok (.if_icmp .eq 21, 3) := by decide +kernel
theorem dX6_beginsAtom_19 : decode cX6_beginsAtom 19 = .ok (.iload_n 0, 1) := by decide +kernel
theorem dX6_beginsAtom_20 : decode cX6_beginsAtom 20 = .ok (.bipush 40, 2) := by decide +kernel
theorem dX6_beginsAtom_22 : decode cX6_beginsAtom 22 = .ok (.if_icmp .eq 15, 3) := by decide +kernel
theorem dX6_beginsAtom_25 : decode cX6_beginsAtom 25 = .ok (.iload_n 0, 1) := by decide +kernel
theorem dX6_beginsAtom_26 : decode cX6_beginsAtom 26 = .ok (.bipush 48, 2) := by decide +kernel
theorem dX6_beginsAtom_28 : decode cX6_beginsAtom 28 = .ok (.if_icmp .eq 9, 3) := by decide +kernel
theorem dX6_beginsAtom_31 : decode cX6_beginsAtom 31 = .ok (.iload_n 0, 1) := by decide +kernel
theorem dX6_beginsAtom_32 : decode cX6_beginsAtom 32 = .ok (.bipush 49, 2) := by decide +kernel
theorem dX6_beginsAtom_34 : decode cX6_beginsAtom 34 = .ok (.if_icmp .ne 7, 3) := by decide +kernel
theorem dX6_beginsAtom_37 : decode cX6_beginsAtom 37 = .ok (.iconst 1, 1) := by decide +kernel
theorem dX6_beginsAtom_38 : decode cX6_beginsAtom 38 = .ok (.goto 4, 3) := by decide +kernel
theorem dX6_beginsAtom_41 : decode cX6_beginsAtom 41 = .ok (.iconst 0, 1) := by decide +kernel
theorem dX6_beginsAtom_42 : decode cX6_beginsAtom 42 = .ok (.ireturn, 1) := by decide +kernel
theorem dX6_isRepeat_0 : decode cX6_isRepeat 0 = .ok (.iload_n 0, 1) := by decide +kernel
theorem dX6_isRepeat_1 : decode cX6_isRepeat 1 = .ok (.bipush 42, 2) := by decide +kernel
theorem dX6_isRepeat_3 : decode cX6_isRepeat 3 = .ok (.if_icmp .eq 15, 3) := by decide +kernel
theorem dX6_isRepeat_6 : decode cX6_isRepeat 6 = .ok (.iload_n 0, 1) := by decide +kernel
theorem dX6_isRepeat_7 : decode cX6_isRepeat 7 = .ok (.bipush 43, 2) := by decide +kernel
theorem dX6_isRepeat_9 : decode cX6_isRepeat 9 = .ok (.if_icmp .eq 9, 3) := by decide +kernel
theorem dX6_isRepeat_12 : decode cX6_isRepeat 12 = .ok (.iload_n 0, 1) := by decide +kernel
theorem dX6_isRepeat_13 : decode cX6_isRepeat 13 = .ok (.bipush 63, 2) := by decide +kernel
theorem dX6_isRepeat_15 : decode cX6_isRepeat 15 = .ok (.if_icmp .ne 7, 3) := by decide +kernel
theorem dX6_isRepeat_18 : decode cX6_isRepeat 18 = .ok (.iconst 1, 1) := by decide +kernel
theorem dX6_isRepeat_19 : decode cX6_isRepeat 19 = .ok (.goto 4, 3) := by decide +kernel
theorem dX6_isRepeat_22 : decode cX6_isRepeat 22 = .ok (.iconst 0, 1) := by decide +kernel
theorem dX6_isRepeat_23 : decode cX6_isRepeat 23 = .ok (.ireturn, 1) := by decide +kernel
theorem dX7_init_0 : decode cX7_init 0 = .ok (.aload_n 0, 1) := by decide +kernel
theorem dX7_init_1 : decode cX7_init 1 = .ok (.invokespecial 3, 3) := by decide +kernel
theorem dX7_init_4 : decode cX7_init 4 = .ok (.aload_n 0, 1) := by decide +kernel
theorem dX7_init_5 : decode cX7_init 5 = .ok (.iconst 0, 1) := by decide +kernel
theorem dX7_init_6 : decode cX7_init 6 = .ok (.putfield 9, 3) := by decide +kernel
theorem dX7_init_9 : decode cX7_init 9 = .ok (.aload_n 0, 1) := by decide +kernel
theorem dX7_init_10 : decode cX7_init 10 = .ok (.lconst 0, 1) := by decide +kernel
theorem dX7_init_11 : decode cX7_init 11 = .ok (.putfield 15, 3) := by decide +kernel
theorem dX7_init_14 : decode cX7_init 14 = .ok (.aload_n 0, 1) := by decide +kernel
theorem dX7_init_15 : decode cX7_init 15 = .ok (.bipush 6, 2) := by decide +kernel
theorem dX7_init_17 : decode cX7_init 17 = .ok (.newarray .int, 2) := by decide +kernel
theorem dX7_init_19 : decode cX7_init 19 = .ok (.putfield 19, 3) := by decide +kernel
theorem dX7_init_22 : decode cX7_init 22 = .ok (.aload_n 0, 1) := by decide +kernel
theorem dX7_init_23 : decode cX7_init 23 = .ok (.bipush 6, 2) := by decide +kernel
theorem dX7_init_25 : decode cX7_init 25 = .ok (.newarray .int, 2) := by decide +kernel
theorem dX7_init_27 : decode cX7_init 27 = .ok (.putfield 23, 3) := by decide +kernel
theorem dX7_init_30 : decode cX7_init 30 = .ok (.aload_n 0, 1) := by decide +kernel
theorem dX7_init_31 : decode cX7_init 31 = .ok (.bipush 6, 2) := by decide +kernel
theorem dX7_init_33 : decode cX7_init 33 = .ok (.newarray .int, 2) := by decide +kernel
theorem dX7_init_35 : decode cX7_init 35 = .ok (.putfield 26, 3) := by decide +kernel
theorem dX7_init_38 : decode cX7_init 38 = .ok (.aload_n 0, 1) := by decide +kernel
theorem dX7_init_39 : decode cX7_init 39 = .ok (.bipush 6, 2) := by decide +kernel
theorem dX7_init_41 : decode cX7_init 41 = .ok (.newarray .boolean, 2) := by decide +kernel
theorem dX7_init_43 : decode cX7_init 43 = .ok (.putfield 29, 3) := by decide +kernel
theorem dX7_init_46 : decode cX7_init 46 = .ok (.aload_n 0, 1) := by decide +kernel
theorem dX7_init_47 : decode cX7_init 47 = .ok (.bipush 24, 2) := by decide +kernel
theorem dX7_init_49 : decode cX7_init 49 = .ok (.newarray .int, 2) := by decide +kernel
theorem dX7_init_51 : decode cX7_init 51 = .ok (.putfield 33, 3) := by decide +kernel
theorem dX7_init_54 : decode cX7_init 54 = .ok (.aload_n 0, 1) := by decide +kernel
theorem dX7_init_55 : decode cX7_init 55 = .ok (.sipush 180, 3) := by decide +kernel
theorem dX7_init_58 : decode cX7_init 58 = .ok (.newarray .int, 2) := by decide +kernel
theorem dX7_init_60 : decode cX7_init 60 = .ok (.putfield 36, 3) := by decide +kernel
theorem dX7_init_63 : decode cX7_init 63 = .ok (.return_, 1) := by decide +kernel
theorem dX7_begin_0 : decode cX7_begin 0 = .ok (.aload_n 0, 1) := by decide +kernel
theorem dX7_begin_1 : decode cX7_begin 1 = .ok (.getfield 19, 3) := by decide +kernel
theorem dX7_begin_4 : decode cX7_begin 4 = .ok (.aload_n 0, 1) := by decide +kernel
theorem dX7_begin_5 : decode cX7_begin 5 = .ok (.getfield 9, 3) := by decide +kernel
theorem dX7_begin_8 : decode cX7_begin 8 = .ok (.iconst 0, 1) := by decide +kernel
theorem dX7_begin_9 : decode cX7_begin 9 = .ok (.iastore, 1) := by decide +kernel
theorem dX7_begin_10 : decode cX7_begin 10 = .ok (.iconst 0, 1) := by decide +kernel
theorem dX7_begin_11 : decode cX7_begin 11 = .ok (.istore_n 1, 1) := by decide +kernel
theorem dX7_begin_12 : decode cX7_begin 12 = .ok (.iload_n 1, 1) := by decide +kernel
theorem dX7_begin_13 : decode cX7_begin 13 = .ok (.iconst 4, 1) := by decide +kernel
theorem dX7_begin_14 : decode cX7_begin 14 = .ok (.if_icmp .ge 23, 3) := by decide +kernel
theorem dX7_begin_17 : decode cX7_begin 17 = .ok (.aload_n 0, 1) := by decide +kernel
theorem dX7_begin_18 : decode cX7_begin 18 = .ok (.getfield 33, 3) := by decide +kernel
theorem dX7_begin_21 : decode cX7_begin 21 = .ok (.aload_n 0, 1) := by decide +kernel
theorem dX7_begin_22 : decode cX7_begin 22 = .ok (.getfield 9, 3) := by decide +kernel
theorem dX7_begin_25 : decode cX7_begin 25 = .ok (.iconst 4, 1) := by decide +kernel
theorem dX7_begin_26 : decode cX7_begin 26 = .ok (.imul, 1) := by decide +kernel
theorem dX7_begin_27 : decode cX7_begin 27 = .ok (.iload_n 1, 1) := by decide +kernel
theorem dX7_begin_28 : decode cX7_begin 28 = .ok (.iadd, 1) := by decide +kernel
theorem dX7_begin_29 : decode cX7_begin 29 = .ok (.iconst 0, 1) := by decide +kernel
theorem dX7_begin_30 : decode cX7_begin 30 = .ok (.iastore, 1) := by decide +kernel
theorem dX7_begin_31 : decode cX7_begin 31 = .ok (.iinc 1 1, 3) := by decide +kernel
theorem dX7_begin_34 : decode cX7_begin 34 = .ok (.goto (-22), 3) := by decide +kernel
theorem dX7_begin_37 : decode cX7_begin 37 = .ok (.return_, 1) := by decide +kernel
theorem dX7_end_0 : decode cX7_end 0 = .ok (.aload_n 0, 1) := by decide +kernel
theorem dX7_end_1 : decode cX7_end 1 = .ok (.getfield 23, 3) := by decide +kernel
theorem dX7_end_4 : decode cX7_end 4 = .ok (.aload_n 0, 1) := by decide +kernel
theorem dX7_end_5 : decode cX7_end 5 = .ok (.getfield 9, 3) := by decide +kernel
theorem dX7_end_8 : decode cX7_end 8 = .ok (.iload_n 1, 1) := by decide +kernel
theorem dX7_end_9 : decode cX7_end 9 = .ok (.iastore, 1) := by decide +kernel
theorem dX7_end_10 : decode cX7_end 10 = .ok (.aload_n 0, 1) := by decide +kernel
theorem dX7_end_11 : decode cX7_end 11 = .ok (.getfield 26, 3) := by decide +kernel
theorem dX7_end_14 : decode cX7_end 14 = .ok (.aload_n 0, 1) := by decide +kernel
theorem dX7_end_15 : decode cX7_end 15 = .ok (.getfield 9, 3) := by decide +kernel
theorem dX7_end_18 : decode cX7_end 18 = .ok (.iload_n 2, 1) := by decide +kernel
theorem dX7_end_19 : decode cX7_end 19 = .ok (.iastore, 1) := by decide +kernel
theorem dX7_end_20 : decode cX7_end 20 = .ok (.aload_n 0, 1) := by decide +kernel
theorem dX7_end_21 : decode cX7_end 21 = .ok (.getfield 29, 3) := by decide +kernel
theorem dX7_end_24 : decode cX7_end 24 = .ok (.aload_n 0, 1) := by decide +kernel
theorem dX7_end_25 : decode cX7_end 25 = .ok (.getfield 9, 3) := by decide +kernel
theorem dX7_end_28 : decode cX7_end 28 = .ok (.iload_n 3, 1) := by decide +kernel
theorem dX7_end_29 : decode cX7_end 29 = .ok (.bastore, 1) := by decide +kernel
theorem dX7_end_30 : decode cX7_end 30 = .ok (.aload_n 0, 1) := by decide +kernel
theorem dX7_end_31 : decode cX7_end 31 = .ok (.dup, 1) := by decide +kernel
theorem dX7_end_32 : decode cX7_end 32 = .ok (.getfield 9, 3) := by decide +kernel
theorem dX7_end_35 : decode cX7_end 35 = .ok (.iconst 1, 1) := by decide +kernel
theorem dX7_end_36 : decode cX7_end 36 = .ok (.iadd, 1) := by decide +kernel
theorem dX7_end_37 : decode cX7_end 37 = .ok (.putfield 9, 3) := by decide +kernel
theorem dX7_end_40 : decode cX7_end 40 = .ok (.return_, 1) := by decide +kernel
theorem dX7_isFull_0 : decode cX7_isFull 0 = .ok (.aload_n 0, 1) := by decide +kernel
theorem dX7_isFull_1 : decode cX7_isFull 1 = .ok (.getfield 19, 3) := by decide +kernel
theorem dX7_isFull_4 : decode cX7_isFull 4 = .ok (.aload_n 0, 1) := by decide +kernel
theorem dX7_isFull_5 : decode cX7_isFull 5 = .ok (.getfield 9, 3) := by decide +kernel
theorem dX7_isFull_8 : decode cX7_isFull 8 = .ok (.iaload, 1) := by decide +kernel
theorem dX7_isFull_9 : decode cX7_isFull 9 = .ok (.bipush 30, 2) := by decide +kernel
theorem dX7_isFull_11 : decode cX7_isFull 11 = .ok (.if_icmp .lt 7, 3) := by decide +kernel
theorem dX7_isFull_14 : decode cX7_isFull 14 = .ok (.iconst 1, 1) := by decide +kernel
theorem dX7_isFull_15 : decode cX7_isFull 15 = .ok (.goto 4, 3) := by decide +kernel
theorem dX7_isFull_18 : decode cX7_isFull 18 = .ok (.iconst 0, 1) := by decide +kernel
theorem dX7_isFull_19 : decode cX7_isFull 19 = .ok (.ireturn, 1) := by decide +kernel
theorem dX7_addSpot_0 : decode cX7_addSpot 0 = .ok (.aload_n 0, 1) := by decide +kernel
theorem dX7_addSpot_1 : decode cX7_addSpot 1 = .ok (.getfield 19, 3) := by decide +kernel
theorem dX7_addSpot_4 : decode cX7_addSpot 4 = .ok (.aload_n 0, 1) := by decide +kernel
theorem dX7_addSpot_5 : decode cX7_addSpot 5 = .ok (.getfield 9, 3) := by decide +kernel
theorem dX7_addSpot_8 : decode cX7_addSpot 8 = .ok (.iaload, 1) := by decide +kernel
theorem dX7_addSpot_9 : decode cX7_addSpot 9 = .ok (.istore_n 2, 1) := by decide +kernel
theorem dX7_addSpot_10 : decode cX7_addSpot 10 = .ok (.iconst 1, 1) := by decide +kernel
theorem dX7_addSpot_11 : decode cX7_addSpot 11 = .ok (.iload_n 2, 1) := by decide +kernel
theorem dX7_addSpot_12 : decode cX7_addSpot 12 = .ok (.ishl, 1) := by decide +kernel
theorem dX7_addSpot_13 : decode cX7_addSpot 13 = .ok (.istore_n 3, 1) := by decide +kernel
theorem dX7_addSpot_14 : decode cX7_addSpot 14 = .ok (.aload_n 0, 1) := by decide +kernel
theorem dX7_addSpot_15 : decode cX7_addSpot 15 = .ok (.getfield 36, 3) := by decide +kernel
theorem dX7_addSpot_18 : decode cX7_addSpot 18 = .ok (.aload_n 0, 1) := by decide +kernel
theorem dX7_addSpot_19 : decode cX7_addSpot 19 = .ok (.getfield 9, 3) := by decide +kernel
theorem dX7_addSpot_22 : decode cX7_addSpot 22 = .ok (.bipush 30, 2) := by decide +kernel
theorem dX7_addSpot_24 : decode cX7_addSpot 24 = .ok (.imul, 1) := by decide +kernel
theorem dX7_addSpot_25 : decode cX7_addSpot 25 = .ok (.iload_n 2, 1) := by decide +kernel
theorem dX7_addSpot_26 : decode cX7_addSpot 26 = .ok (.iadd, 1) := by decide +kernel
theorem dX7_addSpot_27 : decode cX7_addSpot 27 = .ok (.iconst 0, 1) := by decide +kernel
theorem dX7_addSpot_28 : decode cX7_addSpot 28 = .ok (.iastore, 1) := by decide +kernel
theorem dX7_addSpot_29 : decode cX7_addSpot 29 = .ok (.iconst 0, 1) := by decide +kernel
theorem dX7_addSpot_30 : decode cX7_addSpot 30 = .ok (.istore 4, 2) := by decide +kernel
theorem dX7_addSpot_32 : decode cX7_addSpot 32 = .ok (.iload 4, 2) := by decide +kernel
theorem dX7_addSpot_34 : decode cX7_addSpot 34 = .ok (.iconst 4, 1) := by decide +kernel
theorem dX7_addSpot_35 : decode cX7_addSpot 35 = .ok (.if_icmp .ge 36, 3) := by decide +kernel
theorem dX7_addSpot_38 : decode cX7_addSpot 38 = .ok (.iload_n 1, 1) := by decide +kernel
theorem dX7_addSpot_39 : decode cX7_addSpot 39 = .ok (.iload 4, 2) := by decide +kernel
theorem dX7_addSpot_41 : decode cX7_addSpot 41 = .ok (.ishr, 1) := by decide +kernel
theorem dX7_addSpot_42 : decode cX7_addSpot 42 = .ok (.iconst 1, 1) := by decide +kernel
theorem dX7_addSpot_43 : decode cX7_addSpot 43 = .ok (.iand, 1) := by decide +kernel
theorem dX7_addSpot_44 : decode cX7_addSpot 44 = .ok (.ifCond .eq 21, 3) := by decide +kernel
theorem dX7_addSpot_47 : decode cX7_addSpot 47 = .ok (.aload_n 0, 1) := by decide +kernel
theorem dX7_addSpot_48 : decode cX7_addSpot 48 = .ok (.getfield 33, 3) := by decide +kernel
theorem dX7_addSpot_51 : decode cX7_addSpot 51 = .ok (.aload_n 0, 1) := by decide +kernel
theorem dX7_addSpot_52 : decode cX7_addSpot 52 = .ok (.getfield 9, 3) := by decide +kernel
theorem dX7_addSpot_55 : decode cX7_addSpot 55 = .ok (.iconst 4, 1) := by decide +kernel
theorem dX7_addSpot_56 : decode cX7_addSpot 56 = .ok (.imul, 1) := by decide +kernel
theorem dX7_addSpot_57 : decode cX7_addSpot 57 = .ok (.iload 4, 2) := by decide +kernel
theorem dX7_addSpot_59 : decode cX7_addSpot 59 = .ok (.iadd, 1) := by decide +kernel
theorem dX7_addSpot_60 : decode cX7_addSpot 60 = .ok (.dup2, 1) := by decide +kernel
theorem dX7_addSpot_61 : decode cX7_addSpot 61 = .ok (.iaload, 1) := by decide +kernel
theorem dX7_addSpot_62 : decode cX7_addSpot 62 = .ok (.iload_n 3, 1) := by decide +kernel
theorem dX7_addSpot_63 : decode cX7_addSpot 63 = .ok (.ior, 1) := by decide +kernel
theorem dX7_addSpot_64 : decode cX7_addSpot 64 = .ok (.iastore, 1) := by decide +kernel
theorem dX7_addSpot_65 : decode cX7_addSpot 65 = .ok (.iinc 4 1, 3) := by decide +kernel
theorem dX7_addSpot_68 : decode cX7_addSpot 68 = .ok (.goto (-36), 3) := by decide +kernel
theorem dX7_addSpot_71 : decode cX7_addSpot 71 = .ok (.aload_n 0, 1) := by decide +kernel
theorem dX7_addSpot_72 : decode cX7_addSpot 72 = .ok (.getfield 19, 3) := by decide +kernel
theorem dX7_addSpot_75 : decode cX7_addSpot 75 = .ok (.aload_n 0, 1) := by decide +kernel
theorem dX7_addSpot_76 : decode cX7_addSpot 76 = .ok (.getfield 9, 3) := by decide +kernel
theorem dX7_addSpot_79 : decode cX7_addSpot 79 = .ok (.iload_n 2, 1) := by decide +kernel
theorem dX7_addSpot_80 : decode cX7_addSpot 80 = .ok (.iconst 1, 1) := by decide +kernel
theorem dX7_addSpot_81 : decode cX7_addSpot 81 = .ok (.iadd, 1) := by decide +kernel
theorem dX7_addSpot_82 : decode cX7_addSpot 82 = .ok (.iastore, 1) := by decide +kernel
theorem dX7_addSpot_83 : decode cX7_addSpot 83 = .ok (.iload_n 3, 1) := by decide +kernel
theorem dX7_addSpot_84 : decode cX7_addSpot 84 = .ok (.ireturn, 1) := by decide +kernel
theorem dX7_link_0 : decode cX7_link 0 = .ok (.iconst 0, 1) := by decide +kernel
theorem dX7_link_1 : decode cX7_link 1 = .ok (.istore_n 3, 1) := by decide +kernel
theorem dX7_link_2 : decode cX7_link 2 = .ok (.iload_n 3, 1) := by decide +kernel
theorem dX7_link_3 : decode cX7_link 3 = .ok (.aload_n 0, 1) := by decide +kernel
theorem dX7_link_4 : decode cX7_link 4 = .ok (.getfield 19, 3) := by decide +kernel
theorem dX7_link_7 : decode cX7_link 7 = .ok (.aload_n 0, 1) := by decide +kernel
theorem dX7_link_8 : decode cX7_link 8 = .ok (.getfield 9, 3) := by decide +kernel
theorem dX7_link_11 : decode cX7_link 11 = .ok (.iaload, 1) := by decide +kernel
theorem dX7_link_12 : decode cX7_link 12 = .ok (.if_icmp .ge 35, 3) := by decide +kernel
theorem dX7_link_15 : decode cX7_link 15 = .ok (.iload_n 1, 1) := by decide +kernel
theorem dX7_link_16 : decode cX7_link 16 = .ok (.iload_n 3, 1) := by decide +kernel
theorem dX7_link_17 : decode cX7_link 17 = .ok (.ishr, 1) := by decide +kernel
theorem dX7_link_18 : decode cX7_link 18 = .ok (.iconst 1, 1) := by decide +kernel
theorem dX7_link_19 : decode cX7_link 19 = .ok (.iand, 1) := by decide +kernel
theorem dX7_link_20 : decode cX7_link 20 = .ok (.ifCond .eq 21, 3) := by decide +kernel
theorem dX7_link_23 : decode cX7_link 23 = .ok (.aload_n 0, 1) := by decide +kernel
theorem dX7_link_24 : decode cX7_link 24 = .ok (.getfield 36, 3) := by decide +kernel
theorem dX7_link_27 : decode cX7_link 27 = .ok (.aload_n 0, 1) := by decide +kernel
theorem dX7_link_28 : decode cX7_link 28 = .ok (.getfield 9, 3) := by decide +kernel
theorem dX7_link_31 : decode cX7_link 31 = .ok (.bipush 30, 2) := by decide +kernel
theorem dX7_link_33 : decode cX7_link 33 = .ok (.imul, 1) := by decide +kernel
theorem dX7_link_34 : decode cX7_link 34 = .ok (.iload_n 3, 1) := by decide +kernel
theorem dX7_link_35 : decode cX7_link 35 = .ok (.iadd, 1) := by decide +kernel
theorem dX7_link_36 : decode cX7_link 36 = .ok (.dup2, 1) := by decide +kernel
theorem dX7_link_37 : decode cX7_link 37 = .ok (.iaload, 1) := by decide +kernel
theorem dX7_link_38 : decode cX7_link 38 = .ok (.iload_n 2, 1) := by decide +kernel
theorem dX7_link_39 : decode cX7_link 39 = .ok (.ior, 1) := by decide +kernel
theorem dX7_link_40 : decode cX7_link 40 = .ok (.iastore, 1) := by decide +kernel
theorem dX7_link_41 : decode cX7_link 41 = .ok (.iinc 3 1, 3) := by decide +kernel
theorem dX7_link_44 : decode cX7_link 44 = .ok (.goto (-42), 3) := by decide +kernel
theorem dX7_link_47 : decode cX7_link 47 = .ok (.return_, 1) := by decide +kernel
theorem dX7_following_0 : decode cX7_following 0 = .ok (.iconst 0, 1) := by decide +kernel
theorem dX7_following_1 : decode cX7_following 1 = .ok (.istore_n 3, 1) := by decide +kernel
theorem dX7_following_2 : decode cX7_following 2 = .ok (.iconst 0, 1) := by decide +kernel
theorem dX7_following_3 : decode cX7_following 3 = .ok (.istore 4, 2) := by decide +kernel
theorem dX7_following_5 : decode cX7_following 5 = .ok (.iload 4, 2) := by decide +kernel
theorem dX7_following_7 : decode cX7_following 7 = .ok (.aload_n 0, 1) := by decide +kernel
theorem dX7_following_8 : decode cX7_following 8 = .ok (.getfield 19, 3) := by decide +kernel
theorem dX7_following_11 : decode cX7_following 11 = .ok (.iload_n 1, 1) := by decide +kernel
theorem dX7_following_12 : decode cX7_following 12 = .ok (.iaload, 1) := by decide +kernel
theorem dX7_following_13 : decode cX7_following 13 = .ok (.if_icmp .ge 33, 3) := by decide +kernel
theorem dX7_following_16 : decode cX7_following 16 = .ok (.iload_n 2, 1) := by decide +kernel
theorem dX7_following_17 : decode cX7_following 17 = .ok (.iload 4, 2) := by decide +kernel
theorem dX7_following_19 : decode cX7_following 19 = .ok (.ishr, 1) := by decide +kernel
theorem dX7_following_20 : decode cX7_following 20 = .ok (.iconst 1, 1) := by decide +kernel
theorem dX7_following_21 : decode cX7_following 21 = .ok (.iand, 1) := by decide +kernel
theorem dX7_following_22 : decode cX7_following 22 = .ok (.ifCond .eq 18, 3) := by decide +kernel
theorem dX7_following_25 : decode cX7_following 25 = .ok (.iload_n 3, 1) := by decide +kernel
theorem dX7_following_26 : decode cX7_following 26 = .ok (.aload_n 0, 1) := by decide +kernel
theorem dX7_following_27 : decode cX7_following 27 = .ok (.getfield 36, 3) := by decide +kernel
theorem dX7_following_30 : decode cX7_following 30 = .ok (.iload_n 1, 1) := by decide +kernel
theorem dX7_following_31 : decode cX7_following 31 = .ok (.bipush 30, 2) := by decide +kernel
theorem dX7_following_33 : decode cX7_following 33 = .ok (.imul, 1) := by decide +kernel
theorem dX7_following_34 : decode cX7_following 34 = .ok (.iload 4, 2) := by decide +kernel
theorem dX7_following_36 : decode cX7_following 36 = .ok (.iadd, 1) := by decide +kernel
theorem dX7_following_37 : decode cX7_following 37 = .ok (.iaload, 1) := by decide +kernel
theorem dX7_following_38 : decode cX7_following 38 = .ok (.ior, 1) := by decide +kernel
theorem dX7_following_39 : decode cX7_following 39 = .ok (.istore_n 3, 1) := by decide +kernel
theorem dX7_following_40 : decode cX7_following 40 = .ok (.iinc 4 1, 3) := by decide +kernel
theorem dX7_following_43 : decode cX7_following 43 = .ok (.goto (-38), 3) := by decide +kernel
theorem dX7_following_46 : decode cX7_following 46 = .ok (.iload_n 3, 1) := by decide +kernel
theorem dX7_following_47 : decode cX7_following 47 = .ok (.ireturn, 1) := by decide +kernel
theorem dX7_spotsInAll_0 : decode cX7_spotsInAll 0 = .ok (.iconst 0, 1) := by decide +kernel
theorem dX7_spotsInAll_1 : decode cX7_spotsInAll 1 = .ok (.istore_n 1, 1) := by decide +kernel
theorem dX7_spotsInAll_2 : decode cX7_spotsInAll 2 = .ok (.iconst 0, 1) := by decide +kernel
theorem dX7_spotsInAll_3 : decode cX7_spotsInAll 3 = .ok (.istore_n 2, 1) := by decide +kernel
theorem dX7_spotsInAll_4 : decode cX7_spotsInAll 4 = .ok (.iload_n 2, 1) := by decide +kernel
theorem dX7_spotsInAll_5 : decode cX7_spotsInAll 5 = .ok (.aload_n 0, 1) := by decide +kernel
theorem dX7_spotsInAll_6 : decode cX7_spotsInAll 6 = .ok (.getfield 9, 3) := by decide +kernel
theorem dX7_spotsInAll_9 : decode cX7_spotsInAll 9 = .ok (.if_icmp .ge 18, 3) := by decide +kernel
theorem dX7_spotsInAll_12 : decode cX7_spotsInAll 12 = .ok (.iload_n 1, 1) := by decide +kernel
theorem dX7_spotsInAll_13 : decode cX7_spotsInAll 13 = .ok (.aload_n 0, 1) := by decide +kernel
theorem dX7_spotsInAll_14 : decode cX7_spotsInAll 14 = .ok (.getfield 19, 3) := by decide +kernel
theorem dX7_spotsInAll_17 : decode cX7_spotsInAll 17 = .ok (.iload_n 2, 1) := by decide +kernel
theorem dX7_spotsInAll_18 : decode cX7_spotsInAll 18 = .ok (.iaload, 1) := by decide +kernel
theorem dX7_spotsInAll_19 : decode cX7_spotsInAll 19 = .ok (.iadd, 1) := by decide +kernel
theorem dX7_spotsInAll_20 : decode cX7_spotsInAll 20 = .ok (.istore_n 1, 1) := by decide +kernel
theorem dX7_spotsInAll_21 : decode cX7_spotsInAll 21 = .ok (.iinc 2 1, 3) := by decide +kernel
theorem dX7_spotsInAll_24 : decode cX7_spotsInAll 24 = .ok (.goto (-20), 3) := by decide +kernel
theorem dX7_spotsInAll_27 : decode cX7_spotsInAll 27 = .ok (.iload_n 1, 1) := by decide +kernel
theorem dX7_spotsInAll_28 : decode cX7_spotsInAll 28 = .ok (.ireturn, 1) := by decide +kernel
theorem dX8_init_0 : decode cX8_init 0 = .ok (.aload_n 0, 1) := by decide +kernel
theorem dX8_init_1 : decode cX8_init 1 = .ok (.invokespecial 3, 3) := by decide +kernel
theorem dX8_init_4 : decode cX8_init 4 = .ok (.aload_n 0, 1) := by decide +kernel
theorem dX8_init_5 : decode cX8_init 5 = .ok (.sipush 300, 3) := by decide +kernel
theorem dX8_init_8 : decode cX8_init 8 = .ok (.newarray .int, 2) := by decide +kernel
theorem dX8_init_10 : decode cX8_init 10 = .ok (.putfield 9, 3) := by decide +kernel
theorem dX8_init_13 : decode cX8_init 13 = .ok (.aload_n 0, 1) := by decide +kernel
theorem dX8_init_14 : decode cX8_init 14 = .ok (.iconst 0, 1) := by decide +kernel
theorem dX8_init_15 : decode cX8_init 15 = .ok (.putfield 15, 3) := by decide +kernel
theorem dX8_init_18 : decode cX8_init 18 = .ok (.return_, 1) := by decide +kernel
theorem dX8_trace_0 : decode cX8_trace 0 = .ok (.iconst 0, 1) := by decide +kernel
theorem dX8_trace_1 : decode cX8_trace 1 = .ok (.istore_n 3, 1) := by decide +kernel
theorem dX8_trace_2 : decode cX8_trace 2 = .ok (.iload_n 2, 1) := by decide +kernel
theorem dX8_trace_3 : decode cX8_trace 3 = .ok (.istore 4, 2) := by decide +kernel
theorem dX8_trace_5 : decode cX8_trace 5 = .ok (.iload 4, 2) := by decide +kernel
theorem dX8_trace_7 : decode cX8_trace 7 = .ok (.ifCond .le 26, 3) := by decide +kernel
theorem dX8_trace_10 : decode cX8_trace 10 = .ok (.iload_n 3, 1) := by decide +kernel
theorem dX8_trace_11 : decode cX8_trace 11 = .ok (.aload_n 0, 1) := by decide +kernel
theorem dX8_trace_12 : decode cX8_trace 12 = .ok (.getfield 9, 3) := by decide +kernel
theorem dX8_trace_15 : decode cX8_trace 15 = .ok (.arraylength, 1) := by decide +kernel
theorem dX8_trace_16 : decode cX8_trace 16 = .ok (.if_icmp .ge 17, 3) := by decide +kernel
theorem dX8_trace_19 : decode cX8_trace 19 = .ok (.aload_n 1, 1) := by decide +kernel
theorem dX8_trace_20 : decode cX8_trace 20 = .ok (.iload 4, 2) := by decide +kernel
theorem dX8_trace_22 : decode cX8_trace 22 = .ok (.iaload, 1) := by decide +kernel
theorem dX8_trace_23 : decode cX8_trace 23 = .ok (.iconst 4, 1) := by decide +kernel
theorem dX8_trace_24 : decode cX8_trace 24 = .ok (.idiv, 1) := by decide +kernel
theorem dX8_trace_25 : decode cX8_trace 25 = .ok (.istore 4, 2) := by decide +kernel
theorem dX8_trace_27 : decode cX8_trace 27 = .ok (.iinc 3 1, 3) := by decide +kernel
theorem dX8_trace_30 : decode cX8_trace 30 = .ok (.goto (-25), 3) := by decide +kernel
theorem dX8_trace_33 : decode cX8_trace 33 = .ok (.iload_n 2, 1) := by decide +kernel
theorem dX8_trace_34 : decode cX8_trace 34 = .ok (.istore 4, 2) := by decide +kernel
theorem dX8_trace_36 : decode cX8_trace 36 = .ok (.iload_n 3, 1) := by decide +kernel
theorem dX8_trace_37 : decode cX8_trace 37 = .ok (.iconst 1, 1) := by decide +kernel
theorem dX8_trace_38 : decode cX8_trace 38 = .ok (.isub, 1) := by decide +kernel
theorem dX8_trace_39 : decode cX8_trace 39 = .ok (.istore 5, 2) := by decide +kernel
theorem dX8_trace_41 : decode cX8_trace 41 = .ok (.iload 5, 2) := by decide +kernel
theorem dX8_trace_43 : decode cX8_trace 43 = .ok (.ifCond .lt 30, 3) := by decide +kernel
theorem dX8_trace_46 : decode cX8_trace 46 = .ok (.aload_n 0, 1) := by decide +kernel
theorem dX8_trace_47 : decode cX8_trace 47 = .ok (.getfield 9, 3) := by decide +kernel
theorem dX8_trace_50 : decode cX8_trace 50 = .ok (.iload 5, 2) := by decide +kernel
theorem dX8_trace_52 : decode cX8_trace 52 = .ok (.aload_n 1, 1) := by decide +kernel
theorem dX8_trace_53 : decode cX8_trace 53 = .ok (.iload 4, 2) := by decide +kernel
theorem dX8_trace_55 : decode cX8_trace 55 = .ok (.iaload, 1) := by decide +kernel
theorem dX8_trace_56 : decode cX8_trace 56 = .ok (.iconst 4, 1) := by decide +kernel
theorem dX8_trace_57 : decode cX8_trace 57 = .ok (.irem, 1) := by decide +kernel
theorem dX8_trace_58 : decode cX8_trace 58 = .ok (.iastore, 1) := by decide +kernel
theorem dX8_trace_59 : decode cX8_trace 59 = .ok (.aload_n 1, 1) := by decide +kernel
theorem dX8_trace_60 : decode cX8_trace 60 = .ok (.iload 4, 2) := by decide +kernel
theorem dX8_trace_62 : decode cX8_trace 62 = .ok (.iaload, 1) := by decide +kernel
theorem dX8_trace_63 : decode cX8_trace 63 = .ok (.iconst 4, 1) := by decide +kernel
theorem dX8_trace_64 : decode cX8_trace 64 = .ok (.idiv, 1) := by decide +kernel
theorem dX8_trace_65 : decode cX8_trace 65 = .ok (.istore 4, 2) := by decide +kernel
theorem dX8_trace_67 : decode cX8_trace 67 = .ok (.iinc 5 (-1), 3) := by decide +kernel
theorem dX8_trace_70 : decode cX8_trace 70 = .ok (.goto (-29), 3) := by decide +kernel
theorem dX8_trace_73 : decode cX8_trace 73 = .ok (.aload_n 0, 1) := by decide +kernel
theorem dX8_trace_74 : decode cX8_trace 74 = .ok (.iload_n 3, 1) := by decide +kernel
theorem dX8_trace_75 : decode cX8_trace 75 = .ok (.putfield 15, 3) := by decide +kernel
theorem dX8_trace_78 : decode cX8_trace 78 = .ok (.return_, 1) := by decide +kernel
theorem dX9_init_0 : decode cX9_init 0 = .ok (.aload_n 0, 1) := by decide +kernel
theorem dX9_init_1 : decode cX9_init 1 = .ok (.invokespecial 1, 3) := by decide +kernel
theorem dX9_init_4 : decode cX9_init 4 = .ok (.aload_n 0, 1) := by decide +kernel
theorem dX9_init_5 : decode cX9_init 5 = .ok (.bipush 100, 2) := by decide +kernel
theorem dX9_init_7 : decode cX9_init 7 = .ok (.newarray .int, 2) := by decide +kernel
theorem dX9_init_9 : decode cX9_init 9 = .ok (.putfield 9, 3) := by decide +kernel
theorem dX9_init_12 : decode cX9_init 12 = .ok (.aload_n 0, 1) := by decide +kernel
theorem dX9_init_13 : decode cX9_init 13 = .ok (.iconst 0, 1) := by decide +kernel
theorem dX9_init_14 : decode cX9_init 14 = .ok (.putfield 13, 3) := by decide +kernel
theorem dX9_init_17 : decode cX9_init 17 = .ok (.aload_n 0, 1) := by decide +kernel
theorem dX9_init_18 : decode cX9_init 18 = .ok (.iconst 4, 1) := by decide +kernel
theorem dX9_init_19 : decode cX9_init 19 = .ok (.anewarray 17, 3) := by decide +kernel
theorem dX9_init_22 : decode cX9_init 22 = .ok (.putfield 19, 3) := by decide +kernel
theorem dX9_init_25 : decode cX9_init 25 = .ok (.aload_n 0, 1) := by decide +kernel
theorem dX9_init_26 : decode cX9_init 26 = .ok (.aconst_null, 1) := by decide +kernel
theorem dX9_init_27 : decode cX9_init 27 = .ok (.putfield 23, 3) := by decide +kernel
theorem dX9_init_30 : decode cX9_init 30 = .ok (.aload_n 0, 1) := by decide +kernel
theorem dX9_init_31 : decode cX9_init 31 = .ok (.new 27, 3) := by decide +kernel
theorem dX9_init_34 : decode cX9_init 34 = .ok (.dup, 1) := by decide +kernel
theorem dX9_init_35 : decode cX9_init 35 = .ok (.invokespecial 29, 3) := by decide +kernel
theorem dX9_init_38 : decode cX9_init 38 = .ok (.putfield 30, 3) := by decide +kernel
theorem dX9_init_41 : decode cX9_init 41 = .ok (.aload_n 0, 1) := by decide +kernel
theorem dX9_init_42 : decode cX9_init 42 = .ok (.new 34, 3) := by decide +kernel
theorem dX9_init_45 : decode cX9_init 45 = .ok (.dup, 1) := by decide +kernel
theorem dX9_init_46 : decode cX9_init 46 = .ok (.invokespecial 36, 3) := by decide +kernel
theorem dX9_init_49 : decode cX9_init 49 = .ok (.putfield 37, 3) := by decide +kernel
theorem dX9_init_52 : decode cX9_init 52 = .ok (.aload_n 0, 1) := by decide +kernel
theorem dX9_init_53 : decode cX9_init 53 = .ok (.new 41, 3) := by decide +kernel
theorem dX9_init_56 : decode cX9_init 56 = .ok (.dup, 1) := by decide +kernel
theorem dX9_init_57 : decode cX9_init 57 = .ok (.invokespecial 43, 3) := by decide +kernel
theorem dX9_init_60 : decode cX9_init 60 = .ok (.putfield 44, 3) := by decide +kernel
theorem dX9_init_63 : decode cX9_init 63 = .ok (.aload_n 0, 1) := by decide +kernel
theorem dX9_init_64 : decode cX9_init 64 = .ok (.new 48, 3) := by decide +kernel
theorem dX9_init_67 : decode cX9_init 67 = .ok (.dup, 1) := by decide +kernel
theorem dX9_init_68 : decode cX9_init 68 = .ok (.invokespecial 50, 3) := by decide +kernel
theorem dX9_init_71 : decode cX9_init 71 = .ok (.putfield 51, 3) := by decide +kernel
theorem dX9_init_74 : decode cX9_init 74 = .ok (.aload_n 0, 1) := by decide +kernel
theorem dX9_init_75 : decode cX9_init 75 = .ok (.new 55, 3) := by decide +kernel
theorem dX9_init_78 : decode cX9_init 78 = .ok (.dup, 1) := by decide +kernel
theorem dX9_init_79 : decode cX9_init 79 = .ok (.invokespecial 57, 3) := by decide +kernel
theorem dX9_init_82 : decode cX9_init 82 = .ok (.putfield 58, 3) := by decide +kernel
theorem dX9_init_85 : decode cX9_init 85 = .ok (.aload_n 0, 1) := by decide +kernel
theorem dX9_init_86 : decode cX9_init 86 = .ok (.new 62, 3) := by decide +kernel
theorem dX9_init_89 : decode cX9_init 89 = .ok (.dup, 1) := by decide +kernel
theorem dX9_init_90 : decode cX9_init 90 = .ok (.invokespecial 64, 3) := by decide +kernel
theorem dX9_init_93 : decode cX9_init 93 = .ok (.putfield 65, 3) := by decide +kernel
theorem dX9_init_96 : decode cX9_init 96 = .ok (.aload_n 0, 1) := by decide +kernel
theorem dX9_init_97 : decode cX9_init 97 = .ok (.new 69, 3) := by decide +kernel
theorem dX9_init_100 : decode cX9_init 100 = .ok (.dup, 1) := by decide +kernel
theorem dX9_init_101 : decode cX9_init 101 = .ok (.invokespecial 71, 3) := by decide +kernel
theorem dX9_init_104 : decode cX9_init 104 = .ok (.putfield 72, 3) := by decide +kernel
theorem dX9_init_107 : decode cX9_init 107 = .ok (.return_, 1) := by decide +kernel
theorem dX9_feed_0 : decode cX9_feed 0 = .ok (.aload_n 0, 1) := by decide +kernel
theorem dX9_feed_1 : decode cX9_feed 1 = .ok (.getfield 13, 3) := by decide +kernel
theorem dX9_feed_4 : decode cX9_feed 4 = .ok (.bipush 20, 2) := by decide +kernel
theorem dX9_feed_6 : decode cX9_feed 6 = .ok (.iadd, 1) := by decide +kernel
theorem dX9_feed_7 : decode cX9_feed 7 = .ok (.bipush 100, 2) := by decide +kernel
theorem dX9_feed_9 : decode cX9_feed 9 = .ok (.if_icmp .le 5, 3) := by decide +kernel
theorem dX9_feed_12 : decode cX9_feed 12 = .ok (.iconst (-1), 1) := by decide +kernel
theorem dX9_feed_13 : decode cX9_feed 13 = .ok (.ireturn, 1) := by decide +kernel
theorem dX9_feed_14 : decode cX9_feed 14 = .ok (.aload_n 0, 1) := by decide +kernel
theorem dX9_feed_15 : decode cX9_feed 15 = .ok (.iload_n 1, 1) := by decide +kernel
theorem dX9_feed_16 : decode cX9_feed 16 = .ok (.invokevirtual 76, 3) := by decide +kernel
theorem dX9_feed_19 : decode cX9_feed 19 = .ok (.aload_n 0, 1) := by decide +kernel
theorem dX9_feed_20 : decode cX9_feed 20 = .ok (.iload_n 2, 1) := by decide +kernel
theorem dX9_feed_21 : decode cX9_feed 21 = .ok (.invokevirtual 76, 3) := by decide +kernel
theorem dX9_feed_24 : decode cX9_feed 24 = .ok (.aload_n 0, 1) := by decide +kernel
theorem dX9_feed_25 : decode cX9_feed 25 = .ok (.iload_n 3, 1) := by decide +kernel
theorem dX9_feed_26 : decode cX9_feed 26 = .ok (.invokevirtual 76, 3) := by decide +kernel
theorem dX9_feed_29 : decode cX9_feed 29 = .ok (.aload_n 0, 1) := by decide +kernel
theorem dX9_feed_30 : decode cX9_feed 30 = .ok (.iload 4, 2) := by decide +kernel
theorem dX9_feed_32 : decode cX9_feed 32 = .ok (.invokevirtual 76, 3) := by decide +kernel
theorem dX9_feed_35 : decode cX9_feed 35 = .ok (.aload_n 0, 1) := by decide +kernel
theorem dX9_feed_36 : decode cX9_feed 36 = .ok (.iload 5, 2) := by decide +kernel
theorem dX9_feed_38 : decode cX9_feed 38 = .ok (.invokevirtual 76, 3) := by decide +kernel
theorem dX9_feed_41 : decode cX9_feed 41 = .ok (.aload_n 0, 1) := by decide +kernel
theorem dX9_feed_42 : decode cX9_feed 42 = .ok (.getfield 13, 3) := by decide +kernel
theorem dX9_feed_45 : decode cX9_feed 45 = .ok (.ireturn, 1) := by decide +kernel
theorem dX9_read_0 : decode cX9_read 0 = .ok (.iload_n 1, 1) := by decide +kernel
theorem dX9_read_1 : decode cX9_read 1 = .ok (.ifCond .lt 20, 3) := by decide +kernel
theorem dX9_read_4 : decode cX9_read 4 = .ok (.iload_n 1, 1) := by decide +kernel
theorem dX9_read_5 : decode cX9_read 5 = .ok (.iconst 4, 1) := by decide +kernel
theorem dX9_read_6 : decode cX9_read 6 = .ok (.if_icmp .ge 15, 3) := by decide +kernel
theorem dX9_read_9 : decode cX9_read 9 = .ok (.iload_n 2, 1) := by decide +kernel
theorem dX9_read_10 : decode cX9_read 10 = .ok (.ifCond .lt 11, 3) := by decide +kernel
theorem dX9_read_13 : decode cX9_read 13 = .ok (.iload_n 2, 1) := by decide +kernel
theorem dX9_read_14 : decode cX9_read 14 = .ok (.aload_n 0, 1) := by decide +kernel
theorem dX9_read_15 : decode cX9_read 15 = .ok (.getfield 13, 3) := by decide +kernel
theorem dX9_read_18 : decode cX9_read 18 = .ok (.if_icmp .le 5, 3) := by decide +kernel
theorem dX9_read_21 : decode cX9_read 21 = .ok (.iconst (-1), 1) := by decide +kernel
theorem dX9_read_22 : decode cX9_read 22 = .ok (.ireturn, 1) := by decide +kernel
theorem dX9_read_23 : decode cX9_read 23 = .ok (.aload_n 0, 1) := by decide +kernel
theorem dX9_read_24 : decode cX9_read 24 = .ok (.iconst 0, 1) := by decide +kernel
theorem dX9_read_25 : decode cX9_read 25 = .ok (.putfield 13, 3) := by decide +kernel
theorem dX9_read_28 : decode cX9_read 28 = .ok (.aload_n 0, 1) := by decide +kernel
theorem dX9_read_29 : decode cX9_read 29 = .ok (.getfield 30, 3) := by decide +kernel
theorem dX9_read_32 : decode cX9_read 32 = .ok (.aload_n 0, 1) := by decide +kernel
theorem dX9_read_33 : decode cX9_read 33 = .ok (.getfield 9, 3) := by decide +kernel
theorem dX9_read_36 : decode cX9_read 36 = .ok (.iload_n 2, 1) := by decide +kernel
theorem dX9_read_37 : decode cX9_read 37 = .ok (.invokevirtual 80, 3) := by decide +kernel
theorem dX9_read_40 : decode cX9_read 40 = .ok (.ifCond .ne 5, 3) := by decide +kernel
theorem dX9_read_43 : decode cX9_read 43 = .ok (.iconst 0, 1) := by decide +kernel
theorem dX9_read_44 : decode cX9_read 44 = .ok (.ireturn, 1) := by decide +kernel
theorem dX9_read_45 : decode cX9_read 45 = .ok (.aload_n 0, 1) := by decide +kernel
theorem dX9_read_46 : decode cX9_read 46 = .ok (.getfield 23, 3) := by decide +kernel
theorem dX9_read_49 : decode cX9_read 49 = .ok (.ifnonnull 13, 3) := by decide +kernel
theorem dX9_read_52 : decode cX9_read 52 = .ok (.new 17, 3) := by decide +kernel
theorem dX9_read_55 : decode cX9_read 55 = .ok (.dup, 1) := by decide +kernel
theorem dX9_read_56 : decode cX9_read 56 = .ok (.invokespecial 84, 3) := by decide +kernel
theorem dX9_read_59 : decode cX9_read 59 = .ok (.goto 7, 3) := by decide +kernel
theorem dX9_read_62 : decode cX9_read 62 = .ok (.aload_n 0, 1) := by decide +kernel
theorem dX9_read_63 : decode cX9_read 63 = .ok (.getfield 23, 3) := by decide +kernel
theorem dX9_read_66 : decode cX9_read 66 = .ok (.astore_n 3, 1) := by decide +kernel
theorem dX9_read_67 : decode cX9_read 67 = .ok (.aload_n 0, 1) := by decide +kernel
theorem dX9_read_68 : decode cX9_read 68 = .ok (.getfield 37, 3) := by decide +kernel
theorem dX9_read_71 : decode cX9_read 71 = .ok (.aload_n 0, 1) := by decide +kernel
theorem dX9_read_72 : decode cX9_read 72 = .ok (.getfield 30, 3) := by decide +kernel
theorem dX9_read_75 : decode cX9_read 75 = .ok (.getfield 85, 3) := by decide +kernel
theorem dX9_read_78 : decode cX9_read 78 = .ok (.aload_n 3, 1) := by decide +kernel
theorem dX9_read_79 : decode cX9_read 79 = .ok (.invokevirtual 89, 3) := by decide +kernel
theorem dX9_read_82 : decode cX9_read 82 = .ok (.ifCond .ne 11, 3) := by decide +kernel
theorem dX9_read_85 : decode cX9_read 85 = .ok (.aload_n 0, 1) := by decide +kernel
theorem dX9_read_86 : decode cX9_read 86 = .ok (.aload_n 3, 1) := by decide +kernel
theorem dX9_read_87 : decode cX9_read 87 = .ok (.putfield 23, 3) := by decide +kernel
theorem dX9_read_90 : decode cX9_read 90 = .ok (.bipush (-2), 2) := by decide +kernel
theorem dX9_read_92 : decode cX9_read 92 = .ok (.ireturn, 1) := by decide +kernel
theorem dX9_read_93 : decode cX9_read 93 = .ok (.aload_n 0, 1) := by decide +kernel
theorem dX9_read_94 : decode cX9_read 94 = .ok (.getfield 44, 3) := by decide +kernel
theorem dX9_read_97 : decode cX9_read 97 = .ok (.aload_n 3, 1) := by decide +kernel
theorem dX9_read_98 : decode cX9_read 98 = .ok (.invokevirtual 93, 3) := by decide +kernel
theorem dX9_read_101 : decode cX9_read 101 = .ok (.aload_n 0, 1) := by decide +kernel
theorem dX9_read_102 : decode cX9_read 102 = .ok (.aload_n 0, 1) := by decide +kernel
theorem dX9_read_103 : decode cX9_read 103 = .ok (.getfield 19, 3) := by decide +kernel
theorem dX9_read_106 : decode cX9_read 106 = .ok (.iload_n 1, 1) := by decide +kernel
theorem dX9_read_107 : decode cX9_read 107 = .ok (.aaload, 1) := by decide +kernel
theorem dX9_read_108 : decode cX9_read 108 = .ok (.putfield 23, 3) := by decide +kernel
theorem dX9_read_111 : decode cX9_read 111 = .ok (.aload_n 0, 1) := by decide +kernel
theorem dX9_read_112 : decode cX9_read 112 = .ok (.getfield 19, 3) := by decide +kernel
theorem dX9_read_115 : decode cX9_read 115 = .ok (.iload_n 1, 1) := by decide +kernel
theorem dX9_read_116 : decode cX9_read 116 = .ok (.aload_n 3, 1) := by decide +kernel
theorem dX9_read_117 : decode cX9_read 117 = .ok (.aastore, 1) := by decide +kernel
theorem dX9_read_118 : decode cX9_read 118 = .ok (.aload_n 3, 1) := by decide +kernel
theorem dX9_read_119 : decode cX9_read 119 = .ok (.getfield 97, 3) := by decide +kernel
theorem dX9_read_122 : decode cX9_read 122 = .ok (.ireturn, 1) := by decide +kernel
theorem dX9_fault_0 : decode cX9_fault 0 = .ok (.iload_n 1, 1) := by decide +kernel
theorem dX9_fault_1 : decode cX9_fault 1 = .ok (.ifCond .ne 11, 3) := by decide +kernel
theorem dX9_fault_4 : decode cX9_fault 4 = .ok (.aload_n 0, 1) := by decide +kernel
theorem dX9_fault_5 : decode cX9_fault 5 = .ok (.getfield 30, 3) := by decide +kernel
theorem dX9_fault_8 : decode cX9_fault 8 = .ok (.getfield 100, 3) := by decide +kernel
theorem dX9_fault_11 : decode cX9_fault 11 = .ok (.ireturn, 1) := by decide +kernel
theorem dX9_fault_12 : decode cX9_fault 12 = .ok (.iload_n 1, 1) := by decide +kernel
theorem dX9_fault_13 : decode cX9_fault 13 = .ok (.iconst 1, 1) := by decide +kernel
theorem dX9_fault_14 : decode cX9_fault 14 = .ok (.if_icmp .ne 13, 3) := by decide +kernel
theorem dX9_fault_17 : decode cX9_fault 17 = .ok (.aload_n 0, 1) := by decide +kernel
theorem dX9_fault_18 : decode cX9_fault 18 = .ok (.getfield 30, 3) := by decide +kernel
theorem dX9_fault_21 : decode cX9_fault 21 = .ok (.getfield 103, 3) := by decide +kernel
theorem dX9_fault_24 : decode cX9_fault 24 = .ok (.goto 4, 3) := by decide +kernel
theorem dX9_fault_27 : decode cX9_fault 27 = .ok (.iconst (-1), 1) := by decide +kernel
theorem dX9_fault_28 : decode cX9_fault 28 = .ok (.ireturn, 1) := by decide +kernel
theorem dX9_look_0 : decode cX9_look 0 = .ok (.aload_n 0, 1) := by decide +kernel
theorem dX9_look_1 : decode cX9_look 1 = .ok (.iload_n 1, 1) := by decide +kernel
theorem dX9_look_2 : decode cX9_look 2 = .ok (.invokevirtual 106, 3) := by decide +kernel
theorem dX9_look_5 : decode cX9_look 5 = .ok (.astore_n 3, 1) := by decide +kernel
theorem dX9_look_6 : decode cX9_look 6 = .ok (.aload_n 3, 1) := by decide +kernel
theorem dX9_look_7 : decode cX9_look 7 = .ok (.ifnonnull 5, 3) := by decide +kernel
theorem dX9_look_10 : decode cX9_look 10 = .ok (.iconst (-1), 1) := by decide +kernel
theorem dX9_look_11 : decode cX9_look 11 = .ok (.ireturn, 1) := by decide +kernel
theorem dX9_look_12 : decode cX9_look 12 = .ok (.iload_n 2, 1) := by decide +kernel
theorem dX9_look_13 : decode cX9_look 13 = .ok (.tableswitch 86 0 5 #[39, 44, 49, 54, 59, 73], 39) := by decide +kernel
theorem dX9_look_52 : decode cX9_look 52 = .ok (.aload_n 3, 1) := by decide +kernel
theorem dX9_look_53 : decode cX9_look 53 = .ok (.getfield 97, 3) := by decide +kernel
theorem dX9_look_56 : decode cX9_look 56 = .ok (.ireturn, 1) := by decide +kernel
theorem dX9_look_57 : decode cX9_look 57 = .ok (.aload_n 3, 1) := by decide +kernel
theorem dX9_look_58 : decode cX9_look 58 = .ok (.getfield 110, 3) := by decide +kernel
theorem dX9_look_61 : decode cX9_look 61 = .ok (.ireturn, 1) := by decide +kernel
theorem dX9_look_62 : decode cX9_look 62 = .ok (.aload_n 3, 1) := by decide +kernel
theorem dX9_look_63 : decode cX9_look 63 = .ok (.getfield 113, 3) := by decide +kernel
theorem dX9_look_66 : decode cX9_look 66 = .ok (.ireturn, 1) := by decide +kernel
theorem dX9_look_67 : decode cX9_look 67 = .ok (.aload_n 3, 1) := by decide +kernel
theorem dX9_look_68 : decode cX9_look 68 = .ok (.getfield 115, 3) := by decide +kernel
theorem dX9_look_71 : decode cX9_look 71 = .ok (.ireturn, 1) := by decide +kernel
theorem dX9_look_72 : decode cX9_look 72 = .ok (.aload_n 3, 1) := by decide +kernel
theorem dX9_look_73 : decode cX9_look 73 = .ok (.invokevirtual 118, 3) := by decide +kernel
theorem dX9_look_76 : decode cX9_look 76 = .ok (.iconst (-1), 1) := by decide +kernel
theorem dX9_look_77 : decode cX9_look 77 = .ok (.if_icmp .ne 7, 3) := by decide +kernel
theorem dX9_look_80 : decode cX9_look 80 = .ok (.iconst 1, 1) := by decide +kernel
theorem dX9_look_81 : decode cX9_look 81 = .ok (.goto 4, 3) := by decide +kernel
theorem dX9_look_84 : decode cX9_look 84 = .ok (.iconst 0, 1) := by decide +kernel
theorem dX9_look_85 : decode cX9_look 85 = .ok (.ireturn, 1) := by decide +kernel
theorem dX9_look_86 : decode cX9_look 86 = .ok (.aload_n 3, 1) := by decide +kernel
theorem dX9_look_87 : decode cX9_look 87 = .ok (.getfield 122, 3) := by decide +kernel
theorem dX9_look_90 : decode cX9_look 90 = .ok (.ifCond .eq 7, 3) := by decide +kernel
theorem dX9_look_93 : decode cX9_look 93 = .ok (.iconst 1, 1) := by decide +kernel
theorem dX9_look_94 : decode cX9_look 94 = .ok (.goto 4, 3) := by decide +kernel
theorem dX9_look_97 : decode cX9_look 97 = .ok (.iconst 0, 1) := by decide +kernel
theorem dX9_look_98 : decode cX9_look 98 = .ok (.ireturn, 1) := by decide +kernel
theorem dX9_look_99 : decode cX9_look 99 = .ok (.iconst (-1), 1) := by decide +kernel
theorem dX9_look_100 : decode cX9_look 100 = .ok (.ireturn, 1) := by decide +kernel
theorem dX9_next_0 : decode cX9_next 0 = .ok (.aload_n 0, 1) := by decide +kernel
theorem dX9_next_1 : decode cX9_next 1 = .ok (.iload_n 1, 1) := by decide +kernel
theorem dX9_next_2 : decode cX9_next 2 = .ok (.invokevirtual 106, 3) := by decide +kernel
theorem dX9_next_5 : decode cX9_next 5 = .ok (.astore 4, 2) := by decide +kernel
theorem dX9_next_7 : decode cX9_next 7 = .ok (.aload 4, 2) := by decide +kernel
theorem dX9_next_9 : decode cX9_next 9 = .ok (.ifnull 21, 3) := by decide +kernel
theorem dX9_next_12 : decode cX9_next 12 = .ok (.aload 4, 2) := by decide +kernel
theorem dX9_next_14 : decode cX9_next 14 = .ok (.iload_n 2, 1) := by decide +kernel
theorem dX9_next_15 : decode cX9_next 15 = .ok (.invokevirtual 126, 3) := by decide +kernel
theorem dX9_next_18 : decode cX9_next 18 = .ok (.ifCond .eq 12, 3) := by decide +kernel
theorem dX9_next_21 : decode cX9_next 21 = .ok (.iload_n 3, 1) := by decide +kernel
theorem dX9_next_22 : decode cX9_next 22 = .ok (.ifCond .lt 8, 3) := by decide +kernel
theorem dX9_next_25 : decode cX9_next 25 = .ok (.iload_n 3, 1) := by decide +kernel
theorem dX9_next_26 : decode cX9_next 26 = .ok (.iconst 4, 1) := by decide +kernel
theorem dX9_next_27 : decode cX9_next 27 = .ok (.if_icmp .lt 5, 3) := by decide +kernel
theorem dX9_next_30 : decode cX9_next 30 = .ok (.iconst (-1), 1) := by decide +kernel
theorem dX9_next_31 : decode cX9_next 31 = .ok (.ireturn, 1) := by decide +kernel
theorem dX9_next_32 : decode cX9_next 32 = .ok (.aload 4, 2) := by decide +kernel
theorem dX9_next_34 : decode cX9_next 34 = .ok (.getfield 130, 3) := by decide +kernel
theorem dX9_next_37 : decode cX9_next 37 = .ok (.iload_n 2, 1) := by decide +kernel
theorem dX9_next_38 : decode cX9_next 38 = .ok (.iconst 4, 1) := by decide +kernel
theorem dX9_next_39 : decode cX9_next 39 = .ok (.imul, 1) := by decide +kernel
theorem dX9_next_40 : decode cX9_next 40 = .ok (.iload_n 3, 1) := by decide +kernel
theorem dX9_next_41 : decode cX9_next 41 = .ok (.iadd, 1) := by decide +kernel
theorem dX9_next_42 : decode cX9_next 42 = .ok (.iaload, 1) := by decide +kernel
theorem dX9_next_43 : decode cX9_next 43 = .ok (.ireturn, 1) := by decide +kernel
theorem dX9_accepts_0 : decode cX9_accepts 0 = .ok (.aload_n 0, 1) := by decide +kernel
theorem dX9_accepts_1 : decode cX9_accepts 1 = .ok (.iload_n 1, 1) := by decide +kernel
theorem dX9_accepts_2 : decode cX9_accepts 2 = .ok (.invokevirtual 106, 3) := by decide +kernel
theorem dX9_accepts_5 : decode cX9_accepts 5 = .ok (.astore_n 3, 1) := by decide +kernel
theorem dX9_accepts_6 : decode cX9_accepts 6 = .ok (.aload_n 3, 1) := by decide +kernel
theorem dX9_accepts_7 : decode cX9_accepts 7 = .ok (.ifnull 11, 3) := by decide +kernel
theorem dX9_accepts_10 : decode cX9_accepts 10 = .ok (.aload_n 3, 1) := by decide +kernel
theorem dX9_accepts_11 : decode cX9_accepts 11 = .ok (.iload_n 2, 1) := by decide +kernel
theorem dX9_accepts_12 : decode cX9_accepts 12 = .ok (.invokevirtual 126, 3) := by decide +kernel
theorem dX9_accepts_15 : decode cX9_accepts 15 = .ok (.ifCond .ne 5, 3) := by decide +kernel
theorem dX9_accepts_18 : decode cX9_accepts 18 = .ok (.iconst (-1), 1) := by decide +kernel
theorem dX9_accepts_19 : decode cX9_accepts 19 = .ok (.ireturn, 1) := by decide +kernel
theorem dX9_accepts_20 : decode cX9_accepts 20 = .ok (.aload_n 3, 1) := by decide +kernel
theorem dX9_accepts_21 : decode cX9_accepts 21 = .ok (.getfield 133, 3) := by decide +kernel
theorem dX9_accepts_24 : decode cX9_accepts 24 = .ok (.iload_n 2, 1) := by decide +kernel
theorem dX9_accepts_25 : decode cX9_accepts 25 = .ok (.baload, 1) := by decide +kernel
theorem dX9_accepts_26 : decode cX9_accepts 26 = .ok (.ifCond .eq 7, 3) := by decide +kernel
theorem dX9_accepts_29 : decode cX9_accepts 29 = .ok (.iconst 1, 1) := by decide +kernel
theorem dX9_accepts_30 : decode cX9_accepts 30 = .ok (.goto 4, 3) := by decide +kernel
theorem dX9_accepts_33 : decode cX9_accepts 33 = .ok (.iconst 0, 1) := by decide +kernel
theorem dX9_accepts_34 : decode cX9_accepts 34 = .ok (.ireturn, 1) := by decide +kernel
theorem dX9_spots_0 : decode cX9_spots 0 = .ok (.aload_n 0, 1) := by decide +kernel
theorem dX9_spots_1 : decode cX9_spots 1 = .ok (.iload_n 1, 1) := by decide +kernel
theorem dX9_spots_2 : decode cX9_spots 2 = .ok (.invokevirtual 106, 3) := by decide +kernel
theorem dX9_spots_5 : decode cX9_spots 5 = .ok (.astore 4, 2) := by decide +kernel
theorem dX9_spots_7 : decode cX9_spots 7 = .ok (.aload 4, 2) := by decide +kernel
theorem dX9_spots_9 : decode cX9_spots 9 = .ok (.ifnull 25, 3) := by decide +kernel
theorem dX9_spots_12 : decode cX9_spots 12 = .ok (.aload 4, 2) := by decide +kernel
theorem dX9_spots_14 : decode cX9_spots 14 = .ok (.iload_n 2, 1) := by decide +kernel
theorem dX9_spots_15 : decode cX9_spots 15 = .ok (.invokevirtual 126, 3) := by decide +kernel
theorem dX9_spots_18 : decode cX9_spots 18 = .ok (.ifCond .eq 16, 3) := by decide +kernel
theorem dX9_spots_21 : decode cX9_spots 21 = .ok (.iload_n 3, 1) := by decide +kernel
theorem dX9_spots_22 : decode cX9_spots 22 = .ok (.ifCond .lt 12, 3) := by decide +kernel
theorem dX9_spots_25 : decode cX9_spots 25 = .ok (.iload_n 3, 1) := by decide +kernel
theorem dX9_spots_26 : decode cX9_spots 26 = .ok (.aload 4, 2) := by decide +kernel
theorem dX9_spots_28 : decode cX9_spots 28 = .ok (.getfield 113, 3) := by decide +kernel
theorem dX9_spots_31 : decode cX9_spots 31 = .ok (.if_icmp .lt 5, 3) := by decide +kernel
theorem dX9_spots_34 : decode cX9_spots 34 = .ok (.iconst (-1), 1) := by decide +kernel
theorem dX9_spots_35 : decode cX9_spots 35 = .ok (.ireturn, 1) := by decide +kernel
theorem dX9_spots_36 : decode cX9_spots 36 = .ok (.aload 4, 2) := by decide +kernel
theorem dX9_spots_38 : decode cX9_spots 38 = .ok (.getfield 137, 3) := by decide +kernel
theorem dX9_spots_41 : decode cX9_spots 41 = .ok (.iload_n 2, 1) := by decide +kernel
theorem dX9_spots_42 : decode cX9_spots 42 = .ok (.bipush 6, 2) := by decide +kernel
theorem dX9_spots_44 : decode cX9_spots 44 = .ok (.imul, 1) := by decide +kernel
theorem dX9_spots_45 : decode cX9_spots 45 = .ok (.iload_n 3, 1) := by decide +kernel
theorem dX9_spots_46 : decode cX9_spots 46 = .ok (.iadd, 1) := by decide +kernel
theorem dX9_spots_47 : decode cX9_spots 47 = .ok (.iaload, 1) := by decide +kernel
theorem dX9_spots_48 : decode cX9_spots 48 = .ok (.ireturn, 1) := by decide +kernel
theorem dX9_classOf_0 : decode cX9_classOf 0 = .ok (.aload_n 0, 1) := by decide +kernel
theorem dX9_classOf_1 : decode cX9_classOf 1 = .ok (.iload_n 1, 1) := by decide +kernel
theorem dX9_classOf_2 : decode cX9_classOf 2 = .ok (.invokevirtual 106, 3) := by decide +kernel
theorem dX9_classOf_5 : decode cX9_classOf 5 = .ok (.astore_n 3, 1) := by decide +kernel
theorem dX9_classOf_6 : decode cX9_classOf 6 = .ok (.aload_n 3, 1) := by decide +kernel
theorem dX9_classOf_7 : decode cX9_classOf 7 = .ok (.ifnull 11, 3) := by decide +kernel
theorem dX9_classOf_10 : decode cX9_classOf 10 = .ok (.aload_n 3, 1) := by decide +kernel
theorem dX9_classOf_11 : decode cX9_classOf 11 = .ok (.iload_n 2, 1) := by decide +kernel
theorem dX9_classOf_12 : decode cX9_classOf 12 = .ok (.invokevirtual 126, 3) := by decide +kernel
theorem dX9_classOf_15 : decode cX9_classOf 15 = .ok (.ifCond .ne 5, 3) := by decide +kernel
theorem dX9_classOf_18 : decode cX9_classOf 18 = .ok (.iconst (-1), 1) := by decide +kernel
theorem dX9_classOf_19 : decode cX9_classOf 19 = .ok (.ireturn, 1) := by decide +kernel
theorem dX9_classOf_20 : decode cX9_classOf 20 = .ok (.aload_n 3, 1) := by decide +kernel
theorem dX9_classOf_21 : decode cX9_classOf 21 = .ok (.getfield 140, 3) := by decide +kernel
theorem dX9_classOf_24 : decode cX9_classOf 24 = .ok (.iload_n 2, 1) := by decide +kernel
theorem dX9_classOf_25 : decode cX9_classOf 25 = .ok (.iaload, 1) := by decide +kernel
theorem dX9_classOf_26 : decode cX9_classOf 26 = .ok (.ireturn, 1) := by decide +kernel
theorem dX9_means_0 : decode cX9_means 0 = .ok (.aload_n 0, 1) := by decide +kernel
theorem dX9_means_1 : decode cX9_means 1 = .ok (.iload_n 1, 1) := by decide +kernel
theorem dX9_means_2 : decode cX9_means 2 = .ok (.invokevirtual 106, 3) := by decide +kernel
theorem dX9_means_5 : decode cX9_means 5 = .ok (.astore_n 3, 1) := by decide +kernel
theorem dX9_means_6 : decode cX9_means 6 = .ok (.aload_n 3, 1) := by decide +kernel
theorem dX9_means_7 : decode cX9_means 7 = .ok (.ifnull 15, 3) := by decide +kernel
theorem dX9_means_10 : decode cX9_means 10 = .ok (.iload_n 2, 1) := by decide +kernel
theorem dX9_means_11 : decode cX9_means 11 = .ok (.ifCond .lt 11, 3) := by decide +kernel
theorem dX9_means_14 : decode cX9_means 14 = .ok (.iload_n 2, 1) := by decide +kernel
theorem dX9_means_15 : decode cX9_means 15 = .ok (.aload_n 0, 1) := by decide +kernel
theorem dX9_means_16 : decode cX9_means 16 = .ok (.getfield 13, 3) := by decide +kernel
theorem dX9_means_19 : decode cX9_means 19 = .ok (.if_icmp .le 5, 3) := by decide +kernel
theorem dX9_means_22 : decode cX9_means 22 = .ok (.iconst (-1), 1) := by decide +kernel
theorem dX9_means_23 : decode cX9_means 23 = .ok (.ireturn, 1) := by decide +kernel
theorem dX9_means_24 : decode cX9_means 24 = .ok (.aload_n 0, 1) := by decide +kernel
theorem dX9_means_25 : decode cX9_means 25 = .ok (.iconst 0, 1) := by decide +kernel
theorem dX9_means_26 : decode cX9_means 26 = .ok (.putfield 13, 3) := by decide +kernel
theorem dX9_means_29 : decode cX9_means 29 = .ok (.iconst 0, 1) := by decide +kernel
theorem dX9_means_30 : decode cX9_means 30 = .ok (.istore 4, 2) := by decide +kernel
theorem dX9_means_32 : decode cX9_means 32 = .ok (.iconst 0, 1) := by decide +kernel
theorem dX9_means_33 : decode cX9_means 33 = .ok (.istore 5, 2) := by decide +kernel
theorem dX9_means_35 : decode cX9_means 35 = .ok (.iload 5, 2) := by decide +kernel
theorem dX9_means_37 : decode cX9_means 37 = .ok (.iload_n 2, 1) := by decide +kernel
theorem dX9_means_38 : decode cX9_means 38 = .ok (.if_icmp .ge 46, 3) := by decide +kernel
theorem dX9_means_41 : decode cX9_means 41 = .ok (.aload_n 0, 1) := by decide +kernel
theorem dX9_means_42 : decode cX9_means 42 = .ok (.getfield 9, 3) := by decide +kernel
theorem dX9_means_45 : decode cX9_means 45 = .ok (.iload 5, 2) := by decide +kernel
theorem dX9_means_47 : decode cX9_means 47 = .ok (.iaload, 1) := by decide +kernel
theorem dX9_means_48 : decode cX9_means 48 = .ok (.invokestatic 143, 3) := by decide +kernel
theorem dX9_means_51 : decode cX9_means 51 = .ok (.ifCond .ne 5, 3) := by decide +kernel
theorem dX9_means_54 : decode cX9_means 54 = .ok (.iconst 0, 1) := by decide +kernel
theorem dX9_means_55 : decode cX9_means 55 = .ok (.ireturn, 1) := by decide +kernel
theorem dX9_means_56 : decode cX9_means 56 = .ok (.aload_n 3, 1) := by decide +kernel
theorem dX9_means_57 : decode cX9_means 57 = .ok (.getfield 130, 3) := by decide +kernel
theorem dX9_means_60 : decode cX9_means 60 = .ok (.iload 4, 2) := by decide +kernel
theorem dX9_means_62 : decode cX9_means 62 = .ok (.iconst 4, 1) := by decide +kernel
theorem dX9_means_63 : decode cX9_means 63 = .ok (.imul, 1) := by decide +kernel
theorem dX9_means_64 : decode cX9_means 64 = .ok (.aload_n 0, 1) := by decide +kernel
theorem dX9_means_65 : decode cX9_means 65 = .ok (.getfield 9, 3) := by decide +kernel
theorem dX9_means_68 : decode cX9_means 68 = .ok (.iload 5, 2) := by decide +kernel
theorem dX9_means_70 : decode cX9_means 70 = .ok (.iaload, 1) := by decide +kernel
theorem dX9_means_71 : decode cX9_means 71 = .ok (.iadd, 1) := by decide +kernel
theorem dX9_means_72 : decode cX9_means 72 = .ok (.bipush 97, 2) := by decide +kernel
theorem dX9_means_74 : decode cX9_means 74 = .ok (.isub, 1) := by decide +kernel
theorem dX9_means_75 : decode cX9_means 75 = .ok (.iaload, 1) := by decide +kernel
theorem dX9_means_76 : decode cX9_means 76 = .ok (.istore 4, 2) := by decide +kernel
theorem dX9_means_78 : decode cX9_means 78 = .ok (.iinc 5 1, 3) := by decide +kernel
theorem dX9_means_81 : decode cX9_means 81 = .ok (.goto (-46), 3) := by decide +kernel
theorem dX9_means_84 : decode cX9_means 84 = .ok (.aload_n 3, 1) := by decide +kernel
theorem dX9_means_85 : decode cX9_means 85 = .ok (.getfield 133, 3) := by decide +kernel
theorem dX9_means_88 : decode cX9_means 88 = .ok (.iload 4, 2) := by decide +kernel
theorem dX9_means_90 : decode cX9_means 90 = .ok (.baload, 1) := by decide +kernel
theorem dX9_means_91 : decode cX9_means 91 = .ok (.ifCond .eq 7, 3) := by decide +kernel
theorem dX9_means_94 : decode cX9_means 94 = .ok (.iconst 1, 1) := by decide +kernel
theorem dX9_means_95 : decode cX9_means 95 = .ok (.goto 4, 3) := by decide +kernel
theorem dX9_means_98 : decode cX9_means 98 = .ok (.iconst 0, 1) := by decide +kernel
theorem dX9_means_99 : decode cX9_means 99 = .ok (.ireturn, 1) := by decide +kernel
theorem dX9_words_0 : decode cX9_words 0 = .ok (.aload_n 0, 1) := by decide +kernel
theorem dX9_words_1 : decode cX9_words 1 = .ok (.iload_n 1, 1) := by decide +kernel
theorem dX9_words_2 : decode cX9_words 2 = .ok (.invokevirtual 106, 3) := by decide +kernel
theorem dX9_words_5 : decode cX9_words 5 = .ok (.astore_n 3, 1) := by decide +kernel
theorem dX9_words_6 : decode cX9_words 6 = .ok (.aload_n 3, 1) := by decide +kernel
theorem dX9_words_7 : decode cX9_words 7 = .ok (.ifnull 13, 3) := by decide +kernel
theorem dX9_words_10 : decode cX9_words 10 = .ok (.iload_n 2, 1) := by decide +kernel
theorem dX9_words_11 : decode cX9_words 11 = .ok (.ifCond .lt 9, 3) := by decide +kernel
theorem dX9_words_14 : decode cX9_words 14 = .ok (.iload_n 2, 1) := by decide +kernel
theorem dX9_words_15 : decode cX9_words 15 = .ok (.bipush 28, 2) := by decide +kernel
theorem dX9_words_17 : decode cX9_words 17 = .ok (.if_icmp .le 7, 3) := by decide +kernel
theorem dX9_words_20 : decode cX9_words 20 = .ok (.ldc2_w 146, 3) := by decide +kernel
theorem dX9_words_23 : decode cX9_words 23 = .ok (.lreturn, 1) := by decide +kernel
theorem dX9_words_24 : decode cX9_words 24 = .ok (.aload_n 0, 1) := by decide +kernel
theorem dX9_words_25 : decode cX9_words 25 = .ok (.getfield 51, 3) := by decide +kernel
theorem dX9_words_28 : decode cX9_words 28 = .ok (.aload_n 3, 1) := by decide +kernel
theorem dX9_words_29 : decode cX9_words 29 = .ok (.iload_n 2, 1) := by decide +kernel
theorem dX9_words_30 : decode cX9_words 30 = .ok (.invokevirtual 148, 3) := by decide +kernel
theorem dX9_words_33 : decode cX9_words 33 = .ok (.aload_n 0, 1) := by decide +kernel
theorem dX9_words_34 : decode cX9_words 34 = .ok (.getfield 51, 3) := by decide +kernel
theorem dX9_words_37 : decode cX9_words 37 = .ok (.iconst 0, 1) := by decide +kernel
theorem dX9_words_38 : decode cX9_words 38 = .ok (.iload_n 2, 1) := by decide +kernel
theorem dX9_words_39 : decode cX9_words 39 = .ok (.invokevirtual 152, 3) := by decide +kernel
theorem dX9_words_42 : decode cX9_words 42 = .ok (.lreturn, 1) := by decide +kernel
theorem dX9_word_0 : decode cX9_word 0 = .ok (.aload_n 0, 1) := by decide +kernel
theorem dX9_word_1 : decode cX9_word 1 = .ok (.iload_n 1, 1) := by decide +kernel
theorem dX9_word_2 : decode cX9_word 2 = .ok (.invokevirtual 106, 3) := by decide +kernel
theorem dX9_word_5 : decode cX9_word 5 = .ok (.astore 5, 2) := by decide +kernel
theorem dX9_word_7 : decode cX9_word 7 = .ok (.aload 5, 2) := by decide +kernel
theorem dX9_word_9 : decode cX9_word 9 = .ok (.ifnull 19, 3) := by decide +kernel
theorem dX9_word_12 : decode cX9_word 12 = .ok (.iload_n 2, 1) := by decide +kernel
theorem dX9_word_13 : decode cX9_word 13 = .ok (.ifCond .lt 15, 3) := by decide +kernel
theorem dX9_word_16 : decode cX9_word 16 = .ok (.iload_n 2, 1) := by decide +kernel
theorem dX9_word_17 : decode cX9_word 17 = .ok (.bipush 28, 2) := by decide +kernel
theorem dX9_word_19 : decode cX9_word 19 = .ok (.if_icmp .gt 9, 3) := by decide +kernel
theorem dX9_word_22 : decode cX9_word 22 = .ok (.lload_n 3, 1) := by decide +kernel
theorem dX9_word_23 : decode cX9_word 23 = .ok (.lconst 0, 1) := by decide +kernel
theorem dX9_word_24 : decode cX9_word 24 = .ok (.lcmp, 1) := by decide +kernel
theorem dX9_word_25 : decode cX9_word 25 = .ok (.ifCond .ge 5, 3) := by decide +kernel
theorem dX9_word_28 : decode cX9_word 28 = .ok (.iconst 0, 1) := by decide +kernel
theorem dX9_word_29 : decode cX9_word 29 = .ok (.ireturn, 1) := by decide +kernel
theorem dX9_word_30 : decode cX9_word 30 = .ok (.aload_n 0, 1) := by decide +kernel
theorem dX9_word_31 : decode cX9_word 31 = .ok (.getfield 51, 3) := by decide +kernel
theorem dX9_word_34 : decode cX9_word 34 = .ok (.aload 5, 2) := by decide +kernel
theorem dX9_word_36 : decode cX9_word 36 = .ok (.iload_n 2, 1) := by decide +kernel
theorem dX9_word_37 : decode cX9_word 37 = .ok (.invokevirtual 148, 3) := by decide +kernel
theorem dX9_word_40 : decode cX9_word 40 = .ok (.lload_n 3, 1) := by decide +kernel
theorem dX9_word_41 : decode cX9_word 41 = .ok (.aload_n 0, 1) := by decide +kernel
theorem dX9_word_42 : decode cX9_word 42 = .ok (.getfield 51, 3) := by decide +kernel
theorem dX9_word_45 : decode cX9_word 45 = .ok (.iconst 0, 1) := by decide +kernel
theorem dX9_word_46 : decode cX9_word 46 = .ok (.iload_n 2, 1) := by decide +kernel
theorem dX9_word_47 : decode cX9_word 47 = .ok (.invokevirtual 152, 3) := by decide +kernel
theorem dX9_word_50 : decode cX9_word 50 = .ok (.lcmp, 1) := by decide +kernel
theorem dX9_word_51 : decode cX9_word 51 = .ok (.ifCond .lt 5, 3) := by decide +kernel
theorem dX9_word_54 : decode cX9_word 54 = .ok (.iconst 0, 1) := by decide +kernel
theorem dX9_word_55 : decode cX9_word 55 = .ok (.ireturn, 1) := by decide +kernel
theorem dX9_word_56 : decode cX9_word 56 = .ok (.aload_n 0, 1) := by decide +kernel
theorem dX9_word_57 : decode cX9_word 57 = .ok (.getfield 51, 3) := by decide +kernel
theorem dX9_word_60 : decode cX9_word 60 = .ok (.aload 5, 2) := by decide +kernel
theorem dX9_word_62 : decode cX9_word 62 = .ok (.iload_n 2, 1) := by decide +kernel
theorem dX9_word_63 : decode cX9_word 63 = .ok (.lload_n 3, 1) := by decide +kernel
theorem dX9_word_64 : decode cX9_word 64 = .ok (.aload_n 0, 1) := by decide +kernel
theorem dX9_word_65 : decode cX9_word 65 = .ok (.getfield 72, 3) := by decide +kernel
theorem dX9_word_68 : decode cX9_word 68 = .ok (.invokevirtual 156, 3) := by decide +kernel
theorem dX9_word_71 : decode cX9_word 71 = .ok (.iconst 1, 1) := by decide +kernel
theorem dX9_word_72 : decode cX9_word 72 = .ok (.ireturn, 1) := by decide +kernel
theorem dX9_shortest_0 : decode cX9_shortest 0 = .ok (.aload_n 0, 1) := by decide +kernel
theorem dX9_shortest_1 : decode cX9_shortest 1 = .ok (.iload_n 1, 1) := by decide +kernel
theorem dX9_shortest_2 : decode cX9_shortest 2 = .ok (.invokevirtual 106, 3) := by decide +kernel
theorem dX9_shortest_5 : decode cX9_shortest 5 = .ok (.astore_n 2, 1) := by decide +kernel
theorem dX9_shortest_6 : decode cX9_shortest 6 = .ok (.aload_n 2, 1) := by decide +kernel
theorem dX9_shortest_7 : decode cX9_shortest 7 = .ok (.ifnonnull 5, 3) := by decide +kernel
theorem dX9_shortest_10 : decode cX9_shortest 10 = .ok (.iconst (-1), 1) := by decide +kernel
theorem dX9_shortest_11 : decode cX9_shortest 11 = .ok (.ireturn, 1) := by decide +kernel
theorem dX9_shortest_12 : decode cX9_shortest 12 = .ok (.aload_n 2, 1) := by decide +kernel
theorem dX9_shortest_13 : decode cX9_shortest 13 = .ok (.invokevirtual 118, 3) := by decide +kernel
theorem dX9_shortest_16 : decode cX9_shortest 16 = .ok (.istore_n 3, 1) := by decide +kernel
theorem dX9_shortest_17 : decode cX9_shortest 17 = .ok (.iload_n 3, 1) := by decide +kernel
theorem dX9_shortest_18 : decode cX9_shortest 18 = .ok (.iconst (-1), 1) := by decide +kernel
theorem dX9_shortest_19 : decode cX9_shortest 19 = .ok (.if_icmp .ne 5, 3) := by decide +kernel
theorem dX9_shortest_22 : decode cX9_shortest 22 = .ok (.iconst (-1), 1) := by decide +kernel
theorem dX9_shortest_23 : decode cX9_shortest 23 = .ok (.ireturn, 1) := by decide +kernel
theorem dX9_shortest_24 : decode cX9_shortest 24 = .ok (.aload_n 0, 1) := by decide +kernel
theorem dX9_shortest_25 : decode cX9_shortest 25 = .ok (.getfield 72, 3) := by decide +kernel
theorem dX9_shortest_28 : decode cX9_shortest 28 = .ok (.aload_n 2, 1) := by decide +kernel
theorem dX9_shortest_29 : decode cX9_shortest 29 = .ok (.getfield 160, 3) := by decide +kernel
theorem dX9_shortest_32 : decode cX9_shortest 32 = .ok (.iload_n 3, 1) := by decide +kernel
theorem dX9_shortest_33 : decode cX9_shortest 33 = .ok (.invokevirtual 163, 3) := by decide +kernel
theorem dX9_shortest_36 : decode cX9_shortest 36 = .ok (.aload_n 0, 1) := by decide +kernel
theorem dX9_shortest_37 : decode cX9_shortest 37 = .ok (.getfield 72, 3) := by decide +kernel
theorem dX9_shortest_40 : decode cX9_shortest 40 = .ok (.getfield 167, 3) := by decide +kernel
theorem dX9_shortest_43 : decode cX9_shortest 43 = .ok (.ireturn, 1) := by decide +kernel
theorem dX9_compare_0 : decode cX9_compare 0 = .ok (.aload_n 0, 1) := by decide +kernel
theorem dX9_compare_1 : decode cX9_compare 1 = .ok (.iload_n 1, 1) := by decide +kernel
theorem dX9_compare_2 : decode cX9_compare 2 = .ok (.invokevirtual 106, 3) := by decide +kernel
theorem dX9_compare_5 : decode cX9_compare 5 = .ok (.astore_n 3, 1) := by decide +kernel
theorem dX9_compare_6 : decode cX9_compare 6 = .ok (.aload_n 0, 1) := by decide +kernel
theorem dX9_compare_7 : decode cX9_compare 7 = .ok (.iload_n 2, 1) := by decide +kernel
theorem dX9_compare_8 : decode cX9_compare 8 = .ok (.invokevirtual 106, 3) := by decide +kernel
theorem dX9_compare_11 : decode cX9_compare 11 = .ok (.astore 4, 2) := by decide +kernel
theorem dX9_compare_13 : decode cX9_compare 13 = .ok (.aload_n 3, 1) := by decide +kernel
theorem dX9_compare_14 : decode cX9_compare 14 = .ok (.ifnull 8, 3) := by decide +kernel
theorem dX9_compare_17 : decode cX9_compare 17 = .ok (.aload 4, 2) := by decide +kernel
theorem dX9_compare_19 : decode cX9_compare 19 = .ok (.ifnonnull 5, 3) := by decide +kernel
theorem dX9_compare_22 : decode cX9_compare 22 = .ok (.iconst (-1), 1) := by decide +kernel
theorem dX9_compare_23 : decode cX9_compare 23 = .ok (.ireturn, 1) := by decide +kernel
theorem dX9_compare_24 : decode cX9_compare 24 = .ok (.aload_n 0, 1) := by decide +kernel
theorem dX9_compare_25 : decode cX9_compare 25 = .ok (.getfield 58, 3) := by decide +kernel
theorem dX9_compare_28 : decode cX9_compare 28 = .ok (.aload_n 3, 1) := by decide +kernel
theorem dX9_compare_29 : decode cX9_compare 29 = .ok (.aload 4, 2) := by decide +kernel
theorem dX9_compare_31 : decode cX9_compare 31 = .ok (.invokevirtual 170, 3) := by decide +kernel
theorem dX9_compare_34 : decode cX9_compare 34 = .ok (.ireturn, 1) := by decide +kernel
theorem dX9_differ_0 : decode cX9_differ 0 = .ok (.aload_n 0, 1) := by decide +kernel
theorem dX9_differ_1 : decode cX9_differ 1 = .ok (.iload_n 1, 1) := by decide +kernel
theorem dX9_differ_2 : decode cX9_differ 2 = .ok (.invokevirtual 106, 3) := by decide +kernel
theorem dX9_differ_5 : decode cX9_differ 5 = .ok (.astore_n 3, 1) := by decide +kernel
theorem dX9_differ_6 : decode cX9_differ 6 = .ok (.aload_n 0, 1) := by decide +kernel
theorem dX9_differ_7 : decode cX9_differ 7 = .ok (.iload_n 2, 1) := by decide +kernel
theorem dX9_differ_8 : decode cX9_differ 8 = .ok (.invokevirtual 106, 3) := by decide +kernel
theorem dX9_differ_11 : decode cX9_differ 11 = .ok (.astore 4, 2) := by decide +kernel
theorem dX9_differ_13 : decode cX9_differ 13 = .ok (.aload_n 3, 1) := by decide +kernel
theorem dX9_differ_14 : decode cX9_differ 14 = .ok (.ifnull 25, 3) := by decide +kernel
theorem dX9_differ_17 : decode cX9_differ 17 = .ok (.aload 4, 2) := by decide +kernel
theorem dX9_differ_19 : decode cX9_differ 19 = .ok (.ifnull 20, 3) := by decide +kernel
theorem dX9_differ_22 : decode cX9_differ 22 = .ok (.aload_n 0, 1) := by decide +kernel
theorem dX9_differ_23 : decode cX9_differ 23 = .ok (.getfield 65, 3) := by decide +kernel
theorem dX9_differ_26 : decode cX9_differ 26 = .ok (.aload_n 3, 1) := by decide +kernel
theorem dX9_differ_27 : decode cX9_differ 27 = .ok (.aload 4, 2) := by decide +kernel
theorem dX9_differ_29 : decode cX9_differ 29 = .ok (.aload_n 0, 1) := by decide +kernel
theorem dX9_differ_30 : decode cX9_differ 30 = .ok (.getfield 72, 3) := by decide +kernel
theorem dX9_differ_33 : decode cX9_differ 33 = .ok (.invokevirtual 174, 3) := by decide +kernel
theorem dX9_differ_36 : decode cX9_differ 36 = .ok (.ifCond .ne 5, 3) := by decide +kernel
theorem dX9_differ_39 : decode cX9_differ 39 = .ok (.iconst (-1), 1) := by decide +kernel
theorem dX9_differ_40 : decode cX9_differ 40 = .ok (.ireturn, 1) := by decide +kernel
theorem dX9_differ_41 : decode cX9_differ 41 = .ok (.aload_n 0, 1) := by decide +kernel
theorem dX9_differ_42 : decode cX9_differ 42 = .ok (.getfield 72, 3) := by decide +kernel
theorem dX9_differ_45 : decode cX9_differ 45 = .ok (.getfield 167, 3) := by decide +kernel
theorem dX9_differ_48 : decode cX9_differ 48 = .ok (.ireturn, 1) := by decide +kernel
theorem dX9_letter_0 : decode cX9_letter 0 = .ok (.iload_n 1, 1) := by decide +kernel
theorem dX9_letter_1 : decode cX9_letter 1 = .ok (.ifCond .lt 26, 3) := by decide +kernel
theorem dX9_letter_4 : decode cX9_letter 4 = .ok (.iload_n 1, 1) := by decide +kernel
theorem dX9_letter_5 : decode cX9_letter 5 = .ok (.aload_n 0, 1) := by decide +kernel
theorem dX9_letter_6 : decode cX9_letter 6 = .ok (.getfield 72, 3) := by decide +kernel
theorem dX9_letter_9 : decode cX9_letter 9 = .ok (.getfield 167, 3) := by decide +kernel
theorem dX9_letter_12 : decode cX9_letter 12 = .ok (.if_icmp .ge 15, 3) := by decide +kernel
theorem dX9_letter_15 : decode cX9_letter 15 = .ok (.aload_n 0, 1) := by decide +kernel
theorem dX9_letter_16 : decode cX9_letter 16 = .ok (.getfield 72, 3) := by decide +kernel
theorem dX9_letter_19 : decode cX9_letter 19 = .ok (.getfield 178, 3) := by decide +kernel
theorem dX9_letter_22 : decode cX9_letter 22 = .ok (.iload_n 1, 1) := by decide +kernel
theorem dX9_letter_23 : decode cX9_letter 23 = .ok (.iaload, 1) := by decide +kernel
theorem dX9_letter_24 : decode cX9_letter 24 = .ok (.goto 4, 3) := by decide +kernel
theorem dX9_letter_27 : decode cX9_letter 27 = .ok (.iconst (-1), 1) := by decide +kernel
theorem dX9_letter_28 : decode cX9_letter 28 = .ok (.ireturn, 1) := by decide +kernel
theorem dX9_putBytes_0 : decode cX9_putBytes 0 = .ok (.bipush 24, 2) := by decide +kernel
theorem dX9_putBytes_2 : decode cX9_putBytes 2 = .ok (.istore_n 2, 1) := by decide +kernel
theorem dX9_putBytes_3 : decode cX9_putBytes 3 = .ok (.iload_n 2, 1) := by decide +kernel
theorem dX9_putBytes_4 : decode cX9_putBytes 4 = .ok (.ifCond .lt 44, 3) := by decide +kernel
theorem dX9_putBytes_7 : decode cX9_putBytes 7 = .ok (.aload_n 0, 1) := by decide +kernel
theorem dX9_putBytes_8 : decode cX9_putBytes 8 = .ok (.getfield 13, 3) := by decide +kernel
theorem dX9_putBytes_11 : decode cX9_putBytes 11 = .ok (.bipush 100, 2) := by decide +kernel
theorem dX9_putBytes_13 : decode cX9_putBytes 13 = .ok (.if_icmp .ge 35, 3) := by decide +kernel
theorem dX9_putBytes_16 : decode cX9_putBytes 16 = .ok (.aload_n 0, 1) := by decide +kernel
theorem dX9_putBytes_17 : decode cX9_putBytes 17 = .ok (.getfield 9, 3) := by decide +kernel
theorem dX9_putBytes_20 : decode cX9_putBytes 20 = .ok (.aload_n 0, 1) := by decide +kernel
theorem dX9_putBytes_21 : decode cX9_putBytes 21 = .ok (.getfield 13, 3) := by decide +kernel
theorem dX9_putBytes_24 : decode cX9_putBytes 24 = .ok (.iload_n 1, 1) := by decide +kernel
theorem dX9_putBytes_25 : decode cX9_putBytes 25 = .ok (.iload_n 2, 1) := by decide +kernel
theorem dX9_putBytes_26 : decode cX9_putBytes 26 = .ok (.iushr, 1) := by decide +kernel
theorem dX9_putBytes_27 : decode cX9_putBytes 27 = .ok (.sipush 255, 3) := by decide +kernel
theorem dX9_putBytes_30 : decode cX9_putBytes 30 = .ok (.iand, 1) := by decide +kernel
theorem dX9_putBytes_31 : decode cX9_putBytes 31 = .ok (.iastore, 1) := by decide +kernel
theorem dX9_putBytes_32 : decode cX9_putBytes 32 = .ok (.aload_n 0, 1) := by decide +kernel
theorem dX9_putBytes_33 : decode cX9_putBytes 33 = .ok (.dup, 1) := by decide +kernel
theorem dX9_putBytes_34 : decode cX9_putBytes 34 = .ok (.getfield 13, 3) := by decide +kernel
theorem dX9_putBytes_37 : decode cX9_putBytes 37 = .ok (.iconst 1, 1) := by decide +kernel
theorem dX9_putBytes_38 : decode cX9_putBytes 38 = .ok (.iadd, 1) := by decide +kernel
theorem dX9_putBytes_39 : decode cX9_putBytes 39 = .ok (.putfield 13, 3) := by decide +kernel
theorem dX9_putBytes_42 : decode cX9_putBytes 42 = .ok (.iinc 2 (-8), 3) := by decide +kernel
theorem dX9_putBytes_45 : decode cX9_putBytes 45 = .ok (.goto (-42), 3) := by decide +kernel
theorem dX9_putBytes_48 : decode cX9_putBytes 48 = .ok (.return_, 1) := by decide +kernel
theorem dX9_machineIn_0 : decode cX9_machineIn 0 = .ok (.iload_n 1, 1) := by decide +kernel
theorem dX9_machineIn_1 : decode cX9_machineIn 1 = .ok (.ifCond .lt 17, 3) := by decide +kernel
theorem dX9_machineIn_4 : decode cX9_machineIn 4 = .ok (.iload_n 1, 1) := by decide +kernel
theorem dX9_machineIn_5 : decode cX9_machineIn 5 = .ok (.iconst 4, 1) := by decide +kernel
theorem dX9_machineIn_6 : decode cX9_machineIn 6 = .ok (.if_icmp .ge 12, 3) := by decide +kernel
theorem dX9_machineIn_9 : decode cX9_machineIn 9 = .ok (.aload_n 0, 1) := by decide +kernel
theorem dX9_machineIn_10 : decode cX9_machineIn 10 = .ok (.getfield 19, 3) := by decide +kernel
theorem dX9_machineIn_13 : decode cX9_machineIn 13 = .ok (.iload_n 1, 1) := by decide +kernel
theorem dX9_machineIn_14 : decode cX9_machineIn 14 = .ok (.aaload, 1) := by decide +kernel
theorem dX9_machineIn_15 : decode cX9_machineIn 15 = .ok (.goto 4, 3) := by decide +kernel
theorem dX9_machineIn_18 : decode cX9_machineIn 18 = .ok (.aconst_null, 1) := by decide +kernel
theorem dX9_machineIn_19 : decode cX9_machineIn 19 = .ok (.areturn, 1) := by decide +kernel
theorem dX9_isLetter_0 : decode cX9_isLetter 0 = .ok (.iload_n 0, 1) := by decide +kernel
theorem dX9_isLetter_1 : decode cX9_isLetter 1 = .ok (.bipush 97, 2) := by decide +kernel
theorem dX9_isLetter_3 : decode cX9_isLetter 3 = .ok (.if_icmp .lt 13, 3) := by decide +kernel
theorem dX9_isLetter_6 : decode cX9_isLetter 6 = .ok (.iload_n 0, 1) := by decide +kernel
theorem dX9_isLetter_7 : decode cX9_isLetter 7 = .ok (.bipush 100, 2) := by decide +kernel
theorem dX9_isLetter_9 : decode cX9_isLetter 9 = .ok (.if_icmp .gt 7, 3) := by decide +kernel
theorem dX9_isLetter_12 : decode cX9_isLetter 12 = .ok (.iconst 1, 1) := by decide +kernel
theorem dX9_isLetter_13 : decode cX9_isLetter 13 = .ok (.goto 4, 3) := by decide +kernel
theorem dX9_isLetter_16 : decode cX9_isLetter 16 = .ok (.iconst 0, 1) := by decide +kernel
theorem dX9_isLetter_17 : decode cX9_isLetter 17 = .ok (.ireturn, 1) := by decide +kernel
theorem dX10_init_0 : decode cX10_init 0 = .ok (.aload_n 0, 1) := by decide +kernel
theorem dX10_init_1 : decode cX10_init 1 = .ok (.invokespecial 1, 3) := by decide +kernel
theorem dX10_init_4 : decode cX10_init 4 = .ok (.aload_n 0, 1) := by decide +kernel
theorem dX10_init_5 : decode cX10_init 5 = .ok (.bipush 100, 2) := by decide +kernel
theorem dX10_init_7 : decode cX10_init 7 = .ok (.newarray .byte, 2) := by decide +kernel
theorem dX10_init_9 : decode cX10_init 9 = .ok (.putfield 7, 3) := by decide +kernel
theorem dX10_init_12 : decode cX10_init 12 = .ok (.aload_n 0, 1) := by decide +kernel
theorem dX10_init_13 : decode cX10_init 13 = .ok (.bipush 100, 2) := by decide +kernel
theorem dX10_init_15 : decode cX10_init 15 = .ok (.newarray .byte, 2) := by decide +kernel
theorem dX10_init_17 : decode cX10_init 17 = .ok (.putfield 13, 3) := by decide +kernel
theorem dX10_init_20 : decode cX10_init 20 = .ok (.aload_n 0, 1) := by decide +kernel
theorem dX10_init_21 : decode cX10_init 21 = .ok (.iconst (-1), 1) := by decide +kernel
theorem dX10_init_22 : decode cX10_init 22 = .ok (.putfield 16, 3) := by decide +kernel
theorem dX10_init_25 : decode cX10_init 25 = .ok (.aload_n 0, 1) := by decide +kernel
theorem dX10_init_26 : decode cX10_init 26 = .ok (.bipush 6, 2) := by decide +kernel
theorem dX10_init_28 : decode cX10_init 28 = .ok (.newarray .int, 2) := by decide +kernel
theorem dX10_init_30 : decode cX10_init 30 = .ok (.putfield 20, 3) := by decide +kernel
theorem dX10_init_33 : decode cX10_init 33 = .ok (.aload_n 0, 1) := by decide +kernel
theorem dX10_init_34 : decode cX10_init 34 = .ok (.bipush 6, 2) := by decide +kernel
theorem dX10_init_36 : decode cX10_init 36 = .ok (.newarray .boolean, 2) := by decide +kernel
theorem dX10_init_38 : decode cX10_init 38 = .ok (.putfield 24, 3) := by decide +kernel
theorem dX10_init_41 : decode cX10_init 41 = .ok (.aload_n 0, 1) := by decide +kernel
theorem dX10_init_42 : decode cX10_init 42 = .ok (.bipush 6, 2) := by decide +kernel
theorem dX10_init_44 : decode cX10_init 44 = .ok (.newarray .int, 2) := by decide +kernel
theorem dX10_init_46 : decode cX10_init 46 = .ok (.putfield 28, 3) := by decide +kernel
theorem dX10_init_49 : decode cX10_init 49 = .ok (.aload_n 0, 1) := by decide +kernel
theorem dX10_init_50 : decode cX10_init 50 = .ok (.bipush 6, 2) := by decide +kernel
theorem dX10_init_52 : decode cX10_init 52 = .ok (.newarray .int, 2) := by decide +kernel
theorem dX10_init_54 : decode cX10_init 54 = .ok (.putfield 31, 3) := by decide +kernel
theorem dX10_init_57 : decode cX10_init 57 = .ok (.aload_n 0, 1) := by decide +kernel
theorem dX10_init_58 : decode cX10_init 58 = .ok (.sipush 180, 3) := by decide +kernel
theorem dX10_init_61 : decode cX10_init 61 = .ok (.newarray .int, 2) := by decide +kernel
theorem dX10_init_63 : decode cX10_init 63 = .ok (.putfield 34, 3) := by decide +kernel
theorem dX10_init_66 : decode cX10_init 66 = .ok (.aload_n 0, 1) := by decide +kernel
theorem dX10_init_67 : decode cX10_init 67 = .ok (.sipush 180, 3) := by decide +kernel
theorem dX10_init_70 : decode cX10_init 70 = .ok (.newarray .int, 2) := by decide +kernel
theorem dX10_init_72 : decode cX10_init 72 = .ok (.putfield 37, 3) := by decide +kernel
theorem dX10_init_75 : decode cX10_init 75 = .ok (.aload_n 0, 1) := by decide +kernel
theorem dX10_init_76 : decode cX10_init 76 = .ok (.sipush 400, 3) := by decide +kernel
theorem dX10_init_79 : decode cX10_init 79 = .ok (.newarray .int, 2) := by decide +kernel
theorem dX10_init_81 : decode cX10_init 81 = .ok (.putfield 40, 3) := by decide +kernel
theorem dX10_init_84 : decode cX10_init 84 = .ok (.aload_n 0, 1) := by decide +kernel
theorem dX10_init_85 : decode cX10_init 85 = .ok (.iconst 4, 1) := by decide +kernel
theorem dX10_init_86 : decode cX10_init 86 = .ok (.newarray .int, 2) := by decide +kernel
theorem dX10_init_88 : decode cX10_init 88 = .ok (.putfield 43, 3) := by decide +kernel
theorem dX10_init_91 : decode cX10_init 91 = .ok (.aload_n 0, 1) := by decide +kernel
theorem dX10_init_92 : decode cX10_init 92 = .ok (.iconst 4, 1) := by decide +kernel
theorem dX10_init_93 : decode cX10_init 93 = .ok (.newarray .int, 2) := by decide +kernel
theorem dX10_init_95 : decode cX10_init 95 = .ok (.putfield 46, 3) := by decide +kernel
theorem dX10_init_98 : decode cX10_init 98 = .ok (.aload_n 0, 1) := by decide +kernel
theorem dX10_init_99 : decode cX10_init 99 = .ok (.iconst 4, 1) := by decide +kernel
theorem dX10_init_100 : decode cX10_init 100 = .ok (.newarray .int, 2) := by decide +kernel
theorem dX10_init_102 : decode cX10_init 102 = .ok (.putfield 49, 3) := by decide +kernel
theorem dX10_init_105 : decode cX10_init 105 = .ok (.aload_n 0, 1) := by decide +kernel
theorem dX10_init_106 : decode cX10_init 106 = .ok (.iconst 4, 1) := by decide +kernel
theorem dX10_init_107 : decode cX10_init 107 = .ok (.newarray .int, 2) := by decide +kernel
theorem dX10_init_109 : decode cX10_init 109 = .ok (.putfield 52, 3) := by decide +kernel
theorem dX10_init_112 : decode cX10_init 112 = .ok (.aload_n 0, 1) := by decide +kernel
theorem dX10_init_113 : decode cX10_init 113 = .ok (.sipush 2400, 3) := by decide +kernel
theorem dX10_init_116 : decode cX10_init 116 = .ok (.newarray .int, 2) := by decide +kernel
theorem dX10_init_118 : decode cX10_init 118 = .ok (.putfield 55, 3) := by decide +kernel
theorem dX10_init_121 : decode cX10_init 121 = .ok (.aload_n 0, 1) := by decide +kernel
theorem dX10_init_122 : decode cX10_init 122 = .ok (.sipush 600, 3) := by decide +kernel
theorem dX10_init_125 : decode cX10_init 125 = .ok (.newarray .boolean, 2) := by decide +kernel
theorem dX10_init_127 : decode cX10_init 127 = .ok (.putfield 58, 3) := by decide +kernel
theorem dX10_init_130 : decode cX10_init 130 = .ok (.aload_n 0, 1) := by decide +kernel
theorem dX10_init_131 : decode cX10_init 131 = .ok (.sipush 3600, 3) := by decide +kernel
theorem dX10_init_134 : decode cX10_init 134 = .ok (.newarray .int, 2) := by decide +kernel
theorem dX10_init_136 : decode cX10_init 136 = .ok (.putfield 61, 3) := by decide +kernel
theorem dX10_init_139 : decode cX10_init 139 = .ok (.aload_n 0, 1) := by decide +kernel
theorem dX10_init_140 : decode cX10_init 140 = .ok (.sipush 600, 3) := by decide +kernel
theorem dX10_init_143 : decode cX10_init 143 = .ok (.newarray .int, 2) := by decide +kernel
theorem dX10_init_145 : decode cX10_init 145 = .ok (.putfield 64, 3) := by decide +kernel
theorem dX10_init_148 : decode cX10_init 148 = .ok (.aload_n 0, 1) := by decide +kernel
theorem dX10_init_149 : decode cX10_init 149 = .ok (.sipush 600, 3) := by decide +kernel
theorem dX10_init_152 : decode cX10_init 152 = .ok (.newarray .int, 2) := by decide +kernel
theorem dX10_init_154 : decode cX10_init 154 = .ok (.putfield 67, 3) := by decide +kernel
theorem dX10_init_157 : decode cX10_init 157 = .ok (.aload_n 0, 1) := by decide +kernel
theorem dX10_init_158 : decode cX10_init 158 = .ok (.sipush 600, 3) := by decide +kernel
theorem dX10_init_161 : decode cX10_init 161 = .ok (.newarray .int, 2) := by decide +kernel
theorem dX10_init_163 : decode cX10_init 163 = .ok (.putfield 70, 3) := by decide +kernel
theorem dX10_init_166 : decode cX10_init 166 = .ok (.aload_n 0, 1) := by decide +kernel
theorem dX10_init_167 : decode cX10_init 167 = .ok (.sipush 22600, 3) := by decide +kernel
theorem dX10_init_170 : decode cX10_init 170 = .ok (.newarray .int, 2) := by decide +kernel
theorem dX10_init_172 : decode cX10_init 172 = .ok (.putfield 73, 3) := by decide +kernel
theorem dX10_init_175 : decode cX10_init 175 = .ok (.aload_n 0, 1) := by decide +kernel
theorem dX10_init_176 : decode cX10_init 176 = .ok (.bipush 12, 2) := by decide +kernel
theorem dX10_init_178 : decode cX10_init 178 = .ok (.newarray .boolean, 2) := by decide +kernel
theorem dX10_init_180 : decode cX10_init 180 = .ok (.putfield 76, 3) := by decide +kernel
theorem dX10_init_183 : decode cX10_init 183 = .ok (.aload_n 0, 1) := by decide +kernel
theorem dX10_init_184 : decode cX10_init 184 = .ok (.bipush 12, 2) := by decide +kernel
theorem dX10_init_186 : decode cX10_init 186 = .ok (.newarray .boolean, 2) := by decide +kernel
theorem dX10_init_188 : decode cX10_init 188 = .ok (.putfield 79, 3) := by decide +kernel
theorem dX10_init_191 : decode cX10_init 191 = .ok (.aload_n 0, 1) := by decide +kernel
theorem dX10_init_192 : decode cX10_init 192 = .ok (.bipush 12, 2) := by decide +kernel
theorem dX10_init_194 : decode cX10_init 194 = .ok (.newarray .int, 2) := by decide +kernel
theorem dX10_init_196 : decode cX10_init 196 = .ok (.putfield 82, 3) := by decide +kernel
theorem dX10_init_199 : decode cX10_init 199 = .ok (.aload_n 0, 1) := by decide +kernel
theorem dX10_init_200 : decode cX10_init 200 = .ok (.bipush 12, 2) := by decide +kernel
theorem dX10_init_202 : decode cX10_init 202 = .ok (.newarray .int, 2) := by decide +kernel
theorem dX10_init_204 : decode cX10_init 204 = .ok (.putfield 85, 3) := by decide +kernel
theorem dX10_init_207 : decode cX10_init 207 = .ok (.aload_n 0, 1) := by decide +kernel
theorem dX10_init_208 : decode cX10_init 208 = .ok (.bipush 12, 2) := by decide +kernel
theorem dX10_init_210 : decode cX10_init 210 = .ok (.newarray .boolean, 2) := by decide +kernel
theorem dX10_init_212 : decode cX10_init 212 = .ok (.putfield 88, 3) := by decide +kernel
theorem dX10_init_215 : decode cX10_init 215 = .ok (.aload_n 0, 1) := by decide +kernel
theorem dX10_init_216 : decode cX10_init 216 = .ok (.bipush 12, 2) := by decide +kernel
theorem dX10_init_218 : decode cX10_init 218 = .ok (.newarray .int, 2) := by decide +kernel
theorem dX10_init_220 : decode cX10_init 220 = .ok (.putfield 91, 3) := by decide +kernel
theorem dX10_init_223 : decode cX10_init 223 = .ok (.aload_n 0, 1) := by decide +kernel
theorem dX10_init_224 : decode cX10_init 224 = .ok (.bipush 12, 2) := by decide +kernel
theorem dX10_init_226 : decode cX10_init 226 = .ok (.newarray .int, 2) := by decide +kernel
theorem dX10_init_228 : decode cX10_init 228 = .ok (.putfield 94, 3) := by decide +kernel
theorem dX10_init_231 : decode cX10_init 231 = .ok (.aload_n 0, 1) := by decide +kernel
theorem dX10_init_232 : decode cX10_init 232 = .ok (.bipush 12, 2) := by decide +kernel
theorem dX10_init_234 : decode cX10_init 234 = .ok (.newarray .boolean, 2) := by decide +kernel
theorem dX10_init_236 : decode cX10_init 236 = .ok (.putfield 97, 3) := by decide +kernel
theorem dX10_init_239 : decode cX10_init 239 = .ok (.aload_n 0, 1) := by decide +kernel
theorem dX10_init_240 : decode cX10_init 240 = .ok (.bipush 12, 2) := by decide +kernel
theorem dX10_init_242 : decode cX10_init 242 = .ok (.newarray .boolean, 2) := by decide +kernel
theorem dX10_init_244 : decode cX10_init 244 = .ok (.putfield 100, 3) := by decide +kernel
theorem dX10_init_247 : decode cX10_init 247 = .ok (.aload_n 0, 1) := by decide +kernel
theorem dX10_init_248 : decode cX10_init 248 = .ok (.bipush 12, 2) := by decide +kernel
theorem dX10_init_250 : decode cX10_init 250 = .ok (.newarray .boolean, 2) := by decide +kernel
theorem dX10_init_252 : decode cX10_init 252 = .ok (.putfield 103, 3) := by decide +kernel
theorem dX10_init_255 : decode cX10_init 255 = .ok (.aload_n 0, 1) := by decide +kernel
theorem dX10_init_256 : decode cX10_init 256 = .ok (.sipush 400, 3) := by decide +kernel
theorem dX10_init_259 : decode cX10_init 259 = .ok (.newarray .boolean, 2) := by decide +kernel
theorem dX10_init_261 : decode cX10_init 261 = .ok (.putfield 106, 3) := by decide +kernel
theorem dX10_init_264 : decode cX10_init 264 = .ok (.aload_n 0, 1) := by decide +kernel
theorem dX10_init_265 : decode cX10_init 265 = .ok (.bipush 6, 2) := by decide +kernel
theorem dX10_init_267 : decode cX10_init 267 = .ok (.newarray .int, 2) := by decide +kernel
theorem dX10_init_269 : decode cX10_init 269 = .ok (.putfield 109, 3) := by decide +kernel
theorem dX10_init_272 : decode cX10_init 272 = .ok (.aload_n 0, 1) := by decide +kernel
theorem dX10_init_273 : decode cX10_init 273 = .ok (.sipush 150, 3) := by decide +kernel
theorem dX10_init_276 : decode cX10_init 276 = .ok (.newarray .int, 2) := by decide +kernel
theorem dX10_init_278 : decode cX10_init 278 = .ok (.putfield 112, 3) := by decide +kernel
theorem dX10_init_281 : decode cX10_init 281 = .ok (.aload_n 0, 1) := by decide +kernel
theorem dX10_init_282 : decode cX10_init 282 = .ok (.sipush 900, 3) := by decide +kernel
theorem dX10_init_285 : decode cX10_init 285 = .ok (.newarray .int, 2) := by decide +kernel
theorem dX10_init_287 : decode cX10_init 287 = .ok (.putfield 115, 3) := by decide +kernel
theorem dX10_init_290 : decode cX10_init 290 = .ok (.aload_n 0, 1) := by decide +kernel
theorem dX10_init_291 : decode cX10_init 291 = .ok (.sipush 600, 3) := by decide +kernel
theorem dX10_init_294 : decode cX10_init 294 = .ok (.newarray .int, 2) := by decide +kernel
theorem dX10_init_296 : decode cX10_init 296 = .ok (.putfield 118, 3) := by decide +kernel
theorem dX10_init_299 : decode cX10_init 299 = .ok (.aload_n 0, 1) := by decide +kernel
theorem dX10_init_300 : decode cX10_init 300 = .ok (.sipush 150, 3) := by decide +kernel
theorem dX10_init_303 : decode cX10_init 303 = .ok (.newarray .int, 2) := by decide +kernel
theorem dX10_init_305 : decode cX10_init 305 = .ok (.putfield 121, 3) := by decide +kernel
theorem dX10_init_308 : decode cX10_init 308 = .ok (.aload_n 0, 1) := by decide +kernel
theorem dX10_init_309 : decode cX10_init 309 = .ok (.sipush 150, 3) := by decide +kernel
theorem dX10_init_312 : decode cX10_init 312 = .ok (.newarray .int, 2) := by decide +kernel
theorem dX10_init_314 : decode cX10_init 314 = .ok (.putfield 124, 3) := by decide +kernel
theorem dX10_init_317 : decode cX10_init 317 = .ok (.aload_n 0, 1) := by decide +kernel
theorem dX10_init_318 : decode cX10_init 318 = .ok (.sipush 150, 3) := by decide +kernel
theorem dX10_init_321 : decode cX10_init 321 = .ok (.newarray .boolean, 2) := by decide +kernel
theorem dX10_init_323 : decode cX10_init 323 = .ok (.putfield 127, 3) := by decide +kernel
theorem dX10_init_326 : decode cX10_init 326 = .ok (.aload_n 0, 1) := by decide +kernel
theorem dX10_init_327 : decode cX10_init 327 = .ok (.sipush 150, 3) := by decide +kernel
theorem dX10_init_330 : decode cX10_init 330 = .ok (.newarray .boolean, 2) := by decide +kernel
theorem dX10_init_332 : decode cX10_init 332 = .ok (.putfield 130, 3) := by decide +kernel
theorem dX10_init_335 : decode cX10_init 335 = .ok (.aload_n 0, 1) := by decide +kernel
theorem dX10_init_336 : decode cX10_init 336 = .ok (.sipush 4350, 3) := by decide +kernel
theorem dX10_init_339 : decode cX10_init 339 = .ok (.newarray .long, 2) := by decide +kernel
theorem dX10_init_341 : decode cX10_init 341 = .ok (.putfield 133, 3) := by decide +kernel
theorem dX10_init_344 : decode cX10_init 344 = .ok (.aload_n 0, 1) := by decide +kernel
theorem dX10_init_345 : decode cX10_init 345 = .ok (.sipush 22500, 3) := by decide +kernel
theorem dX10_init_348 : decode cX10_init 348 = .ok (.newarray .int, 2) := by decide +kernel
theorem dX10_init_350 : decode cX10_init 350 = .ok (.putfield 137, 3) := by decide +kernel
theorem dX10_init_353 : decode cX10_init 353 = .ok (.aload_n 0, 1) := by decide +kernel
theorem dX10_init_354 : decode cX10_init 354 = .ok (.sipush 22500, 3) := by decide +kernel
theorem dX10_init_357 : decode cX10_init 357 = .ok (.newarray .int, 2) := by decide +kernel
theorem dX10_init_359 : decode cX10_init 359 = .ok (.putfield 140, 3) := by decide +kernel
theorem dX10_init_362 : decode cX10_init 362 = .ok (.aload_n 0, 1) := by decide +kernel
theorem dX10_init_363 : decode cX10_init 363 = .ok (.sipush 22500, 3) := by decide +kernel
theorem dX10_init_366 : decode cX10_init 366 = .ok (.newarray .int, 2) := by decide +kernel
theorem dX10_init_368 : decode cX10_init 368 = .ok (.putfield 143, 3) := by decide +kernel
theorem dX10_init_371 : decode cX10_init 371 = .ok (.aload_n 0, 1) := by decide +kernel
theorem dX10_init_372 : decode cX10_init 372 = .ok (.sipush 22500, 3) := by decide +kernel
theorem dX10_init_375 : decode cX10_init 375 = .ok (.newarray .boolean, 2) := by decide +kernel
theorem dX10_init_377 : decode cX10_init 377 = .ok (.putfield 146, 3) := by decide +kernel
theorem dX10_init_380 : decode cX10_init 380 = .ok (.return_, 1) := by decide +kernel
theorem dX10_lies_0 : decode cX10_lies 0 = .ok (.iload_n 0, 1) := by decide +kernel
theorem dX10_lies_1 : decode cX10_lies 1 = .ok (.iload_n 1, 1) := by decide +kernel
theorem dX10_lies_2 : decode cX10_lies 2 = .ok (.if_icmp .lt 12, 3) := by decide +kernel
theorem dX10_lies_5 : decode cX10_lies 5 = .ok (.iload_n 0, 1) := by decide +kernel
theorem dX10_lies_6 : decode cX10_lies 6 = .ok (.iload_n 2, 1) := by decide +kernel
theorem dX10_lies_7 : decode cX10_lies 7 = .ok (.if_icmp .gt 7, 3) := by decide +kernel
theorem dX10_lies_10 : decode cX10_lies 10 = .ok (.iconst 1, 1) := by decide +kernel
theorem dX10_lies_11 : decode cX10_lies 11 = .ok (.goto 4, 3) := by decide +kernel
theorem dX10_lies_14 : decode cX10_lies 14 = .ok (.iconst 0, 1) := by decide +kernel
theorem dX10_lies_15 : decode cX10_lies 15 = .ok (.ireturn, 1) := by decide +kernel
theorem dX10_push_0 : decode cX10_push 0 = .ok (.bipush 24, 2) := by decide +kernel
theorem dX10_push_2 : decode cX10_push 2 = .ok (.istore_n 2, 1) := by decide +kernel
theorem dX10_push_3 : decode cX10_push 3 = .ok (.iload_n 2, 1) := by decide +kernel
theorem dX10_push_4 : decode cX10_push 4 = .ok (.ifCond .lt 32, 3) := by decide +kernel
theorem dX10_push_7 : decode cX10_push 7 = .ok (.aload_n 0, 1) := by decide +kernel
theorem dX10_push_8 : decode cX10_push 8 = .ok (.getfield 7, 3) := by decide +kernel
theorem dX10_push_11 : decode cX10_push 11 = .ok (.aload_n 0, 1) := by decide +kernel
theorem dX10_push_12 : decode cX10_push 12 = .ok (.getfield 149, 3) := by decide +kernel
theorem dX10_push_15 : decode cX10_push 15 = .ok (.iload_n 1, 1) := by decide +kernel
theorem dX10_push_16 : decode cX10_push 16 = .ok (.iload_n 2, 1) := by decide +kernel
theorem dX10_push_17 : decode cX10_push 17 = .ok (.ishr, 1) := by decide +kernel
theorem dX10_push_18 : decode cX10_push 18 = .ok (.i2b, 1) := by decide +kernel
theorem dX10_push_19 : decode cX10_push 19 = .ok (.bastore, 1) := by decide +kernel
theorem dX10_push_20 : decode cX10_push 20 = .ok (.aload_n 0, 1) := by decide +kernel
theorem dX10_push_21 : decode cX10_push 21 = .ok (.dup, 1) := by decide +kernel
theorem dX10_push_22 : decode cX10_push 22 = .ok (.getfield 149, 3) := by decide +kernel
theorem dX10_push_25 : decode cX10_push 25 = .ok (.iconst 1, 1) := by decide +kernel
theorem dX10_push_26 : decode cX10_push 26 = .ok (.iadd, 1) := by decide +kernel
theorem dX10_push_27 : decode cX10_push 27 = .ok (.putfield 149, 3) := by decide +kernel
theorem dX10_push_30 : decode cX10_push 30 = .ok (.iinc 2 (-8), 3) := by decide +kernel
theorem dX10_push_33 : decode cX10_push 33 = .ok (.goto (-30), 3) := by decide +kernel
theorem dX10_push_36 : decode cX10_push 36 = .ok (.return_, 1) := by decide +kernel
theorem dX10_feed_0 : decode cX10_feed 0 = .ok (.aload_n 0, 1) := by decide +kernel
theorem dX10_feed_1 : decode cX10_feed 1 = .ok (.getfield 149, 3) := by decide +kernel
theorem dX10_feed_4 : decode cX10_feed 4 = .ok (.bipush 20, 2) := by decide +kernel
theorem dX10_feed_6 : decode cX10_feed 6 = .ok (.iadd, 1) := by decide +kernel
theorem dX10_feed_7 : decode cX10_feed 7 = .ok (.bipush 100, 2) := by decide +kernel
theorem dX10_feed_9 : decode cX10_feed 9 = .ok (.if_icmp .le 5, 3) := by decide +kernel
theorem dX10_feed_12 : decode cX10_feed 12 = .ok (.iconst (-1), 1) := by decide +kernel
theorem dX10_feed_13 : decode cX10_feed 13 = .ok (.ireturn, 1) := by decide +kernel
theorem dX10_feed_14 : decode cX10_feed 14 = .ok (.aload_n 0, 1) := by decide +kernel
theorem dX10_feed_15 : decode cX10_feed 15 = .ok (.iload_n 1, 1) := by decide +kernel
theorem dX10_feed_16 : decode cX10_feed 16 = .ok (.invokevirtual 152, 3) := by decide +kernel
theorem dX10_feed_19 : decode cX10_feed 19 = .ok (.aload_n 0, 1) := by decide +kernel
theorem dX10_feed_20 : decode cX10_feed 20 = .ok (.iload_n 2, 1) := by decide +kernel
theorem dX10_feed_21 : decode cX10_feed 21 = .ok (.invokevirtual 152, 3) := by decide +kernel
theorem dX10_feed_24 : decode cX10_feed 24 = .ok (.aload_n 0, 1) := by decide +kernel
theorem dX10_feed_25 : decode cX10_feed 25 = .ok (.iload_n 3, 1) := by decide +kernel
theorem dX10_feed_26 : decode cX10_feed 26 = .ok (.invokevirtual 152, 3) := by decide +kernel
theorem dX10_feed_29 : decode cX10_feed 29 = .ok (.aload_n 0, 1) := by decide +kernel
theorem dX10_feed_30 : decode cX10_feed 30 = .ok (.iload 4, 2) := by decide +kernel
theorem dX10_feed_32 : decode cX10_feed 32 = .ok (.invokevirtual 152, 3) := by decide +kernel
theorem dX10_feed_35 : decode cX10_feed 35 = .ok (.aload_n 0, 1) := by decide +kernel
theorem dX10_feed_36 : decode cX10_feed 36 = .ok (.iload 5, 2) := by decide +kernel
theorem dX10_feed_38 : decode cX10_feed 38 = .ok (.invokevirtual 152, 3) := by decide +kernel
theorem dX10_feed_41 : decode cX10_feed 41 = .ok (.aload_n 0, 1) := by decide +kernel
theorem dX10_feed_42 : decode cX10_feed 42 = .ok (.getfield 149, 3) := by decide +kernel
theorem dX10_feed_45 : decode cX10_feed 45 = .ok (.ireturn, 1) := by decide +kernel
theorem dX10_here_0 : decode cX10_here 0 = .ok (.aload_n 0, 1) := by decide +kernel
theorem dX10_here_1 : decode cX10_here 1 = .ok (.getfield 156, 3) := by decide +kernel
theorem dX10_here_4 : decode cX10_here 4 = .ok (.aload_n 0, 1) := by decide +kernel
theorem dX10_here_5 : decode cX10_here 5 = .ok (.getfield 159, 3) := by decide +kernel
theorem dX10_here_8 : decode cX10_here 8 = .ok (.if_icmp .ge 19, 3) := by decide +kernel
theorem dX10_here_11 : decode cX10_here 11 = .ok (.aload_n 0, 1) := by decide +kernel
theorem dX10_here_12 : decode cX10_here 12 = .ok (.getfield 13, 3) := by decide +kernel
theorem dX10_here_15 : decode cX10_here 15 = .ok (.aload_n 0, 1) := by decide +kernel
theorem dX10_here_16 : decode cX10_here 16 = .ok (.getfield 156, 3) := by decide +kernel
theorem dX10_here_19 : decode cX10_here 19 = .ok (.baload, 1) := by decide +kernel
theorem dX10_here_20 : decode cX10_here 20 = .ok (.sipush 255, 3) := by decide +kernel
theorem dX10_here_23 : decode cX10_here 23 = .ok (.iand, 1) := by decide +kernel
theorem dX10_here_24 : decode cX10_here 24 = .ok (.goto 4, 3) := by decide +kernel
theorem dX10_here_27 : decode cX10_here 27 = .ok (.iconst 0, 1) := by decide +kernel
theorem dX10_here_28 : decode cX10_here 28 = .ok (.ireturn, 1) := by decide +kernel
theorem dX10_sees_0 : decode cX10_sees 0 = .ok (.aload_n 0, 1) := by decide +kernel
theorem dX10_sees_1 : decode cX10_sees 1 = .ok (.getfield 156, 3) := by decide +kernel
theorem dX10_sees_4 : decode cX10_sees 4 = .ok (.aload_n 0, 1) := by decide +kernel
theorem dX10_sees_5 : decode cX10_sees 5 = .ok (.getfield 159, 3) := by decide +kernel
theorem dX10_sees_8 : decode cX10_sees 8 = .ok (.if_icmp .ge 24, 3) := by decide +kernel
theorem dX10_sees_11 : decode cX10_sees 11 = .ok (.aload_n 0, 1) := by decide +kernel
theorem dX10_sees_12 : decode cX10_sees 12 = .ok (.getfield 13, 3) := by decide +kernel
theorem dX10_sees_15 : decode cX10_sees 15 = .ok (.aload_n 0, 1) := by decide +kernel
theorem dX10_sees_16 : decode cX10_sees 16 = .ok (.getfield 156, 3) := by decide +kernel
theorem dX10_sees_19 : decode cX10_sees 19 = .ok (.baload, 1) := by decide +kernel
theorem dX10_sees_20 : decode cX10_sees 20 = .ok (.sipush 255, 3) := by decide +kernel
theorem dX10_sees_23 : decode cX10_sees 23 = .ok (.iand, 1) := by decide +kernel
theorem dX10_sees_24 : decode cX10_sees 24 = .ok (.iload_n 1, 1) := by decide +kernel
theorem dX10_sees_25 : decode cX10_sees 25 = .ok (.if_icmp .ne 7, 3) := by decide +kernel
theorem dX10_sees_28 : decode cX10_sees 28 = .ok (.iconst 1, 1) := by decide +kernel
theorem dX10_sees_29 : decode cX10_sees 29 = .ok (.goto 4, 3) := by decide +kernel
theorem dX10_sees_32 : decode cX10_sees 32 = .ok (.iconst 0, 1) := by decide +kernel
theorem dX10_sees_33 : decode cX10_sees 33 = .ok (.ireturn, 1) := by decide +kernel
theorem dX10_seesLetter_0 : decode cX10_seesLetter 0 = .ok (.aload_n 0, 1) := by decide +kernel
theorem dX10_seesLetter_1 : decode cX10_seesLetter 1 = .ok (.invokevirtual 162, 3) := by decide +kernel
theorem dX10_seesLetter_4 : decode cX10_seesLetter 4 = .ok (.bipush 97, 2) := by decide +kernel
theorem dX10_seesLetter_6 : decode cX10_seesLetter 6 = .ok (.bipush 100, 2) := by decide +kernel
theorem dX10_seesLetter_8 : decode cX10_seesLetter 8 = .ok (.invokestatic 166, 3) := by decide +kernel
theorem dX10_seesLetter_11 : decode cX10_seesLetter 11 = .ok (.ireturn, 1) := by decide +kernel
theorem dX10_seesAtom_0 : decode cX10_seesAtom 0 = .ok (.aload_n 0, 1) := by decide +kernel
theorem dX10_seesAtom_1 : decode cX10_seesAtom 1 = .ok (.invokevirtual 170, 3) := by decide +kernel
theorem dX10_seesAtom_4 : decode cX10_seesAtom 4 = .ok (.ifCond .ne 48, 3) := by decide +kernel
theorem dX10_seesAtom_7 : decode cX10_seesAtom 7 = .ok (.aload_n 0, 1) := by decide +kernel
theorem dX10_seesAtom_8 : decode cX10_seesAtom 8 = .ok (.bipush 46, 2) := by decide +kernel
theorem dX10_seesAtom_10 : decode cX10_seesAtom 10 = .ok (.invokevirtual 174, 3) := by decide +kernel
theorem dX10_seesAtom_13 : decode cX10_seesAtom 13 = .ok (.ifCond .ne 39, 3) := by decide +kernel
theorem dX10_seesAtom_16 : decode cX10_seesAtom 16 = .ok (.aload_n 0, 1) := by decide +kernel
theorem dX10_seesAtom_17 : decode cX10_seesAtom 17 = .ok (.bipush 91, 2) := by decide +kernel
theorem dX10_seesAtom_19 : decode cX10_seesAtom 19 = .ok (.invokevirtual 174, 3) := by decide +kernel
theorem dX10_seesAtom_22 : decode cX10_seesAtom 22 = .ok (.ifCond .ne 30, 3) := by decide +kernel
theorem dX10_seesAtom_25 : decode cX10_seesAtom 25 = .ok (.aload_n 0, 1) := by decide +kernel
theorem dX10_seesAtom_26 : decode cX10_seesAtom 26 = .ok (.bipush 40, 2) := by decide +kernel
theorem dX10_seesAtom_28 : decode cX10_seesAtom 28 = .ok (.invokevirtual 174, 3) := by decide +kernel
theorem dX10_seesAtom_31 : decode cX10_seesAtom 31 = .ok (.ifCond .ne 21, 3) := by decide +kernel
theorem dX10_seesAtom_34 : decode cX10_seesAtom 34 = .ok (.aload_n 0, 1) := by decide +kernel
theorem dX10_seesAtom_35 : decode cX10_seesAtom 35 = .ok (.bipush 48, 2) := by decide +kernel
theorem dX10_seesAtom_37 : decode cX10_seesAtom 37 = .ok (.invokevirtual 174, 3) := by decide +kernel
theorem dX10_seesAtom_40 : decode cX10_seesAtom 40 = .ok (.ifCond .ne 12, 3) := by decide +kernel
theorem dX10_seesAtom_43 : decode cX10_seesAtom 43 = .ok (.aload_n 0, 1) := by decide +kernel
theorem dX10_seesAtom_44 : decode cX10_seesAtom 44 = .ok (.bipush 49, 2) := by decide +kernel
theorem dX10_seesAtom_46 : decode cX10_seesAtom 46 = .ok (.invokevirtual 174, 3) := by decide +kernel
theorem dX10_seesAtom_49 : decode cX10_seesAtom 49 = .ok (.ifCond .eq 7, 3) := by decide +kernel
theorem dX10_seesAtom_52 : decode cX10_seesAtom 52 = .ok (.iconst 1, 1) := by decide +kernel
theorem dX10_seesAtom_53 : decode cX10_seesAtom 53 = .ok (.goto 4, 3) := by decide +kernel
theorem dX10_seesAtom_56 : decode cX10_seesAtom 56 = .ok (.iconst 0, 1) := by decide +kernel
theorem dX10_seesAtom_57 : decode cX10_seesAtom 57 = .ok (.ireturn, 1) := by decide +kernel
theorem dX10_bad_0 : decode cX10_bad 0 = .ok (.aload_n 0, 1) := by decide +kernel
theorem dX10_bad_1 : decode cX10_bad 1 = .ok (.getfield 178, 3) := by decide +kernel
theorem dX10_bad_4 : decode cX10_bad 4 = .ok (.ifCond .le 4, 3) := by decide +kernel
theorem dX10_bad_7 : decode cX10_bad 7 = .ok (.return_, 1) := by decide +kernel
theorem dX10_bad_8 : decode cX10_bad 8 = .ok (.aload_n 0, 1) := by decide +kernel
theorem dX10_bad_9 : decode cX10_bad 9 = .ok (.iload_n 1, 1) := by decide +kernel
theorem dX10_bad_10 : decode cX10_bad 10 = .ok (.putfield 178, 3) := by decide +kernel
theorem dX10_bad_13 : decode cX10_bad 13 = .ok (.aload_n 0, 1) := by decide +kernel
theorem dX10_bad_14 : decode cX10_bad 14 = .ok (.iload_n 2, 1) := by decide +kernel
theorem dX10_bad_15 : decode cX10_bad 15 = .ok (.putfield 16, 3) := by decide +kernel
theorem dX10_bad_18 : decode cX10_bad 18 = .ok (.return_, 1) := by decide +kernel
theorem dX10_need_0 : decode cX10_need 0 = .ok (.iload_n 1, 1) := by decide +kernel
theorem dX10_need_1 : decode cX10_need 1 = .ok (.ifCond .ne 12, 3) := by decide +kernel
theorem dX10_need_4 : decode cX10_need 4 = .ok (.aload_n 0, 1) := by decide +kernel
theorem dX10_need_5 : decode cX10_need 5 = .ok (.iconst 1, 1) := by decide +kernel
theorem dX10_need_6 : decode cX10_need 6 = .ok (.aload_n 0, 1) := by decide +kernel
theorem dX10_need_7 : decode cX10_need 7 = .ok (.getfield 156, 3) := by decide +kernel
theorem dX10_need_10 : decode cX10_need 10 = .ok (.invokevirtual 181, 3) := by decide +kernel
theorem dX10_need_13 : decode cX10_need 13 = .ok (.return_, 1) := by decide +kernel
theorem dX10_opens_0 : decode cX10_opens 0 = .ok (.aload_n 0, 1) := by decide +kernel
theorem dX10_opens_1 : decode cX10_opens 1 = .ok (.getfield 76, 3) := by decide +kernel
theorem dX10_opens_4 : decode cX10_opens 4 = .ok (.aload_n 0, 1) := by decide +kernel
theorem dX10_opens_5 : decode cX10_opens 5 = .ok (.getfield 185, 3) := by decide +kernel
theorem dX10_opens_8 : decode cX10_opens 8 = .ok (.iconst 0, 1) := by decide +kernel
theorem dX10_opens_9 : decode cX10_opens 9 = .ok (.bastore, 1) := by decide +kernel
theorem dX10_opens_10 : decode cX10_opens 10 = .ok (.aload_n 0, 1) := by decide +kernel
theorem dX10_opens_11 : decode cX10_opens 11 = .ok (.getfield 88, 3) := by decide +kernel
theorem dX10_opens_14 : decode cX10_opens 14 = .ok (.aload_n 0, 1) := by decide +kernel
theorem dX10_opens_15 : decode cX10_opens 15 = .ok (.getfield 185, 3) := by decide +kernel
theorem dX10_opens_18 : decode cX10_opens 18 = .ok (.iconst 0, 1) := by decide +kernel
theorem dX10_opens_19 : decode cX10_opens 19 = .ok (.bastore, 1) := by decide +kernel
theorem dX10_opens_20 : decode cX10_opens 20 = .ok (.aload_n 0, 1) := by decide +kernel
theorem dX10_opens_21 : decode cX10_opens 21 = .ok (.getfield 91, 3) := by decide +kernel
theorem dX10_opens_24 : decode cX10_opens 24 = .ok (.aload_n 0, 1) := by decide +kernel
theorem dX10_opens_25 : decode cX10_opens 25 = .ok (.getfield 185, 3) := by decide +kernel
theorem dX10_opens_28 : decode cX10_opens 28 = .ok (.iconst 0, 1) := by decide +kernel
theorem dX10_opens_29 : decode cX10_opens 29 = .ok (.iastore, 1) := by decide +kernel
theorem dX10_opens_30 : decode cX10_opens 30 = .ok (.aload_n 0, 1) := by decide +kernel
theorem dX10_opens_31 : decode cX10_opens 31 = .ok (.getfield 94, 3) := by decide +kernel
theorem dX10_opens_34 : decode cX10_opens 34 = .ok (.aload_n 0, 1) := by decide +kernel
theorem dX10_opens_35 : decode cX10_opens 35 = .ok (.getfield 185, 3) := by decide +kernel
theorem dX10_opens_38 : decode cX10_opens 38 = .ok (.iconst 0, 1) := by decide +kernel
theorem dX10_opens_39 : decode cX10_opens 39 = .ok (.iastore, 1) := by decide +kernel
theorem dX10_opens_40 : decode cX10_opens 40 = .ok (.return_, 1) := by decide +kernel
theorem dX10_spotAt_0 : decode cX10_spotAt 0 = .ok (.bipush 30, 2) := by decide +kernel
theorem dX10_spotAt_2 : decode cX10_spotAt 2 = .ok (.aload_n 0, 1) := by decide +kernel
theorem dX10_spotAt_3 : decode cX10_spotAt 3 = .ok (.getfield 188, 3) := by decide +kernel
theorem dX10_spotAt_6 : decode cX10_spotAt 6 = .ok (.iconst 1, 1) := by decide +kernel
theorem dX10_spotAt_7 : decode cX10_spotAt 7 = .ok (.isub, 1) := by decide +kernel
theorem dX10_spotAt_8 : decode cX10_spotAt 8 = .ok (.imul, 1) := by decide +kernel
theorem dX10_spotAt_9 : decode cX10_spotAt 9 = .ok (.iload_n 1, 1) := by decide +kernel
theorem dX10_spotAt_10 : decode cX10_spotAt 10 = .ok (.iadd, 1) := by decide +kernel
theorem dX10_spotAt_11 : decode cX10_spotAt 11 = .ok (.ireturn, 1) := by decide +kernel
theorem dX10_follows_0 : decode cX10_follows 0 = .ok (.iconst 0, 1) := by decide +kernel
theorem dX10_follows_1 : decode cX10_follows 1 = .ok (.istore_n 3, 1) := by decide +kernel
theorem dX10_follows_2 : decode cX10_follows 2 = .ok (.iload_n 3, 1) := by decide +kernel
theorem dX10_follows_3 : decode cX10_follows 3 = .ok (.bipush 30, 2) := by decide +kernel
theorem dX10_follows_5 : decode cX10_follows 5 = .ok (.if_icmp .ge 32, 3) := by decide +kernel
theorem dX10_follows_8 : decode cX10_follows 8 = .ok (.iload_n 1, 1) := by decide +kernel
theorem dX10_follows_9 : decode cX10_follows 9 = .ok (.iload_n 3, 1) := by decide +kernel
theorem dX10_follows_10 : decode cX10_follows 10 = .ok (.ishr, 1) := by decide +kernel
theorem dX10_follows_11 : decode cX10_follows 11 = .ok (.iconst 1, 1) := by decide +kernel
theorem dX10_follows_12 : decode cX10_follows 12 = .ok (.iand, 1) := by decide +kernel
theorem dX10_follows_13 : decode cX10_follows 13 = .ok (.iconst 1, 1) := by decide +kernel
theorem dX10_follows_14 : decode cX10_follows 14 = .ok (.if_icmp .ne 17, 3) := by decide +kernel
theorem dX10_follows_17 : decode cX10_follows 17 = .ok (.aload_n 0, 1) := by decide +kernel
theorem dX10_follows_18 : decode cX10_follows 18 = .ok (.getfield 37, 3) := by decide +kernel
theorem dX10_follows_21 : decode cX10_follows 21 = .ok (.aload_n 0, 1) := by decide +kernel
theorem dX10_follows_22 : decode cX10_follows 22 = .ok (.iload_n 3, 1) := by decide +kernel
theorem dX10_follows_23 : decode cX10_follows 23 = .ok (.invokevirtual 191, 3) := by decide +kernel
theorem dX10_follows_26 : decode cX10_follows 26 = .ok (.dup2, 1) := by decide +kernel
theorem dX10_follows_27 : decode cX10_follows 27 = .ok (.iaload, 1) := by decide +kernel
theorem dX10_follows_28 : decode cX10_follows 28 = .ok (.iload_n 2, 1) := by decide +kernel
theorem dX10_follows_29 : decode cX10_follows 29 = .ok (.ior, 1) := by decide +kernel
theorem dX10_follows_30 : decode cX10_follows 30 = .ok (.iastore, 1) := by decide +kernel
theorem dX10_follows_31 : decode cX10_follows 31 = .ok (.iinc 3 1, 3) := by decide +kernel
