theorem dX6_init_0 : decode cX6_init 0 = .ok (.aload_n 0, 1) := by decide +kernel
theorem dX6_init_1 : decode cX6_init 1 = .ok (.invokespecial 1, 3) := by decide +kernel
theorem dX6_init_4 : decode cX6_init 4 = .ok (.aload_n 0, 1) := by decide +kernel
theorem dX6_init_5 : decode cX6_init 5 = .ok (.new 7, 3) := by decide +kernel
theorem dX6_init_8 : decode cX6_init 8 = .ok (.dup, 1) := by decide +kernel
theorem dX6_init_9 : decode cX6_init 9 = .ok (.invokespecial 9, 3) := by decide +kernel
theorem dX6_init_12 : decode cX6_init 12 = .ok (.putfield 10, 3) := by decide +kernel
theorem dX6_init_15 : decode cX6_init 15 = .ok (.aload_n 0, 1) := by decide +kernel
theorem dX6_init_16 : decode cX6_init 16 = .ok (.new 7, 3) := by decide +kernel
theorem dX6_init_19 : decode cX6_init 19 = .ok (.dup, 1) := by decide +kernel
theorem dX6_init_20 : decode cX6_init 20 = .ok (.invokespecial 9, 3) := by decide +kernel
theorem dX6_init_23 : decode cX6_init 23 = .ok (.putfield 16, 3) := by decide +kernel
theorem dX6_init_26 : decode cX6_init 26 = .ok (.aload_n 0, 1) := by decide +kernel
theorem dX6_init_27 : decode cX6_init 27 = .ok (.new 7, 3) := by decide +kernel
theorem dX6_init_30 : decode cX6_init 30 = .ok (.dup, 1) := by decide +kernel
theorem dX6_init_31 : decode cX6_init 31 = .ok (.invokespecial 9, 3) := by decide +kernel
theorem dX6_init_34 : decode cX6_init 34 = .ok (.putfield 19, 3) := by decide +kernel
theorem dX6_init_37 : decode cX6_init 37 = .ok (.aload_n 0, 1) := by decide +kernel
theorem dX6_init_38 : decode cX6_init 38 = .ok (.iconst 0, 1) := by decide +kernel
theorem dX6_init_39 : decode cX6_init 39 = .ok (.putfield 22, 3) := by decide +kernel
theorem dX6_init_42 : decode cX6_init 42 = .ok (.aload_n 0, 1) := by decide +kernel
theorem dX6_init_43 : decode cX6_init 43 = .ok (.new 26, 3) := by decide +kernel
theorem dX6_init_46 : decode cX6_init 46 = .ok (.dup, 1) := by decide +kernel
theorem dX6_init_47 : decode cX6_init 47 = .ok (.aload_n 0, 1) := by decide +kernel
theorem dX6_init_48 : decode cX6_init 48 = .ok (.getfield 10, 3) := by decide +kernel
theorem dX6_init_51 : decode cX6_init 51 = .ok (.invokespecial 28, 3) := by decide +kernel
theorem dX6_init_54 : decode cX6_init 54 = .ok (.putfield 31, 3) := by decide +kernel
theorem dX6_init_57 : decode cX6_init 57 = .ok (.aload_n 0, 1) := by decide +kernel
theorem dX6_init_58 : decode cX6_init 58 = .ok (.new 35, 3) := by decide +kernel
theorem dX6_init_61 : decode cX6_init 61 = .ok (.dup, 1) := by decide +kernel
theorem dX6_init_62 : decode cX6_init 62 = .ok (.aload_n 0, 1) := by decide +kernel
theorem dX6_init_63 : decode cX6_init 63 = .ok (.getfield 10, 3) := by decide +kernel
theorem dX6_init_66 : decode cX6_init 66 = .ok (.invokespecial 37, 3) := by decide +kernel
theorem dX6_init_69 : decode cX6_init 69 = .ok (.putfield 38, 3) := by decide +kernel
theorem dX6_init_72 : decode cX6_init 72 = .ok (.aload_n 0, 1) := by decide +kernel
theorem dX6_init_73 : decode cX6_init 73 = .ok (.new 42, 3) := by decide +kernel
theorem dX6_init_76 : decode cX6_init 76 = .ok (.dup, 1) := by decide +kernel
theorem dX6_init_77 : decode cX6_init 77 = .ok (.aload_n 0, 1) := by decide +kernel
theorem dX6_init_78 : decode cX6_init 78 = .ok (.getfield 10, 3) := by decide +kernel
theorem dX6_init_81 : decode cX6_init 81 = .ok (.invokespecial 44, 3) := by decide +kernel
theorem dX6_init_84 : decode cX6_init 84 = .ok (.putfield 45, 3) := by decide +kernel
theorem dX6_init_87 : decode cX6_init 87 = .ok (.aload_n 0, 1) := by decide +kernel
theorem dX6_init_88 : decode cX6_init 88 = .ok (.new 49, 3) := by decide +kernel
theorem dX6_init_91 : decode cX6_init 91 = .ok (.dup, 1) := by decide +kernel
theorem dX6_init_92 : decode cX6_init 92 = .ok (.invokespecial 51, 3) := by decide +kernel
theorem dX6_init_95 : decode cX6_init 95 = .ok (.putfield 52, 3) := by decide +kernel
theorem dX6_init_98 : decode cX6_init 98 = .ok (.aload_n 0, 1) := by decide +kernel
theorem dX6_init_99 : decode cX6_init 99 = .ok (.iconst 4, 1) := by decide +kernel
theorem dX6_init_100 : decode cX6_init 100 = .ok (.anewarray 56, 3) := by decide +kernel
theorem dX6_init_103 : decode cX6_init 103 = .ok (.putfield 58, 3) := by decide +kernel
theorem dX6_init_106 : decode cX6_init 106 = .ok (.iconst 0, 1) := by decide +kernel
theorem dX6_init_107 : decode cX6_init 107 = .ok (.istore_n 1, 1) := by decide +kernel
theorem dX6_init_108 : decode cX6_init 108 = .ok (.iload_n 1, 1) := by decide +kernel
theorem dX6_init_109 : decode cX6_init 109 = .ok (.iconst 4, 1) := by decide +kernel
theorem dX6_init_110 : decode cX6_init 110 = .ok (.if_icmp .ge 22, 3) := by decide +kernel
theorem dX6_init_113 : decode cX6_init 113 = .ok (.aload_n 0, 1) := by decide +kernel
theorem dX6_init_114 : decode cX6_init 114 = .ok (.getfield 58, 3) := by decide +kernel
theorem dX6_init_117 : decode cX6_init 117 = .ok (.iload_n 1, 1) := by decide +kernel
theorem dX6_init_118 : decode cX6_init 118 = .ok (.new 56, 3) := by decide +kernel
theorem dX6_init_121 : decode cX6_init 121 = .ok (.dup, 1) := by decide +kernel
theorem dX6_init_122 : decode cX6_init 122 = .ok (.invokespecial 62, 3) := by decide +kernel
theorem dX6_init_125 : decode cX6_init 125 = .ok (.aastore, 1) := by decide +kernel
theorem dX6_init_126 : decode cX6_init 126 = .ok (.iinc 1 1, 3) := by decide +kernel
theorem dX6_init_129 : decode cX6_init 129 = .ok (.goto (-21), 3) := by decide +kernel
theorem dX6_init_132 : decode cX6_init 132 = .ok (.aload_n 0, 1) := by decide +kernel
theorem dX6_init_133 : decode cX6_init 133 = .ok (.bipush 7, 2) := by decide +kernel
theorem dX6_init_135 : decode cX6_init 135 = .ok (.newarray .int, 2) := by decide +kernel
theorem dX6_init_137 : decode cX6_init 137 = .ok (.putfield 63, 3) := by decide +kernel
theorem dX6_init_140 : decode cX6_init 140 = .ok (.return_, 1) := by decide +kernel
theorem dX6_part_0 : decode cX6_part 0 = .ok (.iload_n 1, 1) := by decide +kernel
theorem dX6_part_1 : decode cX6_part 1 = .ok (.iconst 0, 1) := by decide +kernel
theorem dX6_part_2 : decode cX6_part 2 = .ok (.bipush 6, 2) := by decide +kernel
theorem dX6_part_4 : decode cX6_part 4 = .ok (.invokestatic 67, 3) := by decide +kernel
theorem dX6_part_7 : decode cX6_part 7 = .ok (.ifCond .eq 35, 3) := by decide +kernel
theorem dX6_part_10 : decode cX6_part 10 = .ok (.iload_n 2, 1) := by decide +kernel
theorem dX6_part_11 : decode cX6_part 11 = .ok (.iconst 0, 1) := by decide +kernel
theorem dX6_part_12 : decode cX6_part 12 = .ok (.bipush 7, 2) := by decide +kernel
theorem dX6_part_14 : decode cX6_part 14 = .ok (.invokestatic 67, 3) := by decide +kernel
theorem dX6_part_17 : decode cX6_part 17 = .ok (.ifCond .eq 25, 3) := by decide +kernel
theorem dX6_part_20 : decode cX6_part 20 = .ok (.iload_n 3, 1) := by decide +kernel
theorem dX6_part_21 : decode cX6_part 21 = .ok (.iconst 1, 1) := by decide +kernel
theorem dX6_part_22 : decode cX6_part 22 = .ok (.sipush 999, 3) := by decide +kernel
theorem dX6_part_25 : decode cX6_part 25 = .ok (.invokestatic 67, 3) := by decide +kernel
theorem dX6_part_28 : decode cX6_part 28 = .ok (.ifCond .eq 14, 3) := by decide +kernel
theorem dX6_part_31 : decode cX6_part 31 = .ok (.iload 4, 2) := by decide +kernel
theorem dX6_part_33 : decode cX6_part 33 = .ok (.iconst 0, 1) := by decide +kernel
theorem dX6_part_34 : decode cX6_part 34 = .ok (.bipush 99, 2) := by decide +kernel
theorem dX6_part_36 : decode cX6_part 36 = .ok (.invokestatic 67, 3) := by decide +kernel
theorem dX6_part_39 : decode cX6_part 39 = .ok (.ifCond .ne 9, 3) := by decide +kernel
theorem dX6_part_42 : decode cX6_part 42 = .ok (.aload_n 0, 1) := by decide +kernel
theorem dX6_part_43 : decode cX6_part 43 = .ok (.iconst 0, 1) := by decide +kernel
theorem dX6_part_44 : decode cX6_part 44 = .ok (.invokevirtual 71, 3) := by decide +kernel
theorem dX6_part_47 : decode cX6_part 47 = .ok (.ireturn, 1) := by decide +kernel
theorem dX6_part_48 : decode cX6_part 48 = .ok (.aload_n 0, 1) := by decide +kernel
theorem dX6_part_49 : decode cX6_part 49 = .ok (.getfield 10, 3) := by decide +kernel
theorem dX6_part_52 : decode cX6_part 52 = .ok (.getfield 75, 3) := by decide +kernel
theorem dX6_part_55 : decode cX6_part 55 = .ok (.bipush 20, 2) := by decide +kernel
theorem dX6_part_57 : decode cX6_part 57 = .ok (.if_icmp .lt 9, 3) := by decide +kernel
theorem dX6_part_60 : decode cX6_part 60 = .ok (.aload_n 0, 1) := by decide +kernel
theorem dX6_part_61 : decode cX6_part 61 = .ok (.iconst 1, 1) := by decide +kernel
theorem dX6_part_62 : decode cX6_part 62 = .ok (.invokevirtual 71, 3) := by decide +kernel
theorem dX6_part_65 : decode cX6_part 65 = .ok (.ireturn, 1) := by decide +kernel
theorem dX6_part_66 : decode cX6_part 66 = .ok (.aload_n 0, 1) := by decide +kernel
theorem dX6_part_67 : decode cX6_part 67 = .ok (.getfield 10, 3) := by decide +kernel
theorem dX6_part_70 : decode cX6_part 70 = .ok (.iload_n 1, 1) := by decide +kernel
theorem dX6_part_71 : decode cX6_part 71 = .ok (.iload_n 2, 1) := by decide +kernel
theorem dX6_part_72 : decode cX6_part 72 = .ok (.iload_n 3, 1) := by decide +kernel
theorem dX6_part_73 : decode cX6_part 73 = .ok (.iload 4, 2) := by decide +kernel
theorem dX6_part_75 : decode cX6_part 75 = .ok (.invokevirtual 79, 3) := by decide +kernel
theorem dX6_part_78 : decode cX6_part 78 = .ok (.ireturn, 1) := by decide +kernel
theorem dX6_of_0 : decode cX6_of 0 = .ok (.aload_n 0, 1) := by decide +kernel
theorem dX6_of_1 : decode cX6_of 1 = .ok (.getfield 10, 3) := by decide +kernel
theorem dX6_of_4 : decode cX6_of 4 = .ok (.iload_n 1, 1) := by decide +kernel
theorem dX6_of_5 : decode cX6_of 5 = .ok (.invokevirtual 83, 3) := by decide +kernel
theorem dX6_of_8 : decode cX6_of 8 = .ok (.ifCond .eq 13, 3) := by decide +kernel
theorem dX6_of_11 : decode cX6_of 11 = .ok (.iload_n 2, 1) := by decide +kernel
theorem dX6_of_12 : decode cX6_of 12 = .ok (.iconst 0, 1) := by decide +kernel
theorem dX6_of_13 : decode cX6_of 13 = .ok (.bipush 9, 2) := by decide +kernel
theorem dX6_of_15 : decode cX6_of 15 = .ok (.invokestatic 67, 3) := by decide +kernel
theorem dX6_of_18 : decode cX6_of 18 = .ok (.ifCond .ne 9, 3) := by decide +kernel
theorem dX6_of_21 : decode cX6_of 21 = .ok (.aload_n 0, 1) := by decide +kernel
theorem dX6_of_22 : decode cX6_of 22 = .ok (.iconst 0, 1) := by decide +kernel
theorem dX6_of_23 : decode cX6_of 23 = .ok (.invokevirtual 71, 3) := by decide +kernel
theorem dX6_of_26 : decode cX6_of 26 = .ok (.ireturn, 1) := by decide +kernel
theorem dX6_of_27 : decode cX6_of 27 = .ok (.aload_n 0, 1) := by decide +kernel
theorem dX6_of_28 : decode cX6_of 28 = .ok (.getfield 31, 3) := by decide +kernel
theorem dX6_of_31 : decode cX6_of 31 = .ok (.invokevirtual 87, 3) := by decide +kernel
theorem dX6_of_34 : decode cX6_of 34 = .ok (.iload_n 2, 1) := by decide +kernel
theorem dX6_of_35 : decode cX6_of 35 = .ok (.tableswitch 143 0 8 #[49, 59, 69, 79, 89, 99, 116, 125, 134], 49) := by decide +kernel
theorem dX6_of_84 : decode cX6_of 84 = .ok (.aload_n 0, 1) := by decide +kernel
theorem dX6_of_85 : decode cX6_of 85 = .ok (.getfield 10, 3) := by decide +kernel
theorem dX6_of_88 : decode cX6_of 88 = .ok (.getfield 90, 3) := by decide +kernel
theorem dX6_of_91 : decode cX6_of 91 = .ok (.iload_n 1, 1) := by decide +kernel
theorem dX6_of_92 : decode cX6_of 92 = .ok (.iaload, 1) := by decide +kernel
theorem dX6_of_93 : decode cX6_of 93 = .ok (.ireturn, 1) := by decide +kernel
theorem dX6_of_94 : decode cX6_of 94 = .ok (.aload_n 0, 1) := by decide +kernel
theorem dX6_of_95 : decode cX6_of 95 = .ok (.getfield 10, 3) := by decide +kernel
theorem dX6_of_98 : decode cX6_of 98 = .ok (.getfield 93, 3) := by decide +kernel
theorem dX6_of_101 : decode cX6_of 101 = .ok (.iload_n 1, 1) := by decide +kernel
theorem dX6_of_102 : decode cX6_of 102 = .ok (.iaload, 1) := by decide +kernel
theorem dX6_of_103 : decode cX6_of 103 = .ok (.ireturn, 1) := by decide +kernel
theorem dX6_of_104 : decode cX6_of 104 = .ok (.aload_n 0, 1) := by decide +kernel
theorem dX6_of_105 : decode cX6_of 105 = .ok (.getfield 10, 3) := by decide +kernel
theorem dX6_of_108 : decode cX6_of 108 = .ok (.getfield 96, 3) := by decide +kernel
theorem dX6_of_111 : decode cX6_of 111 = .ok (.iload_n 1, 1) := by decide +kernel
theorem dX6_of_112 : decode cX6_of 112 = .ok (.iaload, 1) := by decide +kernel
theorem dX6_of_113 : decode cX6_of 113 = .ok (.ireturn, 1) := by decide +kernel
theorem dX6_of_114 : decode cX6_of 114 = .ok (.aload_n 0, 1) := by decide +kernel
theorem dX6_of_115 : decode cX6_of 115 = .ok (.getfield 10, 3) := by decide +kernel
theorem dX6_of_118 : decode cX6_of 118 = .ok (.getfield 99, 3) := by decide +kernel
theorem dX6_of_121 : decode cX6_of 121 = .ok (.iload_n 1, 1) := by decide +kernel
theorem dX6_of_122 : decode cX6_of 122 = .ok (.iaload, 1) := by decide +kernel
theorem dX6_of_123 : decode cX6_of 123 = .ok (.ireturn, 1) := by decide +kernel
theorem dX6_of_124 : decode cX6_of 124 = .ok (.aload_n 0, 1) := by decide +kernel
theorem dX6_of_125 : decode cX6_of 125 = .ok (.getfield 10, 3) := by decide +kernel
theorem dX6_of_128 : decode cX6_of 128 = .ok (.getfield 102, 3) := by decide +kernel
theorem dX6_of_131 : decode cX6_of 131 = .ok (.iload_n 1, 1) := by decide +kernel
theorem dX6_of_132 : decode cX6_of 132 = .ok (.iaload, 1) := by decide +kernel
theorem dX6_of_133 : decode cX6_of 133 = .ok (.ireturn, 1) := by decide +kernel
theorem dX6_of_134 : decode cX6_of 134 = .ok (.aload_n 0, 1) := by decide +kernel
theorem dX6_of_135 : decode cX6_of 135 = .ok (.getfield 10, 3) := by decide +kernel
theorem dX6_of_138 : decode cX6_of 138 = .ok (.iload_n 1, 1) := by decide +kernel
theorem dX6_of_139 : decode cX6_of 139 = .ok (.invokevirtual 105, 3) := by decide +kernel
theorem dX6_of_142 : decode cX6_of 142 = .ok (.ifCond .eq 7, 3) := by decide +kernel
theorem dX6_of_145 : decode cX6_of 145 = .ok (.iconst 1, 1) := by decide +kernel
theorem dX6_of_146 : decode cX6_of 146 = .ok (.goto 4, 3) := by decide +kernel
theorem dX6_of_149 : decode cX6_of 149 = .ok (.iconst 0, 1) := by decide +kernel
theorem dX6_of_150 : decode cX6_of 150 = .ok (.ireturn, 1) := by decide +kernel
theorem dX6_of_151 : decode cX6_of 151 = .ok (.aload_n 0, 1) := by decide +kernel
theorem dX6_of_152 : decode cX6_of 152 = .ok (.getfield 31, 3) := by decide +kernel
theorem dX6_of_155 : decode cX6_of 155 = .ok (.iload_n 1, 1) := by decide +kernel
theorem dX6_of_156 : decode cX6_of 156 = .ok (.invokevirtual 108, 3) := by decide +kernel
theorem dX6_of_159 : decode cX6_of 159 = .ok (.ireturn, 1) := by decide +kernel
theorem dX6_of_160 : decode cX6_of 160 = .ok (.aload_n 0, 1) := by decide +kernel
theorem dX6_of_161 : decode cX6_of 161 = .ok (.getfield 31, 3) := by decide +kernel
theorem dX6_of_164 : decode cX6_of 164 = .ok (.iload_n 1, 1) := by decide +kernel
theorem dX6_of_165 : decode cX6_of 165 = .ok (.invokevirtual 111, 3) := by decide +kernel
theorem dX6_of_168 : decode cX6_of 168 = .ok (.ireturn, 1) := by decide +kernel
theorem dX6_of_169 : decode cX6_of 169 = .ok (.aload_n 0, 1) := by decide +kernel
theorem dX6_of_170 : decode cX6_of 170 = .ok (.getfield 31, 3) := by decide +kernel
theorem dX6_of_173 : decode cX6_of 173 = .ok (.iload_n 1, 1) := by decide +kernel
theorem dX6_of_174 : decode cX6_of 174 = .ok (.invokevirtual 114, 3) := by decide +kernel
theorem dX6_of_177 : decode cX6_of 177 = .ok (.ireturn, 1) := by decide +kernel
theorem dX6_of_178 : decode cX6_of 178 = .ok (.aload_n 0, 1) := by decide +kernel
theorem dX6_of_179 : decode cX6_of 179 = .ok (.getfield 31, 3) := by decide +kernel
theorem dX6_of_182 : decode cX6_of 182 = .ok (.iload_n 1, 1) := by decide +kernel
theorem dX6_of_183 : decode cX6_of 183 = .ok (.invokevirtual 117, 3) := by decide +kernel
theorem dX6_of_186 : decode cX6_of 186 = .ok (.ireturn, 1) := by decide +kernel
theorem dX6_set_0 : decode cX6_set 0 = .ok (.aload_n 0, 1) := by decide +kernel
theorem dX6_set_1 : decode cX6_set 1 = .ok (.getfield 10, 3) := by decide +kernel
theorem dX6_set_4 : decode cX6_set 4 = .ok (.iload_n 1, 1) := by decide +kernel
theorem dX6_set_5 : decode cX6_set 5 = .ok (.invokevirtual 83, 3) := by decide +kernel
theorem dX6_set_8 : decode cX6_set 8 = .ok (.ifCond .ne 9, 3) := by decide +kernel
theorem dX6_set_11 : decode cX6_set 11 = .ok (.aload_n 0, 1) := by decide +kernel
theorem dX6_set_12 : decode cX6_set 12 = .ok (.iconst 0, 1) := by decide +kernel
theorem dX6_set_13 : decode cX6_set 13 = .ok (.invokevirtual 71, 3) := by decide +kernel
theorem dX6_set_16 : decode cX6_set 16 = .ok (.ireturn, 1) := by decide +kernel
theorem dX6_set_17 : decode cX6_set 17 = .ok (.iload_n 2, 1) := by decide +kernel
theorem dX6_set_18 : decode cX6_set 18 = .ok (.iconst 2, 1) := by decide +kernel
theorem dX6_set_19 : decode cX6_set 19 = .ok (.if_icmp .ne 27, 3) := by decide +kernel
theorem dX6_set_22 : decode cX6_set 22 = .ok (.iload_n 3, 1) := by decide +kernel
theorem dX6_set_23 : decode cX6_set 23 = .ok (.iconst 1, 1) := by decide +kernel
theorem dX6_set_24 : decode cX6_set 24 = .ok (.sipush 999, 3) := by decide +kernel
theorem dX6_set_27 : decode cX6_set 27 = .ok (.invokestatic 67, 3) := by decide +kernel
theorem dX6_set_30 : decode cX6_set 30 = .ok (.ifCond .eq 16, 3) := by decide +kernel
theorem dX6_set_33 : decode cX6_set 33 = .ok (.aload_n 0, 1) := by decide +kernel
theorem dX6_set_34 : decode cX6_set 34 = .ok (.getfield 10, 3) := by decide +kernel
theorem dX6_set_37 : decode cX6_set 37 = .ok (.getfield 96, 3) := by decide +kernel
theorem dX6_set_40 : decode cX6_set 40 = .ok (.iload_n 1, 1) := by decide +kernel
theorem dX6_set_41 : decode cX6_set 41 = .ok (.iload_n 3, 1) := by decide +kernel
theorem dX6_set_42 : decode cX6_set 42 = .ok (.invokestatic 120, 3) := by decide +kernel
theorem dX6_set_45 : decode cX6_set 45 = .ok (.ireturn, 1) := by decide +kernel
theorem dX6_set_46 : decode cX6_set 46 = .ok (.iload_n 2, 1) := by decide +kernel
theorem dX6_set_47 : decode cX6_set 47 = .ok (.iconst 3, 1) := by decide +kernel
theorem dX6_set_48 : decode cX6_set 48 = .ok (.if_icmp .ne 26, 3) := by decide +kernel
theorem dX6_set_51 : decode cX6_set 51 = .ok (.iload_n 3, 1) := by decide +kernel
theorem dX6_set_52 : decode cX6_set 52 = .ok (.iconst 0, 1) := by decide +kernel
theorem dX6_set_53 : decode cX6_set 53 = .ok (.bipush 99, 2) := by decide +kernel
theorem dX6_set_55 : decode cX6_set 55 = .ok (.invokestatic 67, 3) := by decide +kernel
theorem dX6_set_58 : decode cX6_set 58 = .ok (.ifCond .eq 16, 3) := by decide +kernel
theorem dX6_set_61 : decode cX6_set 61 = .ok (.aload_n 0, 1) := by decide +kernel
theorem dX6_set_62 : decode cX6_set 62 = .ok (.getfield 10, 3) := by decide +kernel
theorem dX6_set_65 : decode cX6_set 65 = .ok (.getfield 99, 3) := by decide +kernel
theorem dX6_set_68 : decode cX6_set 68 = .ok (.iload_n 1, 1) := by decide +kernel
theorem dX6_set_69 : decode cX6_set 69 = .ok (.iload_n 3, 1) := by decide +kernel
theorem dX6_set_70 : decode cX6_set 70 = .ok (.invokestatic 120, 3) := by decide +kernel
theorem dX6_set_73 : decode cX6_set 73 = .ok (.ireturn, 1) := by decide +kernel
theorem dX6_set_74 : decode cX6_set 74 = .ok (.iload_n 2, 1) := by decide +kernel
theorem dX6_set_75 : decode cX6_set 75 = .ok (.iconst 4, 1) := by decide +kernel
theorem dX6_set_76 : decode cX6_set 76 = .ok (.if_icmp .ne 26, 3) := by decide +kernel
theorem dX6_set_79 : decode cX6_set 79 = .ok (.iload_n 3, 1) := by decide +kernel
theorem dX6_set_80 : decode cX6_set 80 = .ok (.iconst 0, 1) := by decide +kernel
theorem dX6_set_81 : decode cX6_set 81 = .ok (.bipush 99, 2) := by decide +kernel
theorem dX6_set_83 : decode cX6_set 83 = .ok (.invokestatic 67, 3) := by decide +kernel
theorem dX6_set_86 : decode cX6_set 86 = .ok (.ifCond .eq 16, 3) := by decide +kernel
theorem dX6_set_89 : decode cX6_set 89 = .ok (.aload_n 0, 1) := by decide +kernel
theorem dX6_set_90 : decode cX6_set 90 = .ok (.getfield 10, 3) := by decide +kernel
theorem dX6_set_93 : decode cX6_set 93 = .ok (.getfield 102, 3) := by decide +kernel
theorem dX6_set_96 : decode cX6_set 96 = .ok (.iload_n 1, 1) := by decide +kernel
theorem dX6_set_97 : decode cX6_set 97 = .ok (.iload_n 3, 1) := by decide +kernel
theorem dX6_set_98 : decode cX6_set 98 = .ok (.invokestatic 120, 3) := by decide +kernel
theorem dX6_set_101 : decode cX6_set 101 = .ok (.ireturn, 1) := by decide +kernel
theorem dX6_set_102 : decode cX6_set 102 = .ok (.aload_n 0, 1) := by decide +kernel
theorem dX6_set_103 : decode cX6_set 103 = .ok (.iconst 0, 1) := by decide +kernel
theorem dX6_set_104 : decode cX6_set 104 = .ok (.invokevirtual 71, 3) := by decide +kernel
theorem dX6_set_107 : decode cX6_set 107 = .ok (.ireturn, 1) := by decide +kernel
theorem dX6_want_0 : decode cX6_want 0 = .ok (.aload_n 0, 1) := by decide +kernel
theorem dX6_want_1 : decode cX6_want 1 = .ok (.getfield 10, 3) := by decide +kernel
theorem dX6_want_4 : decode cX6_want 4 = .ok (.iload_n 1, 1) := by decide +kernel
theorem dX6_want_5 : decode cX6_want 5 = .ok (.invokevirtual 83, 3) := by decide +kernel
theorem dX6_want_8 : decode cX6_want 8 = .ok (.ifCond .ne 9, 3) := by decide +kernel
theorem dX6_want_11 : decode cX6_want 11 = .ok (.aload_n 0, 1) := by decide +kernel
theorem dX6_want_12 : decode cX6_want 12 = .ok (.iconst 0, 1) := by decide +kernel
theorem dX6_want_13 : decode cX6_want 13 = .ok (.invokevirtual 71, 3) := by decide +kernel
theorem dX6_want_16 : decode cX6_want 16 = .ok (.ireturn, 1) := by decide +kernel
theorem dX6_want_17 : decode cX6_want 17 = .ok (.aload_n 0, 1) := by decide +kernel
theorem dX6_want_18 : decode cX6_want 18 = .ok (.getfield 10, 3) := by decide +kernel
theorem dX6_want_21 : decode cX6_want 21 = .ok (.iload_n 1, 1) := by decide +kernel
theorem dX6_want_22 : decode cX6_want 22 = .ok (.invokevirtual 105, 3) := by decide +kernel
theorem dX6_want_25 : decode cX6_want 25 = .ok (.iload_n 2, 1) := by decide +kernel
theorem dX6_want_26 : decode cX6_want 26 = .ok (.if_icmp .ne 5, 3) := by decide +kernel
theorem dX6_want_29 : decode cX6_want 29 = .ok (.iconst 0, 1) := by decide +kernel
theorem dX6_want_30 : decode cX6_want 30 = .ok (.ireturn, 1) := by decide +kernel
theorem dX6_want_31 : decode cX6_want 31 = .ok (.aload_n 0, 1) := by decide +kernel
theorem dX6_want_32 : decode cX6_want 32 = .ok (.getfield 10, 3) := by decide +kernel
theorem dX6_want_35 : decode cX6_want 35 = .ok (.dup, 1) := by decide +kernel
theorem dX6_want_36 : decode cX6_want 36 = .ok (.getfield 124, 3) := by decide +kernel
theorem dX6_want_39 : decode cX6_want 39 = .ok (.iconst 1, 1) := by decide +kernel
theorem dX6_want_40 : decode cX6_want 40 = .ok (.iload_n 1, 1) := by decide +kernel
theorem dX6_want_41 : decode cX6_want 41 = .ok (.ishl, 1) := by decide +kernel
theorem dX6_want_42 : decode cX6_want 42 = .ok (.ixor, 1) := by decide +kernel
theorem dX6_want_43 : decode cX6_want 43 = .ok (.putfield 124, 3) := by decide +kernel
theorem dX6_want_46 : decode cX6_want 46 = .ok (.iconst 1, 1) := by decide +kernel
theorem dX6_want_47 : decode cX6_want 47 = .ok (.ireturn, 1) := by decide +kernel
theorem dX6_as_0 : decode cX6_as 0 = .ok (.aload_n 0, 1) := by decide +kernel
theorem dX6_as_1 : decode cX6_as 1 = .ok (.getfield 10, 3) := by decide +kernel
theorem dX6_as_4 : decode cX6_as 4 = .ok (.iload_n 1, 1) := by decide +kernel
theorem dX6_as_5 : decode cX6_as 5 = .ok (.invokevirtual 83, 3) := by decide +kernel
theorem dX6_as_8 : decode cX6_as 8 = .ok (.ifCond .eq 13, 3) := by decide +kernel
theorem dX6_as_11 : decode cX6_as 11 = .ok (.iload_n 2, 1) := by decide +kernel
theorem dX6_as_12 : decode cX6_as 12 = .ok (.iconst 0, 1) := by decide +kernel
theorem dX6_as_13 : decode cX6_as 13 = .ok (.bipush 6, 2) := by decide +kernel
theorem dX6_as_15 : decode cX6_as 15 = .ok (.invokestatic 67, 3) := by decide +kernel
theorem dX6_as_18 : decode cX6_as 18 = .ok (.ifCond .ne 9, 3) := by decide +kernel
theorem dX6_as_21 : decode cX6_as 21 = .ok (.aload_n 0, 1) := by decide +kernel
theorem dX6_as_22 : decode cX6_as 22 = .ok (.iconst 0, 1) := by decide +kernel
theorem dX6_as_23 : decode cX6_as 23 = .ok (.invokevirtual 71, 3) := by decide +kernel
theorem dX6_as_26 : decode cX6_as 26 = .ok (.ireturn, 1) := by decide +kernel
theorem dX6_as_27 : decode cX6_as 27 = .ok (.aload_n 0, 1) := by decide +kernel
theorem dX6_as_28 : decode cX6_as 28 = .ok (.getfield 10, 3) := by decide +kernel
theorem dX6_as_31 : decode cX6_as 31 = .ok (.getfield 90, 3) := by decide +kernel
theorem dX6_as_34 : decode cX6_as 34 = .ok (.iload_n 1, 1) := by decide +kernel
theorem dX6_as_35 : decode cX6_as 35 = .ok (.iaload, 1) := by decide +kernel
theorem dX6_as_36 : decode cX6_as 36 = .ok (.iload_n 2, 1) := by decide +kernel
theorem dX6_as_37 : decode cX6_as 37 = .ok (.invokestatic 127, 3) := by decide +kernel
theorem dX6_as_40 : decode cX6_as 40 = .ok (.ifCond .ne 9, 3) := by decide +kernel
theorem dX6_as_43 : decode cX6_as 43 = .ok (.aload_n 0, 1) := by decide +kernel
theorem dX6_as_44 : decode cX6_as 44 = .ok (.iconst 2, 1) := by decide +kernel
theorem dX6_as_45 : decode cX6_as 45 = .ok (.invokevirtual 71, 3) := by decide +kernel
theorem dX6_as_48 : decode cX6_as 48 = .ok (.ireturn, 1) := by decide +kernel
theorem dX6_as_49 : decode cX6_as 49 = .ok (.aload_n 0, 1) := by decide +kernel
theorem dX6_as_50 : decode cX6_as 50 = .ok (.getfield 31, 3) := by decide +kernel
theorem dX6_as_53 : decode cX6_as 53 = .ok (.invokevirtual 87, 3) := by decide +kernel
theorem dX6_as_56 : decode cX6_as 56 = .ok (.aload_n 0, 1) := by decide +kernel
theorem dX6_as_57 : decode cX6_as 57 = .ok (.getfield 31, 3) := by decide +kernel
theorem dX6_as_60 : decode cX6_as 60 = .ok (.iload_n 1, 1) := by decide +kernel
theorem dX6_as_61 : decode cX6_as 61 = .ok (.invokevirtual 108, 3) := by decide +kernel
theorem dX6_as_64 : decode cX6_as 64 = .ok (.ireturn, 1) := by decide +kernel
theorem dX6_sky_0 : decode cX6_sky 0 = .ok (.iload_n 1, 1) := by decide +kernel
theorem dX6_sky_1 : decode cX6_sky 1 = .ok (.iconst 0, 1) := by decide +kernel
theorem dX6_sky_2 : decode cX6_sky 2 = .ok (.iconst 4, 1) := by decide +kernel
theorem dX6_sky_3 : decode cX6_sky 3 = .ok (.invokestatic 67, 3) := by decide +kernel
theorem dX6_sky_6 : decode cX6_sky 6 = .ok (.ifCond .eq 16, 3) := by decide +kernel
theorem dX6_sky_9 : decode cX6_sky 9 = .ok (.iload_n 2, 1) := by decide +kernel
theorem dX6_sky_10 : decode cX6_sky 10 = .ok (.iconst 0, 1) := by decide +kernel
theorem dX6_sky_11 : decode cX6_sky 11 = .ok (.getstatic 131, 3) := by decide +kernel
theorem dX6_sky_14 : decode cX6_sky 14 = .ok (.iload_n 1, 1) := by decide +kernel
theorem dX6_sky_15 : decode cX6_sky 15 = .ok (.iaload, 1) := by decide +kernel
theorem dX6_sky_16 : decode cX6_sky 16 = .ok (.invokestatic 67, 3) := by decide +kernel
theorem dX6_sky_19 : decode cX6_sky 19 = .ok (.ifCond .ne 9, 3) := by decide +kernel
theorem dX6_sky_22 : decode cX6_sky 22 = .ok (.aload_n 0, 1) := by decide +kernel
theorem dX6_sky_23 : decode cX6_sky 23 = .ok (.iconst 0, 1) := by decide +kernel
theorem dX6_sky_24 : decode cX6_sky 24 = .ok (.invokevirtual 71, 3) := by decide +kernel
theorem dX6_sky_27 : decode cX6_sky 27 = .ok (.ireturn, 1) := by decide +kernel
theorem dX6_sky_28 : decode cX6_sky 28 = .ok (.aload_n 0, 1) := by decide +kernel
theorem dX6_sky_29 : decode cX6_sky 29 = .ok (.getfield 10, 3) := by decide +kernel
theorem dX6_sky_32 : decode cX6_sky 32 = .ok (.getfield 134, 3) := by decide +kernel
theorem dX6_sky_35 : decode cX6_sky 35 = .ok (.iload_n 1, 1) := by decide +kernel
theorem dX6_sky_36 : decode cX6_sky 36 = .ok (.iload_n 2, 1) := by decide +kernel
theorem dX6_sky_37 : decode cX6_sky 37 = .ok (.invokestatic 120, 3) := by decide +kernel
theorem dX6_sky_40 : decode cX6_sky 40 = .ok (.ireturn, 1) := by decide +kernel
theorem dX6_draw_0 : decode cX6_draw 0 = .ok (.iload_n 1, 1) := by decide +kernel
theorem dX6_draw_1 : decode cX6_draw 1 = .ok (.iconst 0, 1) := by decide +kernel
theorem dX6_draw_2 : decode cX6_draw 2 = .ok (.bipush 99, 2) := by decide +kernel
theorem dX6_draw_4 : decode cX6_draw 4 = .ok (.invokestatic 67, 3) := by decide +kernel
theorem dX6_draw_7 : decode cX6_draw 7 = .ok (.ifCond .ne 9, 3) := by decide +kernel
theorem dX6_draw_10 : decode cX6_draw 10 = .ok (.aload_n 0, 1) := by decide +kernel
theorem dX6_draw_11 : decode cX6_draw 11 = .ok (.iconst 0, 1) := by decide +kernel
theorem dX6_draw_12 : decode cX6_draw 12 = .ok (.invokevirtual 71, 3) := by decide +kernel
theorem dX6_draw_15 : decode cX6_draw 15 = .ok (.ireturn, 1) := by decide +kernel
theorem dX6_draw_16 : decode cX6_draw 16 = .ok (.aload_n 0, 1) := by decide +kernel
theorem dX6_draw_17 : decode cX6_draw 17 = .ok (.getfield 10, 3) := by decide +kernel
theorem dX6_draw_20 : decode cX6_draw 20 = .ok (.getfield 137, 3) := by decide +kernel
theorem dX6_draw_23 : decode cX6_draw 23 = .ok (.istore_n 2, 1) := by decide +kernel
theorem dX6_draw_24 : decode cX6_draw 24 = .ok (.aload_n 0, 1) := by decide +kernel
theorem dX6_draw_25 : decode cX6_draw 25 = .ok (.getfield 10, 3) := by decide +kernel
theorem dX6_draw_28 : decode cX6_draw 28 = .ok (.iload_n 1, 1) := by decide +kernel
theorem dX6_draw_29 : decode cX6_draw 29 = .ok (.putfield 137, 3) := by decide +kernel
theorem dX6_draw_32 : decode cX6_draw 32 = .ok (.iload_n 2, 1) := by decide +kernel
theorem dX6_draw_33 : decode cX6_draw 33 = .ok (.ireturn, 1) := by decide +kernel
theorem dX6_age_0 : decode cX6_age 0 = .ok (.iload_n 1, 1) := by decide +kernel
theorem dX6_age_1 : decode cX6_age 1 = .ok (.iconst 1, 1) := by decide +kernel
theorem dX6_age_2 : decode cX6_age 2 = .ok (.bipush 50, 2) := by decide +kernel
theorem dX6_age_4 : decode cX6_age 4 = .ok (.invokestatic 67, 3) := by decide +kernel
theorem dX6_age_7 : decode cX6_age 7 = .ok (.ifCond .ne 9, 3) := by decide +kernel
theorem dX6_age_10 : decode cX6_age 10 = .ok (.aload_n 0, 1) := by decide +kernel
theorem dX6_age_11 : decode cX6_age 11 = .ok (.iconst 0, 1) := by decide +kernel
theorem dX6_age_12 : decode cX6_age 12 = .ok (.invokevirtual 71, 3) := by decide +kernel
theorem dX6_age_15 : decode cX6_age 15 = .ok (.ireturn, 1) := by decide +kernel
theorem dX6_age_16 : decode cX6_age 16 = .ok (.iconst 0, 1) := by decide +kernel
theorem dX6_age_17 : decode cX6_age 17 = .ok (.istore_n 2, 1) := by decide +kernel
theorem dX6_age_18 : decode cX6_age 18 = .ok (.iconst 0, 1) := by decide +kernel
theorem dX6_age_19 : decode cX6_age 19 = .ok (.istore_n 3, 1) := by decide +kernel
theorem dX6_age_20 : decode cX6_age 20 = .ok (.iload_n 3, 1) := by decide +kernel
theorem dX6_age_21 : decode cX6_age 21 = .ok (.iload_n 1, 1) := by decide +kernel
theorem dX6_age_22 : decode cX6_age 22 = .ok (.if_icmp .ge 19, 3) := by decide +kernel
theorem dX6_age_25 : decode cX6_age 25 = .ok (.iload_n 2, 1) := by decide +kernel
theorem dX6_age_26 : decode cX6_age 26 = .ok (.aload_n 0, 1) := by decide +kernel
theorem dX6_age_27 : decode cX6_age 27 = .ok (.getfield 10, 3) := by decide +kernel
theorem dX6_age_30 : decode cX6_age 30 = .ok (.invokevirtual 140, 3) := by decide +kernel
theorem dX6_age_33 : decode cX6_age 33 = .ok (.iadd, 1) := by decide +kernel
theorem dX6_age_34 : decode cX6_age 34 = .ok (.istore_n 2, 1) := by decide +kernel
theorem dX6_age_35 : decode cX6_age 35 = .ok (.iinc 3 1, 3) := by decide +kernel
theorem dX6_age_38 : decode cX6_age 38 = .ok (.goto (-18), 3) := by decide +kernel
theorem dX6_age_41 : decode cX6_age 41 = .ok (.iload_n 2, 1) := by decide +kernel
theorem dX6_age_42 : decode cX6_age 42 = .ok (.ireturn, 1) := by decide +kernel
theorem dX6_side_0 : decode cX6_side 0 = .ok (.iload_n 1, 1) := by decide +kernel
theorem dX6_side_1 : decode cX6_side 1 = .ok (.iconst 0, 1) := by decide +kernel
theorem dX6_side_2 : decode cX6_side 2 = .ok (.bipush 7, 2) := by decide +kernel
theorem dX6_side_4 : decode cX6_side 4 = .ok (.invokestatic 67, 3) := by decide +kernel
theorem dX6_side_7 : decode cX6_side 7 = .ok (.ifCond .eq 12, 3) := by decide +kernel
theorem dX6_side_10 : decode cX6_side 10 = .ok (.iload_n 2, 1) := by decide +kernel
theorem dX6_side_11 : decode cX6_side 11 = .ok (.iconst 0, 1) := by decide +kernel
theorem dX6_side_12 : decode cX6_side 12 = .ok (.iconst 2, 1) := by decide +kernel
theorem dX6_side_13 : decode cX6_side 13 = .ok (.invokestatic 67, 3) := by decide +kernel
theorem dX6_side_16 : decode cX6_side 16 = .ok (.ifCond .ne 9, 3) := by decide +kernel
theorem dX6_side_19 : decode cX6_side 19 = .ok (.aload_n 0, 1) := by decide +kernel
theorem dX6_side_20 : decode cX6_side 20 = .ok (.iconst 0, 1) := by decide +kernel
theorem dX6_side_21 : decode cX6_side 21 = .ok (.invokevirtual 71, 3) := by decide +kernel
theorem dX6_side_24 : decode cX6_side 24 = .ok (.ireturn, 1) := by decide +kernel
theorem dX6_side_25 : decode cX6_side 25 = .ok (.aload_n 0, 1) := by decide +kernel
theorem dX6_side_26 : decode cX6_side 26 = .ok (.getfield 31, 3) := by decide +kernel
theorem dX6_side_29 : decode cX6_side 29 = .ok (.invokevirtual 87, 3) := by decide +kernel
theorem dX6_side_32 : decode cX6_side 32 = .ok (.aload_n 0, 1) := by decide +kernel
theorem dX6_side_33 : decode cX6_side 33 = .ok (.getfield 31, 3) := by decide +kernel
theorem dX6_side_36 : decode cX6_side 36 = .ok (.invokevirtual 144, 3) := by decide +kernel
theorem dX6_side_39 : decode cX6_side 39 = .ok (.iload_n 2, 1) := by decide +kernel
theorem dX6_side_40 : decode cX6_side 40 = .ok (.lookupswitch 46 #[(0, 28), (1, 37)], 28) := by decide +kernel
theorem dX6_side_68 : decode cX6_side 68 = .ok (.aload_n 0, 1) := by decide +kernel
theorem dX6_side_69 : decode cX6_side 69 = .ok (.getfield 31, 3) := by decide +kernel
theorem dX6_side_72 : decode cX6_side 72 = .ok (.iload_n 1, 1) := by decide +kernel
theorem dX6_side_73 : decode cX6_side 73 = .ok (.invokevirtual 147, 3) := by decide +kernel
theorem dX6_side_76 : decode cX6_side 76 = .ok (.ireturn, 1) := by decide +kernel
theorem dX6_side_77 : decode cX6_side 77 = .ok (.aload_n 0, 1) := by decide +kernel
theorem dX6_side_78 : decode cX6_side 78 = .ok (.getfield 31, 3) := by decide +kernel
theorem dX6_side_81 : decode cX6_side 81 = .ok (.iload_n 1, 1) := by decide +kernel
theorem dX6_side_82 : decode cX6_side 82 = .ok (.invokevirtual 150, 3) := by decide +kernel
theorem dX6_side_85 : decode cX6_side 85 = .ok (.ireturn, 1) := by decide +kernel
theorem dX6_side_86 : decode cX6_side 86 = .ok (.aload_n 0, 1) := by decide +kernel
theorem dX6_side_87 : decode cX6_side 87 = .ok (.getfield 31, 3) := by decide +kernel
theorem dX6_side_90 : decode cX6_side 90 = .ok (.iload_n 1, 1) := by decide +kernel
theorem dX6_side_91 : decode cX6_side 91 = .ok (.invokevirtual 153, 3) := by decide +kernel
theorem dX6_side_94 : decode cX6_side 94 = .ok (.ireturn, 1) := by decide +kernel
theorem dX6_stands_0 : decode cX6_stands 0 = .ok (.aload_n 0, 1) := by decide +kernel
theorem dX6_stands_1 : decode cX6_stands 1 = .ok (.getfield 31, 3) := by decide +kernel
theorem dX6_stands_4 : decode cX6_stands 4 = .ok (.invokevirtual 87, 3) := by decide +kernel
theorem dX6_stands_7 : decode cX6_stands 7 = .ok (.aload_n 0, 1) := by decide +kernel
theorem dX6_stands_8 : decode cX6_stands 8 = .ok (.getfield 31, 3) := by decide +kernel
theorem dX6_stands_11 : decode cX6_stands 11 = .ok (.invokevirtual 156, 3) := by decide +kernel
theorem dX6_stands_14 : decode cX6_stands 14 = .ok (.ifCond .eq 7, 3) := by decide +kernel
theorem dX6_stands_17 : decode cX6_stands 17 = .ok (.iconst 1, 1) := by decide +kernel
theorem dX6_stands_18 : decode cX6_stands 18 = .ok (.goto 4, 3) := by decide +kernel
theorem dX6_stands_21 : decode cX6_stands 21 = .ok (.iconst 0, 1) := by decide +kernel
theorem dX6_stands_22 : decode cX6_stands 22 = .ok (.ireturn, 1) := by decide +kernel
theorem dX6_first_0 : decode cX6_first 0 = .ok (.aload_n 0, 1) := by decide +kernel
theorem dX6_first_1 : decode cX6_first 1 = .ok (.getfield 31, 3) := by decide +kernel
theorem dX6_first_4 : decode cX6_first 4 = .ok (.invokevirtual 87, 3) := by decide +kernel
theorem dX6_first_7 : decode cX6_first 7 = .ok (.aload_n 0, 1) := by decide +kernel
theorem dX6_first_8 : decode cX6_first 8 = .ok (.getfield 31, 3) := by decide +kernel
theorem dX6_first_11 : decode cX6_first 11 = .ok (.invokevirtual 144, 3) := by decide +kernel
theorem dX6_first_14 : decode cX6_first 14 = .ok (.aload_n 0, 1) := by decide +kernel
theorem dX6_first_15 : decode cX6_first 15 = .ok (.getfield 31, 3) := by decide +kernel
theorem dX6_first_18 : decode cX6_first 18 = .ok (.invokevirtual 160, 3) := by decide +kernel
theorem dX6_first_21 : decode cX6_first 21 = .ok (.ireturn, 1) := by decide +kernel
theorem dX6_gust_0 : decode cX6_gust 0 = .ok (.aload_n 0, 1) := by decide +kernel
theorem dX6_gust_1 : decode cX6_gust 1 = .ok (.getfield 31, 3) := by decide +kernel
theorem dX6_gust_4 : decode cX6_gust 4 = .ok (.invokevirtual 87, 3) := by decide +kernel
theorem dX6_gust_7 : decode cX6_gust 7 = .ok (.iconst 0, 1) := by decide +kernel
theorem dX6_gust_8 : decode cX6_gust 8 = .ok (.istore_n 1, 1) := by decide +kernel
theorem dX6_gust_9 : decode cX6_gust 9 = .ok (.iload_n 1, 1) := by decide +kernel
theorem dX6_gust_10 : decode cX6_gust 10 = .ok (.bipush 99, 2) := by decide +kernel
theorem dX6_gust_12 : decode cX6_gust 12 = .ok (.if_icmp .gt 29, 3) := by decide +kernel
theorem dX6_gust_15 : decode cX6_gust 15 = .ok (.aload_n 0, 1) := by decide +kernel
theorem dX6_gust_16 : decode cX6_gust 16 = .ok (.getfield 31, 3) := by decide +kernel
theorem dX6_gust_19 : decode cX6_gust 19 = .ok (.iload_n 1, 1) := by decide +kernel
theorem dX6_gust_20 : decode cX6_gust 20 = .ok (.putfield 163, 3) := by decide +kernel
theorem dX6_gust_23 : decode cX6_gust 23 = .ok (.aload_n 0, 1) := by decide +kernel
theorem dX6_gust_24 : decode cX6_gust 24 = .ok (.getfield 31, 3) := by decide +kernel
theorem dX6_gust_27 : decode cX6_gust 27 = .ok (.invokevirtual 156, 3) := by decide +kernel
theorem dX6_gust_30 : decode cX6_gust 30 = .ok (.ifCond .ne 5, 3) := by decide +kernel
theorem dX6_gust_33 : decode cX6_gust 33 = .ok (.iload_n 1, 1) := by decide +kernel
theorem dX6_gust_34 : decode cX6_gust 34 = .ok (.ireturn, 1) := by decide +kernel
theorem dX6_gust_35 : decode cX6_gust 35 = .ok (.iinc 1 1, 3) := by decide +kernel
theorem dX6_gust_38 : decode cX6_gust 38 = .ok (.goto (-29), 3) := by decide +kernel
theorem dX6_gust_41 : decode cX6_gust 41 = .ok (.aload_n 0, 1) := by decide +kernel
theorem dX6_gust_42 : decode cX6_gust 42 = .ok (.iconst 3, 1) := by decide +kernel
theorem dX6_gust_43 : decode cX6_gust 43 = .ok (.invokevirtual 71, 3) := by decide +kernel
theorem dX6_gust_46 : decode cX6_gust 46 = .ok (.ireturn, 1) := by decide +kernel
theorem dX6_canWant_0 : decode cX6_canWant 0 = .ok (.aload_n 0, 1) := by decide +kernel
theorem dX6_canWant_1 : decode cX6_canWant 1 = .ok (.getfield 31, 3) := by decide +kernel
theorem dX6_canWant_4 : decode cX6_canWant 4 = .ok (.invokevirtual 87, 3) := by decide +kernel
theorem dX6_canWant_7 : decode cX6_canWant 7 = .ok (.iconst 0, 1) := by decide +kernel
theorem dX6_canWant_8 : decode cX6_canWant 8 = .ok (.istore_n 1, 1) := by decide +kernel
theorem dX6_canWant_9 : decode cX6_canWant 9 = .ok (.iconst 0, 1) := by decide +kernel
theorem dX6_canWant_10 : decode cX6_canWant 10 = .ok (.istore_n 2, 1) := by decide +kernel
theorem dX6_canWant_11 : decode cX6_canWant 11 = .ok (.iload_n 2, 1) := by decide +kernel
theorem dX6_canWant_12 : decode cX6_canWant 12 = .ok (.aload_n 0, 1) := by decide +kernel
theorem dX6_canWant_13 : decode cX6_canWant 13 = .ok (.getfield 10, 3) := by decide +kernel
theorem dX6_canWant_16 : decode cX6_canWant 16 = .ok (.getfield 75, 3) := by decide +kernel
theorem dX6_canWant_19 : decode cX6_canWant 19 = .ok (.if_icmp .ge 56, 3) := by decide +kernel
theorem dX6_canWant_22 : decode cX6_canWant 22 = .ok (.aload_n 0, 1) := by decide +kernel
theorem dX6_canWant_23 : decode cX6_canWant 23 = .ok (.getfield 31, 3) := by decide +kernel
theorem dX6_canWant_26 : decode cX6_canWant 26 = .ok (.aload_n 0, 1) := by decide +kernel
theorem dX6_canWant_27 : decode cX6_canWant 27 = .ok (.getfield 10, 3) := by decide +kernel
theorem dX6_canWant_30 : decode cX6_canWant 30 = .ok (.getfield 124, 3) := by decide +kernel
theorem dX6_canWant_33 : decode cX6_canWant 33 = .ok (.iconst 1, 1) := by decide +kernel
theorem dX6_canWant_34 : decode cX6_canWant 34 = .ok (.iload_n 2, 1) := by decide +kernel
theorem dX6_canWant_35 : decode cX6_canWant 35 = .ok (.ishl, 1) := by decide +kernel
theorem dX6_canWant_36 : decode cX6_canWant 36 = .ok (.iconst (-1), 1) := by decide +kernel
theorem dX6_canWant_37 : decode cX6_canWant 37 = .ok (.ixor, 1) := by decide +kernel
theorem dX6_canWant_38 : decode cX6_canWant 38 = .ok (.iand, 1) := by decide +kernel
theorem dX6_canWant_39 : decode cX6_canWant 39 = .ok (.putfield 166, 3) := by decide +kernel
theorem dX6_canWant_42 : decode cX6_canWant 42 = .ok (.aload_n 0, 1) := by decide +kernel
theorem dX6_canWant_43 : decode cX6_canWant 43 = .ok (.getfield 10, 3) := by decide +kernel
theorem dX6_canWant_46 : decode cX6_canWant 46 = .ok (.iload_n 2, 1) := by decide +kernel
theorem dX6_canWant_47 : decode cX6_canWant 47 = .ok (.invokevirtual 105, 3) := by decide +kernel
theorem dX6_canWant_50 : decode cX6_canWant 50 = .ok (.ifCond .eq 19, 3) := by decide +kernel
theorem dX6_canWant_53 : decode cX6_canWant 53 = .ok (.aload_n 0, 1) := by decide +kernel
theorem dX6_canWant_54 : decode cX6_canWant 54 = .ok (.getfield 31, 3) := by decide +kernel
theorem dX6_canWant_57 : decode cX6_canWant 57 = .ok (.invokevirtual 156, 3) := by decide +kernel
theorem dX6_canWant_60 : decode cX6_canWant 60 = .ok (.ifCond .eq 9, 3) := by decide +kernel
theorem dX6_canWant_63 : decode cX6_canWant 63 = .ok (.iload_n 1, 1) := by decide +kernel
theorem dX6_canWant_64 : decode cX6_canWant 64 = .ok (.iconst 1, 1) := by decide +kernel
theorem dX6_canWant_65 : decode cX6_canWant 65 = .ok (.iload_n 2, 1) := by decide +kernel
theorem dX6_canWant_66 : decode cX6_canWant 66 = .ok (.ishl, 1) := by decide +kernel
theorem dX6_canWant_67 : decode cX6_canWant 67 = .ok (.ior, 1) := by decide +kernel
theorem dX6_canWant_68 : decode cX6_canWant 68 = .ok (.istore_n 1, 1) := by decide +kernel
theorem dX6_canWant_69 : decode cX6_canWant 69 = .ok (.iinc 2 1, 3) := by decide +kernel
theorem dX6_canWant_72 : decode cX6_canWant 72 = .ok (.goto (-61), 3) := by decide +kernel
theorem dX6_canWant_75 : decode cX6_canWant 75 = .ok (.iload_n 1, 1) := by decide +kernel
theorem dX6_canWant_76 : decode cX6_canWant 76 = .ok (.ireturn, 1) := by decide +kernel
theorem dX6_span_0 : decode cX6_span 0 = .ok (.iload_n 1, 1) := by decide +kernel
theorem dX6_span_1 : decode cX6_span 1 = .ok (.iconst 0, 1) := by decide +kernel
theorem dX6_span_2 : decode cX6_span 2 = .ok (.iconst 1, 1) := by decide +kernel
theorem dX6_span_3 : decode cX6_span 3 = .ok (.invokestatic 67, 3) := by decide +kernel
theorem dX6_span_6 : decode cX6_span 6 = .ok (.ifCond .ne 9, 3) := by decide +kernel
theorem dX6_span_9 : decode cX6_span 9 = .ok (.aload_n 0, 1) := by decide +kernel
theorem dX6_span_10 : decode cX6_span 10 = .ok (.iconst 0, 1) := by decide +kernel
theorem dX6_span_11 : decode cX6_span 11 = .ok (.invokevirtual 71, 3) := by decide +kernel
theorem dX6_span_14 : decode cX6_span 14 = .ok (.ireturn, 1) := by decide +kernel
theorem dX6_span_15 : decode cX6_span 15 = .ok (.aload_n 0, 1) := by decide +kernel
theorem dX6_span_16 : decode cX6_span 16 = .ok (.getfield 31, 3) := by decide +kernel
theorem dX6_span_19 : decode cX6_span 19 = .ok (.invokevirtual 87, 3) := by decide +kernel
theorem dX6_span_22 : decode cX6_span 22 = .ok (.iconst 0, 1) := by decide +kernel
theorem dX6_span_23 : decode cX6_span 23 = .ok (.istore_n 2, 1) := by decide +kernel
theorem dX6_span_24 : decode cX6_span 24 = .ok (.iload_n 2, 1) := by decide +kernel
theorem dX6_span_25 : decode cX6_span 25 = .ok (.bipush 99, 2) := by decide +kernel
theorem dX6_span_27 : decode cX6_span 27 = .ok (.if_icmp .gt 46, 3) := by decide +kernel
theorem dX6_span_30 : decode cX6_span 30 = .ok (.aload_n 0, 1) := by decide +kernel
theorem dX6_span_31 : decode cX6_span 31 = .ok (.getfield 31, 3) := by decide +kernel
theorem dX6_span_34 : decode cX6_span 34 = .ok (.iload_n 1, 1) := by decide +kernel
theorem dX6_span_35 : decode cX6_span 35 = .ok (.ifCond .ne 7, 3) := by decide +kernel
theorem dX6_span_38 : decode cX6_span 38 = .ok (.iload_n 2, 1) := by decide +kernel
theorem dX6_span_39 : decode cX6_span 39 = .ok (.goto 7, 3) := by decide +kernel
theorem dX6_span_42 : decode cX6_span 42 = .ok (.bipush 99, 2) := by decide +kernel
theorem dX6_span_44 : decode cX6_span 44 = .ok (.iload_n 2, 1) := by decide +kernel
theorem dX6_span_45 : decode cX6_span 45 = .ok (.isub, 1) := by decide +kernel
theorem dX6_span_46 : decode cX6_span 46 = .ok (.putfield 169, 3) := by decide +kernel
theorem dX6_span_49 : decode cX6_span 49 = .ok (.aload_n 0, 1) := by decide +kernel
theorem dX6_span_50 : decode cX6_span 50 = .ok (.getfield 31, 3) := by decide +kernel
theorem dX6_span_53 : decode cX6_span 53 = .ok (.invokevirtual 156, 3) := by decide +kernel
theorem dX6_span_56 : decode cX6_span 56 = .ok (.ifCond .eq 11, 3) := by decide +kernel
theorem dX6_span_59 : decode cX6_span 59 = .ok (.aload_n 0, 1) := by decide +kernel
theorem dX6_span_60 : decode cX6_span 60 = .ok (.getfield 31, 3) := by decide +kernel
theorem dX6_span_63 : decode cX6_span 63 = .ok (.getfield 169, 3) := by decide +kernel
theorem dX6_span_66 : decode cX6_span 66 = .ok (.ireturn, 1) := by decide +kernel
theorem dX6_span_67 : decode cX6_span 67 = .ok (.iinc 2 1, 3) := by decide +kernel
theorem dX6_span_70 : decode cX6_span 70 = .ok (.goto (-46), 3) := by decide +kernel
theorem dX6_span_73 : decode cX6_span 73 = .ok (.aload_n 0, 1) := by decide +kernel
theorem dX6_span_74 : decode cX6_span 74 = .ok (.iconst 3, 1) := by decide +kernel
theorem dX6_span_75 : decode cX6_span 75 = .ok (.invokevirtual 71, 3) := by decide +kernel
theorem dX6_span_78 : decode cX6_span 78 = .ok (.ireturn, 1) := by decide +kernel
theorem dX6_worst_0 : decode cX6_worst 0 = .ok (.aload_n 0, 1) := by decide +kernel
theorem dX6_worst_1 : decode cX6_worst 1 = .ok (.getfield 31, 3) := by decide +kernel
theorem dX6_worst_4 : decode cX6_worst 4 = .ok (.invokevirtual 87, 3) := by decide +kernel
theorem dX6_worst_7 : decode cX6_worst 7 = .ok (.iconst 0, 1) := by decide +kernel
theorem dX6_worst_8 : decode cX6_worst 8 = .ok (.istore_n 1, 1) := by decide +kernel
theorem dX6_worst_9 : decode cX6_worst 9 = .ok (.iconst 0, 1) := by decide +kernel
theorem dX6_worst_10 : decode cX6_worst 10 = .ok (.istore_n 2, 1) := by decide +kernel
theorem dX6_worst_11 : decode cX6_worst 11 = .ok (.iconst 0, 1) := by decide +kernel
theorem dX6_worst_12 : decode cX6_worst 12 = .ok (.istore_n 3, 1) := by decide +kernel
theorem dX6_worst_13 : decode cX6_worst 13 = .ok (.iload_n 3, 1) := by decide +kernel
theorem dX6_worst_14 : decode cX6_worst 14 = .ok (.bipush 8, 2) := by decide +kernel
theorem dX6_worst_16 : decode cX6_worst 16 = .ok (.if_icmp .ge 55, 3) := by decide +kernel
theorem dX6_worst_19 : decode cX6_worst 19 = .ok (.aload_n 0, 1) := by decide +kernel
theorem dX6_worst_20 : decode cX6_worst 20 = .ok (.getfield 31, 3) := by decide +kernel
theorem dX6_worst_23 : decode cX6_worst 23 = .ok (.iload_n 3, 1) := by decide +kernel
theorem dX6_worst_24 : decode cX6_worst 24 = .ok (.putfield 170, 3) := by decide +kernel
theorem dX6_worst_27 : decode cX6_worst 27 = .ok (.aload_n 0, 1) := by decide +kernel
theorem dX6_worst_28 : decode cX6_worst 28 = .ok (.getfield 31, 3) := by decide +kernel
theorem dX6_worst_31 : decode cX6_worst 31 = .ok (.invokevirtual 144, 3) := by decide +kernel
theorem dX6_worst_34 : decode cX6_worst 34 = .ok (.aload_n 0, 1) := by decide +kernel
theorem dX6_worst_35 : decode cX6_worst 35 = .ok (.getfield 31, 3) := by decide +kernel
theorem dX6_worst_38 : decode cX6_worst 38 = .ok (.aload_n 0, 1) := by decide +kernel
theorem dX6_worst_39 : decode cX6_worst 39 = .ok (.getfield 31, 3) := by decide +kernel
theorem dX6_worst_42 : decode cX6_worst 42 = .ok (.invokevirtual 160, 3) := by decide +kernel
theorem dX6_worst_45 : decode cX6_worst 45 = .ok (.invokevirtual 153, 3) := by decide +kernel
theorem dX6_worst_48 : decode cX6_worst 48 = .ok (.istore 4, 2) := by decide +kernel
theorem dX6_worst_50 : decode cX6_worst 50 = .ok (.iload_n 3, 1) := by decide +kernel
theorem dX6_worst_51 : decode cX6_worst 51 = .ok (.ifCond .eq 9, 3) := by decide +kernel
theorem dX6_worst_54 : decode cX6_worst 54 = .ok (.iload 4, 2) := by decide +kernel
theorem dX6_worst_56 : decode cX6_worst 56 = .ok (.iload_n 2, 1) := by decide +kernel
theorem dX6_worst_57 : decode cX6_worst 57 = .ok (.if_icmp .ge 8, 3) := by decide +kernel
theorem dX6_worst_60 : decode cX6_worst 60 = .ok (.iload 4, 2) := by decide +kernel
theorem dX6_worst_62 : decode cX6_worst 62 = .ok (.istore_n 2, 1) := by decide +kernel
theorem dX6_worst_63 : decode cX6_worst 63 = .ok (.iload_n 3, 1) := by decide +kernel
theorem dX6_worst_64 : decode cX6_worst 64 = .ok (.istore_n 1, 1) := by decide +kernel
theorem dX6_worst_65 : decode cX6_worst 65 = .ok (.iinc 3 1, 3) := by decide +kernel
theorem dX6_worst_68 : decode cX6_worst 68 = .ok (.goto (-55), 3) := by decide +kernel
theorem dX6_worst_71 : decode cX6_worst 71 = .ok (.iload_n 1, 1) := by decide +kernel
theorem dX6_worst_72 : decode cX6_worst 72 = .ok (.ireturn, 1) := by decide +kernel
theorem dX6_warmth_0 : decode cX6_warmth 0 = .ok (.iload_n 1, 1) := by decide +kernel
theorem dX6_warmth_1 : decode cX6_warmth 1 = .ok (.iconst 0, 1) := by decide +kernel
theorem dX6_warmth_2 : decode cX6_warmth 2 = .ok (.iconst 1, 1) := by decide +kernel
theorem dX6_warmth_3 : decode cX6_warmth 3 = .ok (.invokestatic 67, 3) := by decide +kernel
theorem dX6_warmth_6 : decode cX6_warmth 6 = .ok (.ifCond .ne 9, 3) := by decide +kernel
theorem dX6_warmth_9 : decode cX6_warmth 9 = .ok (.aload_n 0, 1) := by decide +kernel
theorem dX6_warmth_10 : decode cX6_warmth 10 = .ok (.iconst 0, 1) := by decide +kernel
theorem dX6_warmth_11 : decode cX6_warmth 11 = .ok (.invokevirtual 71, 3) := by decide +kernel
theorem dX6_warmth_14 : decode cX6_warmth 14 = .ok (.ireturn, 1) := by decide +kernel
theorem dX6_warmth_15 : decode cX6_warmth 15 = .ok (.aload_n 0, 1) := by decide +kernel
theorem dX6_warmth_16 : decode cX6_warmth 16 = .ok (.getfield 31, 3) := by decide +kernel
theorem dX6_warmth_19 : decode cX6_warmth 19 = .ok (.invokevirtual 87, 3) := by decide +kernel
theorem dX6_warmth_22 : decode cX6_warmth 22 = .ok (.iload_n 1, 1) := by decide +kernel
theorem dX6_warmth_23 : decode cX6_warmth 23 = .ok (.ifCond .ne 13, 3) := by decide +kernel
theorem dX6_warmth_26 : decode cX6_warmth 26 = .ok (.aload_n 0, 1) := by decide +kernel
theorem dX6_warmth_27 : decode cX6_warmth 27 = .ok (.getfield 31, 3) := by decide +kernel
theorem dX6_warmth_30 : decode cX6_warmth 30 = .ok (.invokevirtual 173, 3) := by decide +kernel
theorem dX6_warmth_33 : decode cX6_warmth 33 = .ok (.goto 10, 3) := by decide +kernel
theorem dX6_warmth_36 : decode cX6_warmth 36 = .ok (.aload_n 0, 1) := by decide +kernel
theorem dX6_warmth_37 : decode cX6_warmth 37 = .ok (.getfield 31, 3) := by decide +kernel
theorem dX6_warmth_40 : decode cX6_warmth 40 = .ok (.invokevirtual 176, 3) := by decide +kernel
theorem dX6_warmth_43 : decode cX6_warmth 43 = .ok (.ireturn, 1) := by decide +kernel
theorem dX6_idle_0 : decode cX6_idle 0 = .ok (.aload_n 0, 1) := by decide +kernel
theorem dX6_idle_1 : decode cX6_idle 1 = .ok (.getfield 31, 3) := by decide +kernel
theorem dX6_idle_4 : decode cX6_idle 4 = .ok (.invokevirtual 87, 3) := by decide +kernel
theorem dX6_idle_7 : decode cX6_idle 7 = .ok (.aload_n 0, 1) := by decide +kernel
theorem dX6_idle_8 : decode cX6_idle 8 = .ok (.getfield 31, 3) := by decide +kernel
theorem dX6_idle_11 : decode cX6_idle 11 = .ok (.invokevirtual 176, 3) := by decide +kernel
theorem dX6_idle_14 : decode cX6_idle 14 = .ok (.istore_n 1, 1) := by decide +kernel
theorem dX6_idle_15 : decode cX6_idle 15 = .ok (.iconst 0, 1) := by decide +kernel
theorem dX6_idle_16 : decode cX6_idle 16 = .ok (.istore_n 2, 1) := by decide +kernel
theorem dX6_idle_17 : decode cX6_idle 17 = .ok (.iconst 0, 1) := by decide +kernel
theorem dX6_idle_18 : decode cX6_idle 18 = .ok (.istore_n 3, 1) := by decide +kernel
theorem dX6_idle_19 : decode cX6_idle 19 = .ok (.iload_n 3, 1) := by decide +kernel
theorem dX6_idle_20 : decode cX6_idle 20 = .ok (.aload_n 0, 1) := by decide +kernel
theorem dX6_idle_21 : decode cX6_idle 21 = .ok (.getfield 10, 3) := by decide +kernel
theorem dX6_idle_24 : decode cX6_idle 24 = .ok (.getfield 75, 3) := by decide +kernel
theorem dX6_idle_27 : decode cX6_idle 27 = .ok (.if_icmp .ge 57, 3) := by decide +kernel
theorem dX6_idle_30 : decode cX6_idle 30 = .ok (.aload_n 0, 1) := by decide +kernel
theorem dX6_idle_31 : decode cX6_idle 31 = .ok (.getfield 31, 3) := by decide +kernel
theorem dX6_idle_34 : decode cX6_idle 34 = .ok (.aload_n 0, 1) := by decide +kernel
theorem dX6_idle_35 : decode cX6_idle 35 = .ok (.getfield 10, 3) := by decide +kernel
theorem dX6_idle_38 : decode cX6_idle 38 = .ok (.getfield 124, 3) := by decide +kernel
theorem dX6_idle_41 : decode cX6_idle 41 = .ok (.iconst 1, 1) := by decide +kernel
theorem dX6_idle_42 : decode cX6_idle 42 = .ok (.iload_n 3, 1) := by decide +kernel
theorem dX6_idle_43 : decode cX6_idle 43 = .ok (.ishl, 1) := by decide +kernel
theorem dX6_idle_44 : decode cX6_idle 44 = .ok (.iconst (-1), 1) := by decide +kernel
theorem dX6_idle_45 : decode cX6_idle 45 = .ok (.ixor, 1) := by decide +kernel
theorem dX6_idle_46 : decode cX6_idle 46 = .ok (.iand, 1) := by decide +kernel
theorem dX6_idle_47 : decode cX6_idle 47 = .ok (.putfield 166, 3) := by decide +kernel
theorem dX6_idle_50 : decode cX6_idle 50 = .ok (.aload_n 0, 1) := by decide +kernel
theorem dX6_idle_51 : decode cX6_idle 51 = .ok (.getfield 10, 3) := by decide +kernel
theorem dX6_idle_54 : decode cX6_idle 54 = .ok (.iload_n 3, 1) := by decide +kernel
theorem dX6_idle_55 : decode cX6_idle 55 = .ok (.invokevirtual 105, 3) := by decide +kernel
theorem dX6_idle_58 : decode cX6_idle 58 = .ok (.ifCond .eq 20, 3) := by decide +kernel
theorem dX6_idle_61 : decode cX6_idle 61 = .ok (.aload_n 0, 1) := by decide +kernel
theorem dX6_idle_62 : decode cX6_idle 62 = .ok (.getfield 31, 3) := by decide +kernel
theorem dX6_idle_65 : decode cX6_idle 65 = .ok (.invokevirtual 176, 3) := by decide +kernel
theorem dX6_idle_68 : decode cX6_idle 68 = .ok (.iload_n 1, 1) := by decide +kernel
theorem dX6_idle_69 : decode cX6_idle 69 = .ok (.if_icmp .ne 9, 3) := by decide +kernel
theorem dX6_idle_72 : decode cX6_idle 72 = .ok (.iload_n 2, 1) := by decide +kernel
theorem dX6_idle_73 : decode cX6_idle 73 = .ok (.iconst 1, 1) := by decide +kernel
theorem dX6_idle_74 : decode cX6_idle 74 = .ok (.iload_n 3, 1) := by decide +kernel
theorem dX6_idle_75 : decode cX6_idle 75 = .ok (.ishl, 1) := by decide +kernel
theorem dX6_idle_76 : decode cX6_idle 76 = .ok (.ior, 1) := by decide +kernel
theorem dX6_idle_77 : decode cX6_idle 77 = .ok (.istore_n 2, 1) := by decide +kernel
theorem dX6_idle_78 : decode cX6_idle 78 = .ok (.iinc 3 1, 3) := by decide +kernel
theorem dX6_idle_81 : decode cX6_idle 81 = .ok (.goto (-62), 3) := by decide +kernel
theorem dX6_idle_84 : decode cX6_idle 84 = .ok (.iload_n 2, 1) := by decide +kernel
theorem dX6_idle_85 : decode cX6_idle 85 = .ok (.ireturn, 1) := by decide +kernel
theorem dX6_beast_0 : decode cX6_beast 0 = .ok (.iload_n 1, 1) := by decide +kernel
theorem dX6_beast_1 : decode cX6_beast 1 = .ok (.iconst 1, 1) := by decide +kernel
theorem dX6_beast_2 : decode cX6_beast 2 = .ok (.sipush 999, 3) := by decide +kernel
theorem dX6_beast_5 : decode cX6_beast 5 = .ok (.invokestatic 67, 3) := by decide +kernel
theorem dX6_beast_8 : decode cX6_beast 8 = .ok (.ifCond .ne 9, 3) := by decide +kernel
theorem dX6_beast_11 : decode cX6_beast 11 = .ok (.aload_n 0, 1) := by decide +kernel
theorem dX6_beast_12 : decode cX6_beast 12 = .ok (.iconst 0, 1) := by decide +kernel
theorem dX6_beast_13 : decode cX6_beast 13 = .ok (.invokevirtual 71, 3) := by decide +kernel
theorem dX6_beast_16 : decode cX6_beast 16 = .ok (.ireturn, 1) := by decide +kernel
theorem dX6_beast_17 : decode cX6_beast 17 = .ok (.aload_n 0, 1) := by decide +kernel
theorem dX6_beast_18 : decode cX6_beast 18 = .ok (.getfield 10, 3) := by decide +kernel
theorem dX6_beast_21 : decode cX6_beast 21 = .ok (.getfield 179, 3) := by decide +kernel
theorem dX6_beast_24 : decode cX6_beast 24 = .ok (.bipush 6, 2) := by decide +kernel
theorem dX6_beast_26 : decode cX6_beast 26 = .ok (.if_icmp .lt 9, 3) := by decide +kernel
theorem dX6_beast_29 : decode cX6_beast 29 = .ok (.aload_n 0, 1) := by decide +kernel
theorem dX6_beast_30 : decode cX6_beast 30 = .ok (.iconst 1, 1) := by decide +kernel
theorem dX6_beast_31 : decode cX6_beast 31 = .ok (.invokevirtual 71, 3) := by decide +kernel
theorem dX6_beast_34 : decode cX6_beast 34 = .ok (.ireturn, 1) := by decide +kernel
theorem dX6_beast_35 : decode cX6_beast 35 = .ok (.aload_n 0, 1) := by decide +kernel
theorem dX6_beast_36 : decode cX6_beast 36 = .ok (.getfield 10, 3) := by decide +kernel
theorem dX6_beast_39 : decode cX6_beast 39 = .ok (.iload_n 1, 1) := by decide +kernel
theorem dX6_beast_40 : decode cX6_beast 40 = .ok (.invokevirtual 182, 3) := by decide +kernel
theorem dX6_beast_43 : decode cX6_beast 43 = .ok (.ireturn, 1) := by decide +kernel
theorem dX6_cap_0 : decode cX6_cap 0 = .ok (.iload_n 1, 1) := by decide +kernel
theorem dX6_cap_1 : decode cX6_cap 1 = .ok (.iconst 0, 1) := by decide +kernel
theorem dX6_cap_2 : decode cX6_cap 2 = .ok (.aload_n 0, 1) := by decide +kernel
theorem dX6_cap_3 : decode cX6_cap 3 = .ok (.getfield 10, 3) := by decide +kernel
theorem dX6_cap_6 : decode cX6_cap 6 = .ok (.getfield 179, 3) := by decide +kernel
theorem dX6_cap_9 : decode cX6_cap 9 = .ok (.iconst 1, 1) := by decide +kernel
theorem dX6_cap_10 : decode cX6_cap 10 = .ok (.isub, 1) := by decide +kernel
theorem dX6_cap_11 : decode cX6_cap 11 = .ok (.invokestatic 67, 3) := by decide +kernel
theorem dX6_cap_14 : decode cX6_cap 14 = .ok (.ifCond .ne 9, 3) := by decide +kernel
theorem dX6_cap_17 : decode cX6_cap 17 = .ok (.aload_n 0, 1) := by decide +kernel
theorem dX6_cap_18 : decode cX6_cap 18 = .ok (.iconst 0, 1) := by decide +kernel
theorem dX6_cap_19 : decode cX6_cap 19 = .ok (.invokevirtual 71, 3) := by decide +kernel
theorem dX6_cap_22 : decode cX6_cap 22 = .ok (.ireturn, 1) := by decide +kernel
theorem dX6_cap_23 : decode cX6_cap 23 = .ok (.aload_n 0, 1) := by decide +kernel
theorem dX6_cap_24 : decode cX6_cap 24 = .ok (.getfield 10, 3) := by decide +kernel
theorem dX6_cap_27 : decode cX6_cap 27 = .ok (.getfield 185, 3) := by decide +kernel
theorem dX6_cap_30 : decode cX6_cap 30 = .ok (.iload_n 1, 1) := by decide +kernel
theorem dX6_cap_31 : decode cX6_cap 31 = .ok (.iaload, 1) := by decide +kernel
theorem dX6_cap_32 : decode cX6_cap 32 = .ok (.ireturn, 1) := by decide +kernel
theorem dX6_beasts_0 : decode cX6_beasts 0 = .ok (.aload_n 0, 1) := by decide +kernel
theorem dX6_beasts_1 : decode cX6_beasts 1 = .ok (.getfield 10, 3) := by decide +kernel
theorem dX6_beasts_4 : decode cX6_beasts 4 = .ok (.iload_n 1, 1) := by decide +kernel
theorem dX6_beasts_5 : decode cX6_beasts 5 = .ok (.invokevirtual 188, 3) := by decide +kernel
theorem dX6_beasts_8 : decode cX6_beasts 8 = .ok (.ifCond .ne 9, 3) := by decide +kernel
theorem dX6_beasts_11 : decode cX6_beasts 11 = .ok (.aload_n 0, 1) := by decide +kernel
theorem dX6_beasts_12 : decode cX6_beasts 12 = .ok (.iconst 0, 1) := by decide +kernel
theorem dX6_beasts_13 : decode cX6_beasts 13 = .ok (.invokevirtual 71, 3) := by decide +kernel
theorem dX6_beasts_16 : decode cX6_beasts 16 = .ok (.ireturn, 1) := by decide +kernel
theorem dX6_beasts_17 : decode cX6_beasts 17 = .ok (.iload_n 1, 1) := by decide +kernel
theorem dX6_beasts_18 : decode cX6_beasts 18 = .ok (.invokestatic 191, 3) := by decide +kernel
theorem dX6_beasts_21 : decode cX6_beasts 21 = .ok (.bipush 10, 2) := by decide +kernel
theorem dX6_beasts_23 : decode cX6_beasts 23 = .ok (.if_icmp .le 10, 3) := by decide +kernel
theorem dX6_beasts_26 : decode cX6_beasts 26 = .ok (.aload_n 0, 1) := by decide +kernel
theorem dX6_beasts_27 : decode cX6_beasts 27 = .ok (.bipush 6, 2) := by decide +kernel
theorem dX6_beasts_29 : decode cX6_beasts 29 = .ok (.invokevirtual 71, 3) := by decide +kernel
theorem dX6_beasts_32 : decode cX6_beasts 32 = .ok (.ireturn, 1) := by decide +kernel
theorem dX6_beasts_33 : decode cX6_beasts 33 = .ok (.aload_n 0, 1) := by decide +kernel
theorem dX6_beasts_34 : decode cX6_beasts 34 = .ok (.getfield 38, 3) := by decide +kernel
theorem dX6_beasts_37 : decode cX6_beasts 37 = .ok (.iload_n 1, 1) := by decide +kernel
theorem dX6_beasts_38 : decode cX6_beasts 38 = .ok (.invokevirtual 196, 3) := by decide +kernel
theorem dX6_beasts_41 : decode cX6_beasts 41 = .ok (.aload_n 0, 1) := by decide +kernel
theorem dX6_beasts_42 : decode cX6_beasts 42 = .ok (.getfield 38, 3) := by decide +kernel
theorem dX6_beasts_45 : decode cX6_beasts 45 = .ok (.invokevirtual 200, 3) := by decide +kernel
theorem dX6_beasts_48 : decode cX6_beasts 48 = .ok (.istore_n 2, 1) := by decide +kernel
theorem dX6_beasts_49 : decode cX6_beasts 49 = .ok (.iload_n 2, 1) := by decide +kernel
theorem dX6_beasts_50 : decode cX6_beasts 50 = .ok (.aload_n 0, 1) := by decide +kernel
theorem dX6_beasts_51 : decode cX6_beasts 51 = .ok (.getfield 10, 3) := by decide +kernel
theorem dX6_beasts_54 : decode cX6_beasts 54 = .ok (.getfield 179, 3) := by decide +kernel
theorem dX6_beasts_57 : decode cX6_beasts 57 = .ok (.if_icmp .le 11, 3) := by decide +kernel
theorem dX6_beasts_60 : decode cX6_beasts 60 = .ok (.aload_n 0, 1) := by decide +kernel
theorem dX6_beasts_61 : decode cX6_beasts 61 = .ok (.iconst 3, 1) := by decide +kernel
theorem dX6_beasts_62 : decode cX6_beasts 62 = .ok (.invokevirtual 71, 3) := by decide +kernel
theorem dX6_beasts_65 : decode cX6_beasts 65 = .ok (.goto 4, 3) := by decide +kernel
theorem dX6_beasts_68 : decode cX6_beasts 68 = .ok (.iload_n 2, 1) := by decide +kernel
theorem dX6_beasts_69 : decode cX6_beasts 69 = .ok (.ireturn, 1) := by decide +kernel
theorem dX6_even_0 : decode cX6_even 0 = .ok (.aload_n 0, 1) := by decide +kernel
theorem dX6_even_1 : decode cX6_even 1 = .ok (.getfield 10, 3) := by decide +kernel
theorem dX6_even_4 : decode cX6_even 4 = .ok (.iload_n 1, 1) := by decide +kernel
theorem dX6_even_5 : decode cX6_even 5 = .ok (.invokevirtual 188, 3) := by decide +kernel
theorem dX6_even_8 : decode cX6_even 8 = .ok (.ifCond .eq 12, 3) := by decide +kernel
theorem dX6_even_11 : decode cX6_even 11 = .ok (.iload_n 2, 1) := by decide +kernel
theorem dX6_even_12 : decode cX6_even 12 = .ok (.iconst 0, 1) := by decide +kernel
theorem dX6_even_13 : decode cX6_even 13 = .ok (.iconst 1, 1) := by decide +kernel
theorem dX6_even_14 : decode cX6_even 14 = .ok (.invokestatic 67, 3) := by decide +kernel
theorem dX6_even_17 : decode cX6_even 17 = .ok (.ifCond .ne 9, 3) := by decide +kernel
theorem dX6_even_20 : decode cX6_even 20 = .ok (.aload_n 0, 1) := by decide +kernel
theorem dX6_even_21 : decode cX6_even 21 = .ok (.iconst 0, 1) := by decide +kernel
theorem dX6_even_22 : decode cX6_even 22 = .ok (.invokevirtual 71, 3) := by decide +kernel
theorem dX6_even_25 : decode cX6_even 25 = .ok (.ireturn, 1) := by decide +kernel
theorem dX6_even_26 : decode cX6_even 26 = .ok (.iload_n 1, 1) := by decide +kernel
theorem dX6_even_27 : decode cX6_even 27 = .ok (.invokestatic 191, 3) := by decide +kernel
theorem dX6_even_30 : decode cX6_even 30 = .ok (.bipush 10, 2) := by decide +kernel
theorem dX6_even_32 : decode cX6_even 32 = .ok (.if_icmp .le 10, 3) := by decide +kernel
theorem dX6_even_35 : decode cX6_even 35 = .ok (.aload_n 0, 1) := by decide +kernel
theorem dX6_even_36 : decode cX6_even 36 = .ok (.bipush 6, 2) := by decide +kernel
theorem dX6_even_38 : decode cX6_even 38 = .ok (.invokevirtual 71, 3) := by decide +kernel
theorem dX6_even_41 : decode cX6_even 41 = .ok (.ireturn, 1) := by decide +kernel
theorem dX6_even_42 : decode cX6_even 42 = .ok (.aload_n 0, 1) := by decide +kernel
theorem dX6_even_43 : decode cX6_even 43 = .ok (.getfield 38, 3) := by decide +kernel
theorem dX6_even_46 : decode cX6_even 46 = .ok (.iload_n 1, 1) := by decide +kernel
theorem dX6_even_47 : decode cX6_even 47 = .ok (.invokevirtual 196, 3) := by decide +kernel
theorem dX6_even_50 : decode cX6_even 50 = .ok (.aload_n 0, 1) := by decide +kernel
theorem dX6_even_51 : decode cX6_even 51 = .ok (.getfield 38, 3) := by decide +kernel
theorem dX6_even_54 : decode cX6_even 54 = .ok (.invokevirtual 203, 3) := by decide +kernel
theorem dX6_even_57 : decode cX6_even 57 = .ok (.iload_n 2, 1) := by decide +kernel
theorem dX6_even_58 : decode cX6_even 58 = .ok (.ifCond .ne 13, 3) := by decide +kernel
theorem dX6_even_61 : decode cX6_even 61 = .ok (.aload_n 0, 1) := by decide +kernel
theorem dX6_even_62 : decode cX6_even 62 = .ok (.getfield 38, 3) := by decide +kernel
theorem dX6_even_65 : decode cX6_even 65 = .ok (.getfield 206, 3) := by decide +kernel
theorem dX6_even_68 : decode cX6_even 68 = .ok (.goto 10, 3) := by decide +kernel
theorem dX6_even_71 : decode cX6_even 71 = .ok (.aload_n 0, 1) := by decide +kernel
theorem dX6_even_72 : decode cX6_even 72 = .ok (.getfield 38, 3) := by decide +kernel
theorem dX6_even_75 : decode cX6_even 75 = .ok (.getfield 209, 3) := by decide +kernel
theorem dX6_even_78 : decode cX6_even 78 = .ok (.ireturn, 1) := by decide +kernel
theorem dX6_camp_0 : decode cX6_camp 0 = .ok (.iload_n 1, 1) := by decide +kernel
theorem dX6_camp_1 : decode cX6_camp 1 = .ok (.iconst 0, 1) := by decide +kernel
theorem dX6_camp_2 : decode cX6_camp 2 = .ok (.bipush 99, 2) := by decide +kernel
theorem dX6_camp_4 : decode cX6_camp 4 = .ok (.invokestatic 67, 3) := by decide +kernel
theorem dX6_camp_7 : decode cX6_camp 7 = .ok (.ifCond .ne 9, 3) := by decide +kernel
theorem dX6_camp_10 : decode cX6_camp 10 = .ok (.aload_n 0, 1) := by decide +kernel
theorem dX6_camp_11 : decode cX6_camp 11 = .ok (.iconst 0, 1) := by decide +kernel
theorem dX6_camp_12 : decode cX6_camp 12 = .ok (.invokevirtual 71, 3) := by decide +kernel
theorem dX6_camp_15 : decode cX6_camp 15 = .ok (.ireturn, 1) := by decide +kernel
theorem dX6_camp_16 : decode cX6_camp 16 = .ok (.aload_n 0, 1) := by decide +kernel
theorem dX6_camp_17 : decode cX6_camp 17 = .ok (.getfield 10, 3) := by decide +kernel
theorem dX6_camp_20 : decode cX6_camp 20 = .ok (.getfield 212, 3) := by decide +kernel
theorem dX6_camp_23 : decode cX6_camp 23 = .ok (.bipush 6, 2) := by decide +kernel
theorem dX6_camp_25 : decode cX6_camp 25 = .ok (.if_icmp .lt 9, 3) := by decide +kernel
theorem dX6_camp_28 : decode cX6_camp 28 = .ok (.aload_n 0, 1) := by decide +kernel
theorem dX6_camp_29 : decode cX6_camp 29 = .ok (.iconst 1, 1) := by decide +kernel
theorem dX6_camp_30 : decode cX6_camp 30 = .ok (.invokevirtual 71, 3) := by decide +kernel
theorem dX6_camp_33 : decode cX6_camp 33 = .ok (.ireturn, 1) := by decide +kernel
theorem dX6_camp_34 : decode cX6_camp 34 = .ok (.aload_n 0, 1) := by decide +kernel
theorem dX6_camp_35 : decode cX6_camp 35 = .ok (.getfield 10, 3) := by decide +kernel
theorem dX6_camp_38 : decode cX6_camp 38 = .ok (.iload_n 1, 1) := by decide +kernel
theorem dX6_camp_39 : decode cX6_camp 39 = .ok (.invokevirtual 215, 3) := by decide +kernel
theorem dX6_camp_42 : decode cX6_camp 42 = .ok (.ireturn, 1) := by decide +kernel
theorem dX6_grass_0 : decode cX6_grass 0 = .ok (.aload_n 0, 1) := by decide +kernel
theorem dX6_grass_1 : decode cX6_grass 1 = .ok (.getfield 10, 3) := by decide +kernel
theorem dX6_grass_4 : decode cX6_grass 4 = .ok (.iload_n 1, 1) := by decide +kernel
theorem dX6_grass_5 : decode cX6_grass 5 = .ok (.invokevirtual 218, 3) := by decide +kernel
theorem dX6_grass_8 : decode cX6_grass 8 = .ok (.ifCond .eq 24, 3) := by decide +kernel
theorem dX6_grass_11 : decode cX6_grass 11 = .ok (.iload_n 2, 1) := by decide +kernel
theorem dX6_grass_12 : decode cX6_grass 12 = .ok (.iconst 0, 1) := by decide +kernel
theorem dX6_grass_13 : decode cX6_grass 13 = .ok (.bipush 11, 2) := by decide +kernel
theorem dX6_grass_15 : decode cX6_grass 15 = .ok (.invokestatic 67, 3) := by decide +kernel
theorem dX6_grass_18 : decode cX6_grass 18 = .ok (.ifCond .eq 14, 3) := by decide +kernel
theorem dX6_grass_21 : decode cX6_grass 21 = .ok (.iload_n 3, 1) := by decide +kernel
theorem dX6_grass_22 : decode cX6_grass 22 = .ok (.iconst 0, 1) := by decide +kernel
theorem dX6_grass_23 : decode cX6_grass 23 = .ok (.sipush 999, 3) := by decide +kernel
theorem dX6_grass_26 : decode cX6_grass 26 = .ok (.invokestatic 67, 3) := by decide +kernel
theorem dX6_grass_29 : decode cX6_grass 29 = .ok (.ifCond .ne 9, 3) := by decide +kernel
theorem dX6_grass_32 : decode cX6_grass 32 = .ok (.aload_n 0, 1) := by decide +kernel
theorem dX6_grass_33 : decode cX6_grass 33 = .ok (.iconst 0, 1) := by decide +kernel
theorem dX6_grass_34 : decode cX6_grass 34 = .ok (.invokevirtual 71, 3) := by decide +kernel
theorem dX6_grass_37 : decode cX6_grass 37 = .ok (.ireturn, 1) := by decide +kernel
theorem dX6_grass_38 : decode cX6_grass 38 = .ok (.aload_n 0, 1) := by decide +kernel
theorem dX6_grass_39 : decode cX6_grass 39 = .ok (.getfield 10, 3) := by decide +kernel
theorem dX6_grass_42 : decode cX6_grass 42 = .ok (.getfield 221, 3) := by decide +kernel
theorem dX6_grass_45 : decode cX6_grass 45 = .ok (.iload_n 1, 1) := by decide +kernel
theorem dX6_grass_46 : decode cX6_grass 46 = .ok (.bipush 12, 2) := by decide +kernel
theorem dX6_grass_48 : decode cX6_grass 48 = .ok (.imul, 1) := by decide +kernel
theorem dX6_grass_49 : decode cX6_grass 49 = .ok (.iload_n 2, 1) := by decide +kernel
theorem dX6_grass_50 : decode cX6_grass 50 = .ok (.iadd, 1) := by decide +kernel
theorem dX6_grass_51 : decode cX6_grass 51 = .ok (.iload_n 3, 1) := by decide +kernel
theorem dX6_grass_52 : decode cX6_grass 52 = .ok (.invokestatic 120, 3) := by decide +kernel
theorem dX6_grass_55 : decode cX6_grass 55 = .ok (.ireturn, 1) := by decide +kernel
theorem dX6_campOf_0 : decode cX6_campOf 0 = .ok (.aload_n 0, 1) := by decide +kernel
theorem dX6_campOf_1 : decode cX6_campOf 1 = .ok (.getfield 10, 3) := by decide +kernel
theorem dX6_campOf_4 : decode cX6_campOf 4 = .ok (.iload_n 1, 1) := by decide +kernel
theorem dX6_campOf_5 : decode cX6_campOf 5 = .ok (.invokevirtual 218, 3) := by decide +kernel
theorem dX6_campOf_8 : decode cX6_campOf 8 = .ok (.ifCond .eq 13, 3) := by decide +kernel
theorem dX6_campOf_11 : decode cX6_campOf 11 = .ok (.iload_n 2, 1) := by decide +kernel
theorem dX6_campOf_12 : decode cX6_campOf 12 = .ok (.iconst 0, 1) := by decide +kernel
theorem dX6_campOf_13 : decode cX6_campOf 13 = .ok (.bipush 12, 2) := by decide +kernel
theorem dX6_campOf_15 : decode cX6_campOf 15 = .ok (.invokestatic 67, 3) := by decide +kernel
theorem dX6_campOf_18 : decode cX6_campOf 18 = .ok (.ifCond .ne 9, 3) := by decide +kernel
theorem dX6_campOf_21 : decode cX6_campOf 21 = .ok (.aload_n 0, 1) := by decide +kernel
theorem dX6_campOf_22 : decode cX6_campOf 22 = .ok (.iconst 0, 1) := by decide +kernel
theorem dX6_campOf_23 : decode cX6_campOf 23 = .ok (.invokevirtual 71, 3) := by decide +kernel
theorem dX6_campOf_26 : decode cX6_campOf 26 = .ok (.ireturn, 1) := by decide +kernel
theorem dX6_campOf_27 : decode cX6_campOf 27 = .ok (.iload_n 2, 1) := by decide +kernel
theorem dX6_campOf_28 : decode cX6_campOf 28 = .ok (.bipush 12, 2) := by decide +kernel
theorem dX6_campOf_30 : decode cX6_campOf 30 = .ok (.if_icmp .ne 15, 3) := by decide +kernel
theorem dX6_campOf_33 : decode cX6_campOf 33 = .ok (.aload_n 0, 1) := by decide +kernel
theorem dX6_campOf_34 : decode cX6_campOf 34 = .ok (.getfield 10, 3) := by decide +kernel
theorem dX6_campOf_37 : decode cX6_campOf 37 = .ok (.getfield 224, 3) := by decide +kernel
theorem dX6_campOf_40 : decode cX6_campOf 40 = .ok (.iload_n 1, 1) := by decide +kernel
theorem dX6_campOf_41 : decode cX6_campOf 41 = .ok (.iaload, 1) := by decide +kernel
theorem dX6_campOf_42 : decode cX6_campOf 42 = .ok (.goto 17, 3) := by decide +kernel
theorem dX6_campOf_45 : decode cX6_campOf 45 = .ok (.aload_n 0, 1) := by decide +kernel
theorem dX6_campOf_46 : decode cX6_campOf 46 = .ok (.getfield 10, 3) := by decide +kernel
theorem dX6_campOf_49 : decode cX6_campOf 49 = .ok (.getfield 221, 3) := by decide +kernel
theorem dX6_campOf_52 : decode cX6_campOf 52 = .ok (.iload_n 1, 1) := by decide +kernel
theorem dX6_campOf_53 : decode cX6_campOf 53 = .ok (.bipush 12, 2) := by decide +kernel
theorem dX6_campOf_55 : decode cX6_campOf 55 = .ok (.imul, 1) := by decide +kernel
theorem dX6_campOf_56 : decode cX6_campOf 56 = .ok (.iload_n 2, 1) := by decide +kernel
theorem dX6_campOf_57 : decode cX6_campOf 57 = .ok (.iadd, 1) := by decide +kernel
theorem dX6_campOf_58 : decode cX6_campOf 58 = .ok (.iaload, 1) := by decide +kernel
theorem dX6_campOf_59 : decode cX6_campOf 59 = .ok (.ireturn, 1) := by decide +kernel
theorem dX6_herd_0 : decode cX6_herd 0 = .ok (.iload_n 1, 1) := by decide +kernel
theorem dX6_herd_1 : decode cX6_herd 1 = .ok (.iconst 0, 1) := by decide +kernel
theorem dX6_herd_2 : decode cX6_herd 2 = .ok (.iconst 2, 1) := by decide +kernel
theorem dX6_herd_3 : decode cX6_herd 3 = .ok (.invokestatic 67, 3) := by decide +kernel
theorem dX6_herd_6 : decode cX6_herd 6 = .ok (.ifCond .eq 16, 3) := by decide +kernel
theorem dX6_herd_9 : decode cX6_herd 9 = .ok (.iload_n 2, 1) := by decide +kernel
theorem dX6_herd_10 : decode cX6_herd 10 = .ok (.iconst 0, 1) := by decide +kernel
theorem dX6_herd_11 : decode cX6_herd 11 = .ok (.getstatic 227, 3) := by decide +kernel
theorem dX6_herd_14 : decode cX6_herd 14 = .ok (.iload_n 1, 1) := by decide +kernel
theorem dX6_herd_15 : decode cX6_herd 15 = .ok (.iaload, 1) := by decide +kernel
theorem dX6_herd_16 : decode cX6_herd 16 = .ok (.invokestatic 67, 3) := by decide +kernel
theorem dX6_herd_19 : decode cX6_herd 19 = .ok (.ifCond .ne 9, 3) := by decide +kernel
theorem dX6_herd_22 : decode cX6_herd 22 = .ok (.aload_n 0, 1) := by decide +kernel
theorem dX6_herd_23 : decode cX6_herd 23 = .ok (.iconst 0, 1) := by decide +kernel
theorem dX6_herd_24 : decode cX6_herd 24 = .ok (.invokevirtual 71, 3) := by decide +kernel
theorem dX6_herd_27 : decode cX6_herd 27 = .ok (.ireturn, 1) := by decide +kernel
theorem dX6_herd_28 : decode cX6_herd 28 = .ok (.aload_n 0, 1) := by decide +kernel
theorem dX6_herd_29 : decode cX6_herd 29 = .ok (.getfield 10, 3) := by decide +kernel
theorem dX6_herd_32 : decode cX6_herd 32 = .ok (.getfield 230, 3) := by decide +kernel
theorem dX6_herd_35 : decode cX6_herd 35 = .ok (.iload_n 1, 1) := by decide +kernel
theorem dX6_herd_36 : decode cX6_herd 36 = .ok (.iload_n 2, 1) := by decide +kernel
theorem dX6_herd_37 : decode cX6_herd 37 = .ok (.invokestatic 120, 3) := by decide +kernel
theorem dX6_herd_40 : decode cX6_herd 40 = .ok (.ireturn, 1) := by decide +kernel
theorem dX6_year_0 : decode cX6_year 0 = .ok (.iload_n 1, 1) := by decide +kernel
theorem dX6_year_1 : decode cX6_year 1 = .ok (.iconst 0, 1) := by decide +kernel
theorem dX6_year_2 : decode cX6_year 2 = .ok (.bipush 11, 2) := by decide +kernel
theorem dX6_year_4 : decode cX6_year 4 = .ok (.invokestatic 67, 3) := by decide +kernel
theorem dX6_year_7 : decode cX6_year 7 = .ok (.ifCond .eq 24, 3) := by decide +kernel
theorem dX6_year_10 : decode cX6_year 10 = .ok (.iload_n 2, 1) := by decide +kernel
theorem dX6_year_11 : decode cX6_year 11 = .ok (.iconst 1, 1) := by decide +kernel
theorem dX6_year_12 : decode cX6_year 12 = .ok (.bipush 24, 2) := by decide +kernel
theorem dX6_year_14 : decode cX6_year 14 = .ok (.invokestatic 67, 3) := by decide +kernel
theorem dX6_year_17 : decode cX6_year 17 = .ok (.ifCond .eq 14, 3) := by decide +kernel
theorem dX6_year_20 : decode cX6_year 20 = .ok (.iload_n 3, 1) := by decide +kernel
theorem dX6_year_21 : decode cX6_year 21 = .ok (.iconst (-1), 1) := by decide +kernel
theorem dX6_year_22 : decode cX6_year 22 = .ok (.iload_n 2, 1) := by decide +kernel
theorem dX6_year_23 : decode cX6_year 23 = .ok (.iconst 1, 1) := by decide +kernel
theorem dX6_year_24 : decode cX6_year 24 = .ok (.isub, 1) := by decide +kernel
theorem dX6_year_25 : decode cX6_year 25 = .ok (.invokestatic 67, 3) := by decide +kernel
theorem dX6_year_28 : decode cX6_year 28 = .ok (.ifCond .ne 9, 3) := by decide +kernel
theorem dX6_year_31 : decode cX6_year 31 = .ok (.aload_n 0, 1) := by decide +kernel
theorem dX6_year_32 : decode cX6_year 32 = .ok (.iconst 0, 1) := by decide +kernel
theorem dX6_year_33 : decode cX6_year 33 = .ok (.invokevirtual 71, 3) := by decide +kernel
theorem dX6_year_36 : decode cX6_year 36 = .ok (.ireturn, 1) := by decide +kernel
theorem dX6_year_37 : decode cX6_year 37 = .ok (.aload_n 0, 1) := by decide +kernel
theorem dX6_year_38 : decode cX6_year 38 = .ok (.getfield 10, 3) := by decide +kernel
theorem dX6_year_41 : decode cX6_year 41 = .ok (.getfield 212, 3) := by decide +kernel
theorem dX6_year_44 : decode cX6_year 44 = .ok (.ifCond .ne 9, 3) := by decide +kernel
theorem dX6_year_47 : decode cX6_year 47 = .ok (.aload_n 0, 1) := by decide +kernel
theorem dX6_year_48 : decode cX6_year 48 = .ok (.iconst 3, 1) := by decide +kernel
theorem dX6_year_49 : decode cX6_year 49 = .ok (.invokevirtual 71, 3) := by decide +kernel
theorem dX6_year_52 : decode cX6_year 52 = .ok (.ireturn, 1) := by decide +kernel
theorem dX6_year_53 : decode cX6_year 53 = .ok (.aload_n 0, 1) := by decide +kernel
theorem dX6_year_54 : decode cX6_year 54 = .ok (.getfield 45, 3) := by decide +kernel
theorem dX6_year_57 : decode cX6_year 57 = .ok (.iload_n 1, 1) := by decide +kernel
theorem dX6_year_58 : decode cX6_year 58 = .ok (.iload_n 2, 1) := by decide +kernel
theorem dX6_year_59 : decode cX6_year 59 = .ok (.invokevirtual 233, 3) := by decide +kernel
theorem dX6_year_62 : decode cX6_year 62 = .ok (.iload_n 3, 1) := by decide +kernel
theorem dX6_year_63 : decode cX6_year 63 = .ok (.ifCond .ge 13, 3) := by decide +kernel
theorem dX6_year_66 : decode cX6_year 66 = .ok (.aload_n 0, 1) := by decide +kernel
theorem dX6_year_67 : decode cX6_year 67 = .ok (.getfield 45, 3) := by decide +kernel
theorem dX6_year_70 : decode cX6_year 70 = .ok (.getfield 237, 3) := by decide +kernel
theorem dX6_year_73 : decode cX6_year 73 = .ok (.goto 12, 3) := by decide +kernel
theorem dX6_year_76 : decode cX6_year 76 = .ok (.aload_n 0, 1) := by decide +kernel
theorem dX6_year_77 : decode cX6_year 77 = .ok (.getfield 45, 3) := by decide +kernel
theorem dX6_year_80 : decode cX6_year 80 = .ok (.getfield 240, 3) := by decide +kernel
theorem dX6_year_83 : decode cX6_year 83 = .ok (.iload_n 3, 1) := by decide +kernel
theorem dX6_year_84 : decode cX6_year 84 = .ok (.iaload, 1) := by decide +kernel
theorem dX6_year_85 : decode cX6_year 85 = .ok (.ireturn, 1) := by decide +kernel
theorem dX6_moves_0 : decode cX6_moves 0 = .ok (.iload_n 1, 1) := by decide +kernel
theorem dX6_moves_1 : decode cX6_moves 1 = .ok (.iconst 0, 1) := by decide +kernel
theorem dX6_moves_2 : decode cX6_moves 2 = .ok (.bipush 11, 2) := by decide +kernel
theorem dX6_moves_4 : decode cX6_moves 4 = .ok (.invokestatic 67, 3) := by decide +kernel
theorem dX6_moves_7 : decode cX6_moves 7 = .ok (.ifCond .eq 13, 3) := by decide +kernel
theorem dX6_moves_10 : decode cX6_moves 10 = .ok (.iload_n 2, 1) := by decide +kernel
theorem dX6_moves_11 : decode cX6_moves 11 = .ok (.iconst 1, 1) := by decide +kernel
theorem dX6_moves_12 : decode cX6_moves 12 = .ok (.bipush 24, 2) := by decide +kernel
theorem dX6_moves_14 : decode cX6_moves 14 = .ok (.invokestatic 67, 3) := by decide +kernel
theorem dX6_moves_17 : decode cX6_moves 17 = .ok (.ifCond .ne 9, 3) := by decide +kernel
theorem dX6_moves_20 : decode cX6_moves 20 = .ok (.aload_n 0, 1) := by decide +kernel
theorem dX6_moves_21 : decode cX6_moves 21 = .ok (.iconst 0, 1) := by decide +kernel
theorem dX6_moves_22 : decode cX6_moves 22 = .ok (.invokevirtual 71, 3) := by decide +kernel
theorem dX6_moves_25 : decode cX6_moves 25 = .ok (.ireturn, 1) := by decide +kernel
theorem dX6_moves_26 : decode cX6_moves 26 = .ok (.aload_n 0, 1) := by decide +kernel
theorem dX6_moves_27 : decode cX6_moves 27 = .ok (.getfield 10, 3) := by decide +kernel
theorem dX6_moves_30 : decode cX6_moves 30 = .ok (.getfield 212, 3) := by decide +kernel
theorem dX6_moves_33 : decode cX6_moves 33 = .ok (.ifCond .ne 9, 3) := by decide +kernel
theorem dX6_moves_36 : decode cX6_moves 36 = .ok (.aload_n 0, 1) := by decide +kernel
theorem dX6_moves_37 : decode cX6_moves 37 = .ok (.iconst 3, 1) := by decide +kernel
theorem dX6_moves_38 : decode cX6_moves 38 = .ok (.invokevirtual 71, 3) := by decide +kernel
theorem dX6_moves_41 : decode cX6_moves 41 = .ok (.ireturn, 1) := by decide +kernel
theorem dX6_moves_42 : decode cX6_moves 42 = .ok (.aload_n 0, 1) := by decide +kernel
theorem dX6_moves_43 : decode cX6_moves 43 = .ok (.getfield 45, 3) := by decide +kernel
theorem dX6_moves_46 : decode cX6_moves 46 = .ok (.iload_n 1, 1) := by decide +kernel
theorem dX6_moves_47 : decode cX6_moves 47 = .ok (.iload_n 2, 1) := by decide +kernel
theorem dX6_moves_48 : decode cX6_moves 48 = .ok (.invokevirtual 233, 3) := by decide +kernel
theorem dX6_moves_51 : decode cX6_moves 51 = .ok (.aload_n 0, 1) := by decide +kernel
theorem dX6_moves_52 : decode cX6_moves 52 = .ok (.getfield 45, 3) := by decide +kernel
theorem dX6_moves_55 : decode cX6_moves 55 = .ok (.iload_n 2, 1) := by decide +kernel
theorem dX6_moves_56 : decode cX6_moves 56 = .ok (.invokevirtual 243, 3) := by decide +kernel
theorem dX6_moves_59 : decode cX6_moves 59 = .ok (.ireturn, 1) := by decide +kernel
theorem dX6_feed_0 : decode cX6_feed 0 = .ok (.iload_n 2, 1) := by decide +kernel
theorem dX6_feed_1 : decode cX6_feed 1 = .ok (.iconst 1, 1) := by decide +kernel
theorem dX6_feed_2 : decode cX6_feed 2 = .ok (.iconst 4, 1) := by decide +kernel
theorem dX6_feed_3 : decode cX6_feed 3 = .ok (.invokestatic 67, 3) := by decide +kernel
theorem dX6_feed_6 : decode cX6_feed 6 = .ok (.ifCond .ne 9, 3) := by decide +kernel
theorem dX6_feed_9 : decode cX6_feed 9 = .ok (.aload_n 0, 1) := by decide +kernel
theorem dX6_feed_10 : decode cX6_feed 10 = .ok (.iconst 0, 1) := by decide +kernel
theorem dX6_feed_11 : decode cX6_feed 11 = .ok (.invokevirtual 71, 3) := by decide +kernel
theorem dX6_feed_14 : decode cX6_feed 14 = .ok (.ireturn, 1) := by decide +kernel
theorem dX6_feed_15 : decode cX6_feed 15 = .ok (.aload_n 0, 1) := by decide +kernel
theorem dX6_feed_16 : decode cX6_feed 16 = .ok (.getfield 52, 3) := by decide +kernel
theorem dX6_feed_19 : decode cX6_feed 19 = .ok (.getfield 246, 3) := by decide +kernel
theorem dX6_feed_22 : decode cX6_feed 22 = .ok (.iload_n 2, 1) := by decide +kernel
theorem dX6_feed_23 : decode cX6_feed 23 = .ok (.iadd, 1) := by decide +kernel
theorem dX6_feed_24 : decode cX6_feed 24 = .ok (.bipush 120, 2) := by decide +kernel
theorem dX6_feed_26 : decode cX6_feed 26 = .ok (.if_icmp .le 9, 3) := by decide +kernel
theorem dX6_feed_29 : decode cX6_feed 29 = .ok (.aload_n 0, 1) := by decide +kernel
theorem dX6_feed_30 : decode cX6_feed 30 = .ok (.iconst 1, 1) := by decide +kernel
theorem dX6_feed_31 : decode cX6_feed 31 = .ok (.invokevirtual 71, 3) := by decide +kernel
theorem dX6_feed_34 : decode cX6_feed 34 = .ok (.ireturn, 1) := by decide +kernel
theorem dX6_feed_35 : decode cX6_feed 35 = .ok (.iload_n 2, 1) := by decide +kernel
theorem dX6_feed_36 : decode cX6_feed 36 = .ok (.iconst 1, 1) := by decide +kernel
theorem dX6_feed_37 : decode cX6_feed 37 = .ok (.isub, 1) := by decide +kernel
theorem dX6_feed_38 : decode cX6_feed 38 = .ok (.istore_n 3, 1) := by decide +kernel
theorem dX6_feed_39 : decode cX6_feed 39 = .ok (.iload_n 3, 1) := by decide +kernel
theorem dX6_feed_40 : decode cX6_feed 40 = .ok (.ifCond .lt 26, 3) := by decide +kernel
theorem dX6_feed_43 : decode cX6_feed 43 = .ok (.aload_n 0, 1) := by decide +kernel
theorem dX6_feed_44 : decode cX6_feed 44 = .ok (.getfield 52, 3) := by decide +kernel
theorem dX6_feed_47 : decode cX6_feed 47 = .ok (.iload_n 1, 1) := by decide +kernel
theorem dX6_feed_48 : decode cX6_feed 48 = .ok (.bipush 8, 2) := by decide +kernel
theorem dX6_feed_50 : decode cX6_feed 50 = .ok (.iload_n 3, 1) := by decide +kernel
theorem dX6_feed_51 : decode cX6_feed 51 = .ok (.imul, 1) := by decide +kernel
theorem dX6_feed_52 : decode cX6_feed 52 = .ok (.iushr, 1) := by decide +kernel
theorem dX6_feed_53 : decode cX6_feed 53 = .ok (.sipush 255, 3) := by decide +kernel
theorem dX6_feed_56 : decode cX6_feed 56 = .ok (.iand, 1) := by decide +kernel
theorem dX6_feed_57 : decode cX6_feed 57 = .ok (.invokevirtual 249, 3) := by decide +kernel
theorem dX6_feed_60 : decode cX6_feed 60 = .ok (.iinc 3 (-1), 3) := by decide +kernel
theorem dX6_feed_63 : decode cX6_feed 63 = .ok (.goto (-24), 3) := by decide +kernel
theorem dX6_feed_66 : decode cX6_feed 66 = .ok (.aload_n 0, 1) := by decide +kernel
theorem dX6_feed_67 : decode cX6_feed 67 = .ok (.getfield 52, 3) := by decide +kernel
theorem dX6_feed_70 : decode cX6_feed 70 = .ok (.getfield 246, 3) := by decide +kernel
theorem dX6_feed_73 : decode cX6_feed 73 = .ok (.ireturn, 1) := by decide +kernel
theorem dX6_wipe_0 : decode cX6_wipe 0 = .ok (.aload_n 0, 1) := by decide +kernel
theorem dX6_wipe_1 : decode cX6_wipe 1 = .ok (.getfield 52, 3) := by decide +kernel
theorem dX6_wipe_4 : decode cX6_wipe 4 = .ok (.getfield 246, 3) := by decide +kernel
theorem dX6_wipe_7 : decode cX6_wipe 7 = .ok (.istore_n 1, 1) := by decide +kernel
theorem dX6_wipe_8 : decode cX6_wipe 8 = .ok (.aload_n 0, 1) := by decide +kernel
theorem dX6_wipe_9 : decode cX6_wipe 9 = .ok (.getfield 52, 3) := by decide +kernel
theorem dX6_wipe_12 : decode cX6_wipe 12 = .ok (.iconst 0, 1) := by decide +kernel
theorem dX6_wipe_13 : decode cX6_wipe 13 = .ok (.putfield 246, 3) := by decide +kernel
theorem dX6_wipe_16 : decode cX6_wipe 16 = .ok (.iload_n 1, 1) := by decide +kernel
theorem dX6_wipe_17 : decode cX6_wipe 17 = .ok (.ireturn, 1) := by decide +kernel
theorem dX6_house_0 : decode cX6_house 0 = .ok (.aload_n 0, 1) := by decide +kernel
theorem dX6_house_1 : decode cX6_house 1 = .ok (.getfield 19, 3) := by decide +kernel
theorem dX6_house_4 : decode cX6_house 4 = .ok (.aload_n 0, 1) := by decide +kernel
theorem dX6_house_5 : decode cX6_house 5 = .ok (.getfield 10, 3) := by decide +kernel
theorem dX6_house_8 : decode cX6_house 8 = .ok (.invokevirtual 252, 3) := by decide +kernel
theorem dX6_house_11 : decode cX6_house 11 = .ok (.aload_n 0, 1) := by decide +kernel
theorem dX6_house_12 : decode cX6_house 12 = .ok (.getfield 52, 3) := by decide +kernel
theorem dX6_house_15 : decode cX6_house 15 = .ok (.aload_n 0, 1) := by decide +kernel
theorem dX6_house_16 : decode cX6_house 16 = .ok (.getfield 19, 3) := by decide +kernel
theorem dX6_house_19 : decode cX6_house 19 = .ok (.invokevirtual 255, 3) := by decide +kernel
theorem dX6_house_22 : decode cX6_house 22 = .ok (.istore_n 1, 1) := by decide +kernel
theorem dX6_house_23 : decode cX6_house 23 = .ok (.iload_n 1, 1) := by decide +kernel
theorem dX6_house_24 : decode cX6_house 24 = .ok (.ifCond .lt 14, 3) := by decide +kernel
theorem dX6_house_27 : decode cX6_house 27 = .ok (.aload_n 0, 1) := by decide +kernel
theorem dX6_house_28 : decode cX6_house 28 = .ok (.getfield 10, 3) := by decide +kernel
theorem dX6_house_31 : decode cX6_house 31 = .ok (.aload_n 0, 1) := by decide +kernel
theorem dX6_house_32 : decode cX6_house 32 = .ok (.getfield 19, 3) := by decide +kernel
theorem dX6_house_35 : decode cX6_house 35 = .ok (.invokevirtual 252, 3) := by decide +kernel
theorem dX6_house_38 : decode cX6_house 38 = .ok (.aload_n 0, 1) := by decide +kernel
theorem dX6_house_39 : decode cX6_house 39 = .ok (.getfield 52, 3) := by decide +kernel
theorem dX6_house_42 : decode cX6_house 42 = .ok (.iconst 0, 1) := by decide +kernel
theorem dX6_house_43 : decode cX6_house 43 = .ok (.putfield 246, 3) := by decide +kernel
theorem dX6_house_46 : decode cX6_house 46 = .ok (.iload_n 1, 1) := by decide +kernel
theorem dX6_house_47 : decode cX6_house 47 = .ok (.ireturn, 1) := by decide +kernel
theorem dX6_sheet_0 : decode cX6_sheet 0 = .ok (.iload_n 1, 1) := by decide +kernel
theorem dX6_sheet_1 : decode cX6_sheet 1 = .ok (.iconst 0, 1) := by decide +kernel
theorem dX6_sheet_2 : decode cX6_sheet 2 = .ok (.iconst 3, 1) := by decide +kernel
theorem dX6_sheet_3 : decode cX6_sheet 3 = .ok (.invokestatic 67, 3) := by decide +kernel
theorem dX6_sheet_6 : decode cX6_sheet 6 = .ok (.ifCond .eq 10, 3) := by decide +kernel
theorem dX6_sheet_9 : decode cX6_sheet 9 = .ok (.iload_n 2, 1) := by decide +kernel
theorem dX6_sheet_10 : decode cX6_sheet 10 = .ok (.invokestatic 259, 3) := by decide +kernel
theorem dX6_sheet_13 : decode cX6_sheet 13 = .ok (.ifCond .ne 9, 3) := by decide +kernel
theorem dX6_sheet_16 : decode cX6_sheet 16 = .ok (.aload_n 0, 1) := by decide +kernel
theorem dX6_sheet_17 : decode cX6_sheet 17 = .ok (.iconst 0, 1) := by decide +kernel
theorem dX6_sheet_18 : decode cX6_sheet 18 = .ok (.invokevirtual 71, 3) := by decide +kernel
theorem dX6_sheet_21 : decode cX6_sheet 21 = .ok (.ireturn, 1) := by decide +kernel
theorem dX6_sheet_22 : decode cX6_sheet 22 = .ok (.iload_n 3, 1) := by decide +kernel
theorem dX6_sheet_23 : decode cX6_sheet 23 = .ok (.ifCond .ge 10, 3) := by decide +kernel
theorem dX6_sheet_26 : decode cX6_sheet 26 = .ok (.aload_n 0, 1) := by decide +kernel
theorem dX6_sheet_27 : decode cX6_sheet 27 = .ok (.bipush 6, 2) := by decide +kernel
theorem dX6_sheet_29 : decode cX6_sheet 29 = .ok (.invokevirtual 71, 3) := by decide +kernel
theorem dX6_sheet_32 : decode cX6_sheet 32 = .ok (.ireturn, 1) := by decide +kernel
theorem dX6_sheet_33 : decode cX6_sheet 33 = .ok (.iload_n 3, 1) := by decide +kernel
theorem dX6_sheet_34 : decode cX6_sheet 34 = .ok (.bipush 40, 2) := by decide +kernel
theorem dX6_sheet_36 : decode cX6_sheet 36 = .ok (.if_icmp .le 9, 3) := by decide +kernel
theorem dX6_sheet_39 : decode cX6_sheet 39 = .ok (.aload_n 0, 1) := by decide +kernel
theorem dX6_sheet_40 : decode cX6_sheet 40 = .ok (.iconst 0, 1) := by decide +kernel
theorem dX6_sheet_41 : decode cX6_sheet 41 = .ok (.invokevirtual 71, 3) := by decide +kernel
theorem dX6_sheet_44 : decode cX6_sheet 44 = .ok (.ireturn, 1) := by decide +kernel
theorem dX6_sheet_45 : decode cX6_sheet 45 = .ok (.aload_n 0, 1) := by decide +kernel
theorem dX6_sheet_46 : decode cX6_sheet 46 = .ok (.getfield 58, 3) := by decide +kernel
theorem dX6_sheet_49 : decode cX6_sheet 49 = .ok (.iload_n 1, 1) := by decide +kernel
theorem dX6_sheet_50 : decode cX6_sheet 50 = .ok (.aaload, 1) := by decide +kernel
theorem dX6_sheet_51 : decode cX6_sheet 51 = .ok (.iload_n 2, 1) := by decide +kernel
theorem dX6_sheet_52 : decode cX6_sheet 52 = .ok (.iload_n 3, 1) := by decide +kernel
theorem dX6_sheet_53 : decode cX6_sheet 53 = .ok (.invokevirtual 262, 3) := by decide +kernel
theorem dX6_sheet_56 : decode cX6_sheet 56 = .ok (.aload_n 0, 1) := by decide +kernel
theorem dX6_sheet_57 : decode cX6_sheet 57 = .ok (.getfield 58, 3) := by decide +kernel
theorem dX6_sheet_60 : decode cX6_sheet 60 = .ok (.iload_n 1, 1) := by decide +kernel
theorem dX6_sheet_61 : decode cX6_sheet 61 = .ok (.aaload, 1) := by decide +kernel
theorem dX6_sheet_62 : decode cX6_sheet 62 = .ok (.getfield 264, 3) := by decide +kernel
theorem dX6_sheet_65 : decode cX6_sheet 65 = .ok (.ireturn, 1) := by decide +kernel
theorem dX6_write_0 : decode cX6_write 0 = .ok (.aload_n 0, 1) := by decide +kernel
theorem dX6_write_1 : decode cX6_write 1 = .ok (.iload_n 1, 1) := by decide +kernel
theorem dX6_write_2 : decode cX6_write 2 = .ok (.invokevirtual 265, 3) := by decide +kernel
theorem dX6_write_5 : decode cX6_write 5 = .ok (.istore 5, 2) := by decide +kernel
theorem dX6_write_7 : decode cX6_write 7 = .ok (.iload 5, 2) := by decide +kernel
theorem dX6_write_9 : decode cX6_write 9 = .ok (.ifCond .lt 11, 3) := by decide +kernel
theorem dX6_write_12 : decode cX6_write 12 = .ok (.aload_n 0, 1) := by decide +kernel
theorem dX6_write_13 : decode cX6_write 13 = .ok (.iload 5, 2) := by decide +kernel
theorem dX6_write_15 : decode cX6_write 15 = .ok (.invokevirtual 71, 3) := by decide +kernel
theorem dX6_write_18 : decode cX6_write 18 = .ok (.i2l, 1) := by decide +kernel
theorem dX6_write_19 : decode cX6_write 19 = .ok (.lreturn, 1) := by decide +kernel
theorem dX6_write_20 : decode cX6_write 20 = .ok (.iload_n 2, 1) := by decide +kernel
theorem dX6_write_21 : decode cX6_write 21 = .ok (.iconst 0, 1) := by decide +kernel
theorem dX6_write_22 : decode cX6_write 22 = .ok (.aload_n 0, 1) := by decide +kernel
theorem dX6_write_23 : decode cX6_write 23 = .ok (.getfield 58, 3) := by decide +kernel
theorem dX6_write_26 : decode cX6_write 26 = .ok (.iload_n 1, 1) := by decide +kernel
theorem dX6_write_27 : decode cX6_write 27 = .ok (.aaload, 1) := by decide +kernel
theorem dX6_write_28 : decode cX6_write 28 = .ok (.getfield 264, 3) := by decide +kernel
theorem dX6_write_31 : decode cX6_write 31 = .ok (.iconst 1, 1) := by decide +kernel
theorem dX6_write_32 : decode cX6_write 32 = .ok (.isub, 1) := by decide +kernel
theorem dX6_write_33 : decode cX6_write 33 = .ok (.invokestatic 67, 3) := by decide +kernel
theorem dX6_write_36 : decode cX6_write 36 = .ok (.ifCond .ne 10, 3) := by decide +kernel
theorem dX6_write_39 : decode cX6_write 39 = .ok (.aload_n 0, 1) := by decide +kernel
theorem dX6_write_40 : decode cX6_write 40 = .ok (.iconst 0, 1) := by decide +kernel
theorem dX6_write_41 : decode cX6_write 41 = .ok (.invokevirtual 71, 3) := by decide +kernel
theorem dX6_write_44 : decode cX6_write 44 = .ok (.i2l, 1) := by decide +kernel
theorem dX6_write_45 : decode cX6_write 45 = .ok (.lreturn, 1) := by decide +kernel
theorem dX6_write_46 : decode cX6_write 46 = .ok (.aload_n 0, 1) := by decide +kernel
theorem dX6_write_47 : decode cX6_write 47 = .ok (.getfield 58, 3) := by decide +kernel
theorem dX6_write_50 : decode cX6_write 50 = .ok (.iload_n 1, 1) := by decide +kernel
theorem dX6_write_51 : decode cX6_write 51 = .ok (.aaload, 1) := by decide +kernel
theorem dX6_write_52 : decode cX6_write 52 = .ok (.getfield 268, 3) := by decide +kernel
theorem dX6_write_55 : decode cX6_write 55 = .ok (.iload_n 2, 1) := by decide +kernel
theorem dX6_write_56 : decode cX6_write 56 = .ok (.laload, 1) := by decide +kernel
theorem dX6_write_57 : decode cX6_write 57 = .ok (.lstore 6, 2) := by decide +kernel
theorem dX6_write_59 : decode cX6_write 59 = .ok (.aload_n 0, 1) := by decide +kernel
theorem dX6_write_60 : decode cX6_write 60 = .ok (.getfield 58, 3) := by decide +kernel
theorem dX6_write_63 : decode cX6_write 63 = .ok (.iload_n 1, 1) := by decide +kernel
theorem dX6_write_64 : decode cX6_write 64 = .ok (.aaload, 1) := by decide +kernel
theorem dX6_write_65 : decode cX6_write 65 = .ok (.getfield 268, 3) := by decide +kernel
theorem dX6_write_68 : decode cX6_write 68 = .ok (.iload_n 2, 1) := by decide +kernel
theorem dX6_write_69 : decode cX6_write 69 = .ok (.aload_n 0, 1) := by decide +kernel
theorem dX6_write_70 : decode cX6_write 70 = .ok (.getfield 58, 3) := by decide +kernel
theorem dX6_write_73 : decode cX6_write 73 = .ok (.iload_n 1, 1) := by decide +kernel
theorem dX6_write_74 : decode cX6_write 74 = .ok (.aaload, 1) := by decide +kernel
theorem dX6_write_75 : decode cX6_write 75 = .ok (.lload_n 3, 1) := by decide +kernel
theorem dX6_write_76 : decode cX6_write 76 = .ok (.invokevirtual 272, 3) := by decide +kernel
theorem dX6_write_79 : decode cX6_write 79 = .ok (.lastore, 1) := by decide +kernel
theorem dX6_write_80 : decode cX6_write 80 = .ok (.lload 6, 2) := by decide +kernel
theorem dX6_write_82 : decode cX6_write 82 = .ok (.lreturn, 1) := by decide +kernel
theorem dX6_copy_0 : decode cX6_copy 0 = .ok (.iload_n 1, 1) := by decide +kernel
theorem dX6_copy_1 : decode cX6_copy 1 = .ok (.iconst 0, 1) := by decide +kernel
theorem dX6_copy_2 : decode cX6_copy 2 = .ok (.iconst 3, 1) := by decide +kernel
theorem dX6_copy_3 : decode cX6_copy 3 = .ok (.invokestatic 67, 3) := by decide +kernel
theorem dX6_copy_6 : decode cX6_copy 6 = .ok (.ifCond .eq 12, 3) := by decide +kernel
theorem dX6_copy_9 : decode cX6_copy 9 = .ok (.iload_n 3, 1) := by decide +kernel
theorem dX6_copy_10 : decode cX6_copy 10 = .ok (.iconst 0, 1) := by decide +kernel
theorem dX6_copy_11 : decode cX6_copy 11 = .ok (.iconst 3, 1) := by decide +kernel
theorem dX6_copy_12 : decode cX6_copy 12 = .ok (.invokestatic 67, 3) := by decide +kernel
theorem dX6_copy_15 : decode cX6_copy 15 = .ok (.ifCond .ne 9, 3) := by decide +kernel
theorem dX6_copy_18 : decode cX6_copy 18 = .ok (.aload_n 0, 1) := by decide +kernel
theorem dX6_copy_19 : decode cX6_copy 19 = .ok (.iconst 0, 1) := by decide +kernel
theorem dX6_copy_20 : decode cX6_copy 20 = .ok (.invokevirtual 71, 3) := by decide +kernel
theorem dX6_copy_23 : decode cX6_copy 23 = .ok (.ireturn, 1) := by decide +kernel
theorem dX6_copy_24 : decode cX6_copy 24 = .ok (.aload_n 0, 1) := by decide +kernel
theorem dX6_copy_25 : decode cX6_copy 25 = .ok (.getfield 58, 3) := by decide +kernel
theorem dX6_copy_28 : decode cX6_copy 28 = .ok (.iload_n 1, 1) := by decide +kernel
theorem dX6_copy_29 : decode cX6_copy 29 = .ok (.aaload, 1) := by decide +kernel
theorem dX6_copy_30 : decode cX6_copy 30 = .ok (.astore 6, 2) := by decide +kernel
theorem dX6_copy_32 : decode cX6_copy 32 = .ok (.aload_n 0, 1) := by decide +kernel
theorem dX6_copy_33 : decode cX6_copy 33 = .ok (.getfield 58, 3) := by decide +kernel
theorem dX6_copy_36 : decode cX6_copy 36 = .ok (.iload_n 3, 1) := by decide +kernel
theorem dX6_copy_37 : decode cX6_copy 37 = .ok (.aaload, 1) := by decide +kernel
theorem dX6_copy_38 : decode cX6_copy 38 = .ok (.astore 7, 2) := by decide +kernel
theorem dX6_copy_40 : decode cX6_copy 40 = .ok (.aload 6, 2) := by decide +kernel
theorem dX6_copy_42 : decode cX6_copy 42 = .ok (.invokevirtual 276, 3) := by decide +kernel
theorem dX6_copy_45 : decode cX6_copy 45 = .ok (.ifCond .ne 11, 3) := by decide +kernel
theorem dX6_copy_48 : decode cX6_copy 48 = .ok (.aload 7, 2) := by decide +kernel
theorem dX6_copy_50 : decode cX6_copy 50 = .ok (.invokevirtual 276, 3) := by decide +kernel
theorem dX6_copy_53 : decode cX6_copy 53 = .ok (.ifCond .eq 9, 3) := by decide +kernel
theorem dX6_copy_56 : decode cX6_copy 56 = .ok (.aload_n 0, 1) := by decide +kernel
theorem dX6_copy_57 : decode cX6_copy 57 = .ok (.iconst 5, 1) := by decide +kernel
theorem dX6_copy_58 : decode cX6_copy 58 = .ok (.invokevirtual 71, 3) := by decide +kernel
theorem dX6_copy_61 : decode cX6_copy 61 = .ok (.ireturn, 1) := by decide +kernel
theorem dX6_copy_62 : decode cX6_copy 62 = .ok (.aload 6, 2) := by decide +kernel
theorem dX6_copy_64 : decode cX6_copy 64 = .ok (.getfield 279, 3) := by decide +kernel
theorem dX6_copy_67 : decode cX6_copy 67 = .ok (.aload 7, 2) := by decide +kernel
theorem dX6_copy_69 : decode cX6_copy 69 = .ok (.getfield 279, 3) := by decide +kernel
theorem dX6_copy_72 : decode cX6_copy 72 = .ok (.if_icmp .eq 9, 3) := by decide +kernel
theorem dX6_copy_75 : decode cX6_copy 75 = .ok (.aload_n 0, 1) := by decide +kernel
theorem dX6_copy_76 : decode cX6_copy 76 = .ok (.iconst 2, 1) := by decide +kernel
theorem dX6_copy_77 : decode cX6_copy 77 = .ok (.invokevirtual 71, 3) := by decide +kernel
theorem dX6_copy_80 : decode cX6_copy 80 = .ok (.ireturn, 1) := by decide +kernel
theorem dX6_copy_81 : decode cX6_copy 81 = .ok (.aload 6, 2) := by decide +kernel
theorem dX6_copy_83 : decode cX6_copy 83 = .ok (.iload_n 2, 1) := by decide +kernel
theorem dX6_copy_84 : decode cX6_copy 84 = .ok (.iload 5, 2) := by decide +kernel
theorem dX6_copy_86 : decode cX6_copy 86 = .ok (.invokevirtual 282, 3) := by decide +kernel
theorem dX6_copy_89 : decode cX6_copy 89 = .ok (.ifCond .eq 15, 3) := by decide +kernel
theorem dX6_copy_92 : decode cX6_copy 92 = .ok (.aload 7, 2) := by decide +kernel
theorem dX6_copy_94 : decode cX6_copy 94 = .ok (.iload 4, 2) := by decide +kernel
theorem dX6_copy_96 : decode cX6_copy 96 = .ok (.iload 5, 2) := by decide +kernel
theorem dX6_copy_98 : decode cX6_copy 98 = .ok (.invokevirtual 282, 3) := by decide +kernel
theorem dX6_copy_101 : decode cX6_copy 101 = .ok (.ifCond .ne 9, 3) := by decide +kernel
theorem dX6_copy_104 : decode cX6_copy 104 = .ok (.aload_n 0, 1) := by decide +kernel
theorem dX6_copy_105 : decode cX6_copy 105 = .ok (.iconst 0, 1) := by decide +kernel
theorem dX6_copy_106 : decode cX6_copy 106 = .ok (.invokevirtual 71, 3) := by decide +kernel
theorem dX6_copy_109 : decode cX6_copy 109 = .ok (.ireturn, 1) := by decide +kernel
theorem dX6_copy_110 : decode cX6_copy 110 = .ok (.aload 6, 2) := by decide +kernel
theorem dX6_copy_112 : decode cX6_copy 112 = .ok (.getfield 268, 3) := by decide +kernel
theorem dX6_copy_115 : decode cX6_copy 115 = .ok (.iload_n 2, 1) := by decide +kernel
theorem dX6_copy_116 : decode cX6_copy 116 = .ok (.aload 7, 2) := by decide +kernel
theorem dX6_copy_118 : decode cX6_copy 118 = .ok (.getfield 268, 3) := by decide +kernel
theorem dX6_copy_121 : decode cX6_copy 121 = .ok (.iload 4, 2) := by decide +kernel
theorem dX6_copy_123 : decode cX6_copy 123 = .ok (.iload 5, 2) := by decide +kernel
theorem dX6_copy_125 : decode cX6_copy 125 = .ok (.invokestatic 285, 3) := by decide +kernel
theorem dX6_copy_128 : decode cX6_copy 128 = .ok (.iload 5, 2) := by decide +kernel
theorem dX6_copy_130 : decode cX6_copy 130 = .ok (.ireturn, 1) := by decide +kernel
theorem dX6_lays_0 : decode cX6_lays 0 = .ok (.aload_n 0, 1) := by decide +kernel
theorem dX6_lays_1 : decode cX6_lays 1 = .ok (.iload_n 1, 1) := by decide +kernel
theorem dX6_lays_2 : decode cX6_lays 2 = .ok (.invokevirtual 265, 3) := by decide +kernel
theorem dX6_lays_5 : decode cX6_lays 5 = .ok (.istore_n 3, 1) := by decide +kernel
theorem dX6_lays_6 : decode cX6_lays 6 = .ok (.iload_n 3, 1) := by decide +kernel
theorem dX6_lays_7 : decode cX6_lays 7 = .ok (.ifCond .lt 9, 3) := by decide +kernel
theorem dX6_lays_10 : decode cX6_lays 10 = .ok (.aload_n 0, 1) := by decide +kernel
theorem dX6_lays_11 : decode cX6_lays 11 = .ok (.iload_n 3, 1) := by decide +kernel
theorem dX6_lays_12 : decode cX6_lays 12 = .ok (.invokevirtual 71, 3) := by decide +kernel
theorem dX6_lays_15 : decode cX6_lays 15 = .ok (.ireturn, 1) := by decide +kernel
theorem dX6_lays_16 : decode cX6_lays 16 = .ok (.aload_n 0, 1) := by decide +kernel
theorem dX6_lays_17 : decode cX6_lays 17 = .ok (.getfield 10, 3) := by decide +kernel
theorem dX6_lays_20 : decode cX6_lays 20 = .ok (.iload_n 2, 1) := by decide +kernel
theorem dX6_lays_21 : decode cX6_lays 21 = .ok (.invokevirtual 218, 3) := by decide +kernel
theorem dX6_lays_24 : decode cX6_lays 24 = .ok (.ifCond .ne 9, 3) := by decide +kernel
theorem dX6_lays_27 : decode cX6_lays 27 = .ok (.aload_n 0, 1) := by decide +kernel
theorem dX6_lays_28 : decode cX6_lays 28 = .ok (.iconst 0, 1) := by decide +kernel
theorem dX6_lays_29 : decode cX6_lays 29 = .ok (.invokevirtual 71, 3) := by decide +kernel
theorem dX6_lays_32 : decode cX6_lays 32 = .ok (.ireturn, 1) := by decide +kernel
theorem dX6_lays_33 : decode cX6_lays 33 = .ok (.aload_n 0, 1) := by decide +kernel
theorem dX6_lays_34 : decode cX6_lays 34 = .ok (.getfield 58, 3) := by decide +kernel
theorem dX6_lays_37 : decode cX6_lays 37 = .ok (.iload_n 1, 1) := by decide +kernel
theorem dX6_lays_38 : decode cX6_lays 38 = .ok (.aaload, 1) := by decide +kernel
theorem dX6_lays_39 : decode cX6_lays 39 = .ok (.astore 4, 2) := by decide +kernel
theorem dX6_lays_41 : decode cX6_lays 41 = .ok (.iconst 0, 1) := by decide +kernel
theorem dX6_lays_42 : decode cX6_lays 42 = .ok (.istore 5, 2) := by decide +kernel
theorem dX6_lays_44 : decode cX6_lays 44 = .ok (.iconst 0, 1) := by decide +kernel
theorem dX6_lays_45 : decode cX6_lays 45 = .ok (.istore 6, 2) := by decide +kernel
theorem dX6_lays_47 : decode cX6_lays 47 = .ok (.iload 6, 2) := by decide +kernel
theorem dX6_lays_49 : decode cX6_lays 49 = .ok (.bipush 12, 2) := by decide +kernel
theorem dX6_lays_51 : decode cX6_lays 51 = .ok (.if_icmp .ge 66, 3) := by decide +kernel
theorem dX6_lays_54 : decode cX6_lays 54 = .ok (.iload 6, 2) := by decide +kernel
theorem dX6_lays_56 : decode cX6_lays 56 = .ok (.aload 4, 2) := by decide +kernel
theorem dX6_lays_58 : decode cX6_lays 58 = .ok (.getfield 264, 3) := by decide +kernel
theorem dX6_lays_61 : decode cX6_lays 61 = .ok (.if_icmp .ge 56, 3) := by decide +kernel
theorem dX6_lays_64 : decode cX6_lays 64 = .ok (.aload 4, 2) := by decide +kernel
theorem dX6_lays_66 : decode cX6_lays 66 = .ok (.getfield 268, 3) := by decide +kernel
theorem dX6_lays_69 : decode cX6_lays 69 = .ok (.iload 6, 2) := by decide +kernel
theorem dX6_lays_71 : decode cX6_lays 71 = .ok (.laload, 1) := by decide +kernel
theorem dX6_lays_72 : decode cX6_lays 72 = .ok (.lstore 7, 2) := by decide +kernel
theorem dX6_lays_74 : decode cX6_lays 74 = .ok (.lload 7, 2) := by decide +kernel
theorem dX6_lays_76 : decode cX6_lays 76 = .ok (.lconst 0, 1) := by decide +kernel
theorem dX6_lays_77 : decode cX6_lays 77 = .ok (.lcmp, 1) := by decide +kernel
theorem dX6_lays_78 : decode cX6_lays 78 = .ok (.ifCond .lt 33, 3) := by decide +kernel
theorem dX6_lays_81 : decode cX6_lays 81 = .ok (.lload 7, 2) := by decide +kernel
theorem dX6_lays_83 : decode cX6_lays 83 = .ok (.ldc2_w 291, 3) := by decide +kernel
theorem dX6_lays_86 : decode cX6_lays 86 = .ok (.lcmp, 1) := by decide +kernel
theorem dX6_lays_87 : decode cX6_lays 87 = .ok (.ifCond .gt 24, 3) := by decide +kernel
theorem dX6_lays_90 : decode cX6_lays 90 = .ok (.aload_n 0, 1) := by decide +kernel
theorem dX6_lays_91 : decode cX6_lays 91 = .ok (.getfield 10, 3) := by decide +kernel
theorem dX6_lays_94 : decode cX6_lays 94 = .ok (.getfield 221, 3) := by decide +kernel
theorem dX6_lays_97 : decode cX6_lays 97 = .ok (.iload_n 2, 1) := by decide +kernel
theorem dX6_lays_98 : decode cX6_lays 98 = .ok (.bipush 12, 2) := by decide +kernel
theorem dX6_lays_100 : decode cX6_lays 100 = .ok (.imul, 1) := by decide +kernel
theorem dX6_lays_101 : decode cX6_lays 101 = .ok (.iload 6, 2) := by decide +kernel
theorem dX6_lays_103 : decode cX6_lays 103 = .ok (.iadd, 1) := by decide +kernel
theorem dX6_lays_104 : decode cX6_lays 104 = .ok (.lload 7, 2) := by decide +kernel
theorem dX6_lays_106 : decode cX6_lays 106 = .ok (.l2i, 1) := by decide +kernel
theorem dX6_lays_107 : decode cX6_lays 107 = .ok (.iastore, 1) := by decide +kernel
theorem dX6_lays_108 : decode cX6_lays 108 = .ok (.iinc 5 1, 3) := by decide +kernel
theorem dX6_lays_111 : decode cX6_lays 111 = .ok (.iinc 6 1, 3) := by decide +kernel
theorem dX6_lays_114 : decode cX6_lays 114 = .ok (.goto (-67), 3) := by decide +kernel
theorem dX6_lays_117 : decode cX6_lays 117 = .ok (.iload 5, 2) := by decide +kernel
theorem dX6_lays_119 : decode cX6_lays 119 = .ok (.ireturn, 1) := by decide +kernel
theorem dX6_costs_0 : decode cX6_costs 0 = .ok (.aload_n 0, 1) := by decide +kernel
theorem dX6_costs_1 : decode cX6_costs 1 = .ok (.iload_n 1, 1) := by decide +kernel
theorem dX6_costs_2 : decode cX6_costs 2 = .ok (.invokevirtual 265, 3) := by decide +kernel
theorem dX6_costs_5 : decode cX6_costs 5 = .ok (.istore_n 3, 1) := by decide +kernel
theorem dX6_costs_6 : decode cX6_costs 6 = .ok (.iload_n 3, 1) := by decide +kernel
theorem dX6_costs_7 : decode cX6_costs 7 = .ok (.ifCond .lt 9, 3) := by decide +kernel
theorem dX6_costs_10 : decode cX6_costs 10 = .ok (.aload_n 0, 1) := by decide +kernel
theorem dX6_costs_11 : decode cX6_costs 11 = .ok (.iload_n 3, 1) := by decide +kernel
theorem dX6_costs_12 : decode cX6_costs 12 = .ok (.invokevirtual 71, 3) := by decide +kernel
theorem dX6_costs_15 : decode cX6_costs 15 = .ok (.ireturn, 1) := by decide +kernel
theorem dX6_costs_16 : decode cX6_costs 16 = .ok (.iload_n 2, 1) := by decide +kernel
theorem dX6_costs_17 : decode cX6_costs 17 = .ok (.iconst 0, 1) := by decide +kernel
theorem dX6_costs_18 : decode cX6_costs 18 = .ok (.bipush 11, 2) := by decide +kernel
theorem dX6_costs_20 : decode cX6_costs 20 = .ok (.invokestatic 67, 3) := by decide +kernel
theorem dX6_costs_23 : decode cX6_costs 23 = .ok (.ifCond .ne 9, 3) := by decide +kernel
theorem dX6_costs_26 : decode cX6_costs 26 = .ok (.aload_n 0, 1) := by decide +kernel
theorem dX6_costs_27 : decode cX6_costs 27 = .ok (.iconst 0, 1) := by decide +kernel
theorem dX6_costs_28 : decode cX6_costs 28 = .ok (.invokevirtual 71, 3) := by decide +kernel
theorem dX6_costs_31 : decode cX6_costs 31 = .ok (.ireturn, 1) := by decide +kernel
theorem dX6_costs_32 : decode cX6_costs 32 = .ok (.aload_n 0, 1) := by decide +kernel
theorem dX6_costs_33 : decode cX6_costs 33 = .ok (.getfield 58, 3) := by decide +kernel
theorem dX6_costs_36 : decode cX6_costs 36 = .ok (.iload_n 1, 1) := by decide +kernel
theorem dX6_costs_37 : decode cX6_costs 37 = .ok (.aaload, 1) := by decide +kernel
theorem dX6_costs_38 : decode cX6_costs 38 = .ok (.astore 4, 2) := by decide +kernel
theorem dX6_costs_40 : decode cX6_costs 40 = .ok (.iconst 0, 1) := by decide +kernel
theorem dX6_costs_41 : decode cX6_costs 41 = .ok (.istore 5, 2) := by decide +kernel
theorem dX6_costs_43 : decode cX6_costs 43 = .ok (.iload 5, 2) := by decide +kernel
theorem dX6_costs_45 : decode cX6_costs 45 = .ok (.aload 4, 2) := by decide +kernel
theorem dX6_costs_47 : decode cX6_costs 47 = .ok (.getfield 264, 3) := by decide +kernel
theorem dX6_costs_50 : decode cX6_costs 50 = .ok (.if_icmp .ge 48, 3) := by decide +kernel
theorem dX6_costs_53 : decode cX6_costs 53 = .ok (.aload 4, 2) := by decide +kernel
theorem dX6_costs_55 : decode cX6_costs 55 = .ok (.getfield 268, 3) := by decide +kernel
theorem dX6_costs_58 : decode cX6_costs 58 = .ok (.iload 5, 2) := by decide +kernel
theorem dX6_costs_60 : decode cX6_costs 60 = .ok (.laload, 1) := by decide +kernel
theorem dX6_costs_61 : decode cX6_costs 61 = .ok (.lconst 0, 1) := by decide +kernel
theorem dX6_costs_62 : decode cX6_costs 62 = .ok (.lcmp, 1) := by decide +kernel
theorem dX6_costs_63 : decode cX6_costs 63 = .ok (.ifCond .lt 23, 3) := by decide +kernel
theorem dX6_costs_66 : decode cX6_costs 66 = .ok (.aload 4, 2) := by decide +kernel
theorem dX6_costs_68 : decode cX6_costs 68 = .ok (.getfield 268, 3) := by decide +kernel
theorem dX6_costs_71 : decode cX6_costs 71 = .ok (.iload 5, 2) := by decide +kernel
theorem dX6_costs_73 : decode cX6_costs 73 = .ok (.laload, 1) := by decide +kernel
theorem dX6_costs_74 : decode cX6_costs 74 = .ok (.aload_n 0, 1) := by decide +kernel
theorem dX6_costs_75 : decode cX6_costs 75 = .ok (.getfield 10, 3) := by decide +kernel
theorem dX6_costs_78 : decode cX6_costs 78 = .ok (.getfield 212, 3) := by decide +kernel
theorem dX6_costs_81 : decode cX6_costs 81 = .ok (.i2l, 1) := by decide +kernel
theorem dX6_costs_82 : decode cX6_costs 82 = .ok (.lcmp, 1) := by decide +kernel
theorem dX6_costs_83 : decode cX6_costs 83 = .ok (.ifCond .lt 9, 3) := by decide +kernel
theorem dX6_costs_86 : decode cX6_costs 86 = .ok (.aload_n 0, 1) := by decide +kernel
theorem dX6_costs_87 : decode cX6_costs 87 = .ok (.iconst 2, 1) := by decide +kernel
theorem dX6_costs_88 : decode cX6_costs 88 = .ok (.invokevirtual 71, 3) := by decide +kernel
theorem dX6_costs_91 : decode cX6_costs 91 = .ok (.ireturn, 1) := by decide +kernel
theorem dX6_costs_92 : decode cX6_costs 92 = .ok (.iinc 5 1, 3) := by decide +kernel
theorem dX6_costs_95 : decode cX6_costs 95 = .ok (.goto (-52), 3) := by decide +kernel
theorem dX6_costs_98 : decode cX6_costs 98 = .ok (.aload_n 0, 1) := by decide +kernel
theorem dX6_costs_99 : decode cX6_costs 99 = .ok (.getfield 10, 3) := by decide +kernel
theorem dX6_costs_102 : decode cX6_costs 102 = .ok (.aload 4, 2) := by decide +kernel
theorem dX6_costs_104 : decode cX6_costs 104 = .ok (.iload_n 2, 1) := by decide +kernel
theorem dX6_costs_105 : decode cX6_costs 105 = .ok (.invokevirtual 293, 3) := by decide +kernel
theorem dX6_costs_108 : decode cX6_costs 108 = .ok (.ireturn, 1) := by decide +kernel
theorem dX6_read_0 : decode cX6_read 0 = .ok (.aload_n 0, 1) := by decide +kernel
theorem dX6_read_1 : decode cX6_read 1 = .ok (.iload_n 1, 1) := by decide +kernel
theorem dX6_read_2 : decode cX6_read 2 = .ok (.invokevirtual 265, 3) := by decide +kernel
theorem dX6_read_5 : decode cX6_read 5 = .ok (.istore_n 2, 1) := by decide +kernel
theorem dX6_read_6 : decode cX6_read 6 = .ok (.iload_n 2, 1) := by decide +kernel
theorem dX6_read_7 : decode cX6_read 7 = .ok (.ifCond .lt 9, 3) := by decide +kernel
theorem dX6_read_10 : decode cX6_read 10 = .ok (.aload_n 0, 1) := by decide +kernel
theorem dX6_read_11 : decode cX6_read 11 = .ok (.iload_n 2, 1) := by decide +kernel
theorem dX6_read_12 : decode cX6_read 12 = .ok (.invokevirtual 71, 3) := by decide +kernel
theorem dX6_read_15 : decode cX6_read 15 = .ok (.ireturn, 1) := by decide +kernel
theorem dX6_read_16 : decode cX6_read 16 = .ok (.aload_n 0, 1) := by decide +kernel
theorem dX6_read_17 : decode cX6_read 17 = .ok (.getfield 58, 3) := by decide +kernel
theorem dX6_read_20 : decode cX6_read 20 = .ok (.iload_n 1, 1) := by decide +kernel
theorem dX6_read_21 : decode cX6_read 21 = .ok (.aaload, 1) := by decide +kernel
theorem dX6_read_22 : decode cX6_read 22 = .ok (.astore_n 3, 1) := by decide +kernel
theorem dX6_read_23 : decode cX6_read 23 = .ok (.aload_n 0, 1) := by decide +kernel
theorem dX6_read_24 : decode cX6_read 24 = .ok (.getfield 31, 3) := by decide +kernel
theorem dX6_read_27 : decode cX6_read 27 = .ok (.invokevirtual 87, 3) := by decide +kernel
theorem dX6_read_30 : decode cX6_read 30 = .ok (.aload_n 0, 1) := by decide +kernel
theorem dX6_read_31 : decode cX6_read 31 = .ok (.getfield 31, 3) := by decide +kernel
theorem dX6_read_34 : decode cX6_read 34 = .ok (.invokevirtual 144, 3) := by decide +kernel
theorem dX6_read_37 : decode cX6_read 37 = .ok (.iconst 0, 1) := by decide +kernel
theorem dX6_read_38 : decode cX6_read 38 = .ok (.istore 4, 2) := by decide +kernel
theorem dX6_read_40 : decode cX6_read 40 = .ok (.iload 4, 2) := by decide +kernel
theorem dX6_read_42 : decode cX6_read 42 = .ok (.aload_n 3, 1) := by decide +kernel
theorem dX6_read_43 : decode cX6_read 43 = .ok (.getfield 264, 3) := by decide +kernel
theorem dX6_read_46 : decode cX6_read 46 = .ok (.if_icmp .ge 42, 3) := by decide +kernel
theorem dX6_read_49 : decode cX6_read 49 = .ok (.iload 4, 2) := by decide +kernel
theorem dX6_read_51 : decode cX6_read 51 = .ok (.bipush 8, 2) := by decide +kernel
theorem dX6_read_53 : decode cX6_read 53 = .ok (.if_icmp .ge 24, 3) := by decide +kernel
theorem dX6_read_56 : decode cX6_read 56 = .ok (.aload_n 3, 1) := by decide +kernel
theorem dX6_read_57 : decode cX6_read 57 = .ok (.getfield 268, 3) := by decide +kernel
theorem dX6_read_60 : decode cX6_read 60 = .ok (.iload 4, 2) := by decide +kernel
theorem dX6_read_62 : decode cX6_read 62 = .ok (.laload, 1) := by decide +kernel
theorem dX6_read_63 : decode cX6_read 63 = .ok (.aload_n 0, 1) := by decide +kernel
theorem dX6_read_64 : decode cX6_read 64 = .ok (.getfield 31, 3) := by decide +kernel
theorem dX6_read_67 : decode cX6_read 67 = .ok (.iload 4, 2) := by decide +kernel
theorem dX6_read_69 : decode cX6_read 69 = .ok (.invokevirtual 153, 3) := by decide +kernel
theorem dX6_read_72 : decode cX6_read 72 = .ok (.i2l, 1) := by decide +kernel
theorem dX6_read_73 : decode cX6_read 73 = .ok (.lcmp, 1) := by decide +kernel
theorem dX6_read_74 : decode cX6_read 74 = .ok (.ifCond .eq 8, 3) := by decide +kernel
theorem dX6_read_77 : decode cX6_read 77 = .ok (.iconst 1, 1) := by decide +kernel
theorem dX6_read_78 : decode cX6_read 78 = .ok (.iload 4, 2) := by decide +kernel
theorem dX6_read_80 : decode cX6_read 80 = .ok (.iadd, 1) := by decide +kernel
theorem dX6_read_81 : decode cX6_read 81 = .ok (.ireturn, 1) := by decide +kernel
theorem dX6_read_82 : decode cX6_read 82 = .ok (.iinc 4 1, 3) := by decide +kernel
theorem dX6_read_85 : decode cX6_read 85 = .ok (.goto (-45), 3) := by decide +kernel
theorem dX6_read_88 : decode cX6_read 88 = .ok (.iconst 0, 1) := by decide +kernel
theorem dX6_read_89 : decode cX6_read 89 = .ok (.ireturn, 1) := by decide +kernel
theorem dX6_image_0 : decode cX6_image 0 = .ok (.aload_n 0, 1) := by decide +kernel
theorem dX6_image_1 : decode cX6_image 1 = .ok (.getfield 16, 3) := by decide +kernel
theorem dX6_image_4 : decode cX6_image 4 = .ok (.aload_n 0, 1) := by decide +kernel
theorem dX6_image_5 : decode cX6_image 5 = .ok (.getfield 10, 3) := by decide +kernel
theorem dX6_image_8 : decode cX6_image 8 = .ok (.invokevirtual 252, 3) := by decide +kernel
theorem dX6_image_11 : decode cX6_image 11 = .ok (.aload_n 0, 1) := by decide +kernel
theorem dX6_image_12 : decode cX6_image 12 = .ok (.iconst 1, 1) := by decide +kernel
theorem dX6_image_13 : decode cX6_image 13 = .ok (.putfield 22, 3) := by decide +kernel
theorem dX6_image_16 : decode cX6_image 16 = .ok (.iconst 1, 1) := by decide +kernel
theorem dX6_image_17 : decode cX6_image 17 = .ok (.ireturn, 1) := by decide +kernel
theorem dX6_undo_0 : decode cX6_undo 0 = .ok (.aload_n 0, 1) := by decide +kernel
theorem dX6_undo_1 : decode cX6_undo 1 = .ok (.getfield 22, 3) := by decide +kernel
theorem dX6_undo_4 : decode cX6_undo 4 = .ok (.ifCond .ne 9, 3) := by decide +kernel
theorem dX6_undo_7 : decode cX6_undo 7 = .ok (.aload_n 0, 1) := by decide +kernel
theorem dX6_undo_8 : decode cX6_undo 8 = .ok (.iconst 3, 1) := by decide +kernel
theorem dX6_undo_9 : decode cX6_undo 9 = .ok (.invokevirtual 71, 3) := by decide +kernel
theorem dX6_undo_12 : decode cX6_undo 12 = .ok (.ireturn, 1) := by decide +kernel
theorem dX6_undo_13 : decode cX6_undo 13 = .ok (.aload_n 0, 1) := by decide +kernel
theorem dX6_undo_14 : decode cX6_undo 14 = .ok (.getfield 10, 3) := by decide +kernel
theorem dX6_undo_17 : decode cX6_undo 17 = .ok (.aload_n 0, 1) := by decide +kernel
theorem dX6_undo_18 : decode cX6_undo 18 = .ok (.getfield 16, 3) := by decide +kernel
theorem dX6_undo_21 : decode cX6_undo 21 = .ok (.invokevirtual 252, 3) := by decide +kernel
theorem dX6_undo_24 : decode cX6_undo 24 = .ok (.aload_n 0, 1) := by decide +kernel
theorem dX6_undo_25 : decode cX6_undo 25 = .ok (.getfield 10, 3) := by decide +kernel
theorem dX6_undo_28 : decode cX6_undo 28 = .ok (.getfield 75, 3) := by decide +kernel
theorem dX6_undo_31 : decode cX6_undo 31 = .ok (.ireturn, 1) := by decide +kernel
theorem dX6_tear_0 : decode cX6_tear 0 = .ok (.aload_n 0, 1) := by decide +kernel
theorem dX6_tear_1 : decode cX6_tear 1 = .ok (.getfield 22, 3) := by decide +kernel
theorem dX6_tear_4 : decode cX6_tear 4 = .ok (.ifCond .eq 7, 3) := by decide +kernel
theorem dX6_tear_7 : decode cX6_tear 7 = .ok (.iconst 1, 1) := by decide +kernel
theorem dX6_tear_8 : decode cX6_tear 8 = .ok (.goto 4, 3) := by decide +kernel
theorem dX6_tear_11 : decode cX6_tear 11 = .ok (.iconst 0, 1) := by decide +kernel
theorem dX6_tear_12 : decode cX6_tear 12 = .ok (.istore_n 1, 1) := by decide +kernel
theorem dX6_tear_13 : decode cX6_tear 13 = .ok (.aload_n 0, 1) := by decide +kernel
theorem dX6_tear_14 : decode cX6_tear 14 = .ok (.iconst 0, 1) := by decide +kernel
theorem dX6_tear_15 : decode cX6_tear 15 = .ok (.putfield 22, 3) := by decide +kernel
theorem dX6_tear_18 : decode cX6_tear 18 = .ok (.iload_n 1, 1) := by decide +kernel
theorem dX6_tear_19 : decode cX6_tear 19 = .ok (.ireturn, 1) := by decide +kernel
theorem dX6_count_0 : decode cX6_count 0 = .ok (.iload_n 1, 1) := by decide +kernel
theorem dX6_count_1 : decode cX6_count 1 = .ok (.tableswitch 102 0 6 #[43, 51, 62, 70, 78, 86, 94], 43) := by decide +kernel
theorem dX6_count_44 : decode cX6_count 44 = .ok (.aload_n 0, 1) := by decide +kernel
theorem dX6_count_45 : decode cX6_count 45 = .ok (.getfield 10, 3) := by decide +kernel
theorem dX6_count_48 : decode cX6_count 48 = .ok (.getfield 75, 3) := by decide +kernel
theorem dX6_count_51 : decode cX6_count 51 = .ok (.ireturn, 1) := by decide +kernel
theorem dX6_count_52 : decode cX6_count 52 = .ok (.aload_n 0, 1) := by decide +kernel
theorem dX6_count_53 : decode cX6_count 53 = .ok (.getfield 10, 3) := by decide +kernel
theorem dX6_count_56 : decode cX6_count 56 = .ok (.getfield 124, 3) := by decide +kernel
theorem dX6_count_59 : decode cX6_count 59 = .ok (.invokestatic 191, 3) := by decide +kernel
theorem dX6_count_62 : decode cX6_count 62 = .ok (.ireturn, 1) := by decide +kernel
theorem dX6_count_63 : decode cX6_count 63 = .ok (.aload_n 0, 1) := by decide +kernel
theorem dX6_count_64 : decode cX6_count 64 = .ok (.getfield 10, 3) := by decide +kernel
theorem dX6_count_67 : decode cX6_count 67 = .ok (.getfield 179, 3) := by decide +kernel
theorem dX6_count_70 : decode cX6_count 70 = .ok (.ireturn, 1) := by decide +kernel
theorem dX6_count_71 : decode cX6_count 71 = .ok (.aload_n 0, 1) := by decide +kernel
theorem dX6_count_72 : decode cX6_count 72 = .ok (.getfield 10, 3) := by decide +kernel
theorem dX6_count_75 : decode cX6_count 75 = .ok (.getfield 212, 3) := by decide +kernel
theorem dX6_count_78 : decode cX6_count 78 = .ok (.ireturn, 1) := by decide +kernel
theorem dX6_count_79 : decode cX6_count 79 = .ok (.aload_n 0, 1) := by decide +kernel
theorem dX6_count_80 : decode cX6_count 80 = .ok (.getfield 52, 3) := by decide +kernel
theorem dX6_count_83 : decode cX6_count 83 = .ok (.getfield 246, 3) := by decide +kernel
theorem dX6_count_86 : decode cX6_count 86 = .ok (.ireturn, 1) := by decide +kernel
theorem dX6_count_87 : decode cX6_count 87 = .ok (.aload_n 0, 1) := by decide +kernel
theorem dX6_count_88 : decode cX6_count 88 = .ok (.getfield 10, 3) := by decide +kernel
theorem dX6_count_91 : decode cX6_count 91 = .ok (.invokevirtual 297, 3) := by decide +kernel
theorem dX6_count_94 : decode cX6_count 94 = .ok (.ireturn, 1) := by decide +kernel
theorem dX6_count_95 : decode cX6_count 95 = .ok (.aload_n 0, 1) := by decide +kernel
theorem dX6_count_96 : decode cX6_count 96 = .ok (.getfield 10, 3) := by decide +kernel
theorem dX6_count_99 : decode cX6_count 99 = .ok (.getfield 137, 3) := by decide +kernel
theorem dX6_count_102 : decode cX6_count 102 = .ok (.ireturn, 1) := by decide +kernel
theorem dX6_count_103 : decode cX6_count 103 = .ok (.aload_n 0, 1) := by decide +kernel
theorem dX6_count_104 : decode cX6_count 104 = .ok (.iconst 0, 1) := by decide +kernel
theorem dX6_count_105 : decode cX6_count 105 = .ok (.invokevirtual 71, 3) := by decide +kernel
theorem dX6_count_108 : decode cX6_count 108 = .ok (.ireturn, 1) := by decide +kernel
theorem dX6_status_0 : decode cX6_status 0 = .ok (.iload_n 1, 1) := by decide +kernel
theorem dX6_status_1 : decode cX6_status 1 = .ok (.iconst (-1), 1) := by decide +kernel
theorem dX6_status_2 : decode cX6_status 2 = .ok (.bipush 6, 2) := by decide +kernel
theorem dX6_status_4 : decode cX6_status 4 = .ok (.invokestatic 67, 3) := by decide +kernel
theorem dX6_status_7 : decode cX6_status 7 = .ok (.ifCond .ne 9, 3) := by decide +kernel
theorem dX6_status_10 : decode cX6_status 10 = .ok (.aload_n 0, 1) := by decide +kernel
theorem dX6_status_11 : decode cX6_status 11 = .ok (.iconst 0, 1) := by decide +kernel
theorem dX6_status_12 : decode cX6_status 12 = .ok (.invokevirtual 71, 3) := by decide +kernel
theorem dX6_status_15 : decode cX6_status 15 = .ok (.ireturn, 1) := by decide +kernel
theorem dX6_status_16 : decode cX6_status 16 = .ok (.iload_n 1, 1) := by decide +kernel
theorem dX6_status_17 : decode cX6_status 17 = .ok (.ifCond .lt 10, 3) := by decide +kernel
theorem dX6_status_20 : decode cX6_status 20 = .ok (.aload_n 0, 1) := by decide +kernel
theorem dX6_status_21 : decode cX6_status 21 = .ok (.getfield 63, 3) := by decide +kernel
theorem dX6_status_24 : decode cX6_status 24 = .ok (.iload_n 1, 1) := by decide +kernel
theorem dX6_status_25 : decode cX6_status 25 = .ok (.iaload, 1) := by decide +kernel
theorem dX6_status_26 : decode cX6_status 26 = .ok (.ireturn, 1) := by decide +kernel
theorem dX6_status_27 : decode cX6_status 27 = .ok (.iconst 0, 1) := by decide +kernel
theorem dX6_status_28 : decode cX6_status 28 = .ok (.istore_n 2, 1) := by decide +kernel
theorem dX6_status_29 : decode cX6_status 29 = .ok (.iconst 0, 1) := by decide +kernel
theorem dX6_status_30 : decode cX6_status 30 = .ok (.istore_n 3, 1) := by decide +kernel
theorem dX6_status_31 : decode cX6_status 31 = .ok (.iload_n 3, 1) := by decide +kernel
theorem dX6_status_32 : decode cX6_status 32 = .ok (.bipush 7, 2) := by decide +kernel
theorem dX6_status_34 : decode cX6_status 34 = .ok (.if_icmp .ge 18, 3) := by decide +kernel
theorem dX6_status_37 : decode cX6_status 37 = .ok (.iload_n 2, 1) := by decide +kernel
theorem dX6_status_38 : decode cX6_status 38 = .ok (.aload_n 0, 1) := by decide +kernel
theorem dX6_status_39 : decode cX6_status 39 = .ok (.getfield 63, 3) := by decide +kernel
theorem dX6_status_42 : decode cX6_status 42 = .ok (.iload_n 3, 1) := by decide +kernel
theorem dX6_status_43 : decode cX6_status 43 = .ok (.iaload, 1) := by decide +kernel
theorem dX6_status_44 : decode cX6_status 44 = .ok (.iadd, 1) := by decide +kernel
theorem dX6_status_45 : decode cX6_status 45 = .ok (.istore_n 2, 1) := by decide +kernel
theorem dX6_status_46 : decode cX6_status 46 = .ok (.iinc 3 1, 3) := by decide +kernel
theorem dX6_status_49 : decode cX6_status 49 = .ok (.goto (-18), 3) := by decide +kernel
theorem dX6_status_52 : decode cX6_status 52 = .ok (.iload_n 2, 1) := by decide +kernel
theorem dX6_status_53 : decode cX6_status 53 = .ok (.ireturn, 1) := by decide +kernel
theorem dX6_finding_0 : decode cX6_finding 0 = .ok (.aload_n 0, 1) := by decide +kernel
theorem dX6_finding_1 : decode cX6_finding 1 = .ok (.getfield 63, 3) := by decide +kernel
theorem dX6_finding_4 : decode cX6_finding 4 = .ok (.iload_n 1, 1) := by decide +kernel
theorem dX6_finding_5 : decode cX6_finding 5 = .ok (.dup2, 1) := by decide +kernel
theorem dX6_finding_6 : decode cX6_finding 6 = .ok (.iaload, 1) := by decide +kernel
theorem dX6_finding_7 : decode cX6_finding 7 = .ok (.iconst 1, 1) := by decide +kernel
theorem dX6_finding_8 : decode cX6_finding 8 = .ok (.iadd, 1) := by decide +kernel
theorem dX6_finding_9 : decode cX6_finding 9 = .ok (.iastore, 1) := by decide +kernel
theorem dX6_finding_10 : decode cX6_finding 10 = .ok (.ldc_w 300, 3) := by decide +kernel
theorem dX6_finding_13 : decode cX6_finding 13 = .ok (.iload_n 1, 1) := by decide +kernel
theorem dX6_finding_14 : decode cX6_finding 14 = .ok (.isub, 1) := by decide +kernel
theorem dX6_finding_15 : decode cX6_finding 15 = .ok (.ireturn, 1) := by decide +kernel
theorem dX6_within_0 : decode cX6_within 0 = .ok (.iload_n 0, 1) := by decide +kernel
theorem dX6_within_1 : decode cX6_within 1 = .ok (.iload_n 1, 1) := by decide +kernel
theorem dX6_within_2 : decode cX6_within 2 = .ok (.if_icmp .lt 12, 3) := by decide +kernel
theorem dX6_within_5 : decode cX6_within 5 = .ok (.iload_n 0, 1) := by decide +kernel
theorem dX6_within_6 : decode cX6_within 6 = .ok (.iload_n 2, 1) := by decide +kernel
theorem dX6_within_7 : decode cX6_within 7 = .ok (.if_icmp .gt 7, 3) := by decide +kernel
theorem dX6_within_10 : decode cX6_within 10 = .ok (.iconst 1, 1) := by decide +kernel
theorem dX6_within_11 : decode cX6_within 11 = .ok (.goto 4, 3) := by decide +kernel
theorem dX6_within_14 : decode cX6_within 14 = .ok (.iconst 0, 1) := by decide +kernel
theorem dX6_within_15 : decode cX6_within 15 = .ok (.ireturn, 1) := by decide +kernel
theorem dX6_put_0 : decode cX6_put 0 = .ok (.aload_n 0, 1) := by decide +kernel
theorem dX6_put_1 : decode cX6_put 1 = .ok (.iload_n 1, 1) := by decide +kernel
theorem dX6_put_2 : decode cX6_put 2 = .ok (.iaload, 1) := by decide +kernel
theorem dX6_put_3 : decode cX6_put 3 = .ok (.istore_n 3, 1) := by decide +kernel
theorem dX6_put_4 : decode cX6_put 4 = .ok (.aload_n 0, 1) := by decide +kernel
theorem dX6_put_5 : decode cX6_put 5 = .ok (.iload_n 1, 1) := by decide +kernel
theorem dX6_put_6 : decode cX6_put 6 = .ok (.iload_n 2, 1) := by decide +kernel
theorem dX6_put_7 : decode cX6_put 7 = .ok (.iastore, 1) := by decide +kernel
theorem dX6_put_8 : decode cX6_put 8 = .ok (.iload_n 3, 1) := by decide +kernel
theorem dX6_put_9 : decode cX6_put 9 = .ok (.ireturn, 1) := by decide +kernel
theorem dX6_isOfKind_0 : decode cX6_isOfKind 0 = .ok (.iload_n 0, 1) := by decide +kernel
theorem dX6_isOfKind_1 : decode cX6_isOfKind 1 = .ok (.istore_n 2, 1) := by decide +kernel
theorem dX6_isOfKind_2 : decode cX6_isOfKind 2 = .ok (.iconst 0, 1) := by decide +kernel
theorem dX6_isOfKind_3 : decode cX6_isOfKind 3 = .ok (.istore_n 3, 1) := by decide +kernel
theorem dX6_isOfKind_4 : decode cX6_isOfKind 4 = .ok (.iload_n 3, 1) := by decide +kernel
theorem dX6_isOfKind_5 : decode cX6_isOfKind 5 = .ok (.iconst 3, 1) := by decide +kernel
theorem dX6_isOfKind_6 : decode cX6_isOfKind 6 = .ok (.if_icmp .ge 22, 3) := by decide +kernel
theorem dX6_isOfKind_9 : decode cX6_isOfKind 9 = .ok (.iload_n 2, 1) := by decide +kernel
theorem dX6_isOfKind_10 : decode cX6_isOfKind 10 = .ok (.iload_n 1, 1) := by decide +kernel
theorem dX6_isOfKind_11 : decode cX6_isOfKind 11 = .ok (.if_icmp .ne 5, 3) := by decide +kernel
theorem dX6_isOfKind_14 : decode cX6_isOfKind 14 = .ok (.iconst 1, 1) := by decide +kernel
theorem dX6_isOfKind_15 : decode cX6_isOfKind 15 = .ok (.ireturn, 1) := by decide +kernel
theorem dX6_isOfKind_16 : decode cX6_isOfKind 16 = .ok (.getstatic 301, 3) := by decide +kernel
theorem dX6_isOfKind_19 : decode cX6_isOfKind 19 = .ok (.iload_n 2, 1) := by decide +kernel
theorem dX6_isOfKind_20 : decode cX6_isOfKind 20 = .ok (.iaload, 1) := by decide +kernel
theorem dX6_isOfKind_21 : decode cX6_isOfKind 21 = .ok (.istore_n 2, 1) := by decide +kernel
theorem dX6_isOfKind_22 : decode cX6_isOfKind 22 = .ok (.iinc 3 1, 3) := by decide +kernel
theorem dX6_isOfKind_25 : decode cX6_isOfKind 25 = .ok (.goto (-21), 3) := by decide +kernel
theorem dX6_isOfKind_28 : decode cX6_isOfKind 28 = .ok (.iconst 0, 1) := by decide +kernel
theorem dX6_isOfKind_29 : decode cX6_isOfKind 29 = .ok (.ireturn, 1) := by decide +kernel
theorem dX6_isWidth_0 : decode cX6_isWidth 0 = .ok (.iload_n 0, 1) := by decide +kernel
theorem dX6_isWidth_1 : decode cX6_isWidth 1 = .ok (.ifCond .eq 21, 3) := by decide +kernel
theorem dX6_isWidth_4 : decode cX6_isWidth 4 = .ok (.iload_n 0, 1) := by decide +kernel
theorem dX6_isWidth_5 : decode cX6_isWidth 5 = .ok (.bipush 8, 2) := by decide +kernel
theorem dX6_isWidth_7 : decode cX6_isWidth 7 = .ok (.if_icmp .eq 15, 3) := by decide +kernel
theorem dX6_isWidth_10 : decode cX6_isWidth 10 = .ok (.iload_n 0, 1) := by decide +kernel
theorem dX6_isWidth_11 : decode cX6_isWidth 11 = .ok (.bipush 16, 2) := by decide +kernel
theorem dX6_isWidth_13 : decode cX6_isWidth 13 = .ok (.if_icmp .eq 9, 3) := by decide +kernel
theorem dX6_isWidth_16 : decode cX6_isWidth 16 = .ok (.iload_n 0, 1) := by decide +kernel
theorem dX6_isWidth_17 : decode cX6_isWidth 17 = .ok (.bipush 64, 2) := by decide +kernel
theorem dX6_isWidth_19 : decode cX6_isWidth 19 = .ok (.if_icmp .ne 7, 3) := by decide +kernel
theorem dX6_isWidth_22 : decode cX6_isWidth 22 = .ok (.iconst 1, 1) := by decide +kernel
theorem dX6_isWidth_23 : decode cX6_isWidth 23 = .ok (.goto 4, 3) := by decide +kernel
theorem dX6_isWidth_26 : decode cX6_isWidth 26 = .ok (.iconst 0, 1) := by decide +kernel
theorem dX6_isWidth_27 : decode cX6_isWidth 27 = .ok (.ireturn, 1) := by decide +kernel
theorem dX6_sheetTrouble_0 : decode cX6_sheetTrouble 0 = .ok (.iload_n 1, 1) := by decide +kernel
theorem dX6_sheetTrouble_1 : decode cX6_sheetTrouble 1 = .ok (.iconst 0, 1) := by decide +kernel
theorem dX6_sheetTrouble_2 : decode cX6_sheetTrouble 2 = .ok (.iconst 3, 1) := by decide +kernel
theorem dX6_sheetTrouble_3 : decode cX6_sheetTrouble 3 = .ok (.invokestatic 67, 3) := by decide +kernel
theorem dX6_sheetTrouble_6 : decode cX6_sheetTrouble 6 = .ok (.ifCond .ne 5, 3) := by decide +kernel
theorem dX6_sheetTrouble_9 : decode cX6_sheetTrouble 9 = .ok (.iconst 0, 1) := by decide +kernel
theorem dX6_sheetTrouble_10 : decode cX6_sheetTrouble 10 = .ok (.ireturn, 1) := by decide +kernel
theorem dX6_sheetTrouble_11 : decode cX6_sheetTrouble 11 = .ok (.aload_n 0, 1) := by decide +kernel
theorem dX6_sheetTrouble_12 : decode cX6_sheetTrouble 12 = .ok (.getfield 58, 3) := by decide +kernel
theorem dX6_sheetTrouble_15 : decode cX6_sheetTrouble 15 = .ok (.iload_n 1, 1) := by decide +kernel
theorem dX6_sheetTrouble_16 : decode cX6_sheetTrouble 16 = .ok (.aaload, 1) := by decide +kernel
theorem dX6_sheetTrouble_17 : decode cX6_sheetTrouble 17 = .ok (.invokevirtual 276, 3) := by decide +kernel
theorem dX6_sheetTrouble_20 : decode cX6_sheetTrouble 20 = .ok (.ifCond .eq 7, 3) := by decide +kernel
theorem dX6_sheetTrouble_23 : decode cX6_sheetTrouble 23 = .ok (.iconst 5, 1) := by decide +kernel
theorem dX6_sheetTrouble_24 : decode cX6_sheetTrouble 24 = .ok (.goto 4, 3) := by decide +kernel
theorem dX6_sheetTrouble_27 : decode cX6_sheetTrouble 27 = .ok (.iconst (-1), 1) := by decide +kernel
theorem dX6_sheetTrouble_28 : decode cX6_sheetTrouble 28 = .ok (.ireturn, 1) := by decide +kernel
