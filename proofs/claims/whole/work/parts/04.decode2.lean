theorem dX10_note_125 : decode cX10_note 125 = .ok (.aload_n 0, 1) := by decide +kernel
theorem dX10_note_126 : decode cX10_note 126 = .ok (.getfield 23, 3) := by decide +kernel
theorem dX10_note_129 : decode cX10_note 129 = .ok (.iload 4, 2) := by decide +kernel
theorem dX10_note_131 : decode cX10_note 131 = .ok (.aload_n 0, 1) := by decide +kernel
theorem dX10_note_132 : decode cX10_note 132 = .ok (.getfield 23, 3) := by decide +kernel
theorem dX10_note_135 : decode cX10_note 135 = .ok (.iload 4, 2) := by decide +kernel
theorem dX10_note_137 : decode cX10_note 137 = .ok (.invokevirtual 39, 3) := by decide +kernel
theorem dX10_note_140 : decode cX10_note 140 = .ok (.iload_n 3, 1) := by decide +kernel
theorem dX10_note_141 : decode cX10_note 141 = .ok (.ior, 1) := by decide +kernel
theorem dX10_note_142 : decode cX10_note 142 = .ok (.invokevirtual 62, 3) := by decide +kernel
theorem dX10_note_145 : decode cX10_note 145 = .ok (.return_, 1) := by decide +kernel
theorem dX10_indexOf_0 : decode cX10_indexOf 0 = .ok (.iconst 0, 1) := by decide +kernel
theorem dX10_indexOf_1 : decode cX10_indexOf 1 = .ok (.istore_n 3, 1) := by decide +kernel
theorem dX10_indexOf_2 : decode cX10_indexOf 2 = .ok (.iload_n 3, 1) := by decide +kernel
theorem dX10_indexOf_3 : decode cX10_indexOf 3 = .ok (.aload_n 0, 1) := by decide +kernel
theorem dX10_indexOf_4 : decode cX10_indexOf 4 = .ok (.getfield 27, 3) := by decide +kernel
theorem dX10_indexOf_7 : decode cX10_indexOf 7 = .ok (.if_icmp .ge 24, 3) := by decide +kernel
theorem dX10_indexOf_10 : decode cX10_indexOf 10 = .ok (.aload_n 0, 1) := by decide +kernel
theorem dX10_indexOf_11 : decode cX10_indexOf 11 = .ok (.getfield 14, 3) := by decide +kernel
theorem dX10_indexOf_14 : decode cX10_indexOf 14 = .ok (.iload_n 3, 1) := by decide +kernel
theorem dX10_indexOf_15 : decode cX10_indexOf 15 = .ok (.invokevirtual 46, 3) := by decide +kernel
theorem dX10_indexOf_18 : decode cX10_indexOf 18 = .ok (.lload_n 1, 1) := by decide +kernel
theorem dX10_indexOf_19 : decode cX10_indexOf 19 = .ok (.lcmp, 1) := by decide +kernel
theorem dX10_indexOf_20 : decode cX10_indexOf 20 = .ok (.ifCond .ne 5, 3) := by decide +kernel
theorem dX10_indexOf_23 : decode cX10_indexOf 23 = .ok (.iload_n 3, 1) := by decide +kernel
theorem dX10_indexOf_24 : decode cX10_indexOf 24 = .ok (.ireturn, 1) := by decide +kernel
theorem dX10_indexOf_25 : decode cX10_indexOf 25 = .ok (.iinc 3 1, 3) := by decide +kernel
theorem dX10_indexOf_28 : decode cX10_indexOf 28 = .ok (.goto (-26), 3) := by decide +kernel
theorem dX10_indexOf_31 : decode cX10_indexOf 31 = .ok (.iconst (-1), 1) := by decide +kernel
theorem dX10_indexOf_32 : decode cX10_indexOf 32 = .ok (.ireturn, 1) := by decide +kernel
theorem dX11_init_0 : decode cX11_init 0 = .ok (.aload_n 0, 1) := by decide +kernel
theorem dX11_init_1 : decode cX11_init 1 = .ok (.invokespecial 3, 3) := by decide +kernel
theorem dX11_init_4 : decode cX11_init 4 = .ok (.aload_n 0, 1) := by decide +kernel
theorem dX11_init_5 : decode cX11_init 5 = .ok (.new 9, 3) := by decide +kernel
theorem dX11_init_8 : decode cX11_init 8 = .ok (.dup, 1) := by decide +kernel
theorem dX11_init_9 : decode cX11_init 9 = .ok (.sipush 1100, 3) := by decide +kernel
theorem dX11_init_12 : decode cX11_init 12 = .ok (.invokespecial 11, 3) := by decide +kernel
theorem dX11_init_15 : decode cX11_init 15 = .ok (.putfield 14, 3) := by decide +kernel
theorem dX11_init_18 : decode cX11_init 18 = .ok (.aload_n 0, 1) := by decide +kernel
theorem dX11_init_19 : decode cX11_init 19 = .ok (.new 9, 3) := by decide +kernel
theorem dX11_init_22 : decode cX11_init 22 = .ok (.dup, 1) := by decide +kernel
theorem dX11_init_23 : decode cX11_init 23 = .ok (.sipush 14400, 3) := by decide +kernel
theorem dX11_init_26 : decode cX11_init 26 = .ok (.invokespecial 11, 3) := by decide +kernel
theorem dX11_init_29 : decode cX11_init 29 = .ok (.putfield 18, 3) := by decide +kernel
theorem dX11_init_32 : decode cX11_init 32 = .ok (.aload_n 0, 1) := by decide +kernel
theorem dX11_init_33 : decode cX11_init 33 = .ok (.new 21, 3) := by decide +kernel
theorem dX11_init_36 : decode cX11_init 36 = .ok (.dup, 1) := by decide +kernel
theorem dX11_init_37 : decode cX11_init 37 = .ok (.invokespecial 23, 3) := by decide +kernel
theorem dX11_init_40 : decode cX11_init 40 = .ok (.putfield 24, 3) := by decide +kernel
theorem dX11_init_43 : decode cX11_init 43 = .ok (.aload_n 0, 1) := by decide +kernel
theorem dX11_init_44 : decode cX11_init 44 = .ok (.iconst 0, 1) := by decide +kernel
theorem dX11_init_45 : decode cX11_init 45 = .ok (.putfield 28, 3) := by decide +kernel
theorem dX11_init_48 : decode cX11_init 48 = .ok (.aload_n 0, 1) := by decide +kernel
theorem dX11_init_49 : decode cX11_init 49 = .ok (.iconst (-1), 1) := by decide +kernel
theorem dX11_init_50 : decode cX11_init 50 = .ok (.putfield 32, 3) := by decide +kernel
theorem dX11_init_53 : decode cX11_init 53 = .ok (.aload_n 0, 1) := by decide +kernel
theorem dX11_init_54 : decode cX11_init 54 = .ok (.new 35, 3) := by decide +kernel
theorem dX11_init_57 : decode cX11_init 57 = .ok (.dup, 1) := by decide +kernel
theorem dX11_init_58 : decode cX11_init 58 = .ok (.invokespecial 37, 3) := by decide +kernel
theorem dX11_init_61 : decode cX11_init 61 = .ok (.putfield 38, 3) := by decide +kernel
theorem dX11_init_64 : decode cX11_init 64 = .ok (.aload_n 0, 1) := by decide +kernel
theorem dX11_init_65 : decode cX11_init 65 = .ok (.bipush 6, 2) := by decide +kernel
theorem dX11_init_67 : decode cX11_init 67 = .ok (.anewarray 35, 3) := by decide +kernel
theorem dX11_init_70 : decode cX11_init 70 = .ok (.putfield 42, 3) := by decide +kernel
theorem dX11_init_73 : decode cX11_init 73 = .ok (.aload_n 0, 1) := by decide +kernel
theorem dX11_init_74 : decode cX11_init 74 = .ok (.iconst 0, 1) := by decide +kernel
theorem dX11_init_75 : decode cX11_init 75 = .ok (.putfield 46, 3) := by decide +kernel
theorem dX11_init_78 : decode cX11_init 78 = .ok (.aload_n 0, 1) := by decide +kernel
theorem dX11_init_79 : decode cX11_init 79 = .ok (.iconst 0, 1) := by decide +kernel
theorem dX11_init_80 : decode cX11_init 80 = .ok (.putfield 49, 3) := by decide +kernel
theorem dX11_init_83 : decode cX11_init 83 = .ok (.aload_n 0, 1) := by decide +kernel
theorem dX11_init_84 : decode cX11_init 84 = .ok (.new 52, 3) := by decide +kernel
theorem dX11_init_87 : decode cX11_init 87 = .ok (.dup, 1) := by decide +kernel
theorem dX11_init_88 : decode cX11_init 88 = .ok (.invokespecial 54, 3) := by decide +kernel
theorem dX11_init_91 : decode cX11_init 91 = .ok (.putfield 55, 3) := by decide +kernel
theorem dX11_init_94 : decode cX11_init 94 = .ok (.aload_n 0, 1) := by decide +kernel
theorem dX11_init_95 : decode cX11_init 95 = .ok (.new 59, 3) := by decide +kernel
theorem dX11_init_98 : decode cX11_init 98 = .ok (.dup, 1) := by decide +kernel
theorem dX11_init_99 : decode cX11_init 99 = .ok (.invokespecial 61, 3) := by decide +kernel
theorem dX11_init_102 : decode cX11_init 102 = .ok (.putfield 62, 3) := by decide +kernel
theorem dX11_init_105 : decode cX11_init 105 = .ok (.aload_n 0, 1) := by decide +kernel
theorem dX11_init_106 : decode cX11_init 106 = .ok (.new 66, 3) := by decide +kernel
theorem dX11_init_109 : decode cX11_init 109 = .ok (.dup, 1) := by decide +kernel
theorem dX11_init_110 : decode cX11_init 110 = .ok (.invokespecial 68, 3) := by decide +kernel
theorem dX11_init_113 : decode cX11_init 113 = .ok (.putfield 69, 3) := by decide +kernel
theorem dX11_init_116 : decode cX11_init 116 = .ok (.aload_n 0, 1) := by decide +kernel
theorem dX11_init_117 : decode cX11_init 117 = .ok (.new 52, 3) := by decide +kernel
theorem dX11_init_120 : decode cX11_init 120 = .ok (.dup, 1) := by decide +kernel
theorem dX11_init_121 : decode cX11_init 121 = .ok (.invokespecial 54, 3) := by decide +kernel
theorem dX11_init_124 : decode cX11_init 124 = .ok (.putfield 73, 3) := by decide +kernel
theorem dX11_init_127 : decode cX11_init 127 = .ok (.aload_n 0, 1) := by decide +kernel
theorem dX11_init_128 : decode cX11_init 128 = .ok (.new 9, 3) := by decide +kernel
theorem dX11_init_131 : decode cX11_init 131 = .ok (.dup, 1) := by decide +kernel
theorem dX11_init_132 : decode cX11_init 132 = .ok (.sipush 600, 3) := by decide +kernel
theorem dX11_init_135 : decode cX11_init 135 = .ok (.invokespecial 11, 3) := by decide +kernel
theorem dX11_init_138 : decode cX11_init 138 = .ok (.putfield 76, 3) := by decide +kernel
theorem dX11_init_141 : decode cX11_init 141 = .ok (.aload_n 0, 1) := by decide +kernel
theorem dX11_init_142 : decode cX11_init 142 = .ok (.new 9, 3) := by decide +kernel
theorem dX11_init_145 : decode cX11_init 145 = .ok (.dup, 1) := by decide +kernel
theorem dX11_init_146 : decode cX11_init 146 = .ok (.sipush 600, 3) := by decide +kernel
theorem dX11_init_149 : decode cX11_init 149 = .ok (.invokespecial 11, 3) := by decide +kernel
theorem dX11_init_152 : decode cX11_init 152 = .ok (.putfield 79, 3) := by decide +kernel
theorem dX11_init_155 : decode cX11_init 155 = .ok (.iconst 0, 1) := by decide +kernel
theorem dX11_init_156 : decode cX11_init 156 = .ok (.istore_n 1, 1) := by decide +kernel
theorem dX11_init_157 : decode cX11_init 157 = .ok (.iload_n 1, 1) := by decide +kernel
theorem dX11_init_158 : decode cX11_init 158 = .ok (.aload_n 0, 1) := by decide +kernel
theorem dX11_init_159 : decode cX11_init 159 = .ok (.getfield 42, 3) := by decide +kernel
theorem dX11_init_162 : decode cX11_init 162 = .ok (.arraylength, 1) := by decide +kernel
theorem dX11_init_163 : decode cX11_init 163 = .ok (.if_icmp .ge 22, 3) := by decide +kernel
theorem dX11_init_166 : decode cX11_init 166 = .ok (.aload_n 0, 1) := by decide +kernel
theorem dX11_init_167 : decode cX11_init 167 = .ok (.getfield 42, 3) := by decide +kernel
theorem dX11_init_170 : decode cX11_init 170 = .ok (.iload_n 1, 1) := by decide +kernel
theorem dX11_init_171 : decode cX11_init 171 = .ok (.new 35, 3) := by decide +kernel
theorem dX11_init_174 : decode cX11_init 174 = .ok (.dup, 1) := by decide +kernel
theorem dX11_init_175 : decode cX11_init 175 = .ok (.invokespecial 37, 3) := by decide +kernel
theorem dX11_init_178 : decode cX11_init 178 = .ok (.aastore, 1) := by decide +kernel
theorem dX11_init_179 : decode cX11_init 179 = .ok (.iinc 1 1, 3) := by decide +kernel
theorem dX11_init_182 : decode cX11_init 182 = .ok (.goto (-25), 3) := by decide +kernel
theorem dX11_init_185 : decode cX11_init 185 = .ok (.aload_n 0, 1) := by decide +kernel
theorem dX11_init_186 : decode cX11_init 186 = .ok (.getfield 55, 3) := by decide +kernel
theorem dX11_init_189 : decode cX11_init 189 = .ok (.aload_n 0, 1) := by decide +kernel
theorem dX11_init_190 : decode cX11_init 190 = .ok (.getfield 38, 3) := by decide +kernel
theorem dX11_init_193 : decode cX11_init 193 = .ok (.getfield 82, 3) := by decide +kernel
theorem dX11_init_196 : decode cX11_init 196 = .ok (.invokevirtual 85, 3) := by decide +kernel
theorem dX11_init_199 : decode cX11_init 199 = .ok (.return_, 1) := by decide +kernel
theorem dX11_append_0 : decode cX11_append 0 = .ok (.aload_n 0, 1) := by decide +kernel
theorem dX11_append_1 : decode cX11_append 1 = .ok (.getfield 14, 3) := by decide +kernel
theorem dX11_append_4 : decode cX11_append 4 = .ok (.invokevirtual 89, 3) := by decide +kernel
theorem dX11_append_7 : decode cX11_append 7 = .ok (.bipush 20, 2) := by decide +kernel
theorem dX11_append_9 : decode cX11_append 9 = .ok (.iadd, 1) := by decide +kernel
theorem dX11_append_10 : decode cX11_append 10 = .ok (.sipush 1100, 3) := by decide +kernel
theorem dX11_append_13 : decode cX11_append 13 = .ok (.if_icmp .le 13, 3) := by decide +kernel
theorem dX11_append_16 : decode cX11_append 16 = .ok (.new 93, 3) := by decide +kernel
theorem dX11_append_19 : decode cX11_append 19 = .ok (.dup, 1) := by decide +kernel
theorem dX11_append_20 : decode cX11_append 20 = .ok (.ldc 95, 2) := by decide +kernel
theorem dX11_append_22 : decode cX11_append 22 = .ok (.invokespecial 97, 3) := by decide +kernel
theorem dX11_append_25 : decode cX11_append 25 = .ok (.athrow, 1) := by decide +kernel
theorem dX11_append_26 : decode cX11_append 26 = .ok (.aload_n 0, 1) := by decide +kernel
theorem dX11_append_27 : decode cX11_append 27 = .ok (.getfield 14, 3) := by decide +kernel
theorem dX11_append_30 : decode cX11_append 30 = .ok (.iload_n 1, 1) := by decide +kernel
theorem dX11_append_31 : decode cX11_append 31 = .ok (.invokevirtual 100, 3) := by decide +kernel
theorem dX11_append_34 : decode cX11_append 34 = .ok (.aload_n 0, 1) := by decide +kernel
theorem dX11_append_35 : decode cX11_append 35 = .ok (.getfield 14, 3) := by decide +kernel
theorem dX11_append_38 : decode cX11_append 38 = .ok (.iload_n 2, 1) := by decide +kernel
theorem dX11_append_39 : decode cX11_append 39 = .ok (.invokevirtual 100, 3) := by decide +kernel
theorem dX11_append_42 : decode cX11_append 42 = .ok (.aload_n 0, 1) := by decide +kernel
theorem dX11_append_43 : decode cX11_append 43 = .ok (.getfield 14, 3) := by decide +kernel
theorem dX11_append_46 : decode cX11_append 46 = .ok (.iload_n 3, 1) := by decide +kernel
theorem dX11_append_47 : decode cX11_append 47 = .ok (.invokevirtual 100, 3) := by decide +kernel
theorem dX11_append_50 : decode cX11_append 50 = .ok (.aload_n 0, 1) := by decide +kernel
theorem dX11_append_51 : decode cX11_append 51 = .ok (.getfield 14, 3) := by decide +kernel
theorem dX11_append_54 : decode cX11_append 54 = .ok (.iload 4, 2) := by decide +kernel
theorem dX11_append_56 : decode cX11_append 56 = .ok (.invokevirtual 100, 3) := by decide +kernel
theorem dX11_append_59 : decode cX11_append 59 = .ok (.aload_n 0, 1) := by decide +kernel
theorem dX11_append_60 : decode cX11_append 60 = .ok (.getfield 14, 3) := by decide +kernel
theorem dX11_append_63 : decode cX11_append 63 = .ok (.iload 5, 2) := by decide +kernel
theorem dX11_append_65 : decode cX11_append 65 = .ok (.invokevirtual 100, 3) := by decide +kernel
theorem dX11_append_68 : decode cX11_append 68 = .ok (.aload_n 0, 1) := by decide +kernel
theorem dX11_append_69 : decode cX11_append 69 = .ok (.getfield 14, 3) := by decide +kernel
theorem dX11_append_72 : decode cX11_append 72 = .ok (.invokevirtual 89, 3) := by decide +kernel
theorem dX11_append_75 : decode cX11_append 75 = .ok (.ireturn, 1) := by decide +kernel
theorem dX11_truncate_0 : decode cX11_truncate 0 = .ok (.iload_n 1, 1) := by decide +kernel
theorem dX11_truncate_1 : decode cX11_truncate 1 = .ok (.ifCond .lt 14, 3) := by decide +kernel
theorem dX11_truncate_4 : decode cX11_truncate 4 = .ok (.iload_n 1, 1) := by decide +kernel
theorem dX11_truncate_5 : decode cX11_truncate 5 = .ok (.aload_n 0, 1) := by decide +kernel
theorem dX11_truncate_6 : decode cX11_truncate 6 = .ok (.getfield 14, 3) := by decide +kernel
theorem dX11_truncate_9 : decode cX11_truncate 9 = .ok (.invokevirtual 89, 3) := by decide +kernel
theorem dX11_truncate_12 : decode cX11_truncate 12 = .ok (.if_icmp .le 13, 3) := by decide +kernel
theorem dX11_truncate_15 : decode cX11_truncate 15 = .ok (.new 103, 3) := by decide +kernel
theorem dX11_truncate_18 : decode cX11_truncate 18 = .ok (.dup, 1) := by decide +kernel
theorem dX11_truncate_19 : decode cX11_truncate 19 = .ok (.ldc 105, 2) := by decide +kernel
theorem dX11_truncate_21 : decode cX11_truncate 21 = .ok (.invokespecial 107, 3) := by decide +kernel
theorem dX11_truncate_24 : decode cX11_truncate 24 = .ok (.athrow, 1) := by decide +kernel
theorem dX11_truncate_25 : decode cX11_truncate 25 = .ok (.aload_n 0, 1) := by decide +kernel
theorem dX11_truncate_26 : decode cX11_truncate 26 = .ok (.getfield 14, 3) := by decide +kernel
theorem dX11_truncate_29 : decode cX11_truncate 29 = .ok (.iload_n 1, 1) := by decide +kernel
theorem dX11_truncate_30 : decode cX11_truncate 30 = .ok (.invokevirtual 108, 3) := by decide +kernel
theorem dX11_truncate_33 : decode cX11_truncate 33 = .ok (.return_, 1) := by decide +kernel
theorem dX11_load_0 : decode cX11_load 0 = .ok (.aload_n 0, 1) := by decide +kernel
theorem dX11_load_1 : decode cX11_load 1 = .ok (.getfield 24, 3) := by decide +kernel
theorem dX11_load_4 : decode cX11_load 4 = .ok (.aload_n 0, 1) := by decide +kernel
theorem dX11_load_5 : decode cX11_load 5 = .ok (.getfield 14, 3) := by decide +kernel
theorem dX11_load_8 : decode cX11_load 8 = .ok (.aload_n 0, 1) := by decide +kernel
theorem dX11_load_9 : decode cX11_load 9 = .ok (.getfield 69, 3) := by decide +kernel
theorem dX11_load_12 : decode cX11_load 12 = .ok (.invokevirtual 111, 3) := by decide +kernel
theorem dX11_load_15 : decode cX11_load 15 = .ok (.istore_n 1, 1) := by decide +kernel
theorem dX11_load_16 : decode cX11_load 16 = .ok (.aload_n 0, 1) := by decide +kernel
theorem dX11_load_17 : decode cX11_load 17 = .ok (.getfield 14, 3) := by decide +kernel
theorem dX11_load_20 : decode cX11_load 20 = .ok (.iconst 0, 1) := by decide +kernel
theorem dX11_load_21 : decode cX11_load 21 = .ok (.invokevirtual 108, 3) := by decide +kernel
theorem dX11_load_24 : decode cX11_load 24 = .ok (.aload_n 0, 1) := by decide +kernel
theorem dX11_load_25 : decode cX11_load 25 = .ok (.aload_n 0, 1) := by decide +kernel
theorem dX11_load_26 : decode cX11_load 26 = .ok (.getfield 24, 3) := by decide +kernel
theorem dX11_load_29 : decode cX11_load 29 = .ok (.getfield 115, 3) := by decide +kernel
theorem dX11_load_32 : decode cX11_load 32 = .ok (.putfield 28, 3) := by decide +kernel
theorem dX11_load_35 : decode cX11_load 35 = .ok (.aload_n 0, 1) := by decide +kernel
theorem dX11_load_36 : decode cX11_load 36 = .ok (.aload_n 0, 1) := by decide +kernel
theorem dX11_load_37 : decode cX11_load 37 = .ok (.getfield 24, 3) := by decide +kernel
theorem dX11_load_40 : decode cX11_load 40 = .ok (.getfield 118, 3) := by decide +kernel
theorem dX11_load_43 : decode cX11_load 43 = .ok (.putfield 32, 3) := by decide +kernel
theorem dX11_load_46 : decode cX11_load 46 = .ok (.iload_n 1, 1) := by decide +kernel
theorem dX11_load_47 : decode cX11_load 47 = .ok (.ifCond .ne 6, 3) := by decide +kernel
theorem dX11_load_50 : decode cX11_load 50 = .ok (.bipush (-4), 2) := by decide +kernel
theorem dX11_load_52 : decode cX11_load 52 = .ok (.ireturn, 1) := by decide +kernel
theorem dX11_load_53 : decode cX11_load 53 = .ok (.aload_n 0, 1) := by decide +kernel
theorem dX11_load_54 : decode cX11_load 54 = .ok (.invokevirtual 121, 3) := by decide +kernel
theorem dX11_load_57 : decode cX11_load 57 = .ok (.aload_n 0, 1) := by decide +kernel
theorem dX11_load_58 : decode cX11_load 58 = .ok (.getfield 38, 3) := by decide +kernel
theorem dX11_load_61 : decode cX11_load 61 = .ok (.getfield 82, 3) := by decide +kernel
theorem dX11_load_64 : decode cX11_load 64 = .ok (.aload_n 0, 1) := by decide +kernel
theorem dX11_load_65 : decode cX11_load 65 = .ok (.getfield 69, 3) := by decide +kernel
theorem dX11_load_68 : decode cX11_load 68 = .ok (.invokevirtual 124, 3) := by decide +kernel
theorem dX11_load_71 : decode cX11_load 71 = .ok (.aload_n 0, 1) := by decide +kernel
theorem dX11_load_72 : decode cX11_load 72 = .ok (.getfield 38, 3) := by decide +kernel
theorem dX11_load_75 : decode cX11_load 75 = .ok (.iconst 0, 1) := by decide +kernel
theorem dX11_load_76 : decode cX11_load 76 = .ok (.putfield 127, 3) := by decide +kernel
theorem dX11_load_79 : decode cX11_load 79 = .ok (.aload_n 0, 1) := by decide +kernel
theorem dX11_load_80 : decode cX11_load 80 = .ok (.getfield 55, 3) := by decide +kernel
theorem dX11_load_83 : decode cX11_load 83 = .ok (.aload_n 0, 1) := by decide +kernel
theorem dX11_load_84 : decode cX11_load 84 = .ok (.getfield 38, 3) := by decide +kernel
theorem dX11_load_87 : decode cX11_load 87 = .ok (.getfield 82, 3) := by decide +kernel
theorem dX11_load_90 : decode cX11_load 90 = .ok (.invokevirtual 85, 3) := by decide +kernel
theorem dX11_load_93 : decode cX11_load 93 = .ok (.aload_n 0, 1) := by decide +kernel
theorem dX11_load_94 : decode cX11_load 94 = .ok (.getfield 38, 3) := by decide +kernel
theorem dX11_load_97 : decode cX11_load 97 = .ok (.getfield 82, 3) := by decide +kernel
theorem dX11_load_100 : decode cX11_load 100 = .ok (.getfield 131, 3) := by decide +kernel
theorem dX11_load_103 : decode cX11_load 103 = .ok (.ireturn, 1) := by decide +kernel
theorem dX11_errorCode_0 : decode cX11_errorCode 0 = .ok (.aload_n 0, 1) := by decide +kernel
theorem dX11_errorCode_1 : decode cX11_errorCode 1 = .ok (.getfield 28, 3) := by decide +kernel
theorem dX11_errorCode_4 : decode cX11_errorCode 4 = .ok (.ireturn, 1) := by decide +kernel
theorem dX11_errorPosition_0 : decode cX11_errorPosition 0 = .ok (.aload_n 0, 1) := by decide +kernel
theorem dX11_errorPosition_1 : decode cX11_errorPosition 1 = .ok (.getfield 32, 3) := by decide +kernel
theorem dX11_errorPosition_4 : decode cX11_errorPosition 4 = .ok (.ireturn, 1) := by decide +kernel
theorem dX11_count_0 : decode cX11_count 0 = .ok (.iload_n 1, 1) := by decide +kernel
theorem dX11_count_1 : decode cX11_count 1 = .ok (.tableswitch 132 0 7 #[47, 58, 69, 80, 88, 99, 110, 121], 47) := by decide +kernel
theorem dX11_count_48 : decode cX11_count 48 = .ok (.aload_n 0, 1) := by decide +kernel
theorem dX11_count_49 : decode cX11_count 49 = .ok (.getfield 38, 3) := by decide +kernel
theorem dX11_count_52 : decode cX11_count 52 = .ok (.getfield 82, 3) := by decide +kernel
theorem dX11_count_55 : decode cX11_count 55 = .ok (.getfield 131, 3) := by decide +kernel
theorem dX11_count_58 : decode cX11_count 58 = .ok (.ireturn, 1) := by decide +kernel
theorem dX11_count_59 : decode cX11_count 59 = .ok (.aload_n 0, 1) := by decide +kernel
theorem dX11_count_60 : decode cX11_count 60 = .ok (.getfield 38, 3) := by decide +kernel
theorem dX11_count_63 : decode cX11_count 63 = .ok (.getfield 82, 3) := by decide +kernel
theorem dX11_count_66 : decode cX11_count 66 = .ok (.getfield 134, 3) := by decide +kernel
theorem dX11_count_69 : decode cX11_count 69 = .ok (.ireturn, 1) := by decide +kernel
theorem dX11_count_70 : decode cX11_count 70 = .ok (.aload_n 0, 1) := by decide +kernel
theorem dX11_count_71 : decode cX11_count 71 = .ok (.getfield 55, 3) := by decide +kernel
theorem dX11_count_74 : decode cX11_count 74 = .ok (.getfield 137, 3) := by decide +kernel
theorem dX11_count_77 : decode cX11_count 77 = .ok (.getfield 141, 3) := by decide +kernel
theorem dX11_count_80 : decode cX11_count 80 = .ok (.ireturn, 1) := by decide +kernel
theorem dX11_count_81 : decode cX11_count 81 = .ok (.aload_n 0, 1) := by decide +kernel
theorem dX11_count_82 : decode cX11_count 82 = .ok (.getfield 55, 3) := by decide +kernel
theorem dX11_count_85 : decode cX11_count 85 = .ok (.getfield 146, 3) := by decide +kernel
theorem dX11_count_88 : decode cX11_count 88 = .ok (.ireturn, 1) := by decide +kernel
theorem dX11_count_89 : decode cX11_count 89 = .ok (.aload_n 0, 1) := by decide +kernel
theorem dX11_count_90 : decode cX11_count 90 = .ok (.getfield 55, 3) := by decide +kernel
theorem dX11_count_93 : decode cX11_count 93 = .ok (.getfield 149, 3) := by decide +kernel
theorem dX11_count_96 : decode cX11_count 96 = .ok (.getfield 153, 3) := by decide +kernel
theorem dX11_count_99 : decode cX11_count 99 = .ok (.ireturn, 1) := by decide +kernel
theorem dX11_count_100 : decode cX11_count 100 = .ok (.aload_n 0, 1) := by decide +kernel
theorem dX11_count_101 : decode cX11_count 101 = .ok (.getfield 55, 3) := by decide +kernel
theorem dX11_count_104 : decode cX11_count 104 = .ok (.getfield 149, 3) := by decide +kernel
theorem dX11_count_107 : decode cX11_count 107 = .ok (.getfield 158, 3) := by decide +kernel
theorem dX11_count_110 : decode cX11_count 110 = .ok (.ireturn, 1) := by decide +kernel
theorem dX11_count_111 : decode cX11_count 111 = .ok (.aload_n 0, 1) := by decide +kernel
theorem dX11_count_112 : decode cX11_count 112 = .ok (.getfield 55, 3) := by decide +kernel
theorem dX11_count_115 : decode cX11_count 115 = .ok (.getfield 137, 3) := by decide +kernel
theorem dX11_count_118 : decode cX11_count 118 = .ok (.getfield 161, 3) := by decide +kernel
theorem dX11_count_121 : decode cX11_count 121 = .ok (.ireturn, 1) := by decide +kernel
theorem dX11_count_122 : decode cX11_count 122 = .ok (.aload_n 0, 1) := by decide +kernel
theorem dX11_count_123 : decode cX11_count 123 = .ok (.getfield 55, 3) := by decide +kernel
theorem dX11_count_126 : decode cX11_count 126 = .ok (.getfield 137, 3) := by decide +kernel
theorem dX11_count_129 : decode cX11_count 129 = .ok (.getfield 164, 3) := by decide +kernel
theorem dX11_count_132 : decode cX11_count 132 = .ok (.ireturn, 1) := by decide +kernel
theorem dX11_count_133 : decode cX11_count 133 = .ok (.new 103, 3) := by decide +kernel
theorem dX11_count_136 : decode cX11_count 136 = .ok (.dup, 1) := by decide +kernel
theorem dX11_count_137 : decode cX11_count 137 = .ok (.ldc 167, 2) := by decide +kernel
theorem dX11_count_139 : decode cX11_count 139 = .ok (.invokespecial 107, 3) := by decide +kernel
theorem dX11_count_142 : decode cX11_count 142 = .ok (.athrow, 1) := by decide +kernel
theorem dX11_setting_0 : decode cX11_setting 0 = .ok (.iload_n 1, 1) := by decide +kernel
theorem dX11_setting_1 : decode cX11_setting 1 = .ok (.ifCond .lt 9, 3) := by decide +kernel
theorem dX11_setting_4 : decode cX11_setting 4 = .ok (.iload_n 1, 1) := by decide +kernel
theorem dX11_setting_5 : decode cX11_setting 5 = .ok (.bipush 8, 2) := by decide +kernel
theorem dX11_setting_7 : decode cX11_setting 7 = .ok (.if_icmp .lt 13, 3) := by decide +kernel
theorem dX11_setting_10 : decode cX11_setting 10 = .ok (.new 103, 3) := by decide +kernel
theorem dX11_setting_13 : decode cX11_setting 13 = .ok (.dup, 1) := by decide +kernel
theorem dX11_setting_14 : decode cX11_setting 14 = .ok (.ldc 169, 2) := by decide +kernel
theorem dX11_setting_16 : decode cX11_setting 16 = .ok (.invokespecial 107, 3) := by decide +kernel
theorem dX11_setting_19 : decode cX11_setting 19 = .ok (.athrow, 1) := by decide +kernel
theorem dX11_setting_20 : decode cX11_setting 20 = .ok (.aload_n 0, 1) := by decide +kernel
theorem dX11_setting_21 : decode cX11_setting 21 = .ok (.getfield 38, 3) := by decide +kernel
theorem dX11_setting_24 : decode cX11_setting 24 = .ok (.getfield 82, 3) := by decide +kernel
theorem dX11_setting_27 : decode cX11_setting 27 = .ok (.getfield 171, 3) := by decide +kernel
theorem dX11_setting_30 : decode cX11_setting 30 = .ok (.iload_n 1, 1) := by decide +kernel
theorem dX11_setting_31 : decode cX11_setting 31 = .ok (.invokevirtual 175, 3) := by decide +kernel
theorem dX11_setting_34 : decode cX11_setting 34 = .ok (.ireturn, 1) := by decide +kernel
theorem dX11_isRight_0 : decode cX11_isRight 0 = .ok (.aload_n 0, 1) := by decide +kernel
theorem dX11_isRight_1 : decode cX11_isRight 1 = .ok (.getfield 38, 3) := by decide +kernel
theorem dX11_isRight_4 : decode cX11_isRight 4 = .ok (.getfield 82, 3) := by decide +kernel
theorem dX11_isRight_7 : decode cX11_isRight 7 = .ok (.getfield 181, 3) := by decide +kernel
theorem dX11_isRight_10 : decode cX11_isRight 10 = .ok (.ireturn, 1) := by decide +kernel
theorem dX11_section_0 : decode cX11_section 0 = .ok (.aload_n 0, 1) := by decide +kernel
theorem dX11_section_1 : decode cX11_section 1 = .ok (.iload_n 1, 1) := by decide +kernel
theorem dX11_section_2 : decode cX11_section 2 = .ok (.invokevirtual 184, 3) := by decide +kernel
theorem dX11_section_5 : decode cX11_section 5 = .ok (.iload_n 2, 1) := by decide +kernel
theorem dX11_section_6 : decode cX11_section 6 = .ok (.tableswitch 144 0 6 #[42, 57, 72, 84, 99, 114, 129], 42) := by decide +kernel
theorem dX11_section_48 : decode cX11_section 48 = .ok (.aload_n 0, 1) := by decide +kernel
theorem dX11_section_49 : decode cX11_section 49 = .ok (.getfield 38, 3) := by decide +kernel
theorem dX11_section_52 : decode cX11_section 52 = .ok (.getfield 82, 3) := by decide +kernel
theorem dX11_section_55 : decode cX11_section 55 = .ok (.getfield 187, 3) := by decide +kernel
theorem dX11_section_58 : decode cX11_section 58 = .ok (.iload_n 1, 1) := by decide +kernel
theorem dX11_section_59 : decode cX11_section 59 = .ok (.invokevirtual 175, 3) := by decide +kernel
theorem dX11_section_62 : decode cX11_section 62 = .ok (.ireturn, 1) := by decide +kernel
theorem dX11_section_63 : decode cX11_section 63 = .ok (.aload_n 0, 1) := by decide +kernel
theorem dX11_section_64 : decode cX11_section 64 = .ok (.getfield 38, 3) := by decide +kernel
theorem dX11_section_67 : decode cX11_section 67 = .ok (.getfield 82, 3) := by decide +kernel
theorem dX11_section_70 : decode cX11_section 70 = .ok (.getfield 190, 3) := by decide +kernel
theorem dX11_section_73 : decode cX11_section 73 = .ok (.iload_n 1, 1) := by decide +kernel
theorem dX11_section_74 : decode cX11_section 74 = .ok (.invokevirtual 175, 3) := by decide +kernel
theorem dX11_section_77 : decode cX11_section 77 = .ok (.ireturn, 1) := by decide +kernel
theorem dX11_section_78 : decode cX11_section 78 = .ok (.aload_n 0, 1) := by decide +kernel
theorem dX11_section_79 : decode cX11_section 79 = .ok (.getfield 38, 3) := by decide +kernel
theorem dX11_section_82 : decode cX11_section 82 = .ok (.getfield 82, 3) := by decide +kernel
theorem dX11_section_85 : decode cX11_section 85 = .ok (.iload_n 1, 1) := by decide +kernel
theorem dX11_section_86 : decode cX11_section 86 = .ok (.invokevirtual 193, 3) := by decide +kernel
theorem dX11_section_89 : decode cX11_section 89 = .ok (.ireturn, 1) := by decide +kernel
theorem dX11_section_90 : decode cX11_section 90 = .ok (.aload_n 0, 1) := by decide +kernel
theorem dX11_section_91 : decode cX11_section 91 = .ok (.getfield 38, 3) := by decide +kernel
theorem dX11_section_94 : decode cX11_section 94 = .ok (.getfield 82, 3) := by decide +kernel
theorem dX11_section_97 : decode cX11_section 97 = .ok (.getfield 196, 3) := by decide +kernel
theorem dX11_section_100 : decode cX11_section 100 = .ok (.iload_n 1, 1) := by decide +kernel
theorem dX11_section_101 : decode cX11_section 101 = .ok (.invokevirtual 175, 3) := by decide +kernel
theorem dX11_section_104 : decode cX11_section 104 = .ok (.ireturn, 1) := by decide +kernel
theorem dX11_section_105 : decode cX11_section 105 = .ok (.aload_n 0, 1) := by decide +kernel
theorem dX11_section_106 : decode cX11_section 106 = .ok (.getfield 55, 3) := by decide +kernel
theorem dX11_section_109 : decode cX11_section 109 = .ok (.getfield 199, 3) := by decide +kernel
theorem dX11_section_112 : decode cX11_section 112 = .ok (.getfield 203, 3) := by decide +kernel
theorem dX11_section_115 : decode cX11_section 115 = .ok (.iload_n 1, 1) := by decide +kernel
theorem dX11_section_116 : decode cX11_section 116 = .ok (.invokevirtual 175, 3) := by decide +kernel
theorem dX11_section_119 : decode cX11_section 119 = .ok (.ireturn, 1) := by decide +kernel
theorem dX11_section_120 : decode cX11_section 120 = .ok (.aload_n 0, 1) := by decide +kernel
theorem dX11_section_121 : decode cX11_section 121 = .ok (.getfield 55, 3) := by decide +kernel
theorem dX11_section_124 : decode cX11_section 124 = .ok (.getfield 199, 3) := by decide +kernel
theorem dX11_section_127 : decode cX11_section 127 = .ok (.getfield 208, 3) := by decide +kernel
theorem dX11_section_130 : decode cX11_section 130 = .ok (.iload_n 1, 1) := by decide +kernel
theorem dX11_section_131 : decode cX11_section 131 = .ok (.invokevirtual 175, 3) := by decide +kernel
theorem dX11_section_134 : decode cX11_section 134 = .ok (.ireturn, 1) := by decide +kernel
theorem dX11_section_135 : decode cX11_section 135 = .ok (.aload_n 0, 1) := by decide +kernel
theorem dX11_section_136 : decode cX11_section 136 = .ok (.getfield 55, 3) := by decide +kernel
theorem dX11_section_139 : decode cX11_section 139 = .ok (.getfield 199, 3) := by decide +kernel
theorem dX11_section_142 : decode cX11_section 142 = .ok (.getfield 211, 3) := by decide +kernel
theorem dX11_section_145 : decode cX11_section 145 = .ok (.iload_n 1, 1) := by decide +kernel
theorem dX11_section_146 : decode cX11_section 146 = .ok (.invokevirtual 175, 3) := by decide +kernel
theorem dX11_section_149 : decode cX11_section 149 = .ok (.ireturn, 1) := by decide +kernel
theorem dX11_section_150 : decode cX11_section 150 = .ok (.new 103, 3) := by decide +kernel
theorem dX11_section_153 : decode cX11_section 153 = .ok (.dup, 1) := by decide +kernel
theorem dX11_section_154 : decode cX11_section 154 = .ok (.ldc 214, 2) := by decide +kernel
theorem dX11_section_156 : decode cX11_section 156 = .ok (.invokespecial 107, 3) := by decide +kernel
theorem dX11_section_159 : decode cX11_section 159 = .ok (.athrow, 1) := by decide +kernel
theorem dX11_titleWidth_0 : decode cX11_titleWidth 0 = .ok (.aload_n 0, 1) := by decide +kernel
theorem dX11_titleWidth_1 : decode cX11_titleWidth 1 = .ok (.iload_n 1, 1) := by decide +kernel
theorem dX11_titleWidth_2 : decode cX11_titleWidth 2 = .ok (.invokevirtual 184, 3) := by decide +kernel
theorem dX11_titleWidth_5 : decode cX11_titleWidth 5 = .ok (.aload_n 0, 1) := by decide +kernel
theorem dX11_titleWidth_6 : decode cX11_titleWidth 6 = .ok (.getfield 55, 3) := by decide +kernel
theorem dX11_titleWidth_9 : decode cX11_titleWidth 9 = .ok (.getfield 199, 3) := by decide +kernel
theorem dX11_titleWidth_12 : decode cX11_titleWidth 12 = .ok (.getfield 216, 3) := by decide +kernel
theorem dX11_titleWidth_15 : decode cX11_titleWidth 15 = .ok (.iload_n 1, 1) := by decide +kernel
theorem dX11_titleWidth_16 : decode cX11_titleWidth 16 = .ok (.invokevirtual 175, 3) := by decide +kernel
theorem dX11_titleWidth_19 : decode cX11_titleWidth 19 = .ok (.ireturn, 1) := by decide +kernel
theorem dX11_page_0 : decode cX11_page 0 = .ok (.aload_n 0, 1) := by decide +kernel
theorem dX11_page_1 : decode cX11_page 1 = .ok (.iload_n 1, 1) := by decide +kernel
theorem dX11_page_2 : decode cX11_page 2 = .ok (.invokevirtual 184, 3) := by decide +kernel
theorem dX11_page_5 : decode cX11_page 5 = .ok (.aload_n 0, 1) := by decide +kernel
theorem dX11_page_6 : decode cX11_page 6 = .ok (.getfield 55, 3) := by decide +kernel
theorem dX11_page_9 : decode cX11_page 9 = .ok (.getfield 149, 3) := by decide +kernel
theorem dX11_page_12 : decode cX11_page 12 = .ok (.getfield 219, 3) := by decide +kernel
theorem dX11_page_15 : decode cX11_page 15 = .ok (.iload_n 1, 1) := by decide +kernel
theorem dX11_page_16 : decode cX11_page 16 = .ok (.invokevirtual 175, 3) := by decide +kernel
theorem dX11_page_19 : decode cX11_page 19 = .ok (.ireturn, 1) := by decide +kernel
theorem dX11_bookPage_0 : decode cX11_bookPage 0 = .ok (.aload_n 0, 1) := by decide +kernel
theorem dX11_bookPage_1 : decode cX11_bookPage 1 = .ok (.iload_n 1, 1) := by decide +kernel
theorem dX11_bookPage_2 : decode cX11_bookPage 2 = .ok (.invokevirtual 184, 3) := by decide +kernel
theorem dX11_bookPage_5 : decode cX11_bookPage 5 = .ok (.aload_n 0, 1) := by decide +kernel
theorem dX11_bookPage_6 : decode cX11_bookPage 6 = .ok (.getfield 55, 3) := by decide +kernel
theorem dX11_bookPage_9 : decode cX11_bookPage 9 = .ok (.getfield 149, 3) := by decide +kernel
theorem dX11_bookPage_12 : decode cX11_bookPage 12 = .ok (.getfield 222, 3) := by decide +kernel
theorem dX11_bookPage_15 : decode cX11_bookPage 15 = .ok (.iload_n 1, 1) := by decide +kernel
theorem dX11_bookPage_16 : decode cX11_bookPage 16 = .ok (.invokevirtual 175, 3) := by decide +kernel
theorem dX11_bookPage_19 : decode cX11_bookPage 19 = .ok (.ireturn, 1) := by decide +kernel
theorem dX11_lineOnPage_0 : decode cX11_lineOnPage 0 = .ok (.aload_n 0, 1) := by decide +kernel
theorem dX11_lineOnPage_1 : decode cX11_lineOnPage 1 = .ok (.iload_n 1, 1) := by decide +kernel
theorem dX11_lineOnPage_2 : decode cX11_lineOnPage 2 = .ok (.invokevirtual 184, 3) := by decide +kernel
theorem dX11_lineOnPage_5 : decode cX11_lineOnPage 5 = .ok (.aload_n 0, 1) := by decide +kernel
theorem dX11_lineOnPage_6 : decode cX11_lineOnPage 6 = .ok (.getfield 55, 3) := by decide +kernel
theorem dX11_lineOnPage_9 : decode cX11_lineOnPage 9 = .ok (.getfield 149, 3) := by decide +kernel
theorem dX11_lineOnPage_12 : decode cX11_lineOnPage 12 = .ok (.getfield 225, 3) := by decide +kernel
theorem dX11_lineOnPage_15 : decode cX11_lineOnPage 15 = .ok (.iload_n 1, 1) := by decide +kernel
theorem dX11_lineOnPage_16 : decode cX11_lineOnPage 16 = .ok (.invokevirtual 175, 3) := by decide +kernel
theorem dX11_lineOnPage_19 : decode cX11_lineOnPage 19 = .ok (.ireturn, 1) := by decide +kernel
theorem dX11_numberWidth_0 : decode cX11_numberWidth 0 = .ok (.aload_n 0, 1) := by decide +kernel
theorem dX11_numberWidth_1 : decode cX11_numberWidth 1 = .ok (.iload_n 1, 1) := by decide +kernel
theorem dX11_numberWidth_2 : decode cX11_numberWidth 2 = .ok (.invokevirtual 184, 3) := by decide +kernel
theorem dX11_numberWidth_5 : decode cX11_numberWidth 5 = .ok (.aload_n 0, 1) := by decide +kernel
theorem dX11_numberWidth_6 : decode cX11_numberWidth 6 = .ok (.getfield 55, 3) := by decide +kernel
theorem dX11_numberWidth_9 : decode cX11_numberWidth 9 = .ok (.getfield 149, 3) := by decide +kernel
theorem dX11_numberWidth_12 : decode cX11_numberWidth 12 = .ok (.getfield 228, 3) := by decide +kernel
theorem dX11_numberWidth_15 : decode cX11_numberWidth 15 = .ok (.iload_n 1, 1) := by decide +kernel
theorem dX11_numberWidth_16 : decode cX11_numberWidth 16 = .ok (.invokevirtual 175, 3) := by decide +kernel
theorem dX11_numberWidth_19 : decode cX11_numberWidth 19 = .ok (.ireturn, 1) := by decide +kernel
theorem dX11_findPage_0 : decode cX11_findPage 0 = .ok (.iload_n 1, 1) := by decide +kernel
theorem dX11_findPage_1 : decode cX11_findPage 1 = .ok (.ifCond .eq 18, 3) := by decide +kernel
theorem dX11_findPage_4 : decode cX11_findPage 4 = .ok (.iload_n 1, 1) := by decide +kernel
theorem dX11_findPage_5 : decode cX11_findPage 5 = .ok (.iconst 1, 1) := by decide +kernel
theorem dX11_findPage_6 : decode cX11_findPage 6 = .ok (.if_icmp .eq 13, 3) := by decide +kernel
theorem dX11_findPage_9 : decode cX11_findPage 9 = .ok (.new 103, 3) := by decide +kernel
theorem dX11_findPage_12 : decode cX11_findPage 12 = .ok (.dup, 1) := by decide +kernel
theorem dX11_findPage_13 : decode cX11_findPage 13 = .ok (.ldc 231, 2) := by decide +kernel
theorem dX11_findPage_15 : decode cX11_findPage 15 = .ok (.invokespecial 107, 3) := by decide +kernel
theorem dX11_findPage_18 : decode cX11_findPage 18 = .ok (.athrow, 1) := by decide +kernel
theorem dX11_findPage_19 : decode cX11_findPage 19 = .ok (.aload_n 0, 1) := by decide +kernel
theorem dX11_findPage_20 : decode cX11_findPage 20 = .ok (.getfield 38, 3) := by decide +kernel
theorem dX11_findPage_23 : decode cX11_findPage 23 = .ok (.getfield 82, 3) := by decide +kernel
theorem dX11_findPage_26 : decode cX11_findPage 26 = .ok (.iload_n 1, 1) := by decide +kernel
theorem dX11_findPage_27 : decode cX11_findPage 27 = .ok (.invokevirtual 233, 3) := by decide +kernel
theorem dX11_findPage_30 : decode cX11_findPage 30 = .ok (.istore_n 3, 1) := by decide +kernel
theorem dX11_findPage_31 : decode cX11_findPage 31 = .ok (.iload_n 3, 1) := by decide +kernel
theorem dX11_findPage_32 : decode cX11_findPage 32 = .ok (.aload_n 0, 1) := by decide +kernel
theorem dX11_findPage_33 : decode cX11_findPage 33 = .ok (.getfield 38, 3) := by decide +kernel
theorem dX11_findPage_36 : decode cX11_findPage 36 = .ok (.getfield 82, 3) := by decide +kernel
theorem dX11_findPage_39 : decode cX11_findPage 39 = .ok (.iload_n 1, 1) := by decide +kernel
theorem dX11_findPage_40 : decode cX11_findPage 40 = .ok (.invokevirtual 236, 3) := by decide +kernel
theorem dX11_findPage_43 : decode cX11_findPage 43 = .ok (.if_icmp .ge 29, 3) := by decide +kernel
theorem dX11_findPage_46 : decode cX11_findPage 46 = .ok (.aload_n 0, 1) := by decide +kernel
theorem dX11_findPage_47 : decode cX11_findPage 47 = .ok (.getfield 55, 3) := by decide +kernel
theorem dX11_findPage_50 : decode cX11_findPage 50 = .ok (.getfield 149, 3) := by decide +kernel
theorem dX11_findPage_53 : decode cX11_findPage 53 = .ok (.getfield 219, 3) := by decide +kernel
theorem dX11_findPage_56 : decode cX11_findPage 56 = .ok (.iload_n 3, 1) := by decide +kernel
theorem dX11_findPage_57 : decode cX11_findPage 57 = .ok (.invokevirtual 175, 3) := by decide +kernel
theorem dX11_findPage_60 : decode cX11_findPage 60 = .ok (.iload_n 2, 1) := by decide +kernel
theorem dX11_findPage_61 : decode cX11_findPage 61 = .ok (.if_icmp .ne 5, 3) := by decide +kernel
theorem dX11_findPage_64 : decode cX11_findPage 64 = .ok (.iload_n 3, 1) := by decide +kernel
theorem dX11_findPage_65 : decode cX11_findPage 65 = .ok (.ireturn, 1) := by decide +kernel
theorem dX11_findPage_66 : decode cX11_findPage 66 = .ok (.iinc 3 1, 3) := by decide +kernel
theorem dX11_findPage_69 : decode cX11_findPage 69 = .ok (.goto (-38), 3) := by decide +kernel
theorem dX11_findPage_72 : decode cX11_findPage 72 = .ok (.iconst (-1), 1) := by decide +kernel
theorem dX11_findPage_73 : decode cX11_findPage 73 = .ok (.ireturn, 1) := by decide +kernel
theorem dX11_sectionAt_0 : decode cX11_sectionAt 0 = .ok (.iload_n 1, 1) := by decide +kernel
theorem dX11_sectionAt_1 : decode cX11_sectionAt 1 = .ok (.iconst 1, 1) := by decide +kernel
theorem dX11_sectionAt_2 : decode cX11_sectionAt 2 = .ok (.if_icmp .lt 17, 3) := by decide +kernel
theorem dX11_sectionAt_5 : decode cX11_sectionAt 5 = .ok (.iload_n 1, 1) := by decide +kernel
theorem dX11_sectionAt_6 : decode cX11_sectionAt 6 = .ok (.aload_n 0, 1) := by decide +kernel
theorem dX11_sectionAt_7 : decode cX11_sectionAt 7 = .ok (.getfield 55, 3) := by decide +kernel
theorem dX11_sectionAt_10 : decode cX11_sectionAt 10 = .ok (.getfield 149, 3) := by decide +kernel
theorem dX11_sectionAt_13 : decode cX11_sectionAt 13 = .ok (.getfield 153, 3) := by decide +kernel
theorem dX11_sectionAt_16 : decode cX11_sectionAt 16 = .ok (.if_icmp .le 13, 3) := by decide +kernel
theorem dX11_sectionAt_19 : decode cX11_sectionAt 19 = .ok (.new 239, 3) := by decide +kernel
theorem dX11_sectionAt_22 : decode cX11_sectionAt 22 = .ok (.dup, 1) := by decide +kernel
theorem dX11_sectionAt_23 : decode cX11_sectionAt 23 = .ok (.ldc 241, 2) := by decide +kernel
theorem dX11_sectionAt_25 : decode cX11_sectionAt 25 = .ok (.invokespecial 243, 3) := by decide +kernel
theorem dX11_sectionAt_28 : decode cX11_sectionAt 28 = .ok (.athrow, 1) := by decide +kernel
theorem dX11_sectionAt_29 : decode cX11_sectionAt 29 = .ok (.iconst (-1), 1) := by decide +kernel
theorem dX11_sectionAt_30 : decode cX11_sectionAt 30 = .ok (.istore_n 2, 1) := by decide +kernel
theorem dX11_sectionAt_31 : decode cX11_sectionAt 31 = .ok (.iconst 0, 1) := by decide +kernel
theorem dX11_sectionAt_32 : decode cX11_sectionAt 32 = .ok (.istore_n 3, 1) := by decide +kernel
theorem dX11_sectionAt_33 : decode cX11_sectionAt 33 = .ok (.iload_n 3, 1) := by decide +kernel
theorem dX11_sectionAt_34 : decode cX11_sectionAt 34 = .ok (.aload_n 0, 1) := by decide +kernel
theorem dX11_sectionAt_35 : decode cX11_sectionAt 35 = .ok (.getfield 38, 3) := by decide +kernel
theorem dX11_sectionAt_38 : decode cX11_sectionAt 38 = .ok (.getfield 82, 3) := by decide +kernel
theorem dX11_sectionAt_41 : decode cX11_sectionAt 41 = .ok (.getfield 131, 3) := by decide +kernel
theorem dX11_sectionAt_44 : decode cX11_sectionAt 44 = .ok (.if_icmp .ge 29, 3) := by decide +kernel
theorem dX11_sectionAt_47 : decode cX11_sectionAt 47 = .ok (.aload_n 0, 1) := by decide +kernel
theorem dX11_sectionAt_48 : decode cX11_sectionAt 48 = .ok (.getfield 55, 3) := by decide +kernel
theorem dX11_sectionAt_51 : decode cX11_sectionAt 51 = .ok (.getfield 149, 3) := by decide +kernel
theorem dX11_sectionAt_54 : decode cX11_sectionAt 54 = .ok (.getfield 222, 3) := by decide +kernel
theorem dX11_sectionAt_57 : decode cX11_sectionAt 57 = .ok (.iload_n 3, 1) := by decide +kernel
theorem dX11_sectionAt_58 : decode cX11_sectionAt 58 = .ok (.invokevirtual 175, 3) := by decide +kernel
theorem dX11_sectionAt_61 : decode cX11_sectionAt 61 = .ok (.iload_n 1, 1) := by decide +kernel
theorem dX11_sectionAt_62 : decode cX11_sectionAt 62 = .ok (.if_icmp .gt 5, 3) := by decide +kernel
theorem dX11_sectionAt_65 : decode cX11_sectionAt 65 = .ok (.iload_n 3, 1) := by decide +kernel
theorem dX11_sectionAt_66 : decode cX11_sectionAt 66 = .ok (.istore_n 2, 1) := by decide +kernel
theorem dX11_sectionAt_67 : decode cX11_sectionAt 67 = .ok (.iinc 3 1, 3) := by decide +kernel
theorem dX11_sectionAt_70 : decode cX11_sectionAt 70 = .ok (.goto (-37), 3) := by decide +kernel
theorem dX11_sectionAt_73 : decode cX11_sectionAt 73 = .ok (.iload_n 2, 1) := by decide +kernel
theorem dX11_sectionAt_74 : decode cX11_sectionAt 74 = .ok (.ireturn, 1) := by decide +kernel
theorem dX11_firstLine_0 : decode cX11_firstLine 0 = .ok (.aload_n 0, 1) := by decide +kernel
theorem dX11_firstLine_1 : decode cX11_firstLine 1 = .ok (.iload_n 1, 1) := by decide +kernel
theorem dX11_firstLine_2 : decode cX11_firstLine 2 = .ok (.invokevirtual 184, 3) := by decide +kernel
theorem dX11_firstLine_5 : decode cX11_firstLine 5 = .ok (.aload_n 0, 1) := by decide +kernel
theorem dX11_firstLine_6 : decode cX11_firstLine 6 = .ok (.getfield 55, 3) := by decide +kernel
theorem dX11_firstLine_9 : decode cX11_firstLine 9 = .ok (.getfield 137, 3) := by decide +kernel
theorem dX11_firstLine_12 : decode cX11_firstLine 12 = .ok (.getfield 244, 3) := by decide +kernel
theorem dX11_firstLine_15 : decode cX11_firstLine 15 = .ok (.iload_n 1, 1) := by decide +kernel
theorem dX11_firstLine_16 : decode cX11_firstLine 16 = .ok (.invokevirtual 175, 3) := by decide +kernel
theorem dX11_firstLine_19 : decode cX11_firstLine 19 = .ok (.ireturn, 1) := by decide +kernel
theorem dX11_lineCount_0 : decode cX11_lineCount 0 = .ok (.aload_n 0, 1) := by decide +kernel
theorem dX11_lineCount_1 : decode cX11_lineCount 1 = .ok (.iload_n 1, 1) := by decide +kernel
theorem dX11_lineCount_2 : decode cX11_lineCount 2 = .ok (.invokevirtual 184, 3) := by decide +kernel
theorem dX11_lineCount_5 : decode cX11_lineCount 5 = .ok (.aload_n 0, 1) := by decide +kernel
theorem dX11_lineCount_6 : decode cX11_lineCount 6 = .ok (.getfield 55, 3) := by decide +kernel
theorem dX11_lineCount_9 : decode cX11_lineCount 9 = .ok (.getfield 137, 3) := by decide +kernel
theorem dX11_lineCount_12 : decode cX11_lineCount 12 = .ok (.getfield 247, 3) := by decide +kernel
theorem dX11_lineCount_15 : decode cX11_lineCount 15 = .ok (.iload_n 1, 1) := by decide +kernel
theorem dX11_lineCount_16 : decode cX11_lineCount 16 = .ok (.invokevirtual 175, 3) := by decide +kernel
theorem dX11_lineCount_19 : decode cX11_lineCount 19 = .ok (.ireturn, 1) := by decide +kernel
theorem dX11_line_0 : decode cX11_line 0 = .ok (.aload_n 0, 1) := by decide +kernel
theorem dX11_line_1 : decode cX11_line 1 = .ok (.iload_n 1, 1) := by decide +kernel
theorem dX11_line_2 : decode cX11_line 2 = .ok (.invokevirtual 250, 3) := by decide +kernel
theorem dX11_line_5 : decode cX11_line 5 = .ok (.iload_n 2, 1) := by decide +kernel
theorem dX11_line_6 : decode cX11_line 6 = .ok (.tableswitch 115 0 4 #[34, 49, 64, 79, 94], 34) := by decide +kernel
theorem dX11_line_40 : decode cX11_line 40 = .ok (.aload_n 0, 1) := by decide +kernel
theorem dX11_line_41 : decode cX11_line 41 = .ok (.getfield 55, 3) := by decide +kernel
theorem dX11_line_44 : decode cX11_line 44 = .ok (.getfield 137, 3) := by decide +kernel
theorem dX11_line_47 : decode cX11_line 47 = .ok (.getfield 253, 3) := by decide +kernel
theorem dX11_line_50 : decode cX11_line 50 = .ok (.iload_n 1, 1) := by decide +kernel
theorem dX11_line_51 : decode cX11_line 51 = .ok (.invokevirtual 175, 3) := by decide +kernel
theorem dX11_line_54 : decode cX11_line 54 = .ok (.ireturn, 1) := by decide +kernel
theorem dX11_line_55 : decode cX11_line 55 = .ok (.aload_n 0, 1) := by decide +kernel
theorem dX11_line_56 : decode cX11_line 56 = .ok (.getfield 55, 3) := by decide +kernel
theorem dX11_line_59 : decode cX11_line 59 = .ok (.getfield 137, 3) := by decide +kernel
theorem dX11_line_62 : decode cX11_line 62 = .ok (.getfield 256, 3) := by decide +kernel
theorem dX11_line_65 : decode cX11_line 65 = .ok (.iload_n 1, 1) := by decide +kernel
theorem dX11_line_66 : decode cX11_line 66 = .ok (.invokevirtual 175, 3) := by decide +kernel
theorem dX11_line_69 : decode cX11_line 69 = .ok (.ireturn, 1) := by decide +kernel
theorem dX11_line_70 : decode cX11_line 70 = .ok (.aload_n 0, 1) := by decide +kernel
theorem dX11_line_71 : decode cX11_line 71 = .ok (.getfield 55, 3) := by decide +kernel
theorem dX11_line_74 : decode cX11_line 74 = .ok (.getfield 137, 3) := by decide +kernel
theorem dX11_line_77 : decode cX11_line 77 = .ok (.getfield 259, 3) := by decide +kernel
theorem dX11_line_80 : decode cX11_line 80 = .ok (.iload_n 1, 1) := by decide +kernel
theorem dX11_line_81 : decode cX11_line 81 = .ok (.invokevirtual 175, 3) := by decide +kernel
theorem dX11_line_84 : decode cX11_line 84 = .ok (.ireturn, 1) := by decide +kernel
theorem dX11_line_85 : decode cX11_line 85 = .ok (.aload_n 0, 1) := by decide +kernel
theorem dX11_line_86 : decode cX11_line 86 = .ok (.getfield 55, 3) := by decide +kernel
theorem dX11_line_89 : decode cX11_line 89 = .ok (.getfield 137, 3) := by decide +kernel
theorem dX11_line_92 : decode cX11_line 92 = .ok (.getfield 262, 3) := by decide +kernel
theorem dX11_line_95 : decode cX11_line 95 = .ok (.iload_n 1, 1) := by decide +kernel
theorem dX11_line_96 : decode cX11_line 96 = .ok (.invokevirtual 175, 3) := by decide +kernel
theorem dX11_line_99 : decode cX11_line 99 = .ok (.ireturn, 1) := by decide +kernel
theorem dX11_line_100 : decode cX11_line 100 = .ok (.iconst 1, 1) := by decide +kernel
theorem dX11_line_101 : decode cX11_line 101 = .ok (.iload_n 1, 1) := by decide +kernel
theorem dX11_line_102 : decode cX11_line 102 = .ok (.aload_n 0, 1) := by decide +kernel
theorem dX11_line_103 : decode cX11_line 103 = .ok (.getfield 38, 3) := by decide +kernel
theorem dX11_line_106 : decode cX11_line 106 = .ok (.getfield 82, 3) := by decide +kernel
theorem dX11_line_109 : decode cX11_line 109 = .ok (.getfield 171, 3) := by decide +kernel
theorem dX11_line_112 : decode cX11_line 112 = .ok (.iconst 1, 1) := by decide +kernel
theorem dX11_line_113 : decode cX11_line 113 = .ok (.invokevirtual 175, 3) := by decide +kernel
theorem dX11_line_116 : decode cX11_line 116 = .ok (.invokestatic 265, 3) := by decide +kernel
theorem dX11_line_119 : decode cX11_line 119 = .ok (.iadd, 1) := by decide +kernel
theorem dX11_line_120 : decode cX11_line 120 = .ok (.ireturn, 1) := by decide +kernel
theorem dX11_line_121 : decode cX11_line 121 = .ok (.new 103, 3) := by decide +kernel
theorem dX11_line_124 : decode cX11_line 124 = .ok (.dup, 1) := by decide +kernel
theorem dX11_line_125 : decode cX11_line 125 = .ok (.ldc_w 269, 3) := by decide +kernel
theorem dX11_line_128 : decode cX11_line 128 = .ok (.invokespecial 107, 3) := by decide +kernel
theorem dX11_line_131 : decode cX11_line 131 = .ok (.athrow, 1) := by decide +kernel
theorem dX11_dotCount_0 : decode cX11_dotCount 0 = .ok (.aload_n 0, 1) := by decide +kernel
theorem dX11_dotCount_1 : decode cX11_dotCount 1 = .ok (.iload_n 1, 1) := by decide +kernel
theorem dX11_dotCount_2 : decode cX11_dotCount 2 = .ok (.invokevirtual 250, 3) := by decide +kernel
theorem dX11_dotCount_5 : decode cX11_dotCount 5 = .ok (.aload_n 0, 1) := by decide +kernel
theorem dX11_dotCount_6 : decode cX11_dotCount 6 = .ok (.iload_n 1, 1) := by decide +kernel
theorem dX11_dotCount_7 : decode cX11_dotCount 7 = .ok (.invokevirtual 271, 3) := by decide +kernel
theorem dX11_dotCount_10 : decode cX11_dotCount 10 = .ok (.aload_n 0, 1) := by decide +kernel
theorem dX11_dotCount_11 : decode cX11_dotCount 11 = .ok (.getfield 55, 3) := by decide +kernel
theorem dX11_dotCount_14 : decode cX11_dotCount 14 = .ok (.getfield 137, 3) := by decide +kernel
theorem dX11_dotCount_17 : decode cX11_dotCount 17 = .ok (.getfield 274, 3) := by decide +kernel
theorem dX11_dotCount_20 : decode cX11_dotCount 20 = .ok (.aload_n 0, 1) := by decide +kernel
theorem dX11_dotCount_21 : decode cX11_dotCount 21 = .ok (.getfield 55, 3) := by decide +kernel
theorem dX11_dotCount_24 : decode cX11_dotCount 24 = .ok (.getfield 137, 3) := by decide +kernel
theorem dX11_dotCount_27 : decode cX11_dotCount 27 = .ok (.getfield 253, 3) := by decide +kernel
theorem dX11_dotCount_30 : decode cX11_dotCount 30 = .ok (.iload_n 1, 1) := by decide +kernel
theorem dX11_dotCount_31 : decode cX11_dotCount 31 = .ok (.invokevirtual 175, 3) := by decide +kernel
theorem dX11_dotCount_34 : decode cX11_dotCount 34 = .ok (.invokevirtual 175, 3) := by decide +kernel
theorem dX11_dotCount_37 : decode cX11_dotCount 37 = .ok (.ireturn, 1) := by decide +kernel
theorem dX11_firstDot_0 : decode cX11_firstDot 0 = .ok (.aload_n 0, 1) := by decide +kernel
theorem dX11_firstDot_1 : decode cX11_firstDot 1 = .ok (.iload_n 1, 1) := by decide +kernel
theorem dX11_firstDot_2 : decode cX11_firstDot 2 = .ok (.invokevirtual 250, 3) := by decide +kernel
theorem dX11_firstDot_5 : decode cX11_firstDot 5 = .ok (.aload_n 0, 1) := by decide +kernel
theorem dX11_firstDot_6 : decode cX11_firstDot 6 = .ok (.iload_n 1, 1) := by decide +kernel
theorem dX11_firstDot_7 : decode cX11_firstDot 7 = .ok (.invokevirtual 271, 3) := by decide +kernel
theorem dX11_firstDot_10 : decode cX11_firstDot 10 = .ok (.aload_n 0, 1) := by decide +kernel
theorem dX11_firstDot_11 : decode cX11_firstDot 11 = .ok (.getfield 55, 3) := by decide +kernel
theorem dX11_firstDot_14 : decode cX11_firstDot 14 = .ok (.getfield 137, 3) := by decide +kernel
theorem dX11_firstDot_17 : decode cX11_firstDot 17 = .ok (.getfield 277, 3) := by decide +kernel
theorem dX11_firstDot_20 : decode cX11_firstDot 20 = .ok (.aload_n 0, 1) := by decide +kernel
theorem dX11_firstDot_21 : decode cX11_firstDot 21 = .ok (.getfield 55, 3) := by decide +kernel
theorem dX11_firstDot_24 : decode cX11_firstDot 24 = .ok (.getfield 137, 3) := by decide +kernel
theorem dX11_firstDot_27 : decode cX11_firstDot 27 = .ok (.getfield 253, 3) := by decide +kernel
theorem dX11_firstDot_30 : decode cX11_firstDot 30 = .ok (.iload_n 1, 1) := by decide +kernel
theorem dX11_firstDot_31 : decode cX11_firstDot 31 = .ok (.invokevirtual 175, 3) := by decide +kernel
theorem dX11_firstDot_34 : decode cX11_firstDot 34 = .ok (.invokevirtual 175, 3) := by decide +kernel
theorem dX11_firstDot_37 : decode cX11_firstDot 37 = .ok (.ireturn, 1) := by decide +kernel
theorem dX11_dotsAt_0 : decode cX11_dotsAt 0 = .ok (.iload_n 1, 1) := by decide +kernel
theorem dX11_dotsAt_1 : decode cX11_dotsAt 1 = .ok (.ifCond .ge 14, 3) := by decide +kernel
theorem dX11_dotsAt_4 : decode cX11_dotsAt 4 = .ok (.new 103, 3) := by decide +kernel
theorem dX11_dotsAt_7 : decode cX11_dotsAt 7 = .ok (.dup, 1) := by decide +kernel
theorem dX11_dotsAt_8 : decode cX11_dotsAt 8 = .ok (.ldc_w 280, 3) := by decide +kernel
theorem dX11_dotsAt_11 : decode cX11_dotsAt 11 = .ok (.invokespecial 107, 3) := by decide +kernel
theorem dX11_dotsAt_14 : decode cX11_dotsAt 14 = .ok (.athrow, 1) := by decide +kernel
theorem dX11_dotsAt_15 : decode cX11_dotsAt 15 = .ok (.iconst 0, 1) := by decide +kernel
theorem dX11_dotsAt_16 : decode cX11_dotsAt 16 = .ok (.istore_n 2, 1) := by decide +kernel
theorem dX11_dotsAt_17 : decode cX11_dotsAt 17 = .ok (.iconst 0, 1) := by decide +kernel
theorem dX11_dotsAt_18 : decode cX11_dotsAt 18 = .ok (.istore_n 3, 1) := by decide +kernel
theorem dX11_dotsAt_19 : decode cX11_dotsAt 19 = .ok (.iload_n 3, 1) := by decide +kernel
theorem dX11_dotsAt_20 : decode cX11_dotsAt 20 = .ok (.aload_n 0, 1) := by decide +kernel
theorem dX11_dotsAt_21 : decode cX11_dotsAt 21 = .ok (.getfield 38, 3) := by decide +kernel
theorem dX11_dotsAt_24 : decode cX11_dotsAt 24 = .ok (.getfield 82, 3) := by decide +kernel
theorem dX11_dotsAt_27 : decode cX11_dotsAt 27 = .ok (.getfield 131, 3) := by decide +kernel
theorem dX11_dotsAt_30 : decode cX11_dotsAt 30 = .ok (.if_icmp .ge 42, 3) := by decide +kernel
theorem dX11_dotsAt_33 : decode cX11_dotsAt 33 = .ok (.aload_n 0, 1) := by decide +kernel
theorem dX11_dotsAt_34 : decode cX11_dotsAt 34 = .ok (.getfield 55, 3) := by decide +kernel
theorem dX11_dotsAt_37 : decode cX11_dotsAt 37 = .ok (.getfield 137, 3) := by decide +kernel
theorem dX11_dotsAt_40 : decode cX11_dotsAt 40 = .ok (.iload_n 3, 1) := by decide +kernel
theorem dX11_dotsAt_41 : decode cX11_dotsAt 41 = .ok (.iload_n 1, 1) := by decide +kernel
theorem dX11_dotsAt_42 : decode cX11_dotsAt 42 = .ok (.aload_n 0, 1) := by decide +kernel
theorem dX11_dotsAt_43 : decode cX11_dotsAt 43 = .ok (.getfield 38, 3) := by decide +kernel
theorem dX11_dotsAt_46 : decode cX11_dotsAt 46 = .ok (.getfield 82, 3) := by decide +kernel
theorem dX11_dotsAt_49 : decode cX11_dotsAt 49 = .ok (.getfield 171, 3) := by decide +kernel
theorem dX11_dotsAt_52 : decode cX11_dotsAt 52 = .ok (.bipush 7, 2) := by decide +kernel
theorem dX11_dotsAt_54 : decode cX11_dotsAt 54 = .ok (.invokevirtual 175, 3) := by decide +kernel
theorem dX11_dotsAt_57 : decode cX11_dotsAt 57 = .ok (.invokevirtual 282, 3) := by decide +kernel
theorem dX11_dotsAt_60 : decode cX11_dotsAt 60 = .ok (.ifCond .eq 6, 3) := by decide +kernel
theorem dX11_dotsAt_63 : decode cX11_dotsAt 63 = .ok (.iinc 2 1, 3) := by decide +kernel
theorem dX11_dotsAt_66 : decode cX11_dotsAt 66 = .ok (.iinc 3 1, 3) := by decide +kernel
theorem dX11_dotsAt_69 : decode cX11_dotsAt 69 = .ok (.goto (-50), 3) := by decide +kernel
theorem dX11_dotsAt_72 : decode cX11_dotsAt 72 = .ok (.iload_n 2, 1) := by decide +kernel
theorem dX11_dotsAt_73 : decode cX11_dotsAt 73 = .ok (.ireturn, 1) := by decide +kernel
theorem dX11_isOverfull_0 : decode cX11_isOverfull 0 = .ok (.aload_n 0, 1) := by decide +kernel
theorem dX11_isOverfull_1 : decode cX11_isOverfull 1 = .ok (.iload_n 1, 1) := by decide +kernel
theorem dX11_isOverfull_2 : decode cX11_isOverfull 2 = .ok (.invokevirtual 250, 3) := by decide +kernel
theorem dX11_isOverfull_5 : decode cX11_isOverfull 5 = .ok (.aload_n 0, 1) := by decide +kernel
theorem dX11_isOverfull_6 : decode cX11_isOverfull 6 = .ok (.getfield 55, 3) := by decide +kernel
theorem dX11_isOverfull_9 : decode cX11_isOverfull 9 = .ok (.getfield 137, 3) := by decide +kernel
theorem dX11_isOverfull_12 : decode cX11_isOverfull 12 = .ok (.iload_n 1, 1) := by decide +kernel
theorem dX11_isOverfull_13 : decode cX11_isOverfull 13 = .ok (.invokevirtual 286, 3) := by decide +kernel
theorem dX11_isOverfull_16 : decode cX11_isOverfull 16 = .ok (.ireturn, 1) := by decide +kernel
theorem dX11_overfullCount_0 : decode cX11_overfullCount 0 = .ok (.aload_n 0, 1) := by decide +kernel
theorem dX11_overfullCount_1 : decode cX11_overfullCount 1 = .ok (.getfield 55, 3) := by decide +kernel
theorem dX11_overfullCount_4 : decode cX11_overfullCount 4 = .ok (.getfield 137, 3) := by decide +kernel
theorem dX11_overfullCount_7 : decode cX11_overfullCount 7 = .ok (.invokevirtual 290, 3) := by decide +kernel
theorem dX11_overfullCount_10 : decode cX11_overfullCount 10 = .ok (.ireturn, 1) := by decide +kernel
theorem dX11_rounds_0 : decode cX11_rounds 0 = .ok (.aload_n 0, 1) := by decide +kernel
theorem dX11_rounds_1 : decode cX11_rounds 1 = .ok (.getfield 55, 3) := by decide +kernel
theorem dX11_rounds_4 : decode cX11_rounds 4 = .ok (.getfield 293, 3) := by decide +kernel
theorem dX11_rounds_7 : decode cX11_rounds 7 = .ok (.ireturn, 1) := by decide +kernel
theorem dX11_collides_0 : decode cX11_collides 0 = .ok (.aload_n 0, 1) := by decide +kernel
theorem dX11_collides_1 : decode cX11_collides 1 = .ok (.iload_n 1, 1) := by decide +kernel
theorem dX11_collides_2 : decode cX11_collides 2 = .ok (.invokevirtual 250, 3) := by decide +kernel
theorem dX11_collides_5 : decode cX11_collides 5 = .ok (.aload_n 0, 1) := by decide +kernel
theorem dX11_collides_6 : decode cX11_collides 6 = .ok (.getfield 55, 3) := by decide +kernel
theorem dX11_collides_9 : decode cX11_collides 9 = .ok (.aload_n 0, 1) := by decide +kernel
theorem dX11_collides_10 : decode cX11_collides 10 = .ok (.getfield 38, 3) := by decide +kernel
theorem dX11_collides_13 : decode cX11_collides 13 = .ok (.getfield 82, 3) := by decide +kernel
theorem dX11_collides_16 : decode cX11_collides 16 = .ok (.iload_n 1, 1) := by decide +kernel
theorem dX11_collides_17 : decode cX11_collides 17 = .ok (.invokevirtual 296, 3) := by decide +kernel
theorem dX11_collides_20 : decode cX11_collides 20 = .ok (.ireturn, 1) := by decide +kernel
theorem dX11_collisions_0 : decode cX11_collisions 0 = .ok (.iconst 0, 1) := by decide +kernel
theorem dX11_collisions_1 : decode cX11_collisions 1 = .ok (.istore_n 1, 1) := by decide +kernel
theorem dX11_collisions_2 : decode cX11_collisions 2 = .ok (.iconst 0, 1) := by decide +kernel
theorem dX11_collisions_3 : decode cX11_collisions 3 = .ok (.istore_n 2, 1) := by decide +kernel
theorem dX11_collisions_4 : decode cX11_collisions 4 = .ok (.iload_n 2, 1) := by decide +kernel
theorem dX11_collisions_5 : decode cX11_collisions 5 = .ok (.aload_n 0, 1) := by decide +kernel
theorem dX11_collisions_6 : decode cX11_collisions 6 = .ok (.getfield 55, 3) := by decide +kernel
theorem dX11_collisions_9 : decode cX11_collisions 9 = .ok (.getfield 137, 3) := by decide +kernel
theorem dX11_collisions_12 : decode cX11_collisions 12 = .ok (.getfield 141, 3) := by decide +kernel
theorem dX11_collisions_15 : decode cX11_collisions 15 = .ok (.if_icmp .ge 30, 3) := by decide +kernel
theorem dX11_collisions_18 : decode cX11_collisions 18 = .ok (.aload_n 0, 1) := by decide +kernel
theorem dX11_collisions_19 : decode cX11_collisions 19 = .ok (.getfield 55, 3) := by decide +kernel
theorem dX11_collisions_22 : decode cX11_collisions 22 = .ok (.aload_n 0, 1) := by decide +kernel
theorem dX11_collisions_23 : decode cX11_collisions 23 = .ok (.getfield 38, 3) := by decide +kernel
theorem dX11_collisions_26 : decode cX11_collisions 26 = .ok (.getfield 82, 3) := by decide +kernel
theorem dX11_collisions_29 : decode cX11_collisions 29 = .ok (.iload_n 2, 1) := by decide +kernel
theorem dX11_collisions_30 : decode cX11_collisions 30 = .ok (.invokevirtual 296, 3) := by decide +kernel
theorem dX11_collisions_33 : decode cX11_collisions 33 = .ok (.ifCond .eq 6, 3) := by decide +kernel
theorem dX11_collisions_36 : decode cX11_collisions 36 = .ok (.iinc 1 1, 3) := by decide +kernel
theorem dX11_collisions_39 : decode cX11_collisions 39 = .ok (.iinc 2 1, 3) := by decide +kernel
theorem dX11_collisions_42 : decode cX11_collisions 42 = .ok (.goto (-38), 3) := by decide +kernel
theorem dX11_collisions_45 : decode cX11_collisions 45 = .ok (.iload_n 1, 1) := by decide +kernel
theorem dX11_collisions_46 : decode cX11_collisions 46 = .ok (.ireturn, 1) := by decide +kernel
theorem dX11_wordCount_0 : decode cX11_wordCount 0 = .ok (.aload_n 0, 1) := by decide +kernel
theorem dX11_wordCount_1 : decode cX11_wordCount 1 = .ok (.getfield 62, 3) := by decide +kernel
theorem dX11_wordCount_4 : decode cX11_wordCount 4 = .ok (.aload_n 0, 1) := by decide +kernel
theorem dX11_wordCount_5 : decode cX11_wordCount 5 = .ok (.getfield 38, 3) := by decide +kernel
theorem dX11_wordCount_8 : decode cX11_wordCount 8 = .ok (.getfield 82, 3) := by decide +kernel
theorem dX11_wordCount_11 : decode cX11_wordCount 11 = .ok (.invokevirtual 300, 3) := by decide +kernel
theorem dX11_wordCount_14 : decode cX11_wordCount 14 = .ok (.aload_n 0, 1) := by decide +kernel
theorem dX11_wordCount_15 : decode cX11_wordCount 15 = .ok (.getfield 62, 3) := by decide +kernel
theorem dX11_wordCount_18 : decode cX11_wordCount 18 = .ok (.getfield 303, 3) := by decide +kernel
theorem dX11_wordCount_21 : decode cX11_wordCount 21 = .ok (.ireturn, 1) := by decide +kernel
theorem dX11_wordSections_0 : decode cX11_wordSections 0 = .ok (.aload_n 0, 1) := by decide +kernel
theorem dX11_wordSections_1 : decode cX11_wordSections 1 = .ok (.getfield 62, 3) := by decide +kernel
theorem dX11_wordSections_4 : decode cX11_wordSections 4 = .ok (.aload_n 0, 1) := by decide +kernel
theorem dX11_wordSections_5 : decode cX11_wordSections 5 = .ok (.getfield 38, 3) := by decide +kernel
theorem dX11_wordSections_8 : decode cX11_wordSections 8 = .ok (.getfield 82, 3) := by decide +kernel
theorem dX11_wordSections_11 : decode cX11_wordSections 11 = .ok (.invokevirtual 300, 3) := by decide +kernel
theorem dX11_wordSections_14 : decode cX11_wordSections 14 = .ok (.iload_n 1, 1) := by decide +kernel
theorem dX11_wordSections_15 : decode cX11_wordSections 15 = .ok (.ifCond .lt 14, 3) := by decide +kernel
theorem dX11_wordSections_18 : decode cX11_wordSections 18 = .ok (.iload_n 1, 1) := by decide +kernel
theorem dX11_wordSections_19 : decode cX11_wordSections 19 = .ok (.aload_n 0, 1) := by decide +kernel
theorem dX11_wordSections_20 : decode cX11_wordSections 20 = .ok (.getfield 62, 3) := by decide +kernel
theorem dX11_wordSections_23 : decode cX11_wordSections 23 = .ok (.getfield 303, 3) := by decide +kernel
theorem dX11_wordSections_26 : decode cX11_wordSections 26 = .ok (.if_icmp .lt 14, 3) := by decide +kernel
theorem dX11_wordSections_29 : decode cX11_wordSections 29 = .ok (.new 239, 3) := by decide +kernel
theorem dX11_wordSections_32 : decode cX11_wordSections 32 = .ok (.dup, 1) := by decide +kernel
theorem dX11_wordSections_33 : decode cX11_wordSections 33 = .ok (.ldc_w 306, 3) := by decide +kernel
theorem dX11_wordSections_36 : decode cX11_wordSections 36 = .ok (.invokespecial 243, 3) := by decide +kernel
theorem dX11_wordSections_39 : decode cX11_wordSections 39 = .ok (.athrow, 1) := by decide +kernel
theorem dX11_wordSections_40 : decode cX11_wordSections 40 = .ok (.aload_n 0, 1) := by decide +kernel
theorem dX11_wordSections_41 : decode cX11_wordSections 41 = .ok (.getfield 62, 3) := by decide +kernel
theorem dX11_wordSections_44 : decode cX11_wordSections 44 = .ok (.getfield 308, 3) := by decide +kernel
theorem dX11_wordSections_47 : decode cX11_wordSections 47 = .ok (.iload_n 1, 1) := by decide +kernel
theorem dX11_wordSections_48 : decode cX11_wordSections 48 = .ok (.invokevirtual 175, 3) := by decide +kernel
theorem dX11_wordSections_51 : decode cX11_wordSections 51 = .ok (.ireturn, 1) := by decide +kernel
theorem dX11_findWord_0 : decode cX11_findWord 0 = .ok (.aload_n 0, 1) := by decide +kernel
theorem dX11_findWord_1 : decode cX11_findWord 1 = .ok (.getfield 14, 3) := by decide +kernel
theorem dX11_findWord_4 : decode cX11_findWord 4 = .ok (.iconst 0, 1) := by decide +kernel
theorem dX11_findWord_5 : decode cX11_findWord 5 = .ok (.aload_n 0, 1) := by decide +kernel
theorem dX11_findWord_6 : decode cX11_findWord 6 = .ok (.getfield 14, 3) := by decide +kernel
theorem dX11_findWord_9 : decode cX11_findWord 9 = .ok (.invokevirtual 89, 3) := by decide +kernel
theorem dX11_findWord_12 : decode cX11_findWord 12 = .ok (.invokevirtual 311, 3) := by decide +kernel
theorem dX11_findWord_15 : decode cX11_findWord 15 = .ok (.lstore_n 1, 1) := by decide +kernel
theorem dX11_findWord_16 : decode cX11_findWord 16 = .ok (.aload_n 0, 1) := by decide +kernel
theorem dX11_findWord_17 : decode cX11_findWord 17 = .ok (.getfield 14, 3) := by decide +kernel
theorem dX11_findWord_20 : decode cX11_findWord 20 = .ok (.iconst 0, 1) := by decide +kernel
theorem dX11_findWord_21 : decode cX11_findWord 21 = .ok (.invokevirtual 108, 3) := by decide +kernel
theorem dX11_findWord_24 : decode cX11_findWord 24 = .ok (.aload_n 0, 1) := by decide +kernel
theorem dX11_findWord_25 : decode cX11_findWord 25 = .ok (.getfield 62, 3) := by decide +kernel
theorem dX11_findWord_28 : decode cX11_findWord 28 = .ok (.aload_n 0, 1) := by decide +kernel
theorem dX11_findWord_29 : decode cX11_findWord 29 = .ok (.getfield 38, 3) := by decide +kernel
theorem dX11_findWord_32 : decode cX11_findWord 32 = .ok (.getfield 82, 3) := by decide +kernel
theorem dX11_findWord_35 : decode cX11_findWord 35 = .ok (.invokevirtual 300, 3) := by decide +kernel
theorem dX11_findWord_38 : decode cX11_findWord 38 = .ok (.aload_n 0, 1) := by decide +kernel
theorem dX11_findWord_39 : decode cX11_findWord 39 = .ok (.getfield 62, 3) := by decide +kernel
theorem dX11_findWord_42 : decode cX11_findWord 42 = .ok (.lload_n 1, 1) := by decide +kernel
theorem dX11_findWord_43 : decode cX11_findWord 43 = .ok (.invokevirtual 315, 3) := by decide +kernel
theorem dX11_findWord_46 : decode cX11_findWord 46 = .ok (.ireturn, 1) := by decide +kernel
theorem dX11_setLength_0 : decode cX11_setLength 0 = .ok (.aload_n 0, 1) := by decide +kernel
theorem dX11_setLength_1 : decode cX11_setLength 1 = .ok (.iload_n 1, 1) := by decide +kernel
theorem dX11_setLength_2 : decode cX11_setLength 2 = .ok (.invokevirtual 184, 3) := by decide +kernel
theorem dX11_setLength_5 : decode cX11_setLength 5 = .ok (.aload_n 0, 1) := by decide +kernel
theorem dX11_setLength_6 : decode cX11_setLength 6 = .ok (.iload_n 2, 1) := by decide +kernel
theorem dX11_setLength_7 : decode cX11_setLength 7 = .ok (.invokevirtual 319, 3) := by decide +kernel
theorem dX11_setLength_10 : decode cX11_setLength 10 = .ok (.aload_n 0, 1) := by decide +kernel
theorem dX11_setLength_11 : decode cX11_setLength 11 = .ok (.invokevirtual 121, 3) := by decide +kernel
theorem dX11_setLength_14 : decode cX11_setLength 14 = .ok (.aload_n 0, 1) := by decide +kernel
theorem dX11_setLength_15 : decode cX11_setLength 15 = .ok (.getfield 38, 3) := by decide +kernel
theorem dX11_setLength_18 : decode cX11_setLength 18 = .ok (.getfield 82, 3) := by decide +kernel
theorem dX11_setLength_21 : decode cX11_setLength 21 = .ok (.getfield 190, 3) := by decide +kernel
theorem dX11_setLength_24 : decode cX11_setLength 24 = .ok (.iload_n 1, 1) := by decide +kernel
theorem dX11_setLength_25 : decode cX11_setLength 25 = .ok (.invokevirtual 175, 3) := by decide +kernel
theorem dX11_setLength_28 : decode cX11_setLength 28 = .ok (.istore_n 3, 1) := by decide +kernel
theorem dX11_setLength_29 : decode cX11_setLength 29 = .ok (.aload_n 0, 1) := by decide +kernel
theorem dX11_setLength_30 : decode cX11_setLength 30 = .ok (.getfield 38, 3) := by decide +kernel
theorem dX11_setLength_33 : decode cX11_setLength 33 = .ok (.getfield 82, 3) := by decide +kernel
theorem dX11_setLength_36 : decode cX11_setLength 36 = .ok (.getfield 190, 3) := by decide +kernel
theorem dX11_setLength_39 : decode cX11_setLength 39 = .ok (.iload_n 1, 1) := by decide +kernel
theorem dX11_setLength_40 : decode cX11_setLength 40 = .ok (.iload_n 2, 1) := by decide +kernel
theorem dX11_setLength_41 : decode cX11_setLength 41 = .ok (.invokevirtual 322, 3) := by decide +kernel
theorem dX11_setLength_44 : decode cX11_setLength 44 = .ok (.aload_n 0, 1) := by decide +kernel
theorem dX11_setLength_45 : decode cX11_setLength 45 = .ok (.getfield 55, 3) := by decide +kernel
theorem dX11_setLength_48 : decode cX11_setLength 48 = .ok (.aload_n 0, 1) := by decide +kernel
theorem dX11_setLength_49 : decode cX11_setLength 49 = .ok (.getfield 38, 3) := by decide +kernel
theorem dX11_setLength_52 : decode cX11_setLength 52 = .ok (.getfield 82, 3) := by decide +kernel
theorem dX11_setLength_55 : decode cX11_setLength 55 = .ok (.invokevirtual 85, 3) := by decide +kernel
theorem dX11_setLength_58 : decode cX11_setLength 58 = .ok (.iload_n 3, 1) := by decide +kernel
theorem dX11_setLength_59 : decode cX11_setLength 59 = .ok (.ireturn, 1) := by decide +kernel
theorem dX11_setLevel_0 : decode cX11_setLevel 0 = .ok (.aload_n 0, 1) := by decide +kernel
theorem dX11_setLevel_1 : decode cX11_setLevel 1 = .ok (.iload_n 1, 1) := by decide +kernel
theorem dX11_setLevel_2 : decode cX11_setLevel 2 = .ok (.invokevirtual 184, 3) := by decide +kernel
theorem dX11_setLevel_5 : decode cX11_setLevel 5 = .ok (.aload_n 0, 1) := by decide +kernel
theorem dX11_setLevel_6 : decode cX11_setLevel 6 = .ok (.iload_n 2, 1) := by decide +kernel
theorem dX11_setLevel_7 : decode cX11_setLevel 7 = .ok (.invokevirtual 326, 3) := by decide +kernel
theorem dX11_setLevel_10 : decode cX11_setLevel 10 = .ok (.aload_n 0, 1) := by decide +kernel
theorem dX11_setLevel_11 : decode cX11_setLevel 11 = .ok (.getfield 38, 3) := by decide +kernel
theorem dX11_setLevel_14 : decode cX11_setLevel 14 = .ok (.getfield 82, 3) := by decide +kernel
theorem dX11_setLevel_17 : decode cX11_setLevel 17 = .ok (.aload_n 0, 1) := by decide +kernel
theorem dX11_setLevel_18 : decode cX11_setLevel 18 = .ok (.getfield 38, 3) := by decide +kernel
theorem dX11_setLevel_21 : decode cX11_setLevel 21 = .ok (.getfield 82, 3) := by decide +kernel
theorem dX11_setLevel_24 : decode cX11_setLevel 24 = .ok (.iload_n 1, 1) := by decide +kernel
theorem dX11_setLevel_25 : decode cX11_setLevel 25 = .ok (.invokevirtual 193, 3) := by decide +kernel
theorem dX11_setLevel_28 : decode cX11_setLevel 28 = .ok (.iload_n 1, 1) := by decide +kernel
theorem dX11_setLevel_29 : decode cX11_setLevel 29 = .ok (.iload_n 1, 1) := by decide +kernel
theorem dX11_setLevel_30 : decode cX11_setLevel 30 = .ok (.iconst 1, 1) := by decide +kernel
theorem dX11_setLevel_31 : decode cX11_setLevel 31 = .ok (.iadd, 1) := by decide +kernel
theorem dX11_setLevel_32 : decode cX11_setLevel 32 = .ok (.iload_n 2, 1) := by decide +kernel
theorem dX11_setLevel_33 : decode cX11_setLevel 33 = .ok (.invokevirtual 329, 3) := by decide +kernel
theorem dX11_setLevel_36 : decode cX11_setLevel 36 = .ok (.ifCond .ne 14, 3) := by decide +kernel
theorem dX11_setLevel_39 : decode cX11_setLevel 39 = .ok (.new 103, 3) := by decide +kernel
theorem dX11_setLevel_42 : decode cX11_setLevel 42 = .ok (.dup, 1) := by decide +kernel
theorem dX11_setLevel_43 : decode cX11_setLevel 43 = .ok (.ldc_w 333, 3) := by decide +kernel
theorem dX11_setLevel_46 : decode cX11_setLevel 46 = .ok (.invokespecial 107, 3) := by decide +kernel
theorem dX11_setLevel_49 : decode cX11_setLevel 49 = .ok (.athrow, 1) := by decide +kernel
theorem dX11_setLevel_50 : decode cX11_setLevel 50 = .ok (.aload_n 0, 1) := by decide +kernel
theorem dX11_setLevel_51 : decode cX11_setLevel 51 = .ok (.invokevirtual 121, 3) := by decide +kernel
theorem dX11_setLevel_54 : decode cX11_setLevel 54 = .ok (.aload_n 0, 1) := by decide +kernel
theorem dX11_setLevel_55 : decode cX11_setLevel 55 = .ok (.getfield 38, 3) := by decide +kernel
theorem dX11_setLevel_58 : decode cX11_setLevel 58 = .ok (.getfield 82, 3) := by decide +kernel
theorem dX11_setLevel_61 : decode cX11_setLevel 61 = .ok (.getfield 187, 3) := by decide +kernel
theorem dX11_setLevel_64 : decode cX11_setLevel 64 = .ok (.iload_n 1, 1) := by decide +kernel
theorem dX11_setLevel_65 : decode cX11_setLevel 65 = .ok (.invokevirtual 175, 3) := by decide +kernel
theorem dX11_setLevel_68 : decode cX11_setLevel 68 = .ok (.istore_n 3, 1) := by decide +kernel
theorem dX11_setLevel_69 : decode cX11_setLevel 69 = .ok (.aload_n 0, 1) := by decide +kernel
theorem dX11_setLevel_70 : decode cX11_setLevel 70 = .ok (.getfield 38, 3) := by decide +kernel
theorem dX11_setLevel_73 : decode cX11_setLevel 73 = .ok (.getfield 82, 3) := by decide +kernel
theorem dX11_setLevel_76 : decode cX11_setLevel 76 = .ok (.getfield 187, 3) := by decide +kernel
theorem dX11_setLevel_79 : decode cX11_setLevel 79 = .ok (.iload_n 1, 1) := by decide +kernel
theorem dX11_setLevel_80 : decode cX11_setLevel 80 = .ok (.iload_n 2, 1) := by decide +kernel
theorem dX11_setLevel_81 : decode cX11_setLevel 81 = .ok (.invokevirtual 322, 3) := by decide +kernel
theorem dX11_setLevel_84 : decode cX11_setLevel 84 = .ok (.aload_n 0, 1) := by decide +kernel
theorem dX11_setLevel_85 : decode cX11_setLevel 85 = .ok (.getfield 55, 3) := by decide +kernel
theorem dX11_setLevel_88 : decode cX11_setLevel 88 = .ok (.aload_n 0, 1) := by decide +kernel
theorem dX11_setLevel_89 : decode cX11_setLevel 89 = .ok (.getfield 38, 3) := by decide +kernel
theorem dX11_setLevel_92 : decode cX11_setLevel 92 = .ok (.getfield 82, 3) := by decide +kernel
theorem dX11_setLevel_95 : decode cX11_setLevel 95 = .ok (.invokevirtual 85, 3) := by decide +kernel
theorem dX11_setLevel_98 : decode cX11_setLevel 98 = .ok (.iload_n 3, 1) := by decide +kernel
theorem dX11_setLevel_99 : decode cX11_setLevel 99 = .ok (.ireturn, 1) := by decide +kernel
theorem dX11_setTitle_0 : decode cX11_setTitle 0 = .ok (.aload_n 0, 1) := by decide +kernel
theorem dX11_setTitle_1 : decode cX11_setTitle 1 = .ok (.iload_n 1, 1) := by decide +kernel
theorem dX11_setTitle_2 : decode cX11_setTitle 2 = .ok (.invokevirtual 184, 3) := by decide +kernel
theorem dX11_setTitle_5 : decode cX11_setTitle 5 = .ok (.aload_n 0, 1) := by decide +kernel
theorem dX11_setTitle_6 : decode cX11_setTitle 6 = .ok (.invokevirtual 335, 3) := by decide +kernel
theorem dX11_setTitle_9 : decode cX11_setTitle 9 = .ok (.aload_n 0, 1) := by decide +kernel
theorem dX11_setTitle_10 : decode cX11_setTitle 10 = .ok (.invokevirtual 121, 3) := by decide +kernel
theorem dX11_setTitle_13 : decode cX11_setTitle 13 = .ok (.aload_n 0, 1) := by decide +kernel
theorem dX11_setTitle_14 : decode cX11_setTitle 14 = .ok (.getfield 38, 3) := by decide +kernel
theorem dX11_setTitle_17 : decode cX11_setTitle 17 = .ok (.getfield 82, 3) := by decide +kernel
theorem dX11_setTitle_20 : decode cX11_setTitle 20 = .ok (.getfield 196, 3) := by decide +kernel
theorem dX11_setTitle_23 : decode cX11_setTitle 23 = .ok (.iload_n 1, 1) := by decide +kernel
theorem dX11_setTitle_24 : decode cX11_setTitle 24 = .ok (.invokevirtual 175, 3) := by decide +kernel
theorem dX11_setTitle_27 : decode cX11_setTitle 27 = .ok (.istore_n 2, 1) := by decide +kernel
theorem dX11_setTitle_28 : decode cX11_setTitle 28 = .ok (.aload_n 0, 1) := by decide +kernel
theorem dX11_setTitle_29 : decode cX11_setTitle 29 = .ok (.getfield 38, 3) := by decide +kernel
theorem dX11_setTitle_32 : decode cX11_setTitle 32 = .ok (.getfield 82, 3) := by decide +kernel
theorem dX11_setTitle_35 : decode cX11_setTitle 35 = .ok (.iload_n 1, 1) := by decide +kernel
theorem dX11_setTitle_36 : decode cX11_setTitle 36 = .ok (.aload_n 0, 1) := by decide +kernel
theorem dX11_setTitle_37 : decode cX11_setTitle 37 = .ok (.getfield 24, 3) := by decide +kernel
theorem dX11_setTitle_40 : decode cX11_setTitle 40 = .ok (.getfield 338, 3) := by decide +kernel
theorem dX11_setTitle_43 : decode cX11_setTitle 43 = .ok (.aload_n 0, 1) := by decide +kernel
theorem dX11_setTitle_44 : decode cX11_setTitle 44 = .ok (.getfield 24, 3) := by decide +kernel
theorem dX11_setTitle_47 : decode cX11_setTitle 47 = .ok (.getfield 342, 3) := by decide +kernel
theorem dX11_setTitle_50 : decode cX11_setTitle 50 = .ok (.invokevirtual 345, 3) := by decide +kernel
theorem dX11_setTitle_53 : decode cX11_setTitle 53 = .ok (.aload_n 0, 1) := by decide +kernel
theorem dX11_setTitle_54 : decode cX11_setTitle 54 = .ok (.getfield 14, 3) := by decide +kernel
theorem dX11_setTitle_57 : decode cX11_setTitle 57 = .ok (.iconst 0, 1) := by decide +kernel
theorem dX11_setTitle_58 : decode cX11_setTitle 58 = .ok (.invokevirtual 108, 3) := by decide +kernel
theorem dX11_setTitle_61 : decode cX11_setTitle 61 = .ok (.aload_n 0, 1) := by decide +kernel
theorem dX11_setTitle_62 : decode cX11_setTitle 62 = .ok (.getfield 55, 3) := by decide +kernel
theorem dX11_setTitle_65 : decode cX11_setTitle 65 = .ok (.aload_n 0, 1) := by decide +kernel
theorem dX11_setTitle_66 : decode cX11_setTitle 66 = .ok (.getfield 38, 3) := by decide +kernel
theorem dX11_setTitle_69 : decode cX11_setTitle 69 = .ok (.getfield 82, 3) := by decide +kernel
theorem dX11_setTitle_72 : decode cX11_setTitle 72 = .ok (.invokevirtual 85, 3) := by decide +kernel
theorem dX11_setTitle_75 : decode cX11_setTitle 75 = .ok (.iload_n 2, 1) := by decide +kernel
theorem dX11_setTitle_76 : decode cX11_setTitle 76 = .ok (.ireturn, 1) := by decide +kernel
theorem dX11_insert_0 : decode cX11_insert 0 = .ok (.iload_n 1, 1) := by decide +kernel
theorem dX11_insert_1 : decode cX11_insert 1 = .ok (.ifCond .lt 17, 3) := by decide +kernel
theorem dX11_insert_4 : decode cX11_insert 4 = .ok (.iload_n 1, 1) := by decide +kernel
theorem dX11_insert_5 : decode cX11_insert 5 = .ok (.aload_n 0, 1) := by decide +kernel
theorem dX11_insert_6 : decode cX11_insert 6 = .ok (.getfield 38, 3) := by decide +kernel
theorem dX11_insert_9 : decode cX11_insert 9 = .ok (.getfield 82, 3) := by decide +kernel
theorem dX11_insert_12 : decode cX11_insert 12 = .ok (.getfield 131, 3) := by decide +kernel
theorem dX11_insert_15 : decode cX11_insert 15 = .ok (.if_icmp .le 14, 3) := by decide +kernel
theorem dX11_insert_18 : decode cX11_insert 18 = .ok (.new 239, 3) := by decide +kernel
theorem dX11_insert_21 : decode cX11_insert 21 = .ok (.dup, 1) := by decide +kernel
theorem dX11_insert_22 : decode cX11_insert 22 = .ok (.ldc_w 349, 3) := by decide +kernel
theorem dX11_insert_25 : decode cX11_insert 25 = .ok (.invokespecial 243, 3) := by decide +kernel
theorem dX11_insert_28 : decode cX11_insert 28 = .ok (.athrow, 1) := by decide +kernel
theorem dX11_insert_29 : decode cX11_insert 29 = .ok (.aload_n 0, 1) := by decide +kernel
theorem dX11_insert_30 : decode cX11_insert 30 = .ok (.iload_n 2, 1) := by decide +kernel
theorem dX11_insert_31 : decode cX11_insert 31 = .ok (.invokevirtual 326, 3) := by decide +kernel
theorem dX11_insert_34 : decode cX11_insert 34 = .ok (.aload_n 0, 1) := by decide +kernel
theorem dX11_insert_35 : decode cX11_insert 35 = .ok (.iload_n 3, 1) := by decide +kernel
theorem dX11_insert_36 : decode cX11_insert 36 = .ok (.invokevirtual 319, 3) := by decide +kernel
theorem dX11_insert_39 : decode cX11_insert 39 = .ok (.aload_n 0, 1) := by decide +kernel
theorem dX11_insert_40 : decode cX11_insert 40 = .ok (.invokevirtual 335, 3) := by decide +kernel
theorem dX11_insert_43 : decode cX11_insert 43 = .ok (.aload_n 0, 1) := by decide +kernel
theorem dX11_insert_44 : decode cX11_insert 44 = .ok (.getfield 38, 3) := by decide +kernel
theorem dX11_insert_47 : decode cX11_insert 47 = .ok (.getfield 82, 3) := by decide +kernel
theorem dX11_insert_50 : decode cX11_insert 50 = .ok (.iload_n 1, 1) := by decide +kernel
theorem dX11_insert_51 : decode cX11_insert 51 = .ok (.invokevirtual 351, 3) := by decide +kernel
theorem dX11_insert_54 : decode cX11_insert 54 = .ok (.istore 4, 2) := by decide +kernel
theorem dX11_insert_56 : decode cX11_insert 56 = .ok (.aload_n 0, 1) := by decide +kernel
theorem dX11_insert_57 : decode cX11_insert 57 = .ok (.getfield 38, 3) := by decide +kernel
theorem dX11_insert_60 : decode cX11_insert 60 = .ok (.getfield 82, 3) := by decide +kernel
theorem dX11_insert_63 : decode cX11_insert 63 = .ok (.iload 4, 2) := by decide +kernel
theorem dX11_insert_65 : decode cX11_insert 65 = .ok (.iload_n 1, 1) := by decide +kernel
theorem dX11_insert_66 : decode cX11_insert 66 = .ok (.iload_n 1, 1) := by decide +kernel
theorem dX11_insert_67 : decode cX11_insert 67 = .ok (.iload_n 2, 1) := by decide +kernel
theorem dX11_insert_68 : decode cX11_insert 68 = .ok (.invokevirtual 329, 3) := by decide +kernel
theorem dX11_insert_71 : decode cX11_insert 71 = .ok (.ifCond .ne 14, 3) := by decide +kernel
theorem dX11_insert_74 : decode cX11_insert 74 = .ok (.new 103, 3) := by decide +kernel
theorem dX11_insert_77 : decode cX11_insert 77 = .ok (.dup, 1) := by decide +kernel
theorem dX11_insert_78 : decode cX11_insert 78 = .ok (.ldc_w 333, 3) := by decide +kernel
theorem dX11_insert_81 : decode cX11_insert 81 = .ok (.invokespecial 107, 3) := by decide +kernel
theorem dX11_insert_84 : decode cX11_insert 84 = .ok (.athrow, 1) := by decide +kernel
theorem dX11_insert_85 : decode cX11_insert 85 = .ok (.aload_n 0, 1) := by decide +kernel
theorem dX11_insert_86 : decode cX11_insert 86 = .ok (.getfield 38, 3) := by decide +kernel
theorem dX11_insert_89 : decode cX11_insert 89 = .ok (.getfield 82, 3) := by decide +kernel
theorem dX11_insert_92 : decode cX11_insert 92 = .ok (.getfield 131, 3) := by decide +kernel
theorem dX11_insert_95 : decode cX11_insert 95 = .ok (.bipush 24, 2) := by decide +kernel
theorem dX11_insert_97 : decode cX11_insert 97 = .ok (.if_icmp .lt 14, 3) := by decide +kernel
theorem dX11_insert_100 : decode cX11_insert 100 = .ok (.new 93, 3) := by decide +kernel
theorem dX11_insert_103 : decode cX11_insert 103 = .ok (.dup, 1) := by decide +kernel
theorem dX11_insert_104 : decode cX11_insert 104 = .ok (.ldc_w 354, 3) := by decide +kernel
theorem dX11_insert_107 : decode cX11_insert 107 = .ok (.invokespecial 97, 3) := by decide +kernel
theorem dX11_insert_110 : decode cX11_insert 110 = .ok (.athrow, 1) := by decide +kernel
theorem dX11_insert_111 : decode cX11_insert 111 = .ok (.aload_n 0, 1) := by decide +kernel
theorem dX11_insert_112 : decode cX11_insert 112 = .ok (.invokevirtual 121, 3) := by decide +kernel
theorem dX11_insert_115 : decode cX11_insert 115 = .ok (.aload_n 0, 1) := by decide +kernel
theorem dX11_insert_116 : decode cX11_insert 116 = .ok (.getfield 38, 3) := by decide +kernel
theorem dX11_insert_119 : decode cX11_insert 119 = .ok (.getfield 82, 3) := by decide +kernel
theorem dX11_insert_122 : decode cX11_insert 122 = .ok (.iload_n 1, 1) := by decide +kernel
theorem dX11_insert_123 : decode cX11_insert 123 = .ok (.iload 4, 2) := by decide +kernel
theorem dX11_insert_125 : decode cX11_insert 125 = .ok (.invokevirtual 356, 3) := by decide +kernel
theorem dX11_insert_128 : decode cX11_insert 128 = .ok (.aload_n 0, 1) := by decide +kernel
theorem dX11_insert_129 : decode cX11_insert 129 = .ok (.getfield 38, 3) := by decide +kernel
theorem dX11_insert_132 : decode cX11_insert 132 = .ok (.getfield 82, 3) := by decide +kernel
theorem dX11_insert_135 : decode cX11_insert 135 = .ok (.getfield 187, 3) := by decide +kernel
theorem dX11_insert_138 : decode cX11_insert 138 = .ok (.iload_n 1, 1) := by decide +kernel
theorem dX11_insert_139 : decode cX11_insert 139 = .ok (.iload_n 2, 1) := by decide +kernel
theorem dX11_insert_140 : decode cX11_insert 140 = .ok (.invokevirtual 322, 3) := by decide +kernel
theorem dX11_insert_143 : decode cX11_insert 143 = .ok (.aload_n 0, 1) := by decide +kernel
theorem dX11_insert_144 : decode cX11_insert 144 = .ok (.getfield 38, 3) := by decide +kernel
theorem dX11_insert_147 : decode cX11_insert 147 = .ok (.getfield 82, 3) := by decide +kernel
theorem dX11_insert_150 : decode cX11_insert 150 = .ok (.getfield 190, 3) := by decide +kernel
theorem dX11_insert_153 : decode cX11_insert 153 = .ok (.iload_n 1, 1) := by decide +kernel
theorem dX11_insert_154 : decode cX11_insert 154 = .ok (.iload_n 3, 1) := by decide +kernel
theorem dX11_insert_155 : decode cX11_insert 155 = .ok (.invokevirtual 322, 3) := by decide +kernel
theorem dX11_insert_158 : decode cX11_insert 158 = .ok (.aload_n 0, 1) := by decide +kernel
theorem dX11_insert_159 : decode cX11_insert 159 = .ok (.getfield 38, 3) := by decide +kernel
theorem dX11_insert_162 : decode cX11_insert 162 = .ok (.getfield 82, 3) := by decide +kernel
theorem dX11_insert_165 : decode cX11_insert 165 = .ok (.iload_n 1, 1) := by decide +kernel
theorem dX11_insert_166 : decode cX11_insert 166 = .ok (.aload_n 0, 1) := by decide +kernel
theorem dX11_insert_167 : decode cX11_insert 167 = .ok (.getfield 24, 3) := by decide +kernel
theorem dX11_insert_170 : decode cX11_insert 170 = .ok (.getfield 338, 3) := by decide +kernel
theorem dX11_insert_173 : decode cX11_insert 173 = .ok (.aload_n 0, 1) := by decide +kernel
theorem dX11_insert_174 : decode cX11_insert 174 = .ok (.getfield 24, 3) := by decide +kernel
theorem dX11_insert_177 : decode cX11_insert 177 = .ok (.getfield 342, 3) := by decide +kernel
theorem dX11_insert_180 : decode cX11_insert 180 = .ok (.invokevirtual 345, 3) := by decide +kernel
theorem dX11_insert_183 : decode cX11_insert 183 = .ok (.aload_n 0, 1) := by decide +kernel
theorem dX11_insert_184 : decode cX11_insert 184 = .ok (.getfield 14, 3) := by decide +kernel
theorem dX11_insert_187 : decode cX11_insert 187 = .ok (.iconst 0, 1) := by decide +kernel
theorem dX11_insert_188 : decode cX11_insert 188 = .ok (.invokevirtual 108, 3) := by decide +kernel
theorem dX11_insert_191 : decode cX11_insert 191 = .ok (.aload_n 0, 1) := by decide +kernel
theorem dX11_insert_192 : decode cX11_insert 192 = .ok (.getfield 55, 3) := by decide +kernel
theorem dX11_insert_195 : decode cX11_insert 195 = .ok (.aload_n 0, 1) := by decide +kernel
theorem dX11_insert_196 : decode cX11_insert 196 = .ok (.getfield 38, 3) := by decide +kernel
theorem dX11_insert_199 : decode cX11_insert 199 = .ok (.getfield 82, 3) := by decide +kernel
theorem dX11_insert_202 : decode cX11_insert 202 = .ok (.invokevirtual 85, 3) := by decide +kernel
theorem dX11_insert_205 : decode cX11_insert 205 = .ok (.aload_n 0, 1) := by decide +kernel
theorem dX11_insert_206 : decode cX11_insert 206 = .ok (.getfield 38, 3) := by decide +kernel
theorem dX11_insert_209 : decode cX11_insert 209 = .ok (.getfield 82, 3) := by decide +kernel
theorem dX11_insert_212 : decode cX11_insert 212 = .ok (.getfield 131, 3) := by decide +kernel
theorem dX11_insert_215 : decode cX11_insert 215 = .ok (.ireturn, 1) := by decide +kernel
theorem dX11_remove_0 : decode cX11_remove 0 = .ok (.aload_n 0, 1) := by decide +kernel
theorem dX11_remove_1 : decode cX11_remove 1 = .ok (.iload_n 1, 1) := by decide +kernel
theorem dX11_remove_2 : decode cX11_remove 2 = .ok (.invokevirtual 184, 3) := by decide +kernel
theorem dX11_remove_5 : decode cX11_remove 5 = .ok (.aload_n 0, 1) := by decide +kernel
theorem dX11_remove_6 : decode cX11_remove 6 = .ok (.invokevirtual 121, 3) := by decide +kernel
theorem dX11_remove_9 : decode cX11_remove 9 = .ok (.aload_n 0, 1) := by decide +kernel
theorem dX11_remove_10 : decode cX11_remove 10 = .ok (.getfield 38, 3) := by decide +kernel
theorem dX11_remove_13 : decode cX11_remove 13 = .ok (.getfield 82, 3) := by decide +kernel
theorem dX11_remove_16 : decode cX11_remove 16 = .ok (.iload_n 1, 1) := by decide +kernel
theorem dX11_remove_17 : decode cX11_remove 17 = .ok (.invokevirtual 359, 3) := by decide +kernel
theorem dX11_remove_20 : decode cX11_remove 20 = .ok (.istore_n 2, 1) := by decide +kernel
theorem dX11_remove_21 : decode cX11_remove 21 = .ok (.aload_n 0, 1) := by decide +kernel
theorem dX11_remove_22 : decode cX11_remove 22 = .ok (.getfield 55, 3) := by decide +kernel
theorem dX11_remove_25 : decode cX11_remove 25 = .ok (.aload_n 0, 1) := by decide +kernel
theorem dX11_remove_26 : decode cX11_remove 26 = .ok (.getfield 38, 3) := by decide +kernel
theorem dX11_remove_29 : decode cX11_remove 29 = .ok (.getfield 82, 3) := by decide +kernel
theorem dX11_remove_32 : decode cX11_remove 32 = .ok (.invokevirtual 85, 3) := by decide +kernel
theorem dX11_remove_35 : decode cX11_remove 35 = .ok (.iload_n 2, 1) := by decide +kernel
theorem dX11_remove_36 : decode cX11_remove 36 = .ok (.ireturn, 1) := by decide +kernel
theorem dX11_setWidth_0 : decode cX11_setWidth 0 = .ok (.iload_n 1, 1) := by decide +kernel
theorem dX11_setWidth_1 : decode cX11_setWidth 1 = .ok (.bipush 20, 2) := by decide +kernel
theorem dX11_setWidth_3 : decode cX11_setWidth 3 = .ok (.if_icmp .lt 9, 3) := by decide +kernel
theorem dX11_setWidth_6 : decode cX11_setWidth 6 = .ok (.iload_n 1, 1) := by decide +kernel
theorem dX11_setWidth_7 : decode cX11_setWidth 7 = .ok (.bipush 120, 2) := by decide +kernel
theorem dX11_setWidth_9 : decode cX11_setWidth 9 = .ok (.if_icmp .le 14, 3) := by decide +kernel
theorem dX11_setWidth_12 : decode cX11_setWidth 12 = .ok (.new 103, 3) := by decide +kernel
theorem dX11_setWidth_15 : decode cX11_setWidth 15 = .ok (.dup, 1) := by decide +kernel
theorem dX11_setWidth_16 : decode cX11_setWidth 16 = .ok (.ldc_w 362, 3) := by decide +kernel
theorem dX11_setWidth_19 : decode cX11_setWidth 19 = .ok (.invokespecial 107, 3) := by decide +kernel
theorem dX11_setWidth_22 : decode cX11_setWidth 22 = .ok (.athrow, 1) := by decide +kernel
theorem dX11_setWidth_23 : decode cX11_setWidth 23 = .ok (.aload_n 0, 1) := by decide +kernel
theorem dX11_setWidth_24 : decode cX11_setWidth 24 = .ok (.iconst 0, 1) := by decide +kernel
theorem dX11_setWidth_25 : decode cX11_setWidth 25 = .ok (.iload_n 1, 1) := by decide +kernel
theorem dX11_setWidth_26 : decode cX11_setWidth 26 = .ok (.invokevirtual 364, 3) := by decide +kernel
theorem dX11_setWidth_29 : decode cX11_setWidth 29 = .ok (.istore_n 2, 1) := by decide +kernel
theorem dX11_setWidth_30 : decode cX11_setWidth 30 = .ok (.aload_n 0, 1) := by decide +kernel
theorem dX11_setWidth_31 : decode cX11_setWidth 31 = .ok (.getfield 55, 3) := by decide +kernel
theorem dX11_setWidth_34 : decode cX11_setWidth 34 = .ok (.aload_n 0, 1) := by decide +kernel
theorem dX11_setWidth_35 : decode cX11_setWidth 35 = .ok (.getfield 38, 3) := by decide +kernel
theorem dX11_setWidth_38 : decode cX11_setWidth 38 = .ok (.getfield 82, 3) := by decide +kernel
theorem dX11_setWidth_41 : decode cX11_setWidth 41 = .ok (.invokevirtual 85, 3) := by decide +kernel
theorem dX11_setWidth_44 : decode cX11_setWidth 44 = .ok (.iload_n 2, 1) := by decide +kernel
theorem dX11_setWidth_45 : decode cX11_setWidth 45 = .ok (.ireturn, 1) := by decide +kernel
theorem dX11_setGrid_0 : decode cX11_setGrid 0 = .ok (.iload_n 1, 1) := by decide +kernel
theorem dX11_setGrid_1 : decode cX11_setGrid 1 = .ok (.iconst 1, 1) := by decide +kernel
theorem dX11_setGrid_2 : decode cX11_setGrid 2 = .ok (.if_icmp .lt 9, 3) := by decide +kernel
theorem dX11_setGrid_5 : decode cX11_setGrid 5 = .ok (.iload_n 1, 1) := by decide +kernel
theorem dX11_setGrid_6 : decode cX11_setGrid 6 = .ok (.bipush 9, 2) := by decide +kernel
theorem dX11_setGrid_8 : decode cX11_setGrid 8 = .ok (.if_icmp .le 14, 3) := by decide +kernel
theorem dX11_setGrid_11 : decode cX11_setGrid 11 = .ok (.new 103, 3) := by decide +kernel
theorem dX11_setGrid_14 : decode cX11_setGrid 14 = .ok (.dup, 1) := by decide +kernel
theorem dX11_setGrid_15 : decode cX11_setGrid 15 = .ok (.ldc_w 367, 3) := by decide +kernel
theorem dX11_setGrid_18 : decode cX11_setGrid 18 = .ok (.invokespecial 107, 3) := by decide +kernel
theorem dX11_setGrid_21 : decode cX11_setGrid 21 = .ok (.athrow, 1) := by decide +kernel
theorem dX11_setGrid_22 : decode cX11_setGrid 22 = .ok (.aload_n 0, 1) := by decide +kernel
theorem dX11_setGrid_23 : decode cX11_setGrid 23 = .ok (.bipush 7, 2) := by decide +kernel
theorem dX11_setGrid_25 : decode cX11_setGrid 25 = .ok (.iload_n 1, 1) := by decide +kernel
theorem dX11_setGrid_26 : decode cX11_setGrid 26 = .ok (.invokevirtual 364, 3) := by decide +kernel
theorem dX11_setGrid_29 : decode cX11_setGrid 29 = .ok (.istore_n 2, 1) := by decide +kernel
theorem dX11_setGrid_30 : decode cX11_setGrid 30 = .ok (.aload_n 0, 1) := by decide +kernel
theorem dX11_setGrid_31 : decode cX11_setGrid 31 = .ok (.getfield 55, 3) := by decide +kernel
theorem dX11_setGrid_34 : decode cX11_setGrid 34 = .ok (.aload_n 0, 1) := by decide +kernel
theorem dX11_setGrid_35 : decode cX11_setGrid 35 = .ok (.getfield 38, 3) := by decide +kernel
theorem dX11_setGrid_38 : decode cX11_setGrid 38 = .ok (.getfield 82, 3) := by decide +kernel
theorem dX11_setGrid_41 : decode cX11_setGrid 41 = .ok (.invokevirtual 85, 3) := by decide +kernel
theorem dX11_setGrid_44 : decode cX11_setGrid 44 = .ok (.iload_n 2, 1) := by decide +kernel
theorem dX11_setGrid_45 : decode cX11_setGrid 45 = .ok (.ireturn, 1) := by decide +kernel
theorem dX11_setRight_0 : decode cX11_setRight 0 = .ok (.aload_n 0, 1) := by decide +kernel
theorem dX11_setRight_1 : decode cX11_setRight 1 = .ok (.invokevirtual 121, 3) := by decide +kernel
theorem dX11_setRight_4 : decode cX11_setRight 4 = .ok (.aload_n 0, 1) := by decide +kernel
theorem dX11_setRight_5 : decode cX11_setRight 5 = .ok (.getfield 38, 3) := by decide +kernel
theorem dX11_setRight_8 : decode cX11_setRight 8 = .ok (.getfield 82, 3) := by decide +kernel
theorem dX11_setRight_11 : decode cX11_setRight 11 = .ok (.getfield 181, 3) := by decide +kernel
theorem dX11_setRight_14 : decode cX11_setRight 14 = .ok (.istore_n 2, 1) := by decide +kernel
theorem dX11_setRight_15 : decode cX11_setRight 15 = .ok (.aload_n 0, 1) := by decide +kernel
theorem dX11_setRight_16 : decode cX11_setRight 16 = .ok (.getfield 38, 3) := by decide +kernel
theorem dX11_setRight_19 : decode cX11_setRight 19 = .ok (.getfield 82, 3) := by decide +kernel
theorem dX11_setRight_22 : decode cX11_setRight 22 = .ok (.iload_n 1, 1) := by decide +kernel
theorem dX11_setRight_23 : decode cX11_setRight 23 = .ok (.putfield 181, 3) := by decide +kernel
theorem dX11_setRight_26 : decode cX11_setRight 26 = .ok (.aload_n 0, 1) := by decide +kernel
theorem dX11_setRight_27 : decode cX11_setRight 27 = .ok (.getfield 55, 3) := by decide +kernel
theorem dX11_setRight_30 : decode cX11_setRight 30 = .ok (.aload_n 0, 1) := by decide +kernel
theorem dX11_setRight_31 : decode cX11_setRight 31 = .ok (.getfield 38, 3) := by decide +kernel
theorem dX11_setRight_34 : decode cX11_setRight 34 = .ok (.getfield 82, 3) := by decide +kernel
theorem dX11_setRight_37 : decode cX11_setRight 37 = .ok (.invokevirtual 85, 3) := by decide +kernel
theorem dX11_setRight_40 : decode cX11_setRight 40 = .ok (.iload_n 2, 1) := by decide +kernel
theorem dX11_setRight_41 : decode cX11_setRight 41 = .ok (.ireturn, 1) := by decide +kernel
theorem dX11_proof_0 : decode cX11_proof 0 = .ok (.aload_n 0, 1) := by decide +kernel
theorem dX11_proof_1 : decode cX11_proof 1 = .ok (.getfield 73, 3) := by decide +kernel
theorem dX11_proof_4 : decode cX11_proof 4 = .ok (.aload_n 0, 1) := by decide +kernel
theorem dX11_proof_5 : decode cX11_proof 5 = .ok (.getfield 38, 3) := by decide +kernel
theorem dX11_proof_8 : decode cX11_proof 8 = .ok (.getfield 369, 3) := by decide +kernel
theorem dX11_proof_11 : decode cX11_proof 11 = .ok (.invokevirtual 85, 3) := by decide +kernel
theorem dX11_proof_14 : decode cX11_proof 14 = .ok (.aload_n 0, 1) := by decide +kernel
theorem dX11_proof_15 : decode cX11_proof 15 = .ok (.invokevirtual 372, 3) := by decide +kernel
theorem dX11_proof_18 : decode cX11_proof 18 = .ok (.invokestatic 375, 3) := by decide +kernel
theorem dX11_proof_21 : decode cX11_proof 21 = .ok (.istore_n 1, 1) := by decide +kernel
theorem dX11_proof_22 : decode cX11_proof 22 = .ok (.aload_n 0, 1) := by decide +kernel
theorem dX11_proof_23 : decode cX11_proof 23 = .ok (.invokevirtual 121, 3) := by decide +kernel
theorem dX11_proof_26 : decode cX11_proof 26 = .ok (.aload_n 0, 1) := by decide +kernel
theorem dX11_proof_27 : decode cX11_proof 27 = .ok (.getfield 38, 3) := by decide +kernel
theorem dX11_proof_30 : decode cX11_proof 30 = .ok (.invokevirtual 380, 3) := by decide +kernel
theorem dX11_proof_33 : decode cX11_proof 33 = .ok (.iload_n 1, 1) := by decide +kernel
theorem dX11_proof_34 : decode cX11_proof 34 = .ok (.ireturn, 1) := by decide +kernel
theorem dX11_toRead_0 : decode cX11_toRead 0 = .ok (.aload_n 0, 1) := by decide +kernel
theorem dX11_toRead_1 : decode cX11_toRead 1 = .ok (.getfield 73, 3) := by decide +kernel
theorem dX11_toRead_4 : decode cX11_toRead 4 = .ok (.aload_n 0, 1) := by decide +kernel
theorem dX11_toRead_5 : decode cX11_toRead 5 = .ok (.getfield 38, 3) := by decide +kernel
theorem dX11_toRead_8 : decode cX11_toRead 8 = .ok (.getfield 369, 3) := by decide +kernel
theorem dX11_toRead_11 : decode cX11_toRead 11 = .ok (.invokevirtual 85, 3) := by decide +kernel
theorem dX11_toRead_14 : decode cX11_toRead 14 = .ok (.aload_n 0, 1) := by decide +kernel
theorem dX11_toRead_15 : decode cX11_toRead 15 = .ok (.invokevirtual 372, 3) := by decide +kernel
theorem dX11_toRead_18 : decode cX11_toRead 18 = .ok (.ireturn, 1) := by decide +kernel
theorem dX11_changedLines_0 : decode cX11_changedLines 0 = .ok (.aload_n 0, 1) := by decide +kernel
theorem dX11_changedLines_1 : decode cX11_changedLines 1 = .ok (.getfield 38, 3) := by decide +kernel
theorem dX11_changedLines_4 : decode cX11_changedLines 4 = .ok (.getfield 127, 3) := by decide +kernel
theorem dX11_changedLines_7 : decode cX11_changedLines 7 = .ok (.ifCond .ne 14, 3) := by decide +kernel
theorem dX11_changedLines_10 : decode cX11_changedLines 10 = .ok (.aload_n 0, 1) := by decide +kernel
theorem dX11_changedLines_11 : decode cX11_changedLines 11 = .ok (.getfield 55, 3) := by decide +kernel
theorem dX11_changedLines_14 : decode cX11_changedLines 14 = .ok (.getfield 137, 3) := by decide +kernel
theorem dX11_changedLines_17 : decode cX11_changedLines 17 = .ok (.getfield 141, 3) := by decide +kernel
theorem dX11_changedLines_20 : decode cX11_changedLines 20 = .ok (.ireturn, 1) := by decide +kernel
theorem dX11_changedLines_21 : decode cX11_changedLines 21 = .ok (.aload_n 0, 1) := by decide +kernel
theorem dX11_changedLines_22 : decode cX11_changedLines 22 = .ok (.getfield 73, 3) := by decide +kernel
theorem dX11_changedLines_25 : decode cX11_changedLines 25 = .ok (.aload_n 0, 1) := by decide +kernel
theorem dX11_changedLines_26 : decode cX11_changedLines 26 = .ok (.getfield 38, 3) := by decide +kernel
theorem dX11_changedLines_29 : decode cX11_changedLines 29 = .ok (.getfield 369, 3) := by decide +kernel
theorem dX11_changedLines_32 : decode cX11_changedLines 32 = .ok (.invokevirtual 85, 3) := by decide +kernel
theorem dX11_changedLines_35 : decode cX11_changedLines 35 = .ok (.aload_n 0, 1) := by decide +kernel
theorem dX11_changedLines_36 : decode cX11_changedLines 36 = .ok (.getfield 55, 3) := by decide +kernel
theorem dX11_changedLines_39 : decode cX11_changedLines 39 = .ok (.getfield 137, 3) := by decide +kernel
theorem dX11_changedLines_42 : decode cX11_changedLines 42 = .ok (.getfield 141, 3) := by decide +kernel
theorem dX11_changedLines_45 : decode cX11_changedLines 45 = .ok (.aload_n 0, 1) := by decide +kernel
theorem dX11_changedLines_46 : decode cX11_changedLines 46 = .ok (.getfield 73, 3) := by decide +kernel
theorem dX11_changedLines_49 : decode cX11_changedLines 49 = .ok (.getfield 137, 3) := by decide +kernel
theorem dX11_changedLines_52 : decode cX11_changedLines 52 = .ok (.getfield 141, 3) := by decide +kernel
theorem dX11_changedLines_55 : decode cX11_changedLines 55 = .ok (.invokestatic 383, 3) := by decide +kernel
theorem dX11_changedLines_58 : decode cX11_changedLines 58 = .ok (.istore_n 1, 1) := by decide +kernel
theorem dX11_changedLines_59 : decode cX11_changedLines 59 = .ok (.aload_n 0, 1) := by decide +kernel
theorem dX11_changedLines_60 : decode cX11_changedLines 60 = .ok (.getfield 55, 3) := by decide +kernel
theorem dX11_changedLines_63 : decode cX11_changedLines 63 = .ok (.getfield 137, 3) := by decide +kernel
theorem dX11_changedLines_66 : decode cX11_changedLines 66 = .ok (.getfield 141, 3) := by decide +kernel
theorem dX11_changedLines_69 : decode cX11_changedLines 69 = .ok (.aload_n 0, 1) := by decide +kernel
theorem dX11_changedLines_70 : decode cX11_changedLines 70 = .ok (.getfield 73, 3) := by decide +kernel
theorem dX11_changedLines_73 : decode cX11_changedLines 73 = .ok (.getfield 137, 3) := by decide +kernel
theorem dX11_changedLines_76 : decode cX11_changedLines 76 = .ok (.getfield 141, 3) := by decide +kernel
theorem dX11_changedLines_79 : decode cX11_changedLines 79 = .ok (.invokestatic 388, 3) := by decide +kernel
theorem dX11_changedLines_82 : decode cX11_changedLines 82 = .ok (.iload_n 1, 1) := by decide +kernel
theorem dX11_changedLines_83 : decode cX11_changedLines 83 = .ok (.isub, 1) := by decide +kernel
theorem dX11_changedLines_84 : decode cX11_changedLines 84 = .ok (.istore_n 2, 1) := by decide +kernel
theorem dX11_changedLines_85 : decode cX11_changedLines 85 = .ok (.iconst 0, 1) := by decide +kernel
theorem dX11_changedLines_86 : decode cX11_changedLines 86 = .ok (.istore_n 3, 1) := by decide +kernel
theorem dX11_changedLines_87 : decode cX11_changedLines 87 = .ok (.iload_n 3, 1) := by decide +kernel
theorem dX11_changedLines_88 : decode cX11_changedLines 88 = .ok (.iload_n 1, 1) := by decide +kernel
theorem dX11_changedLines_89 : decode cX11_changedLines 89 = .ok (.if_icmp .ge 70, 3) := by decide +kernel
theorem dX11_changedLines_92 : decode cX11_changedLines 92 = .ok (.aload_n 0, 1) := by decide +kernel
theorem dX11_changedLines_93 : decode cX11_changedLines 93 = .ok (.getfield 55, 3) := by decide +kernel
theorem dX11_changedLines_96 : decode cX11_changedLines 96 = .ok (.aload_n 0, 1) := by decide +kernel
theorem dX11_changedLines_97 : decode cX11_changedLines 97 = .ok (.getfield 76, 3) := by decide +kernel
theorem dX11_changedLines_100 : decode cX11_changedLines 100 = .ok (.aload_n 0, 1) := by decide +kernel
theorem dX11_changedLines_101 : decode cX11_changedLines 101 = .ok (.getfield 38, 3) := by decide +kernel
theorem dX11_changedLines_104 : decode cX11_changedLines 104 = .ok (.getfield 82, 3) := by decide +kernel
theorem dX11_changedLines_107 : decode cX11_changedLines 107 = .ok (.iload_n 3, 1) := by decide +kernel
theorem dX11_changedLines_108 : decode cX11_changedLines 108 = .ok (.iload_n 3, 1) := by decide +kernel
theorem dX11_changedLines_109 : decode cX11_changedLines 109 = .ok (.iconst 1, 1) := by decide +kernel
theorem dX11_changedLines_110 : decode cX11_changedLines 110 = .ok (.iadd, 1) := by decide +kernel
theorem dX11_changedLines_111 : decode cX11_changedLines 111 = .ok (.invokevirtual 391, 3) := by decide +kernel
theorem dX11_changedLines_114 : decode cX11_changedLines 114 = .ok (.aload_n 0, 1) := by decide +kernel
theorem dX11_changedLines_115 : decode cX11_changedLines 115 = .ok (.getfield 73, 3) := by decide +kernel
theorem dX11_changedLines_118 : decode cX11_changedLines 118 = .ok (.aload_n 0, 1) := by decide +kernel
theorem dX11_changedLines_119 : decode cX11_changedLines 119 = .ok (.getfield 79, 3) := by decide +kernel
theorem dX11_changedLines_122 : decode cX11_changedLines 122 = .ok (.aload_n 0, 1) := by decide +kernel
theorem dX11_changedLines_123 : decode cX11_changedLines 123 = .ok (.getfield 38, 3) := by decide +kernel
theorem dX11_changedLines_126 : decode cX11_changedLines 126 = .ok (.getfield 369, 3) := by decide +kernel
theorem dX11_changedLines_129 : decode cX11_changedLines 129 = .ok (.iload_n 3, 1) := by decide +kernel
theorem dX11_changedLines_130 : decode cX11_changedLines 130 = .ok (.iload_n 3, 1) := by decide +kernel
theorem dX11_changedLines_131 : decode cX11_changedLines 131 = .ok (.iconst 1, 1) := by decide +kernel
theorem dX11_changedLines_132 : decode cX11_changedLines 132 = .ok (.iadd, 1) := by decide +kernel
theorem dX11_changedLines_133 : decode cX11_changedLines 133 = .ok (.invokevirtual 391, 3) := by decide +kernel
theorem dX11_changedLines_136 : decode cX11_changedLines 136 = .ok (.aload_n 0, 1) := by decide +kernel
theorem dX11_changedLines_137 : decode cX11_changedLines 137 = .ok (.getfield 76, 3) := by decide +kernel
theorem dX11_changedLines_140 : decode cX11_changedLines 140 = .ok (.aload_n 0, 1) := by decide +kernel
theorem dX11_changedLines_141 : decode cX11_changedLines 141 = .ok (.getfield 79, 3) := by decide +kernel
theorem dX11_changedLines_144 : decode cX11_changedLines 144 = .ok (.invokevirtual 395, 3) := by decide +kernel
theorem dX11_changedLines_147 : decode cX11_changedLines 147 = .ok (.ifCond .ne 6, 3) := by decide +kernel
theorem dX11_changedLines_150 : decode cX11_changedLines 150 = .ok (.iinc 2 1, 3) := by decide +kernel
theorem dX11_changedLines_153 : decode cX11_changedLines 153 = .ok (.iinc 3 1, 3) := by decide +kernel
theorem dX11_changedLines_156 : decode cX11_changedLines 156 = .ok (.goto (-69), 3) := by decide +kernel
theorem dX11_changedLines_159 : decode cX11_changedLines 159 = .ok (.iload_n 2, 1) := by decide +kernel
theorem dX11_changedLines_160 : decode cX11_changedLines 160 = .ok (.ireturn, 1) := by decide +kernel
theorem dX11_slack_0 : decode cX11_slack 0 = .ok (.aload_n 0, 1) := by decide +kernel
theorem dX11_slack_1 : decode cX11_slack 1 = .ok (.iload_n 1, 1) := by decide +kernel
theorem dX11_slack_2 : decode cX11_slack 2 = .ok (.invokevirtual 184, 3) := by decide +kernel
theorem dX11_slack_5 : decode cX11_slack 5 = .ok (.aload_n 0, 1) := by decide +kernel
theorem dX11_slack_6 : decode cX11_slack 6 = .ok (.invokevirtual 399, 3) := by decide +kernel
theorem dX11_slack_9 : decode cX11_slack 9 = .ok (.aload_n 0, 1) := by decide +kernel
theorem dX11_slack_10 : decode cX11_slack 10 = .ok (.getfield 38, 3) := by decide +kernel
theorem dX11_slack_13 : decode cX11_slack 13 = .ok (.getfield 82, 3) := by decide +kernel
theorem dX11_slack_16 : decode cX11_slack 16 = .ok (.getfield 190, 3) := by decide +kernel
theorem dX11_slack_19 : decode cX11_slack 19 = .ok (.iload_n 1, 1) := by decide +kernel
theorem dX11_slack_20 : decode cX11_slack 20 = .ok (.invokevirtual 175, 3) := by decide +kernel
theorem dX11_slack_23 : decode cX11_slack 23 = .ok (.istore_n 2, 1) := by decide +kernel
theorem dX11_slack_24 : decode cX11_slack 24 = .ok (.iconst 1, 1) := by decide +kernel
theorem dX11_slack_25 : decode cX11_slack 25 = .ok (.istore_n 3, 1) := by decide +kernel
theorem dX11_slack_26 : decode cX11_slack 26 = .ok (.iload_n 3, 1) := by decide +kernel
theorem dX11_slack_27 : decode cX11_slack 27 = .ok (.bipush 99, 2) := by decide +kernel
theorem dX11_slack_29 : decode cX11_slack 29 = .ok (.if_icmp .gt 68, 3) := by decide +kernel
theorem dX11_slack_32 : decode cX11_slack 32 = .ok (.aload_n 0, 1) := by decide +kernel
theorem dX11_slack_33 : decode cX11_slack 33 = .ok (.getfield 69, 3) := by decide +kernel
theorem dX11_slack_36 : decode cX11_slack 36 = .ok (.getfield 190, 3) := by decide +kernel
theorem dX11_slack_39 : decode cX11_slack 39 = .ok (.iload_n 1, 1) := by decide +kernel
theorem dX11_slack_40 : decode cX11_slack 40 = .ok (.iload_n 2, 1) := by decide +kernel
theorem dX11_slack_41 : decode cX11_slack 41 = .ok (.iload_n 3, 1) := by decide +kernel
theorem dX11_slack_42 : decode cX11_slack 42 = .ok (.iadd, 1) := by decide +kernel
theorem dX11_slack_43 : decode cX11_slack 43 = .ok (.invokevirtual 322, 3) := by decide +kernel
theorem dX11_slack_46 : decode cX11_slack 46 = .ok (.aload_n 0, 1) := by decide +kernel
theorem dX11_slack_47 : decode cX11_slack 47 = .ok (.getfield 73, 3) := by decide +kernel
theorem dX11_slack_50 : decode cX11_slack 50 = .ok (.aload_n 0, 1) := by decide +kernel
theorem dX11_slack_51 : decode cX11_slack 51 = .ok (.getfield 69, 3) := by decide +kernel
theorem dX11_slack_54 : decode cX11_slack 54 = .ok (.invokevirtual 402, 3) := by decide +kernel
theorem dX11_slack_57 : decode cX11_slack 57 = .ok (.aload_n 0, 1) := by decide +kernel
theorem dX11_slack_58 : decode cX11_slack 58 = .ok (.getfield 73, 3) := by decide +kernel
theorem dX11_slack_61 : decode cX11_slack 61 = .ok (.getfield 149, 3) := by decide +kernel
theorem dX11_slack_64 : decode cX11_slack 64 = .ok (.aload_n 0, 1) := by decide +kernel
theorem dX11_slack_65 : decode cX11_slack 65 = .ok (.getfield 55, 3) := by decide +kernel
theorem dX11_slack_68 : decode cX11_slack 68 = .ok (.getfield 149, 3) := by decide +kernel
theorem dX11_slack_71 : decode cX11_slack 71 = .ok (.aload_n 0, 1) := by decide +kernel
theorem dX11_slack_72 : decode cX11_slack 72 = .ok (.getfield 38, 3) := by decide +kernel
theorem dX11_slack_75 : decode cX11_slack 75 = .ok (.getfield 82, 3) := by decide +kernel
theorem dX11_slack_78 : decode cX11_slack 78 = .ok (.getfield 131, 3) := by decide +kernel
theorem dX11_slack_81 : decode cX11_slack 81 = .ok (.invokevirtual 405, 3) := by decide +kernel
theorem dX11_slack_84 : decode cX11_slack 84 = .ok (.ifCond .ne 7, 3) := by decide +kernel
theorem dX11_slack_87 : decode cX11_slack 87 = .ok (.iload_n 3, 1) := by decide +kernel
theorem dX11_slack_88 : decode cX11_slack 88 = .ok (.iconst 1, 1) := by decide +kernel
theorem dX11_slack_89 : decode cX11_slack 89 = .ok (.isub, 1) := by decide +kernel
theorem dX11_slack_90 : decode cX11_slack 90 = .ok (.ireturn, 1) := by decide +kernel
theorem dX11_slack_91 : decode cX11_slack 91 = .ok (.iinc 3 1, 3) := by decide +kernel
theorem dX11_slack_94 : decode cX11_slack 94 = .ok (.goto (-68), 3) := by decide +kernel
theorem dX11_slack_97 : decode cX11_slack 97 = .ok (.bipush 99, 2) := by decide +kernel
theorem dX11_slack_99 : decode cX11_slack 99 = .ok (.ireturn, 1) := by decide +kernel
theorem dX11_pagesIf_0 : decode cX11_pagesIf 0 = .ok (.aload_n 0, 1) := by decide +kernel
theorem dX11_pagesIf_1 : decode cX11_pagesIf 1 = .ok (.iload_n 1, 1) := by decide +kernel
theorem dX11_pagesIf_2 : decode cX11_pagesIf 2 = .ok (.invokevirtual 184, 3) := by decide +kernel
theorem dX11_pagesIf_5 : decode cX11_pagesIf 5 = .ok (.aload_n 0, 1) := by decide +kernel
theorem dX11_pagesIf_6 : decode cX11_pagesIf 6 = .ok (.iload_n 2, 1) := by decide +kernel
theorem dX11_pagesIf_7 : decode cX11_pagesIf 7 = .ok (.invokevirtual 319, 3) := by decide +kernel
theorem dX11_pagesIf_10 : decode cX11_pagesIf 10 = .ok (.aload_n 0, 1) := by decide +kernel
theorem dX11_pagesIf_11 : decode cX11_pagesIf 11 = .ok (.invokevirtual 399, 3) := by decide +kernel
theorem dX11_pagesIf_14 : decode cX11_pagesIf 14 = .ok (.aload_n 0, 1) := by decide +kernel
theorem dX11_pagesIf_15 : decode cX11_pagesIf 15 = .ok (.getfield 69, 3) := by decide +kernel
theorem dX11_pagesIf_18 : decode cX11_pagesIf 18 = .ok (.getfield 190, 3) := by decide +kernel
theorem dX11_pagesIf_21 : decode cX11_pagesIf 21 = .ok (.iload_n 1, 1) := by decide +kernel
theorem dX11_pagesIf_22 : decode cX11_pagesIf 22 = .ok (.iload_n 2, 1) := by decide +kernel
theorem dX11_pagesIf_23 : decode cX11_pagesIf 23 = .ok (.invokevirtual 322, 3) := by decide +kernel
theorem dX11_pagesIf_26 : decode cX11_pagesIf 26 = .ok (.aload_n 0, 1) := by decide +kernel
theorem dX11_pagesIf_27 : decode cX11_pagesIf 27 = .ok (.getfield 73, 3) := by decide +kernel
theorem dX11_pagesIf_30 : decode cX11_pagesIf 30 = .ok (.aload_n 0, 1) := by decide +kernel
theorem dX11_pagesIf_31 : decode cX11_pagesIf 31 = .ok (.getfield 69, 3) := by decide +kernel
theorem dX11_pagesIf_34 : decode cX11_pagesIf 34 = .ok (.invokevirtual 402, 3) := by decide +kernel
theorem dX11_pagesIf_37 : decode cX11_pagesIf 37 = .ok (.aload_n 0, 1) := by decide +kernel
theorem dX11_pagesIf_38 : decode cX11_pagesIf 38 = .ok (.getfield 73, 3) := by decide +kernel
theorem dX11_pagesIf_41 : decode cX11_pagesIf 41 = .ok (.getfield 149, 3) := by decide +kernel
theorem dX11_pagesIf_44 : decode cX11_pagesIf 44 = .ok (.getfield 153, 3) := by decide +kernel
theorem dX11_pagesIf_47 : decode cX11_pagesIf 47 = .ok (.ireturn, 1) := by decide +kernel
theorem dX11_leastWidth_0 : decode cX11_leastWidth 0 = .ok (.iload_n 1, 1) := by decide +kernel
theorem dX11_leastWidth_1 : decode cX11_leastWidth 1 = .ok (.iconst 1, 1) := by decide +kernel
theorem dX11_leastWidth_2 : decode cX11_leastWidth 2 = .ok (.if_icmp .lt 9, 3) := by decide +kernel
theorem dX11_leastWidth_5 : decode cX11_leastWidth 5 = .ok (.iload_n 1, 1) := by decide +kernel
theorem dX11_leastWidth_6 : decode cX11_leastWidth 6 = .ok (.bipush 20, 2) := by decide +kernel
theorem dX11_leastWidth_8 : decode cX11_leastWidth 8 = .ok (.if_icmp .le 14, 3) := by decide +kernel
theorem dX11_leastWidth_11 : decode cX11_leastWidth 11 = .ok (.new 103, 3) := by decide +kernel
theorem dX11_leastWidth_14 : decode cX11_leastWidth 14 = .ok (.dup, 1) := by decide +kernel
theorem dX11_leastWidth_15 : decode cX11_leastWidth 15 = .ok (.ldc_w 409, 3) := by decide +kernel
theorem dX11_leastWidth_18 : decode cX11_leastWidth 18 = .ok (.invokespecial 107, 3) := by decide +kernel
theorem dX11_leastWidth_21 : decode cX11_leastWidth 21 = .ok (.athrow, 1) := by decide +kernel
theorem dX11_leastWidth_22 : decode cX11_leastWidth 22 = .ok (.aload_n 0, 1) := by decide +kernel
theorem dX11_leastWidth_23 : decode cX11_leastWidth 23 = .ok (.invokevirtual 399, 3) := by decide +kernel
theorem dX11_leastWidth_26 : decode cX11_leastWidth 26 = .ok (.bipush 20, 2) := by decide +kernel
theorem dX11_leastWidth_28 : decode cX11_leastWidth 28 = .ok (.istore_n 2, 1) := by decide +kernel
theorem dX11_leastWidth_29 : decode cX11_leastWidth 29 = .ok (.iload_n 2, 1) := by decide +kernel
theorem dX11_leastWidth_30 : decode cX11_leastWidth 30 = .ok (.bipush 120, 2) := by decide +kernel
theorem dX11_leastWidth_32 : decode cX11_leastWidth 32 = .ok (.if_icmp .gt 45, 3) := by decide +kernel
theorem dX11_leastWidth_35 : decode cX11_leastWidth 35 = .ok (.aload_n 0, 1) := by decide +kernel
theorem dX11_leastWidth_36 : decode cX11_leastWidth 36 = .ok (.getfield 69, 3) := by decide +kernel
theorem dX11_leastWidth_39 : decode cX11_leastWidth 39 = .ok (.getfield 171, 3) := by decide +kernel
theorem dX11_leastWidth_42 : decode cX11_leastWidth 42 = .ok (.iconst 0, 1) := by decide +kernel
theorem dX11_leastWidth_43 : decode cX11_leastWidth 43 = .ok (.iload_n 2, 1) := by decide +kernel
theorem dX11_leastWidth_44 : decode cX11_leastWidth 44 = .ok (.invokevirtual 322, 3) := by decide +kernel
theorem dX11_leastWidth_47 : decode cX11_leastWidth 47 = .ok (.aload_n 0, 1) := by decide +kernel
theorem dX11_leastWidth_48 : decode cX11_leastWidth 48 = .ok (.getfield 73, 3) := by decide +kernel
theorem dX11_leastWidth_51 : decode cX11_leastWidth 51 = .ok (.aload_n 0, 1) := by decide +kernel
theorem dX11_leastWidth_52 : decode cX11_leastWidth 52 = .ok (.getfield 69, 3) := by decide +kernel
theorem dX11_leastWidth_55 : decode cX11_leastWidth 55 = .ok (.invokevirtual 402, 3) := by decide +kernel
theorem dX11_leastWidth_58 : decode cX11_leastWidth 58 = .ok (.aload_n 0, 1) := by decide +kernel
theorem dX11_leastWidth_59 : decode cX11_leastWidth 59 = .ok (.getfield 73, 3) := by decide +kernel
theorem dX11_leastWidth_62 : decode cX11_leastWidth 62 = .ok (.getfield 146, 3) := by decide +kernel
theorem dX11_leastWidth_65 : decode cX11_leastWidth 65 = .ok (.iload_n 1, 1) := by decide +kernel
theorem dX11_leastWidth_66 : decode cX11_leastWidth 66 = .ok (.if_icmp .gt 5, 3) := by decide +kernel
theorem dX11_leastWidth_69 : decode cX11_leastWidth 69 = .ok (.iload_n 2, 1) := by decide +kernel
theorem dX11_leastWidth_70 : decode cX11_leastWidth 70 = .ok (.ireturn, 1) := by decide +kernel
theorem dX11_leastWidth_71 : decode cX11_leastWidth 71 = .ok (.iinc 2 1, 3) := by decide +kernel
theorem dX11_leastWidth_74 : decode cX11_leastWidth 74 = .ok (.goto (-45), 3) := by decide +kernel
theorem dX11_leastWidth_77 : decode cX11_leastWidth 77 = .ok (.iconst (-1), 1) := by decide +kernel
theorem dX11_leastWidth_78 : decode cX11_leastWidth 78 = .ok (.ireturn, 1) := by decide +kernel
theorem dX11_bestWidth_0 : decode cX11_bestWidth 0 = .ok (.aload_n 0, 1) := by decide +kernel
theorem dX11_bestWidth_1 : decode cX11_bestWidth 1 = .ok (.invokevirtual 399, 3) := by decide +kernel
theorem dX11_bestWidth_4 : decode cX11_bestWidth 4 = .ok (.bipush 20, 2) := by decide +kernel
theorem dX11_bestWidth_6 : decode cX11_bestWidth 6 = .ok (.istore_n 1, 1) := by decide +kernel
theorem dX11_bestWidth_7 : decode cX11_bestWidth 7 = .ok (.sipush 193, 3) := by decide +kernel
theorem dX11_bestWidth_10 : decode cX11_bestWidth 10 = .ok (.istore_n 2, 1) := by decide +kernel
theorem dX11_bestWidth_11 : decode cX11_bestWidth 11 = .ok (.sipush 193, 3) := by decide +kernel
theorem dX11_bestWidth_14 : decode cX11_bestWidth 14 = .ok (.istore_n 3, 1) := by decide +kernel
theorem dX11_bestWidth_15 : decode cX11_bestWidth 15 = .ok (.bipush 20, 2) := by decide +kernel
theorem dX11_bestWidth_17 : decode cX11_bestWidth 17 = .ok (.istore 4, 2) := by decide +kernel
theorem dX11_bestWidth_19 : decode cX11_bestWidth 19 = .ok (.iload 4, 2) := by decide +kernel
theorem dX11_bestWidth_21 : decode cX11_bestWidth 21 = .ok (.bipush 120, 2) := by decide +kernel
theorem dX11_bestWidth_23 : decode cX11_bestWidth 23 = .ok (.if_icmp .gt 84, 3) := by decide +kernel
theorem dX11_bestWidth_26 : decode cX11_bestWidth 26 = .ok (.aload_n 0, 1) := by decide +kernel
theorem dX11_bestWidth_27 : decode cX11_bestWidth 27 = .ok (.getfield 69, 3) := by decide +kernel
theorem dX11_bestWidth_30 : decode cX11_bestWidth 30 = .ok (.getfield 171, 3) := by decide +kernel
theorem dX11_bestWidth_33 : decode cX11_bestWidth 33 = .ok (.iconst 0, 1) := by decide +kernel
theorem dX11_bestWidth_34 : decode cX11_bestWidth 34 = .ok (.iload 4, 2) := by decide +kernel
theorem dX11_bestWidth_36 : decode cX11_bestWidth 36 = .ok (.invokevirtual 322, 3) := by decide +kernel
theorem dX11_bestWidth_39 : decode cX11_bestWidth 39 = .ok (.aload_n 0, 1) := by decide +kernel
theorem dX11_bestWidth_40 : decode cX11_bestWidth 40 = .ok (.getfield 73, 3) := by decide +kernel
theorem dX11_bestWidth_43 : decode cX11_bestWidth 43 = .ok (.aload_n 0, 1) := by decide +kernel
theorem dX11_bestWidth_44 : decode cX11_bestWidth 44 = .ok (.getfield 69, 3) := by decide +kernel
theorem dX11_bestWidth_47 : decode cX11_bestWidth 47 = .ok (.invokevirtual 402, 3) := by decide +kernel
theorem dX11_bestWidth_50 : decode cX11_bestWidth 50 = .ok (.aload_n 0, 1) := by decide +kernel
theorem dX11_bestWidth_51 : decode cX11_bestWidth 51 = .ok (.getfield 73, 3) := by decide +kernel
theorem dX11_bestWidth_54 : decode cX11_bestWidth 54 = .ok (.getfield 137, 3) := by decide +kernel
theorem dX11_bestWidth_57 : decode cX11_bestWidth 57 = .ok (.invokevirtual 290, 3) := by decide +kernel
theorem dX11_bestWidth_60 : decode cX11_bestWidth 60 = .ok (.istore 5, 2) := by decide +kernel
theorem dX11_bestWidth_62 : decode cX11_bestWidth 62 = .ok (.aload_n 0, 1) := by decide +kernel
theorem dX11_bestWidth_63 : decode cX11_bestWidth 63 = .ok (.getfield 73, 3) := by decide +kernel
theorem dX11_bestWidth_66 : decode cX11_bestWidth 66 = .ok (.getfield 137, 3) := by decide +kernel
theorem dX11_bestWidth_69 : decode cX11_bestWidth 69 = .ok (.getfield 141, 3) := by decide +kernel
theorem dX11_bestWidth_72 : decode cX11_bestWidth 72 = .ok (.istore 6, 2) := by decide +kernel
theorem dX11_bestWidth_74 : decode cX11_bestWidth 74 = .ok (.iload 5, 2) := by decide +kernel
theorem dX11_bestWidth_76 : decode cX11_bestWidth 76 = .ok (.iload_n 2, 1) := by decide +kernel
theorem dX11_bestWidth_77 : decode cX11_bestWidth 77 = .ok (.if_icmp .lt 15, 3) := by decide +kernel
theorem dX11_bestWidth_80 : decode cX11_bestWidth 80 = .ok (.iload 5, 2) := by decide +kernel
theorem dX11_bestWidth_82 : decode cX11_bestWidth 82 = .ok (.iload_n 2, 1) := by decide +kernel
theorem dX11_bestWidth_83 : decode cX11_bestWidth 83 = .ok (.if_icmp .ne 18, 3) := by decide +kernel
theorem dX11_bestWidth_86 : decode cX11_bestWidth 86 = .ok (.iload 6, 2) := by decide +kernel
theorem dX11_bestWidth_88 : decode cX11_bestWidth 88 = .ok (.iload_n 3, 1) := by decide +kernel
theorem dX11_bestWidth_89 : decode cX11_bestWidth 89 = .ok (.if_icmp .ge 12, 3) := by decide +kernel
theorem dX11_bestWidth_92 : decode cX11_bestWidth 92 = .ok (.iload 4, 2) := by decide +kernel
theorem dX11_bestWidth_94 : decode cX11_bestWidth 94 = .ok (.istore_n 1, 1) := by decide +kernel
theorem dX11_bestWidth_95 : decode cX11_bestWidth 95 = .ok (.iload 5, 2) := by decide +kernel
theorem dX11_bestWidth_97 : decode cX11_bestWidth 97 = .ok (.istore_n 2, 1) := by decide +kernel
theorem dX11_bestWidth_98 : decode cX11_bestWidth 98 = .ok (.iload 6, 2) := by decide +kernel
theorem dX11_bestWidth_100 : decode cX11_bestWidth 100 = .ok (.istore_n 3, 1) := by decide +kernel
theorem dX11_bestWidth_101 : decode cX11_bestWidth 101 = .ok (.iinc 4 1, 3) := by decide +kernel
theorem dX11_bestWidth_104 : decode cX11_bestWidth 104 = .ok (.goto (-85), 3) := by decide +kernel
theorem dX11_bestWidth_107 : decode cX11_bestWidth 107 = .ok (.iload_n 1, 1) := by decide +kernel
theorem dX11_bestWidth_108 : decode cX11_bestWidth 108 = .ok (.ireturn, 1) := by decide +kernel
theorem dX11_crowded_0 : decode cX11_crowded 0 = .ok (.aload_n 0, 1) := by decide +kernel
theorem dX11_crowded_1 : decode cX11_crowded 1 = .ok (.iload_n 1, 1) := by decide +kernel
theorem dX11_crowded_2 : decode cX11_crowded 2 = .ok (.invokevirtual 411, 3) := by decide +kernel
theorem dX11_crowded_5 : decode cX11_crowded 5 = .ok (.iconst 0, 1) := by decide +kernel
theorem dX11_crowded_6 : decode cX11_crowded 6 = .ok (.istore_n 2, 1) := by decide +kernel
theorem dX11_crowded_7 : decode cX11_crowded 7 = .ok (.iload_n 2, 1) := by decide +kernel
theorem dX11_crowded_8 : decode cX11_crowded 8 = .ok (.aload_n 0, 1) := by decide +kernel
theorem dX11_crowded_9 : decode cX11_crowded 9 = .ok (.getfield 38, 3) := by decide +kernel
theorem dX11_crowded_12 : decode cX11_crowded 12 = .ok (.getfield 82, 3) := by decide +kernel
theorem dX11_crowded_15 : decode cX11_crowded 15 = .ok (.getfield 131, 3) := by decide +kernel
theorem dX11_crowded_18 : decode cX11_crowded 18 = .ok (.if_icmp .ge 47, 3) := by decide +kernel
theorem dX11_crowded_21 : decode cX11_crowded 21 = .ok (.aload_n 0, 1) := by decide +kernel
theorem dX11_crowded_22 : decode cX11_crowded 22 = .ok (.getfield 55, 3) := by decide +kernel
theorem dX11_crowded_25 : decode cX11_crowded 25 = .ok (.getfield 149, 3) := by decide +kernel
theorem dX11_crowded_28 : decode cX11_crowded 28 = .ok (.iload_n 2, 1) := by decide +kernel
theorem dX11_crowded_29 : decode cX11_crowded 29 = .ok (.invokevirtual 414, 3) := by decide +kernel
theorem dX11_crowded_32 : decode cX11_crowded 32 = .ok (.ifCond .eq 27, 3) := by decide +kernel
theorem dX11_crowded_35 : decode cX11_crowded 35 = .ok (.aload_n 0, 1) := by decide +kernel
theorem dX11_crowded_36 : decode cX11_crowded 36 = .ok (.iload_n 2, 1) := by decide +kernel
theorem dX11_crowded_37 : decode cX11_crowded 37 = .ok (.invokevirtual 417, 3) := by decide +kernel
theorem dX11_crowded_40 : decode cX11_crowded 40 = .ok (.iload_n 1, 1) := by decide +kernel
theorem dX11_crowded_41 : decode cX11_crowded 41 = .ok (.if_icmp .ne 18, 3) := by decide +kernel
theorem dX11_crowded_44 : decode cX11_crowded 44 = .ok (.aload_n 0, 1) := by decide +kernel
theorem dX11_crowded_45 : decode cX11_crowded 45 = .ok (.getfield 55, 3) := by decide +kernel
theorem dX11_crowded_48 : decode cX11_crowded 48 = .ok (.getfield 149, 3) := by decide +kernel
theorem dX11_crowded_51 : decode cX11_crowded 51 = .ok (.getfield 222, 3) := by decide +kernel
theorem dX11_crowded_54 : decode cX11_crowded 54 = .ok (.iload_n 2, 1) := by decide +kernel
theorem dX11_crowded_55 : decode cX11_crowded 55 = .ok (.invokevirtual 175, 3) := by decide +kernel
theorem dX11_crowded_58 : decode cX11_crowded 58 = .ok (.ireturn, 1) := by decide +kernel
theorem dX11_crowded_59 : decode cX11_crowded 59 = .ok (.iinc 2 1, 3) := by decide +kernel
theorem dX11_crowded_62 : decode cX11_crowded 62 = .ok (.goto (-55), 3) := by decide +kernel
theorem dX11_crowded_65 : decode cX11_crowded 65 = .ok (.iconst (-1), 1) := by decide +kernel
theorem dX11_crowded_66 : decode cX11_crowded 66 = .ok (.ireturn, 1) := by decide +kernel
theorem dX11_longest_0 : decode cX11_longest 0 = .ok (.aload_n 0, 1) := by decide +kernel
theorem dX11_longest_1 : decode cX11_longest 1 = .ok (.iload_n 1, 1) := by decide +kernel
theorem dX11_longest_2 : decode cX11_longest 2 = .ok (.invokevirtual 411, 3) := by decide +kernel
theorem dX11_longest_5 : decode cX11_longest 5 = .ok (.iconst 0, 1) := by decide +kernel
theorem dX11_longest_6 : decode cX11_longest 6 = .ok (.istore_n 2, 1) := by decide +kernel
theorem dX11_longest_7 : decode cX11_longest 7 = .ok (.iload_n 2, 1) := by decide +kernel
theorem dX11_longest_8 : decode cX11_longest 8 = .ok (.aload_n 0, 1) := by decide +kernel
theorem dX11_longest_9 : decode cX11_longest 9 = .ok (.getfield 38, 3) := by decide +kernel
theorem dX11_longest_12 : decode cX11_longest 12 = .ok (.getfield 82, 3) := by decide +kernel
theorem dX11_longest_15 : decode cX11_longest 15 = .ok (.getfield 131, 3) := by decide +kernel
theorem dX11_longest_18 : decode cX11_longest 18 = .ok (.if_icmp .ge 20, 3) := by decide +kernel
theorem dX11_longest_21 : decode cX11_longest 21 = .ok (.aload_n 0, 1) := by decide +kernel
theorem dX11_longest_22 : decode cX11_longest 22 = .ok (.iload_n 2, 1) := by decide +kernel
theorem dX11_longest_23 : decode cX11_longest 23 = .ok (.invokevirtual 420, 3) := by decide +kernel
theorem dX11_longest_26 : decode cX11_longest 26 = .ok (.iload_n 1, 1) := by decide +kernel
theorem dX11_longest_27 : decode cX11_longest 27 = .ok (.if_icmp .ne 5, 3) := by decide +kernel
theorem dX11_longest_30 : decode cX11_longest 30 = .ok (.iload_n 2, 1) := by decide +kernel
theorem dX11_longest_31 : decode cX11_longest 31 = .ok (.ireturn, 1) := by decide +kernel
theorem dX11_longest_32 : decode cX11_longest 32 = .ok (.iinc 2 1, 3) := by decide +kernel
theorem dX11_longest_35 : decode cX11_longest 35 = .ok (.goto (-28), 3) := by decide +kernel
theorem dX11_longest_38 : decode cX11_longest 38 = .ok (.iconst (-1), 1) := by decide +kernel
theorem dX11_longest_39 : decode cX11_longest 39 = .ok (.ireturn, 1) := by decide +kernel
theorem dX11_undo_0 : decode cX11_undo 0 = .ok (.aload_n 0, 1) := by decide +kernel
theorem dX11_undo_1 : decode cX11_undo 1 = .ok (.getfield 49, 3) := by decide +kernel
theorem dX11_undo_4 : decode cX11_undo 4 = .ok (.ifCond .gt 14, 3) := by decide +kernel
theorem dX11_undo_7 : decode cX11_undo 7 = .ok (.new 93, 3) := by decide +kernel
theorem dX11_undo_10 : decode cX11_undo 10 = .ok (.dup, 1) := by decide +kernel
theorem dX11_undo_11 : decode cX11_undo 11 = .ok (.ldc_w 423, 3) := by decide +kernel
theorem dX11_undo_14 : decode cX11_undo 14 = .ok (.invokespecial 97, 3) := by decide +kernel
theorem dX11_undo_17 : decode cX11_undo 17 = .ok (.athrow, 1) := by decide +kernel
theorem dX11_undo_18 : decode cX11_undo 18 = .ok (.aload_n 0, 1) := by decide +kernel
theorem dX11_undo_19 : decode cX11_undo 19 = .ok (.aload_n 0, 1) := by decide +kernel
theorem dX11_undo_20 : decode cX11_undo 20 = .ok (.getfield 46, 3) := by decide +kernel
theorem dX11_undo_23 : decode cX11_undo 23 = .ok (.bipush 6, 2) := by decide +kernel
theorem dX11_undo_25 : decode cX11_undo 25 = .ok (.iadd, 1) := by decide +kernel
theorem dX11_undo_26 : decode cX11_undo 26 = .ok (.iconst 1, 1) := by decide +kernel
theorem dX11_undo_27 : decode cX11_undo 27 = .ok (.isub, 1) := by decide +kernel
theorem dX11_undo_28 : decode cX11_undo 28 = .ok (.bipush 6, 2) := by decide +kernel
theorem dX11_undo_30 : decode cX11_undo 30 = .ok (.irem, 1) := by decide +kernel
theorem dX11_undo_31 : decode cX11_undo 31 = .ok (.putfield 46, 3) := by decide +kernel
theorem dX11_undo_34 : decode cX11_undo 34 = .ok (.aload_n 0, 1) := by decide +kernel
theorem dX11_undo_35 : decode cX11_undo 35 = .ok (.dup, 1) := by decide +kernel
theorem dX11_undo_36 : decode cX11_undo 36 = .ok (.getfield 49, 3) := by decide +kernel
theorem dX11_undo_39 : decode cX11_undo 39 = .ok (.iconst 1, 1) := by decide +kernel
theorem dX11_undo_40 : decode cX11_undo 40 = .ok (.isub, 1) := by decide +kernel
theorem dX11_undo_41 : decode cX11_undo 41 = .ok (.putfield 49, 3) := by decide +kernel
theorem dX11_undo_44 : decode cX11_undo 44 = .ok (.aload_n 0, 1) := by decide +kernel
theorem dX11_undo_45 : decode cX11_undo 45 = .ok (.aload_n 0, 1) := by decide +kernel
theorem dX11_undo_46 : decode cX11_undo 46 = .ok (.getfield 46, 3) := by decide +kernel
theorem dX11_undo_49 : decode cX11_undo 49 = .ok (.invokevirtual 425, 3) := by decide +kernel
theorem dX11_undo_52 : decode cX11_undo 52 = .ok (.astore_n 1, 1) := by decide +kernel
theorem dX11_undo_53 : decode cX11_undo 53 = .ok (.aload_n 1, 1) := by decide +kernel
theorem dX11_undo_54 : decode cX11_undo 54 = .ok (.ifnull 11, 3) := by decide +kernel
theorem dX11_undo_57 : decode cX11_undo 57 = .ok (.aload_n 0, 1) := by decide +kernel
theorem dX11_undo_58 : decode cX11_undo 58 = .ok (.getfield 38, 3) := by decide +kernel
theorem dX11_undo_61 : decode cX11_undo 61 = .ok (.aload_n 1, 1) := by decide +kernel
theorem dX11_undo_62 : decode cX11_undo 62 = .ok (.invokevirtual 429, 3) := by decide +kernel
theorem dX11_undo_65 : decode cX11_undo 65 = .ok (.aload_n 0, 1) := by decide +kernel
theorem dX11_undo_66 : decode cX11_undo 66 = .ok (.getfield 55, 3) := by decide +kernel
theorem dX11_undo_69 : decode cX11_undo 69 = .ok (.aload_n 0, 1) := by decide +kernel
theorem dX11_undo_70 : decode cX11_undo 70 = .ok (.getfield 38, 3) := by decide +kernel
theorem dX11_undo_73 : decode cX11_undo 73 = .ok (.getfield 82, 3) := by decide +kernel
theorem dX11_undo_76 : decode cX11_undo 76 = .ok (.invokevirtual 85, 3) := by decide +kernel
theorem dX11_undo_79 : decode cX11_undo 79 = .ok (.aload_n 0, 1) := by decide +kernel
theorem dX11_undo_80 : decode cX11_undo 80 = .ok (.getfield 49, 3) := by decide +kernel
theorem dX11_undo_83 : decode cX11_undo 83 = .ok (.ireturn, 1) := by decide +kernel
theorem dX11_undoCount_0 : decode cX11_undoCount 0 = .ok (.aload_n 0, 1) := by decide +kernel
theorem dX11_undoCount_1 : decode cX11_undoCount 1 = .ok (.getfield 49, 3) := by decide +kernel
theorem dX11_undoCount_4 : decode cX11_undoCount 4 = .ok (.ireturn, 1) := by decide +kernel
theorem dX11_writeLine_0 : decode cX11_writeLine 0 = .ok (.aload_n 0, 1) := by decide +kernel
theorem dX11_writeLine_1 : decode cX11_writeLine 1 = .ok (.iload_n 1, 1) := by decide +kernel
theorem dX11_writeLine_2 : decode cX11_writeLine 2 = .ok (.invokevirtual 250, 3) := by decide +kernel
theorem dX11_writeLine_5 : decode cX11_writeLine 5 = .ok (.aload_n 0, 1) := by decide +kernel
theorem dX11_writeLine_6 : decode cX11_writeLine 6 = .ok (.getfield 55, 3) := by decide +kernel
theorem dX11_writeLine_9 : decode cX11_writeLine 9 = .ok (.aload_n 0, 1) := by decide +kernel
theorem dX11_writeLine_10 : decode cX11_writeLine 10 = .ok (.getfield 18, 3) := by decide +kernel
theorem dX11_writeLine_13 : decode cX11_writeLine 13 = .ok (.aload_n 0, 1) := by decide +kernel
theorem dX11_writeLine_14 : decode cX11_writeLine 14 = .ok (.getfield 38, 3) := by decide +kernel
theorem dX11_writeLine_17 : decode cX11_writeLine 17 = .ok (.getfield 82, 3) := by decide +kernel
theorem dX11_writeLine_20 : decode cX11_writeLine 20 = .ok (.iload_n 1, 1) := by decide +kernel
theorem dX11_writeLine_21 : decode cX11_writeLine 21 = .ok (.iload_n 1, 1) := by decide +kernel
theorem dX11_writeLine_22 : decode cX11_writeLine 22 = .ok (.iconst 1, 1) := by decide +kernel
theorem dX11_writeLine_23 : decode cX11_writeLine 23 = .ok (.iadd, 1) := by decide +kernel
theorem dX11_writeLine_24 : decode cX11_writeLine 24 = .ok (.invokevirtual 391, 3) := by decide +kernel
theorem dX11_writeLine_27 : decode cX11_writeLine 27 = .ok (.aload_n 0, 1) := by decide +kernel
theorem dX11_writeLine_28 : decode cX11_writeLine 28 = .ok (.getfield 18, 3) := by decide +kernel
theorem dX11_writeLine_31 : decode cX11_writeLine 31 = .ok (.invokevirtual 89, 3) := by decide +kernel
theorem dX11_writeLine_34 : decode cX11_writeLine 34 = .ok (.ireturn, 1) := by decide +kernel
theorem dX11_writeTable_0 : decode cX11_writeTable 0 = .ok (.aload_n 0, 1) := by decide +kernel
theorem dX11_writeTable_1 : decode cX11_writeTable 1 = .ok (.getfield 55, 3) := by decide +kernel
theorem dX11_writeTable_4 : decode cX11_writeTable 4 = .ok (.aload_n 0, 1) := by decide +kernel
theorem dX11_writeTable_5 : decode cX11_writeTable 5 = .ok (.getfield 18, 3) := by decide +kernel
theorem dX11_writeTable_8 : decode cX11_writeTable 8 = .ok (.aload_n 0, 1) := by decide +kernel
theorem dX11_writeTable_9 : decode cX11_writeTable 9 = .ok (.getfield 38, 3) := by decide +kernel
theorem dX11_writeTable_12 : decode cX11_writeTable 12 = .ok (.getfield 82, 3) := by decide +kernel
theorem dX11_writeTable_15 : decode cX11_writeTable 15 = .ok (.iconst 0, 1) := by decide +kernel
theorem dX11_writeTable_16 : decode cX11_writeTable 16 = .ok (.aload_n 0, 1) := by decide +kernel
theorem dX11_writeTable_17 : decode cX11_writeTable 17 = .ok (.getfield 55, 3) := by decide +kernel
theorem dX11_writeTable_20 : decode cX11_writeTable 20 = .ok (.getfield 137, 3) := by decide +kernel
theorem dX11_writeTable_23 : decode cX11_writeTable 23 = .ok (.getfield 141, 3) := by decide +kernel
theorem dX11_writeTable_26 : decode cX11_writeTable 26 = .ok (.invokevirtual 391, 3) := by decide +kernel
theorem dX11_writeTable_29 : decode cX11_writeTable 29 = .ok (.aload_n 0, 1) := by decide +kernel
theorem dX11_writeTable_30 : decode cX11_writeTable 30 = .ok (.getfield 18, 3) := by decide +kernel
theorem dX11_writeTable_33 : decode cX11_writeTable 33 = .ok (.invokevirtual 89, 3) := by decide +kernel
theorem dX11_writeTable_36 : decode cX11_writeTable 36 = .ok (.ireturn, 1) := by decide +kernel
theorem dX11_outputByte_0 : decode cX11_outputByte 0 = .ok (.iload_n 1, 1) := by decide +kernel
theorem dX11_outputByte_1 : decode cX11_outputByte 1 = .ok (.ifCond .lt 14, 3) := by decide +kernel
theorem dX11_outputByte_4 : decode cX11_outputByte 4 = .ok (.iload_n 1, 1) := by decide +kernel
theorem dX11_outputByte_5 : decode cX11_outputByte 5 = .ok (.aload_n 0, 1) := by decide +kernel
theorem dX11_outputByte_6 : decode cX11_outputByte 6 = .ok (.getfield 18, 3) := by decide +kernel
theorem dX11_outputByte_9 : decode cX11_outputByte 9 = .ok (.invokevirtual 89, 3) := by decide +kernel
theorem dX11_outputByte_12 : decode cX11_outputByte 12 = .ok (.if_icmp .lt 14, 3) := by decide +kernel
theorem dX11_outputByte_15 : decode cX11_outputByte 15 = .ok (.new 239, 3) := by decide +kernel
theorem dX11_outputByte_18 : decode cX11_outputByte 18 = .ok (.dup, 1) := by decide +kernel
theorem dX11_outputByte_19 : decode cX11_outputByte 19 = .ok (.ldc_w 432, 3) := by decide +kernel
theorem dX11_outputByte_22 : decode cX11_outputByte 22 = .ok (.invokespecial 243, 3) := by decide +kernel
theorem dX11_outputByte_25 : decode cX11_outputByte 25 = .ok (.athrow, 1) := by decide +kernel
theorem dX11_outputByte_26 : decode cX11_outputByte 26 = .ok (.aload_n 0, 1) := by decide +kernel
theorem dX11_outputByte_27 : decode cX11_outputByte 27 = .ok (.getfield 18, 3) := by decide +kernel
theorem dX11_outputByte_30 : decode cX11_outputByte 30 = .ok (.iload_n 1, 1) := by decide +kernel
theorem dX11_outputByte_31 : decode cX11_outputByte 31 = .ok (.invokevirtual 434, 3) := by decide +kernel
theorem dX11_outputByte_34 : decode cX11_outputByte 34 = .ok (.ireturn, 1) := by decide +kernel
theorem dX11_checkSection_0 : decode cX11_checkSection 0 = .ok (.iload_n 1, 1) := by decide +kernel
theorem dX11_checkSection_1 : decode cX11_checkSection 1 = .ok (.ifCond .lt 17, 3) := by decide +kernel
theorem dX11_checkSection_4 : decode cX11_checkSection 4 = .ok (.iload_n 1, 1) := by decide +kernel
theorem dX11_checkSection_5 : decode cX11_checkSection 5 = .ok (.aload_n 0, 1) := by decide +kernel
theorem dX11_checkSection_6 : decode cX11_checkSection 6 = .ok (.getfield 38, 3) := by decide +kernel
theorem dX11_checkSection_9 : decode cX11_checkSection 9 = .ok (.getfield 82, 3) := by decide +kernel
theorem dX11_checkSection_12 : decode cX11_checkSection 12 = .ok (.getfield 131, 3) := by decide +kernel
theorem dX11_checkSection_15 : decode cX11_checkSection 15 = .ok (.if_icmp .lt 14, 3) := by decide +kernel
theorem dX11_checkSection_18 : decode cX11_checkSection 18 = .ok (.new 239, 3) := by decide +kernel
theorem dX11_checkSection_21 : decode cX11_checkSection 21 = .ok (.dup, 1) := by decide +kernel
theorem dX11_checkSection_22 : decode cX11_checkSection 22 = .ok (.ldc_w 435, 3) := by decide +kernel
theorem dX11_checkSection_25 : decode cX11_checkSection 25 = .ok (.invokespecial 243, 3) := by decide +kernel
theorem dX11_checkSection_28 : decode cX11_checkSection 28 = .ok (.athrow, 1) := by decide +kernel
theorem dX11_checkSection_29 : decode cX11_checkSection 29 = .ok (.return_, 1) := by decide +kernel
theorem dX11_checkLine_0 : decode cX11_checkLine 0 = .ok (.iload_n 1, 1) := by decide +kernel
theorem dX11_checkLine_1 : decode cX11_checkLine 1 = .ok (.ifCond .lt 17, 3) := by decide +kernel
theorem dX11_checkLine_4 : decode cX11_checkLine 4 = .ok (.iload_n 1, 1) := by decide +kernel
theorem dX11_checkLine_5 : decode cX11_checkLine 5 = .ok (.aload_n 0, 1) := by decide +kernel
theorem dX11_checkLine_6 : decode cX11_checkLine 6 = .ok (.getfield 55, 3) := by decide +kernel
theorem dX11_checkLine_9 : decode cX11_checkLine 9 = .ok (.getfield 137, 3) := by decide +kernel
theorem dX11_checkLine_12 : decode cX11_checkLine 12 = .ok (.getfield 141, 3) := by decide +kernel
theorem dX11_checkLine_15 : decode cX11_checkLine 15 = .ok (.if_icmp .lt 14, 3) := by decide +kernel
theorem dX11_checkLine_18 : decode cX11_checkLine 18 = .ok (.new 239, 3) := by decide +kernel
theorem dX11_checkLine_21 : decode cX11_checkLine 21 = .ok (.dup, 1) := by decide +kernel
theorem dX11_checkLine_22 : decode cX11_checkLine 22 = .ok (.ldc_w 437, 3) := by decide +kernel
theorem dX11_checkLine_25 : decode cX11_checkLine 25 = .ok (.invokespecial 243, 3) := by decide +kernel
theorem dX11_checkLine_28 : decode cX11_checkLine 28 = .ok (.athrow, 1) := by decide +kernel
theorem dX11_checkLine_29 : decode cX11_checkLine 29 = .ok (.return_, 1) := by decide +kernel
theorem dX11_checkLastLine_0 : decode cX11_checkLastLine 0 = .ok (.aload_n 0, 1) := by decide +kernel
theorem dX11_checkLastLine_1 : decode cX11_checkLastLine 1 = .ok (.getfield 55, 3) := by decide +kernel
theorem dX11_checkLastLine_4 : decode cX11_checkLastLine 4 = .ok (.getfield 137, 3) := by decide +kernel
theorem dX11_checkLastLine_7 : decode cX11_checkLastLine 7 = .ok (.iload_n 1, 1) := by decide +kernel
theorem dX11_checkLastLine_8 : decode cX11_checkLastLine 8 = .ok (.invokevirtual 439, 3) := by decide +kernel
theorem dX11_checkLastLine_11 : decode cX11_checkLastLine 11 = .ok (.ifCond .ne 14, 3) := by decide +kernel
theorem dX11_checkLastLine_14 : decode cX11_checkLastLine 14 = .ok (.new 442, 3) := by decide +kernel
theorem dX11_checkLastLine_17 : decode cX11_checkLastLine 17 = .ok (.dup, 1) := by decide +kernel
theorem dX11_checkLastLine_18 : decode cX11_checkLastLine 18 = .ok (.ldc_w 444, 3) := by decide +kernel
theorem dX11_checkLastLine_21 : decode cX11_checkLastLine 21 = .ok (.invokespecial 446, 3) := by decide +kernel
theorem dX11_checkLastLine_24 : decode cX11_checkLastLine 24 = .ok (.athrow, 1) := by decide +kernel
theorem dX11_checkLastLine_25 : decode cX11_checkLastLine 25 = .ok (.return_, 1) := by decide +kernel
theorem dX11_checkLevel_0 : decode cX11_checkLevel 0 = .ok (.iload_n 1, 1) := by decide +kernel
theorem dX11_checkLevel_1 : decode cX11_checkLevel 1 = .ok (.iconst 1, 1) := by decide +kernel
theorem dX11_checkLevel_2 : decode cX11_checkLevel 2 = .ok (.if_icmp .lt 8, 3) := by decide +kernel
theorem dX11_checkLevel_5 : decode cX11_checkLevel 5 = .ok (.iload_n 1, 1) := by decide +kernel
theorem dX11_checkLevel_6 : decode cX11_checkLevel 6 = .ok (.iconst 4, 1) := by decide +kernel
theorem dX11_checkLevel_7 : decode cX11_checkLevel 7 = .ok (.if_icmp .le 14, 3) := by decide +kernel
theorem dX11_checkLevel_10 : decode cX11_checkLevel 10 = .ok (.new 103, 3) := by decide +kernel
theorem dX11_checkLevel_13 : decode cX11_checkLevel 13 = .ok (.dup, 1) := by decide +kernel
theorem dX11_checkLevel_14 : decode cX11_checkLevel 14 = .ok (.ldc_w 447, 3) := by decide +kernel
theorem dX11_checkLevel_17 : decode cX11_checkLevel 17 = .ok (.invokespecial 107, 3) := by decide +kernel
theorem dX11_checkLevel_20 : decode cX11_checkLevel 20 = .ok (.athrow, 1) := by decide +kernel
theorem dX11_checkLevel_21 : decode cX11_checkLevel 21 = .ok (.return_, 1) := by decide +kernel
theorem dX11_checkLength_0 : decode cX11_checkLength 0 = .ok (.iload_n 1, 1) := by decide +kernel
theorem dX11_checkLength_1 : decode cX11_checkLength 1 = .ok (.ifCond .lt 10, 3) := by decide +kernel
theorem dX11_checkLength_4 : decode cX11_checkLength 4 = .ok (.iload_n 1, 1) := by decide +kernel
theorem dX11_checkLength_5 : decode cX11_checkLength 5 = .ok (.sipush 500, 3) := by decide +kernel
theorem dX11_checkLength_8 : decode cX11_checkLength 8 = .ok (.if_icmp .le 14, 3) := by decide +kernel
theorem dX11_checkLength_11 : decode cX11_checkLength 11 = .ok (.new 103, 3) := by decide +kernel
theorem dX11_checkLength_14 : decode cX11_checkLength 14 = .ok (.dup, 1) := by decide +kernel
theorem dX11_checkLength_15 : decode cX11_checkLength 15 = .ok (.ldc_w 449, 3) := by decide +kernel
theorem dX11_checkLength_18 : decode cX11_checkLength 18 = .ok (.invokespecial 107, 3) := by decide +kernel
theorem dX11_checkLength_21 : decode cX11_checkLength 21 = .ok (.athrow, 1) := by decide +kernel
theorem dX11_checkLength_22 : decode cX11_checkLength 22 = .ok (.return_, 1) := by decide +kernel
theorem dX11_checkTitle_0 : decode cX11_checkTitle 0 = .ok (.aload_n 0, 1) := by decide +kernel
theorem dX11_checkTitle_1 : decode cX11_checkTitle 1 = .ok (.getfield 24, 3) := by decide +kernel
theorem dX11_checkTitle_4 : decode cX11_checkTitle 4 = .ok (.aload_n 0, 1) := by decide +kernel
theorem dX11_checkTitle_5 : decode cX11_checkTitle 5 = .ok (.getfield 14, 3) := by decide +kernel
theorem dX11_checkTitle_8 : decode cX11_checkTitle 8 = .ok (.invokevirtual 451, 3) := by decide +kernel
theorem dX11_checkTitle_11 : decode cX11_checkTitle 11 = .ok (.ifCond .ne 14, 3) := by decide +kernel
theorem dX11_checkTitle_14 : decode cX11_checkTitle 14 = .ok (.new 103, 3) := by decide +kernel
theorem dX11_checkTitle_17 : decode cX11_checkTitle 17 = .ok (.dup, 1) := by decide +kernel
theorem dX11_checkTitle_18 : decode cX11_checkTitle 18 = .ok (.ldc_w 454, 3) := by decide +kernel
theorem dX11_checkTitle_21 : decode cX11_checkTitle 21 = .ok (.invokespecial 107, 3) := by decide +kernel
theorem dX11_checkTitle_24 : decode cX11_checkTitle 24 = .ok (.athrow, 1) := by decide +kernel
theorem dX11_checkTitle_25 : decode cX11_checkTitle 25 = .ok (.return_, 1) := by decide +kernel
theorem dX11_checkPlace_0 : decode cX11_checkPlace 0 = .ok (.iload_n 1, 1) := by decide +kernel
theorem dX11_checkPlace_1 : decode cX11_checkPlace 1 = .ok (.ifCond .ge 14, 3) := by decide +kernel
theorem dX11_checkPlace_4 : decode cX11_checkPlace 4 = .ok (.new 103, 3) := by decide +kernel
theorem dX11_checkPlace_7 : decode cX11_checkPlace 7 = .ok (.dup, 1) := by decide +kernel
theorem dX11_checkPlace_8 : decode cX11_checkPlace 8 = .ok (.ldc_w 456, 3) := by decide +kernel
theorem dX11_checkPlace_11 : decode cX11_checkPlace 11 = .ok (.invokespecial 107, 3) := by decide +kernel
theorem dX11_checkPlace_14 : decode cX11_checkPlace 14 = .ok (.athrow, 1) := by decide +kernel
theorem dX11_checkPlace_15 : decode cX11_checkPlace 15 = .ok (.return_, 1) := by decide +kernel
theorem dX11_changeSetting_0 : decode cX11_changeSetting 0 = .ok (.aload_n 0, 1) := by decide +kernel
theorem dX11_changeSetting_1 : decode cX11_changeSetting 1 = .ok (.invokevirtual 121, 3) := by decide +kernel
theorem dX11_changeSetting_4 : decode cX11_changeSetting 4 = .ok (.aload_n 0, 1) := by decide +kernel
theorem dX11_changeSetting_5 : decode cX11_changeSetting 5 = .ok (.getfield 38, 3) := by decide +kernel
theorem dX11_changeSetting_8 : decode cX11_changeSetting 8 = .ok (.getfield 82, 3) := by decide +kernel
theorem dX11_changeSetting_11 : decode cX11_changeSetting 11 = .ok (.getfield 171, 3) := by decide +kernel
theorem dX11_changeSetting_14 : decode cX11_changeSetting 14 = .ok (.iload_n 1, 1) := by decide +kernel
theorem dX11_changeSetting_15 : decode cX11_changeSetting 15 = .ok (.invokevirtual 175, 3) := by decide +kernel
theorem dX11_changeSetting_18 : decode cX11_changeSetting 18 = .ok (.istore_n 3, 1) := by decide +kernel
theorem dX11_changeSetting_19 : decode cX11_changeSetting 19 = .ok (.aload_n 0, 1) := by decide +kernel
theorem dX11_changeSetting_20 : decode cX11_changeSetting 20 = .ok (.getfield 38, 3) := by decide +kernel
theorem dX11_changeSetting_23 : decode cX11_changeSetting 23 = .ok (.getfield 82, 3) := by decide +kernel
theorem dX11_changeSetting_26 : decode cX11_changeSetting 26 = .ok (.getfield 171, 3) := by decide +kernel
theorem dX11_changeSetting_29 : decode cX11_changeSetting 29 = .ok (.iload_n 1, 1) := by decide +kernel
theorem dX11_changeSetting_30 : decode cX11_changeSetting 30 = .ok (.iload_n 2, 1) := by decide +kernel
theorem dX11_changeSetting_31 : decode cX11_changeSetting 31 = .ok (.invokevirtual 322, 3) := by decide +kernel
theorem dX11_changeSetting_34 : decode cX11_changeSetting 34 = .ok (.iload_n 3, 1) := by decide +kernel
theorem dX11_changeSetting_35 : decode cX11_changeSetting 35 = .ok (.ireturn, 1) := by decide +kernel
theorem dX11_earlierAt_0 : decode cX11_earlierAt 0 = .ok (.iload_n 1, 1) := by decide +kernel
theorem dX11_earlierAt_1 : decode cX11_earlierAt 1 = .ok (.ifCond .lt 21, 3) := by decide +kernel
theorem dX11_earlierAt_4 : decode cX11_earlierAt 4 = .ok (.iload_n 1, 1) := by decide +kernel
theorem dX11_earlierAt_5 : decode cX11_earlierAt 5 = .ok (.aload_n 0, 1) := by decide +kernel
theorem dX11_earlierAt_6 : decode cX11_earlierAt 6 = .ok (.getfield 42, 3) := by decide +kernel
theorem dX11_earlierAt_9 : decode cX11_earlierAt 9 = .ok (.arraylength, 1) := by decide +kernel
theorem dX11_earlierAt_10 : decode cX11_earlierAt 10 = .ok (.if_icmp .ge 12, 3) := by decide +kernel
theorem dX11_earlierAt_13 : decode cX11_earlierAt 13 = .ok (.aload_n 0, 1) := by decide +kernel
theorem dX11_earlierAt_14 : decode cX11_earlierAt 14 = .ok (.getfield 42, 3) := by decide +kernel
theorem dX11_earlierAt_17 : decode cX11_earlierAt 17 = .ok (.iload_n 1, 1) := by decide +kernel
theorem dX11_earlierAt_18 : decode cX11_earlierAt 18 = .ok (.aaload, 1) := by decide +kernel
theorem dX11_earlierAt_19 : decode cX11_earlierAt 19 = .ok (.goto 4, 3) := by decide +kernel
theorem dX11_earlierAt_22 : decode cX11_earlierAt 22 = .ok (.aconst_null, 1) := by decide +kernel
theorem dX11_earlierAt_23 : decode cX11_earlierAt 23 = .ok (.areturn, 1) := by decide +kernel
theorem dX11_keepForUndo_0 : decode cX11_keepForUndo 0 = .ok (.aload_n 0, 1) := by decide +kernel
theorem dX11_keepForUndo_1 : decode cX11_keepForUndo 1 = .ok (.aload_n 0, 1) := by decide +kernel
theorem dX11_keepForUndo_2 : decode cX11_keepForUndo 2 = .ok (.getfield 46, 3) := by decide +kernel
theorem dX11_keepForUndo_5 : decode cX11_keepForUndo 5 = .ok (.invokevirtual 425, 3) := by decide +kernel
theorem dX11_keepForUndo_8 : decode cX11_keepForUndo 8 = .ok (.astore_n 1, 1) := by decide +kernel
theorem dX11_keepForUndo_9 : decode cX11_keepForUndo 9 = .ok (.aload_n 1, 1) := by decide +kernel
theorem dX11_keepForUndo_10 : decode cX11_keepForUndo 10 = .ok (.ifnull 11, 3) := by decide +kernel
theorem dX11_keepForUndo_13 : decode cX11_keepForUndo 13 = .ok (.aload_n 1, 1) := by decide +kernel
theorem dX11_keepForUndo_14 : decode cX11_keepForUndo 14 = .ok (.aload_n 0, 1) := by decide +kernel
theorem dX11_keepForUndo_15 : decode cX11_keepForUndo 15 = .ok (.getfield 38, 3) := by decide +kernel
theorem dX11_keepForUndo_18 : decode cX11_keepForUndo 18 = .ok (.invokevirtual 429, 3) := by decide +kernel
theorem dX11_keepForUndo_21 : decode cX11_keepForUndo 21 = .ok (.aload_n 0, 1) := by decide +kernel
theorem dX11_keepForUndo_22 : decode cX11_keepForUndo 22 = .ok (.aload_n 0, 1) := by decide +kernel
theorem dX11_keepForUndo_23 : decode cX11_keepForUndo 23 = .ok (.getfield 46, 3) := by decide +kernel
theorem dX11_keepForUndo_26 : decode cX11_keepForUndo 26 = .ok (.iconst 1, 1) := by decide +kernel
theorem dX11_keepForUndo_27 : decode cX11_keepForUndo 27 = .ok (.iadd, 1) := by decide +kernel
theorem dX11_keepForUndo_28 : decode cX11_keepForUndo 28 = .ok (.bipush 6, 2) := by decide +kernel
theorem dX11_keepForUndo_30 : decode cX11_keepForUndo 30 = .ok (.irem, 1) := by decide +kernel
theorem dX11_keepForUndo_31 : decode cX11_keepForUndo 31 = .ok (.putfield 46, 3) := by decide +kernel
theorem dX11_keepForUndo_34 : decode cX11_keepForUndo 34 = .ok (.aload_n 0, 1) := by decide +kernel
theorem dX11_keepForUndo_35 : decode cX11_keepForUndo 35 = .ok (.aload_n 0, 1) := by decide +kernel
theorem dX11_keepForUndo_36 : decode cX11_keepForUndo 36 = .ok (.getfield 49, 3) := by decide +kernel
theorem dX11_keepForUndo_39 : decode cX11_keepForUndo 39 = .ok (.iconst 1, 1) := by decide +kernel
theorem dX11_keepForUndo_40 : decode cX11_keepForUndo 40 = .ok (.iadd, 1) := by decide +kernel
theorem dX11_keepForUndo_41 : decode cX11_keepForUndo 41 = .ok (.bipush 6, 2) := by decide +kernel
theorem dX11_keepForUndo_43 : decode cX11_keepForUndo 43 = .ok (.invokestatic 383, 3) := by decide +kernel
theorem dX11_keepForUndo_46 : decode cX11_keepForUndo 46 = .ok (.putfield 49, 3) := by decide +kernel
theorem dX11_keepForUndo_49 : decode cX11_keepForUndo 49 = .ok (.return_, 1) := by decide +kernel
theorem dX11_startTrial_0 : decode cX11_startTrial 0 = .ok (.aload_n 0, 1) := by decide +kernel
theorem dX11_startTrial_1 : decode cX11_startTrial 1 = .ok (.getfield 69, 3) := by decide +kernel
theorem dX11_startTrial_4 : decode cX11_startTrial 4 = .ok (.aload_n 0, 1) := by decide +kernel
theorem dX11_startTrial_5 : decode cX11_startTrial 5 = .ok (.getfield 38, 3) := by decide +kernel
theorem dX11_startTrial_8 : decode cX11_startTrial 8 = .ok (.getfield 82, 3) := by decide +kernel
theorem dX11_startTrial_11 : decode cX11_startTrial 11 = .ok (.invokevirtual 124, 3) := by decide +kernel
theorem dX11_startTrial_14 : decode cX11_startTrial 14 = .ok (.aload_n 0, 1) := by decide +kernel
theorem dX11_startTrial_15 : decode cX11_startTrial 15 = .ok (.getfield 73, 3) := by decide +kernel
theorem dX11_startTrial_18 : decode cX11_startTrial 18 = .ok (.getfield 199, 3) := by decide +kernel
theorem dX11_startTrial_21 : decode cX11_startTrial 21 = .ok (.aload_n 0, 1) := by decide +kernel
theorem dX11_startTrial_22 : decode cX11_startTrial 22 = .ok (.getfield 69, 3) := by decide +kernel
theorem dX11_startTrial_25 : decode cX11_startTrial 25 = .ok (.invokevirtual 458, 3) := by decide +kernel
theorem dX11_startTrial_28 : decode cX11_startTrial 28 = .ok (.return_, 1) := by decide +kernel
theorem dX11_sectionsToRead_0 : decode cX11_sectionsToRead 0 = .ok (.iconst 0, 1) := by decide +kernel
theorem dX11_sectionsToRead_1 : decode cX11_sectionsToRead 1 = .ok (.istore_n 1, 1) := by decide +kernel
theorem dX11_sectionsToRead_2 : decode cX11_sectionsToRead 2 = .ok (.iconst 0, 1) := by decide +kernel
theorem dX11_sectionsToRead_3 : decode cX11_sectionsToRead 3 = .ok (.istore_n 2, 1) := by decide +kernel
theorem dX11_sectionsToRead_4 : decode cX11_sectionsToRead 4 = .ok (.iload_n 2, 1) := by decide +kernel
theorem dX11_sectionsToRead_5 : decode cX11_sectionsToRead 5 = .ok (.aload_n 0, 1) := by decide +kernel
theorem dX11_sectionsToRead_6 : decode cX11_sectionsToRead 6 = .ok (.getfield 38, 3) := by decide +kernel
theorem dX11_sectionsToRead_9 : decode cX11_sectionsToRead 9 = .ok (.getfield 82, 3) := by decide +kernel
theorem dX11_sectionsToRead_12 : decode cX11_sectionsToRead 12 = .ok (.getfield 131, 3) := by decide +kernel
theorem dX11_sectionsToRead_15 : decode cX11_sectionsToRead 15 = .ok (.if_icmp .ge 145, 3) := by decide +kernel
theorem dX11_sectionsToRead_18 : decode cX11_sectionsToRead 18 = .ok (.aload_n 0, 1) := by decide +kernel
theorem dX11_sectionsToRead_19 : decode cX11_sectionsToRead 19 = .ok (.getfield 38, 3) := by decide +kernel
theorem dX11_sectionsToRead_22 : decode cX11_sectionsToRead 22 = .ok (.getfield 82, 3) := by decide +kernel
theorem dX11_sectionsToRead_25 : decode cX11_sectionsToRead 25 = .ok (.getfield 461, 3) := by decide +kernel
theorem dX11_sectionsToRead_28 : decode cX11_sectionsToRead 28 = .ok (.iload_n 2, 1) := by decide +kernel
theorem dX11_sectionsToRead_29 : decode cX11_sectionsToRead 29 = .ok (.invokevirtual 175, 3) := by decide +kernel
theorem dX11_sectionsToRead_32 : decode cX11_sectionsToRead 32 = .ok (.istore_n 3, 1) := by decide +kernel
theorem dX11_sectionsToRead_33 : decode cX11_sectionsToRead 33 = .ok (.aload_n 0, 1) := by decide +kernel
theorem dX11_sectionsToRead_34 : decode cX11_sectionsToRead 34 = .ok (.getfield 55, 3) := by decide +kernel
theorem dX11_sectionsToRead_37 : decode cX11_sectionsToRead 37 = .ok (.aload_n 0, 1) := by decide +kernel
theorem dX11_sectionsToRead_38 : decode cX11_sectionsToRead 38 = .ok (.getfield 76, 3) := by decide +kernel
theorem dX11_sectionsToRead_41 : decode cX11_sectionsToRead 41 = .ok (.aload_n 0, 1) := by decide +kernel
theorem dX11_sectionsToRead_42 : decode cX11_sectionsToRead 42 = .ok (.getfield 38, 3) := by decide +kernel
theorem dX11_sectionsToRead_45 : decode cX11_sectionsToRead 45 = .ok (.getfield 82, 3) := by decide +kernel
theorem dX11_sectionsToRead_48 : decode cX11_sectionsToRead 48 = .ok (.aload_n 0, 1) := by decide +kernel
theorem dX11_sectionsToRead_49 : decode cX11_sectionsToRead 49 = .ok (.getfield 55, 3) := by decide +kernel
theorem dX11_sectionsToRead_52 : decode cX11_sectionsToRead 52 = .ok (.getfield 137, 3) := by decide +kernel
theorem dX11_sectionsToRead_55 : decode cX11_sectionsToRead 55 = .ok (.getfield 244, 3) := by decide +kernel
theorem dX11_sectionsToRead_58 : decode cX11_sectionsToRead 58 = .ok (.iload_n 2, 1) := by decide +kernel
theorem dX11_sectionsToRead_59 : decode cX11_sectionsToRead 59 = .ok (.invokevirtual 175, 3) := by decide +kernel
theorem dX11_sectionsToRead_62 : decode cX11_sectionsToRead 62 = .ok (.aload_n 0, 1) := by decide +kernel
theorem dX11_sectionsToRead_63 : decode cX11_sectionsToRead 63 = .ok (.getfield 55, 3) := by decide +kernel
theorem dX11_sectionsToRead_66 : decode cX11_sectionsToRead 66 = .ok (.getfield 137, 3) := by decide +kernel
theorem dX11_sectionsToRead_69 : decode cX11_sectionsToRead 69 = .ok (.iload_n 2, 1) := by decide +kernel
theorem dX11_sectionsToRead_70 : decode cX11_sectionsToRead 70 = .ok (.invokevirtual 464, 3) := by decide +kernel
theorem dX11_sectionsToRead_73 : decode cX11_sectionsToRead 73 = .ok (.invokevirtual 391, 3) := by decide +kernel
theorem dX11_sectionsToRead_76 : decode cX11_sectionsToRead 76 = .ok (.aload_n 0, 1) := by decide +kernel
theorem dX11_sectionsToRead_77 : decode cX11_sectionsToRead 77 = .ok (.getfield 73, 3) := by decide +kernel
theorem dX11_sectionsToRead_80 : decode cX11_sectionsToRead 80 = .ok (.aload_n 0, 1) := by decide +kernel
theorem dX11_sectionsToRead_81 : decode cX11_sectionsToRead 81 = .ok (.getfield 79, 3) := by decide +kernel
theorem dX11_sectionsToRead_84 : decode cX11_sectionsToRead 84 = .ok (.aload_n 0, 1) := by decide +kernel
theorem dX11_sectionsToRead_85 : decode cX11_sectionsToRead 85 = .ok (.getfield 38, 3) := by decide +kernel
theorem dX11_sectionsToRead_88 : decode cX11_sectionsToRead 88 = .ok (.getfield 369, 3) := by decide +kernel
theorem dX11_sectionsToRead_91 : decode cX11_sectionsToRead 91 = .ok (.aload_n 0, 1) := by decide +kernel
theorem dX11_sectionsToRead_92 : decode cX11_sectionsToRead 92 = .ok (.getfield 73, 3) := by decide +kernel
theorem dX11_sectionsToRead_95 : decode cX11_sectionsToRead 95 = .ok (.getfield 137, 3) := by decide +kernel
theorem dX11_sectionsToRead_98 : decode cX11_sectionsToRead 98 = .ok (.getfield 244, 3) := by decide +kernel
theorem dX11_sectionsToRead_101 : decode cX11_sectionsToRead 101 = .ok (.iload_n 3, 1) := by decide +kernel
theorem dX11_sectionsToRead_102 : decode cX11_sectionsToRead 102 = .ok (.invokevirtual 175, 3) := by decide +kernel
theorem dX11_sectionsToRead_105 : decode cX11_sectionsToRead 105 = .ok (.aload_n 0, 1) := by decide +kernel
theorem dX11_sectionsToRead_106 : decode cX11_sectionsToRead 106 = .ok (.getfield 73, 3) := by decide +kernel
theorem dX11_sectionsToRead_109 : decode cX11_sectionsToRead 109 = .ok (.getfield 137, 3) := by decide +kernel
theorem dX11_sectionsToRead_112 : decode cX11_sectionsToRead 112 = .ok (.iload_n 3, 1) := by decide +kernel
theorem dX11_sectionsToRead_113 : decode cX11_sectionsToRead 113 = .ok (.invokevirtual 464, 3) := by decide +kernel
theorem dX11_sectionsToRead_116 : decode cX11_sectionsToRead 116 = .ok (.invokevirtual 391, 3) := by decide +kernel
theorem dX11_sectionsToRead_119 : decode cX11_sectionsToRead 119 = .ok (.aload_n 0, 1) := by decide +kernel
theorem dX11_sectionsToRead_120 : decode cX11_sectionsToRead 120 = .ok (.getfield 38, 3) := by decide +kernel
theorem dX11_sectionsToRead_123 : decode cX11_sectionsToRead 123 = .ok (.getfield 127, 3) := by decide +kernel
theorem dX11_sectionsToRead_126 : decode cX11_sectionsToRead 126 = .ok (.ifCond .eq 22, 3) := by decide +kernel
theorem dX11_sectionsToRead_129 : decode cX11_sectionsToRead 129 = .ok (.iload_n 3, 1) := by decide +kernel
theorem dX11_sectionsToRead_130 : decode cX11_sectionsToRead 130 = .ok (.iconst (-1), 1) := by decide +kernel
theorem dX11_sectionsToRead_131 : decode cX11_sectionsToRead 131 = .ok (.if_icmp .eq 17, 3) := by decide +kernel
theorem dX11_sectionsToRead_134 : decode cX11_sectionsToRead 134 = .ok (.aload_n 0, 1) := by decide +kernel
theorem dX11_sectionsToRead_135 : decode cX11_sectionsToRead 135 = .ok (.getfield 76, 3) := by decide +kernel
theorem dX11_sectionsToRead_138 : decode cX11_sectionsToRead 138 = .ok (.aload_n 0, 1) := by decide +kernel
theorem dX11_sectionsToRead_139 : decode cX11_sectionsToRead 139 = .ok (.getfield 79, 3) := by decide +kernel
theorem dX11_sectionsToRead_142 : decode cX11_sectionsToRead 142 = .ok (.invokevirtual 395, 3) := by decide +kernel
theorem dX11_sectionsToRead_145 : decode cX11_sectionsToRead 145 = .ok (.ifCond .ne 9, 3) := by decide +kernel
theorem dX11_sectionsToRead_148 : decode cX11_sectionsToRead 148 = .ok (.iload_n 1, 1) := by decide +kernel
theorem dX11_sectionsToRead_149 : decode cX11_sectionsToRead 149 = .ok (.iconst 1, 1) := by decide +kernel
theorem dX11_sectionsToRead_150 : decode cX11_sectionsToRead 150 = .ok (.iload_n 2, 1) := by decide +kernel
theorem dX11_sectionsToRead_151 : decode cX11_sectionsToRead 151 = .ok (.ishl, 1) := by decide +kernel
theorem dX11_sectionsToRead_152 : decode cX11_sectionsToRead 152 = .ok (.ior, 1) := by decide +kernel
theorem dX11_sectionsToRead_153 : decode cX11_sectionsToRead 153 = .ok (.istore_n 1, 1) := by decide +kernel
theorem dX11_sectionsToRead_154 : decode cX11_sectionsToRead 154 = .ok (.iinc 2 1, 3) := by decide +kernel
theorem dX11_sectionsToRead_157 : decode cX11_sectionsToRead 157 = .ok (.goto (-153), 3) := by decide +kernel
theorem dX11_sectionsToRead_160 : decode cX11_sectionsToRead 160 = .ok (.iload_n 1, 1) := by decide +kernel
theorem dX11_sectionsToRead_161 : decode cX11_sectionsToRead 161 = .ok (.ireturn, 1) := by decide +kernel
theorem dX11_pagesBefore_0 : decode cX11_pagesBefore 0 = .ok (.iconst 0, 1) := by decide +kernel
theorem dX11_pagesBefore_1 : decode cX11_pagesBefore 1 = .ok (.istore_n 2, 1) := by decide +kernel
theorem dX11_pagesBefore_2 : decode cX11_pagesBefore 2 = .ok (.aload_n 0, 1) := by decide +kernel
theorem dX11_pagesBefore_3 : decode cX11_pagesBefore 3 = .ok (.getfield 55, 3) := by decide +kernel
theorem dX11_pagesBefore_6 : decode cX11_pagesBefore 6 = .ok (.getfield 149, 3) := by decide +kernel
theorem dX11_pagesBefore_9 : decode cX11_pagesBefore 9 = .ok (.iload_n 1, 1) := by decide +kernel
theorem dX11_pagesBefore_10 : decode cX11_pagesBefore 10 = .ok (.aload_n 0, 1) := by decide +kernel
theorem dX11_pagesBefore_11 : decode cX11_pagesBefore 11 = .ok (.getfield 38, 3) := by decide +kernel
theorem dX11_pagesBefore_14 : decode cX11_pagesBefore 14 = .ok (.getfield 82, 3) := by decide +kernel
theorem dX11_pagesBefore_17 : decode cX11_pagesBefore 17 = .ok (.getfield 131, 3) := by decide +kernel
theorem dX11_pagesBefore_20 : decode cX11_pagesBefore 20 = .ok (.invokevirtual 467, 3) := by decide +kernel
theorem dX11_pagesBefore_23 : decode cX11_pagesBefore 23 = .ok (.istore_n 3, 1) := by decide +kernel
theorem dX11_pagesBefore_24 : decode cX11_pagesBefore 24 = .ok (.iconst 0, 1) := by decide +kernel
theorem dX11_pagesBefore_25 : decode cX11_pagesBefore 25 = .ok (.istore 4, 2) := by decide +kernel
theorem dX11_pagesBefore_27 : decode cX11_pagesBefore 27 = .ok (.iload 4, 2) := by decide +kernel
theorem dX11_pagesBefore_29 : decode cX11_pagesBefore 29 = .ok (.aload_n 0, 1) := by decide +kernel
theorem dX11_pagesBefore_30 : decode cX11_pagesBefore 30 = .ok (.getfield 38, 3) := by decide +kernel
theorem dX11_pagesBefore_33 : decode cX11_pagesBefore 33 = .ok (.getfield 82, 3) := by decide +kernel
theorem dX11_pagesBefore_36 : decode cX11_pagesBefore 36 = .ok (.getfield 131, 3) := by decide +kernel
theorem dX11_pagesBefore_39 : decode cX11_pagesBefore 39 = .ok (.if_icmp .ge 107, 3) := by decide +kernel
theorem dX11_pagesBefore_42 : decode cX11_pagesBefore 42 = .ok (.aload_n 0, 1) := by decide +kernel
theorem dX11_pagesBefore_43 : decode cX11_pagesBefore 43 = .ok (.getfield 55, 3) := by decide +kernel
theorem dX11_pagesBefore_46 : decode cX11_pagesBefore 46 = .ok (.getfield 149, 3) := by decide +kernel
theorem dX11_pagesBefore_49 : decode cX11_pagesBefore 49 = .ok (.iload 4, 2) := by decide +kernel
theorem dX11_pagesBefore_51 : decode cX11_pagesBefore 51 = .ok (.aload_n 0, 1) := by decide +kernel
theorem dX11_pagesBefore_52 : decode cX11_pagesBefore 52 = .ok (.getfield 38, 3) := by decide +kernel
theorem dX11_pagesBefore_55 : decode cX11_pagesBefore 55 = .ok (.getfield 82, 3) := by decide +kernel
theorem dX11_pagesBefore_58 : decode cX11_pagesBefore 58 = .ok (.getfield 131, 3) := by decide +kernel
theorem dX11_pagesBefore_61 : decode cX11_pagesBefore 61 = .ok (.invokevirtual 467, 3) := by decide +kernel
theorem dX11_pagesBefore_64 : decode cX11_pagesBefore 64 = .ok (.istore 5, 2) := by decide +kernel
theorem dX11_pagesBefore_66 : decode cX11_pagesBefore 66 = .ok (.aload_n 0, 1) := by decide +kernel
theorem dX11_pagesBefore_67 : decode cX11_pagesBefore 67 = .ok (.getfield 55, 3) := by decide +kernel
theorem dX11_pagesBefore_70 : decode cX11_pagesBefore 70 = .ok (.getfield 149, 3) := by decide +kernel
theorem dX11_pagesBefore_73 : decode cX11_pagesBefore 73 = .ok (.getfield 222, 3) := by decide +kernel
theorem dX11_pagesBefore_76 : decode cX11_pagesBefore 76 = .ok (.iload 4, 2) := by decide +kernel
theorem dX11_pagesBefore_78 : decode cX11_pagesBefore 78 = .ok (.invokevirtual 175, 3) := by decide +kernel
theorem dX11_pagesBefore_81 : decode cX11_pagesBefore 81 = .ok (.aload_n 0, 1) := by decide +kernel
theorem dX11_pagesBefore_82 : decode cX11_pagesBefore 82 = .ok (.getfield 55, 3) := by decide +kernel
theorem dX11_pagesBefore_85 : decode cX11_pagesBefore 85 = .ok (.getfield 149, 3) := by decide +kernel
theorem dX11_pagesBefore_88 : decode cX11_pagesBefore 88 = .ok (.getfield 222, 3) := by decide +kernel
theorem dX11_pagesBefore_91 : decode cX11_pagesBefore 91 = .ok (.iload_n 1, 1) := by decide +kernel
theorem dX11_pagesBefore_92 : decode cX11_pagesBefore 92 = .ok (.invokevirtual 175, 3) := by decide +kernel
theorem dX11_pagesBefore_95 : decode cX11_pagesBefore 95 = .ok (.if_icmp .ge 7, 3) := by decide +kernel
theorem dX11_pagesBefore_98 : decode cX11_pagesBefore 98 = .ok (.iconst 1, 1) := by decide +kernel
theorem dX11_pagesBefore_99 : decode cX11_pagesBefore 99 = .ok (.goto 4, 3) := by decide +kernel
theorem dX11_pagesBefore_102 : decode cX11_pagesBefore 102 = .ok (.iconst 0, 1) := by decide +kernel
theorem dX11_pagesBefore_103 : decode cX11_pagesBefore 103 = .ok (.istore 6, 2) := by decide +kernel
theorem dX11_pagesBefore_105 : decode cX11_pagesBefore 105 = .ok (.aload_n 0, 1) := by decide +kernel
theorem dX11_pagesBefore_106 : decode cX11_pagesBefore 106 = .ok (.getfield 55, 3) := by decide +kernel
theorem dX11_pagesBefore_109 : decode cX11_pagesBefore 109 = .ok (.getfield 149, 3) := by decide +kernel
theorem dX11_pagesBefore_112 : decode cX11_pagesBefore 112 = .ok (.iload 4, 2) := by decide +kernel
theorem dX11_pagesBefore_114 : decode cX11_pagesBefore 114 = .ok (.invokevirtual 414, 3) := by decide +kernel
theorem dX11_pagesBefore_117 : decode cX11_pagesBefore 117 = .ok (.ifCond .eq 23, 3) := by decide +kernel
theorem dX11_pagesBefore_120 : decode cX11_pagesBefore 120 = .ok (.iload 5, 2) := by decide +kernel
theorem dX11_pagesBefore_122 : decode cX11_pagesBefore 122 = .ok (.iload_n 3, 1) := by decide +kernel
theorem dX11_pagesBefore_123 : decode cX11_pagesBefore 123 = .ok (.if_icmp .gt 14, 3) := by decide +kernel
theorem dX11_pagesBefore_126 : decode cX11_pagesBefore 126 = .ok (.iload 5, 2) := by decide +kernel
theorem dX11_pagesBefore_128 : decode cX11_pagesBefore 128 = .ok (.iload_n 3, 1) := by decide +kernel
theorem dX11_pagesBefore_129 : decode cX11_pagesBefore 129 = .ok (.if_icmp .ne 11, 3) := by decide +kernel
theorem dX11_pagesBefore_132 : decode cX11_pagesBefore 132 = .ok (.iload 6, 2) := by decide +kernel
theorem dX11_pagesBefore_134 : decode cX11_pagesBefore 134 = .ok (.ifCond .eq 6, 3) := by decide +kernel
theorem dX11_pagesBefore_137 : decode cX11_pagesBefore 137 = .ok (.iinc 2 1, 3) := by decide +kernel
theorem dX11_pagesBefore_140 : decode cX11_pagesBefore 140 = .ok (.iinc 4 1, 3) := by decide +kernel
theorem dX11_pagesBefore_143 : decode cX11_pagesBefore 143 = .ok (.goto (-116), 3) := by decide +kernel
theorem dX11_pagesBefore_146 : decode cX11_pagesBefore 146 = .ok (.iload_n 2, 1) := by decide +kernel
theorem dX11_pagesBefore_147 : decode cX11_pagesBefore 147 = .ok (.ireturn, 1) := by decide +kernel
theorem dX11_titlesBefore_0 : decode cX11_titlesBefore 0 = .ok (.iconst 0, 1) := by decide +kernel
theorem dX11_titlesBefore_1 : decode cX11_titlesBefore 1 = .ok (.istore_n 2, 1) := by decide +kernel
theorem dX11_titlesBefore_2 : decode cX11_titlesBefore 2 = .ok (.aload_n 0, 1) := by decide +kernel
theorem dX11_titlesBefore_3 : decode cX11_titlesBefore 3 = .ok (.getfield 55, 3) := by decide +kernel
theorem dX11_titlesBefore_6 : decode cX11_titlesBefore 6 = .ok (.getfield 199, 3) := by decide +kernel
theorem dX11_titlesBefore_9 : decode cX11_titlesBefore 9 = .ok (.getfield 216, 3) := by decide +kernel
theorem dX11_titlesBefore_12 : decode cX11_titlesBefore 12 = .ok (.iload_n 1, 1) := by decide +kernel
theorem dX11_titlesBefore_13 : decode cX11_titlesBefore 13 = .ok (.invokevirtual 175, 3) := by decide +kernel
theorem dX11_titlesBefore_16 : decode cX11_titlesBefore 16 = .ok (.istore_n 3, 1) := by decide +kernel
theorem dX11_titlesBefore_17 : decode cX11_titlesBefore 17 = .ok (.iconst 0, 1) := by decide +kernel
theorem dX11_titlesBefore_18 : decode cX11_titlesBefore 18 = .ok (.istore 4, 2) := by decide +kernel
theorem dX11_titlesBefore_20 : decode cX11_titlesBefore 20 = .ok (.iload 4, 2) := by decide +kernel
theorem dX11_titlesBefore_22 : decode cX11_titlesBefore 22 = .ok (.aload_n 0, 1) := by decide +kernel
theorem dX11_titlesBefore_23 : decode cX11_titlesBefore 23 = .ok (.getfield 38, 3) := by decide +kernel
theorem dX11_titlesBefore_26 : decode cX11_titlesBefore 26 = .ok (.getfield 82, 3) := by decide +kernel
theorem dX11_titlesBefore_29 : decode cX11_titlesBefore 29 = .ok (.getfield 131, 3) := by decide +kernel
theorem dX11_titlesBefore_32 : decode cX11_titlesBefore 32 = .ok (.if_icmp .ge 47, 3) := by decide +kernel
theorem dX11_titlesBefore_35 : decode cX11_titlesBefore 35 = .ok (.aload_n 0, 1) := by decide +kernel
theorem dX11_titlesBefore_36 : decode cX11_titlesBefore 36 = .ok (.getfield 55, 3) := by decide +kernel
theorem dX11_titlesBefore_39 : decode cX11_titlesBefore 39 = .ok (.getfield 199, 3) := by decide +kernel
theorem dX11_titlesBefore_42 : decode cX11_titlesBefore 42 = .ok (.getfield 216, 3) := by decide +kernel
theorem dX11_titlesBefore_45 : decode cX11_titlesBefore 45 = .ok (.iload 4, 2) := by decide +kernel
theorem dX11_titlesBefore_47 : decode cX11_titlesBefore 47 = .ok (.invokevirtual 175, 3) := by decide +kernel
theorem dX11_titlesBefore_50 : decode cX11_titlesBefore 50 = .ok (.istore 5, 2) := by decide +kernel
theorem dX11_titlesBefore_52 : decode cX11_titlesBefore 52 = .ok (.iload 5, 2) := by decide +kernel
theorem dX11_titlesBefore_54 : decode cX11_titlesBefore 54 = .ok (.iload_n 3, 1) := by decide +kernel
theorem dX11_titlesBefore_55 : decode cX11_titlesBefore 55 = .ok (.if_icmp .gt 15, 3) := by decide +kernel
theorem dX11_titlesBefore_58 : decode cX11_titlesBefore 58 = .ok (.iload 5, 2) := by decide +kernel
theorem dX11_titlesBefore_60 : decode cX11_titlesBefore 60 = .ok (.iload_n 3, 1) := by decide +kernel
theorem dX11_titlesBefore_61 : decode cX11_titlesBefore 61 = .ok (.if_icmp .ne 12, 3) := by decide +kernel
theorem dX11_titlesBefore_64 : decode cX11_titlesBefore 64 = .ok (.iload 4, 2) := by decide +kernel
theorem dX11_titlesBefore_66 : decode cX11_titlesBefore 66 = .ok (.iload_n 1, 1) := by decide +kernel
theorem dX11_titlesBefore_67 : decode cX11_titlesBefore 67 = .ok (.if_icmp .ge 6, 3) := by decide +kernel
theorem dX11_titlesBefore_70 : decode cX11_titlesBefore 70 = .ok (.iinc 2 1, 3) := by decide +kernel
theorem dX11_titlesBefore_73 : decode cX11_titlesBefore 73 = .ok (.iinc 4 1, 3) := by decide +kernel
theorem dX11_titlesBefore_76 : decode cX11_titlesBefore 76 = .ok (.goto (-56), 3) := by decide +kernel
theorem dX11_titlesBefore_79 : decode cX11_titlesBefore 79 = .ok (.iload_n 2, 1) := by decide +kernel
theorem dX11_titlesBefore_80 : decode cX11_titlesBefore 80 = .ok (.ireturn, 1) := by decide +kernel
theorem dX11_quotient_0 : decode cX11_quotient 0 = .ok (.iload_n 1, 1) := by decide +kernel
theorem dX11_quotient_1 : decode cX11_quotient 1 = .ok (.ifCond .le 9, 3) := by decide +kernel
theorem dX11_quotient_4 : decode cX11_quotient 4 = .ok (.iload_n 0, 1) := by decide +kernel
theorem dX11_quotient_5 : decode cX11_quotient 5 = .ok (.iload_n 1, 1) := by decide +kernel
theorem dX11_quotient_6 : decode cX11_quotient 6 = .ok (.idiv, 1) := by decide +kernel
theorem dX11_quotient_7 : decode cX11_quotient 7 = .ok (.goto 4, 3) := by decide +kernel
theorem dX11_quotient_10 : decode cX11_quotient 10 = .ok (.iconst 0, 1) := by decide +kernel
theorem dX11_quotient_11 : decode cX11_quotient 11 = .ok (.ireturn, 1) := by decide +kernel
theorem dX11_quotientUp_0 : decode cX11_quotientUp 0 = .ok (.iload_n 1, 1) := by decide +kernel
theorem dX11_quotientUp_1 : decode cX11_quotientUp 1 = .ok (.ifCond .le 13, 3) := by decide +kernel
theorem dX11_quotientUp_4 : decode cX11_quotientUp 4 = .ok (.iload_n 0, 1) := by decide +kernel
theorem dX11_quotientUp_5 : decode cX11_quotientUp 5 = .ok (.iload_n 1, 1) := by decide +kernel
theorem dX11_quotientUp_6 : decode cX11_quotientUp 6 = .ok (.iadd, 1) := by decide +kernel
theorem dX11_quotientUp_7 : decode cX11_quotientUp 7 = .ok (.iconst 1, 1) := by decide +kernel
theorem dX11_quotientUp_8 : decode cX11_quotientUp 8 = .ok (.isub, 1) := by decide +kernel
theorem dX11_quotientUp_9 : decode cX11_quotientUp 9 = .ok (.iload_n 1, 1) := by decide +kernel
theorem dX11_quotientUp_10 : decode cX11_quotientUp 10 = .ok (.idiv, 1) := by decide +kernel
theorem dX11_quotientUp_11 : decode cX11_quotientUp 11 = .ok (.goto 4, 3) := by decide +kernel
theorem dX11_quotientUp_14 : decode cX11_quotientUp 14 = .ok (.iconst 0, 1) := by decide +kernel
theorem dX11_quotientUp_15 : decode cX11_quotientUp 15 = .ok (.ireturn, 1) := by decide +kernel
theorem dX11_signWidth_0 : decode cX11_signWidth 0 = .ok (.iload_n 0, 1) := by decide +kernel
theorem dX11_signWidth_1 : decode cX11_signWidth 1 = .ok (.lookupswitch 103 #[(32, 99), (46, 99), (49, 99), (102, 99), (105, 99), (106, 99), (108, 99), (109, 101), (114, 99), (116, 99), (119, 101)], 99) := by decide +kernel
theorem dX11_signWidth_100 : decode cX11_signWidth 100 = .ok (.iconst 1, 1) := by decide +kernel
theorem dX11_signWidth_101 : decode cX11_signWidth 101 = .ok (.ireturn, 1) := by decide +kernel
theorem dX11_signWidth_102 : decode cX11_signWidth 102 = .ok (.iconst 3, 1) := by decide +kernel
theorem dX11_signWidth_103 : decode cX11_signWidth 103 = .ok (.ireturn, 1) := by decide +kernel
theorem dX11_signWidth_104 : decode cX11_signWidth 104 = .ok (.iconst 2, 1) := by decide +kernel
theorem dX11_signWidth_105 : decode cX11_signWidth 105 = .ok (.ireturn, 1) := by decide +kernel
theorem dX11_arabicWidth_0 : decode cX11_arabicWidth 0 = .ok (.iconst 0, 1) := by decide +kernel
theorem dX11_arabicWidth_1 : decode cX11_arabicWidth 1 = .ok (.istore_n 1, 1) := by decide +kernel
theorem dX11_arabicWidth_2 : decode cX11_arabicWidth 2 = .ok (.iload_n 0, 1) := by decide +kernel
theorem dX11_arabicWidth_3 : decode cX11_arabicWidth 3 = .ok (.istore_n 2, 1) := by decide +kernel
theorem dX11_arabicWidth_4 : decode cX11_arabicWidth 4 = .ok (.iload_n 2, 1) := by decide +kernel
theorem dX11_arabicWidth_5 : decode cX11_arabicWidth 5 = .ok (.ifCond .le 24, 3) := by decide +kernel
theorem dX11_arabicWidth_8 : decode cX11_arabicWidth 8 = .ok (.iload_n 1, 1) := by decide +kernel
theorem dX11_arabicWidth_9 : decode cX11_arabicWidth 9 = .ok (.bipush 48, 2) := by decide +kernel
theorem dX11_arabicWidth_11 : decode cX11_arabicWidth 11 = .ok (.iload_n 2, 1) := by decide +kernel
theorem dX11_arabicWidth_12 : decode cX11_arabicWidth 12 = .ok (.bipush 10, 2) := by decide +kernel
theorem dX11_arabicWidth_14 : decode cX11_arabicWidth 14 = .ok (.irem, 1) := by decide +kernel
theorem dX11_arabicWidth_15 : decode cX11_arabicWidth 15 = .ok (.iadd, 1) := by decide +kernel
theorem dX11_arabicWidth_16 : decode cX11_arabicWidth 16 = .ok (.invokestatic 470, 3) := by decide +kernel
theorem dX11_arabicWidth_19 : decode cX11_arabicWidth 19 = .ok (.iadd, 1) := by decide +kernel
theorem dX11_arabicWidth_20 : decode cX11_arabicWidth 20 = .ok (.istore_n 1, 1) := by decide +kernel
theorem dX11_arabicWidth_21 : decode cX11_arabicWidth 21 = .ok (.iload_n 2, 1) := by decide +kernel
theorem dX11_arabicWidth_22 : decode cX11_arabicWidth 22 = .ok (.bipush 10, 2) := by decide +kernel
theorem dX11_arabicWidth_24 : decode cX11_arabicWidth 24 = .ok (.idiv, 1) := by decide +kernel
theorem dX11_arabicWidth_25 : decode cX11_arabicWidth 25 = .ok (.istore_n 2, 1) := by decide +kernel
theorem dX11_arabicWidth_26 : decode cX11_arabicWidth 26 = .ok (.goto (-22), 3) := by decide +kernel
theorem dX11_arabicWidth_29 : decode cX11_arabicWidth 29 = .ok (.iload_n 1, 1) := by decide +kernel
theorem dX11_arabicWidth_30 : decode cX11_arabicWidth 30 = .ok (.ireturn, 1) := by decide +kernel
theorem dX11_romanWidth_0 : decode cX11_romanWidth 0 = .ok (.iload_n 0, 1) := by decide +kernel
theorem dX11_romanWidth_1 : decode cX11_romanWidth 1 = .ok (.bipush 100, 2) := by decide +kernel
theorem dX11_romanWidth_3 : decode cX11_romanWidth 3 = .ok (.idiv, 1) := by decide +kernel
theorem dX11_romanWidth_4 : decode cX11_romanWidth 4 = .ok (.bipush 10, 2) := by decide +kernel
theorem dX11_romanWidth_6 : decode cX11_romanWidth 6 = .ok (.irem, 1) := by decide +kernel
theorem dX11_romanWidth_7 : decode cX11_romanWidth 7 = .ok (.bipush 99, 2) := by decide +kernel
theorem dX11_romanWidth_9 : decode cX11_romanWidth 9 = .ok (.invokestatic 470, 3) := by decide +kernel
theorem dX11_romanWidth_12 : decode cX11_romanWidth 12 = .ok (.bipush 100, 2) := by decide +kernel
theorem dX11_romanWidth_14 : decode cX11_romanWidth 14 = .ok (.invokestatic 470, 3) := by decide +kernel
theorem dX11_romanWidth_17 : decode cX11_romanWidth 17 = .ok (.bipush 109, 2) := by decide +kernel
theorem dX11_romanWidth_19 : decode cX11_romanWidth 19 = .ok (.invokestatic 470, 3) := by decide +kernel
theorem dX11_romanWidth_22 : decode cX11_romanWidth 22 = .ok (.invokestatic 473, 3) := by decide +kernel
theorem dX11_romanWidth_25 : decode cX11_romanWidth 25 = .ok (.istore_n 1, 1) := by decide +kernel
theorem dX11_romanWidth_26 : decode cX11_romanWidth 26 = .ok (.iload_n 0, 1) := by decide +kernel
theorem dX11_romanWidth_27 : decode cX11_romanWidth 27 = .ok (.bipush 10, 2) := by decide +kernel
theorem dX11_romanWidth_29 : decode cX11_romanWidth 29 = .ok (.idiv, 1) := by decide +kernel
theorem dX11_romanWidth_30 : decode cX11_romanWidth 30 = .ok (.bipush 10, 2) := by decide +kernel
theorem dX11_romanWidth_32 : decode cX11_romanWidth 32 = .ok (.irem, 1) := by decide +kernel
theorem dX11_romanWidth_33 : decode cX11_romanWidth 33 = .ok (.bipush 120, 2) := by decide +kernel
theorem dX11_romanWidth_35 : decode cX11_romanWidth 35 = .ok (.invokestatic 470, 3) := by decide +kernel
theorem dX11_romanWidth_38 : decode cX11_romanWidth 38 = .ok (.bipush 108, 2) := by decide +kernel
theorem dX11_romanWidth_40 : decode cX11_romanWidth 40 = .ok (.invokestatic 470, 3) := by decide +kernel
theorem dX11_romanWidth_43 : decode cX11_romanWidth 43 = .ok (.bipush 99, 2) := by decide +kernel
theorem dX11_romanWidth_45 : decode cX11_romanWidth 45 = .ok (.invokestatic 470, 3) := by decide +kernel
theorem dX11_romanWidth_48 : decode cX11_romanWidth 48 = .ok (.invokestatic 473, 3) := by decide +kernel
theorem dX11_romanWidth_51 : decode cX11_romanWidth 51 = .ok (.istore_n 2, 1) := by decide +kernel
theorem dX11_romanWidth_52 : decode cX11_romanWidth 52 = .ok (.iload_n 0, 1) := by decide +kernel
theorem dX11_romanWidth_53 : decode cX11_romanWidth 53 = .ok (.bipush 10, 2) := by decide +kernel
theorem dX11_romanWidth_55 : decode cX11_romanWidth 55 = .ok (.irem, 1) := by decide +kernel
theorem dX11_romanWidth_56 : decode cX11_romanWidth 56 = .ok (.bipush 105, 2) := by decide +kernel
theorem dX11_romanWidth_58 : decode cX11_romanWidth 58 = .ok (.invokestatic 470, 3) := by decide +kernel
theorem dX11_romanWidth_61 : decode cX11_romanWidth 61 = .ok (.bipush 118, 2) := by decide +kernel
theorem dX11_romanWidth_63 : decode cX11_romanWidth 63 = .ok (.invokestatic 470, 3) := by decide +kernel
theorem dX11_romanWidth_66 : decode cX11_romanWidth 66 = .ok (.bipush 120, 2) := by decide +kernel
theorem dX11_romanWidth_68 : decode cX11_romanWidth 68 = .ok (.invokestatic 470, 3) := by decide +kernel
theorem dX11_romanWidth_71 : decode cX11_romanWidth 71 = .ok (.invokestatic 473, 3) := by decide +kernel
theorem dX11_romanWidth_74 : decode cX11_romanWidth 74 = .ok (.istore_n 3, 1) := by decide +kernel
theorem dX11_romanWidth_75 : decode cX11_romanWidth 75 = .ok (.iload_n 0, 1) := by decide +kernel
theorem dX11_romanWidth_76 : decode cX11_romanWidth 76 = .ok (.sipush 1000, 3) := by decide +kernel
theorem dX11_romanWidth_79 : decode cX11_romanWidth 79 = .ok (.idiv, 1) := by decide +kernel
theorem dX11_romanWidth_80 : decode cX11_romanWidth 80 = .ok (.bipush 109, 2) := by decide +kernel
theorem dX11_romanWidth_82 : decode cX11_romanWidth 82 = .ok (.invokestatic 470, 3) := by decide +kernel
theorem dX11_romanWidth_85 : decode cX11_romanWidth 85 = .ok (.imul, 1) := by decide +kernel
theorem dX11_romanWidth_86 : decode cX11_romanWidth 86 = .ok (.iload_n 1, 1) := by decide +kernel
theorem dX11_romanWidth_87 : decode cX11_romanWidth 87 = .ok (.iadd, 1) := by decide +kernel
theorem dX11_romanWidth_88 : decode cX11_romanWidth 88 = .ok (.iload_n 2, 1) := by decide +kernel
theorem dX11_romanWidth_89 : decode cX11_romanWidth 89 = .ok (.iadd, 1) := by decide +kernel
theorem dX11_romanWidth_90 : decode cX11_romanWidth 90 = .ok (.iload_n 3, 1) := by decide +kernel
theorem dX11_romanWidth_91 : decode cX11_romanWidth 91 = .ok (.iadd, 1) := by decide +kernel
theorem dX11_romanWidth_92 : decode cX11_romanWidth 92 = .ok (.ireturn, 1) := by decide +kernel
theorem dX11_romanFigureWidth_0 : decode cX11_romanFigureWidth 0 = .ok (.iload_n 0, 1) := by decide +kernel
theorem dX11_romanFigureWidth_1 : decode cX11_romanFigureWidth 1 = .ok (.bipush 9, 2) := by decide +kernel
theorem dX11_romanFigureWidth_3 : decode cX11_romanFigureWidth 3 = .ok (.if_icmp .ne 7, 3) := by decide +kernel
theorem dX11_romanFigureWidth_6 : decode cX11_romanFigureWidth 6 = .ok (.iload_n 1, 1) := by decide +kernel
theorem dX11_romanFigureWidth_7 : decode cX11_romanFigureWidth 7 = .ok (.iload_n 3, 1) := by decide +kernel
theorem dX11_romanFigureWidth_8 : decode cX11_romanFigureWidth 8 = .ok (.iadd, 1) := by decide +kernel
theorem dX11_romanFigureWidth_9 : decode cX11_romanFigureWidth 9 = .ok (.ireturn, 1) := by decide +kernel
theorem dX11_romanFigureWidth_10 : decode cX11_romanFigureWidth 10 = .ok (.iload_n 0, 1) := by decide +kernel
theorem dX11_romanFigureWidth_11 : decode cX11_romanFigureWidth 11 = .ok (.iconst 4, 1) := by decide +kernel
theorem dX11_romanFigureWidth_12 : decode cX11_romanFigureWidth 12 = .ok (.if_icmp .ne 7, 3) := by decide +kernel
theorem dX11_romanFigureWidth_15 : decode cX11_romanFigureWidth 15 = .ok (.iload_n 1, 1) := by decide +kernel
theorem dX11_romanFigureWidth_16 : decode cX11_romanFigureWidth 16 = .ok (.iload_n 2, 1) := by decide +kernel
theorem dX11_romanFigureWidth_17 : decode cX11_romanFigureWidth 17 = .ok (.iadd, 1) := by decide +kernel
theorem dX11_romanFigureWidth_18 : decode cX11_romanFigureWidth 18 = .ok (.ireturn, 1) := by decide +kernel
theorem dX11_romanFigureWidth_19 : decode cX11_romanFigureWidth 19 = .ok (.iload_n 0, 1) := by decide +kernel
theorem dX11_romanFigureWidth_20 : decode cX11_romanFigureWidth 20 = .ok (.iconst 5, 1) := by decide +kernel
theorem dX11_romanFigureWidth_21 : decode cX11_romanFigureWidth 21 = .ok (.if_icmp .lt 7, 3) := by decide +kernel
theorem dX11_romanFigureWidth_24 : decode cX11_romanFigureWidth 24 = .ok (.iload_n 2, 1) := by decide +kernel
theorem dX11_romanFigureWidth_25 : decode cX11_romanFigureWidth 25 = .ok (.goto 4, 3) := by decide +kernel
theorem dX11_romanFigureWidth_28 : decode cX11_romanFigureWidth 28 = .ok (.iconst 0, 1) := by decide +kernel
theorem dX11_romanFigureWidth_29 : decode cX11_romanFigureWidth 29 = .ok (.iload_n 0, 1) := by decide +kernel
theorem dX11_romanFigureWidth_30 : decode cX11_romanFigureWidth 30 = .ok (.iconst 5, 1) := by decide +kernel
theorem dX11_romanFigureWidth_31 : decode cX11_romanFigureWidth 31 = .ok (.irem, 1) := by decide +kernel
theorem dX11_romanFigureWidth_32 : decode cX11_romanFigureWidth 32 = .ok (.iload_n 1, 1) := by decide +kernel
theorem dX11_romanFigureWidth_33 : decode cX11_romanFigureWidth 33 = .ok (.imul, 1) := by decide +kernel
theorem dX11_romanFigureWidth_34 : decode cX11_romanFigureWidth 34 = .ok (.iadd, 1) := by decide +kernel
theorem dX11_romanFigureWidth_35 : decode cX11_romanFigureWidth 35 = .ok (.ireturn, 1) := by decide +kernel
theorem dX12_thrown_0 : decode cX12_thrown 0 = .ok (.aload_n 0, 1) := by decide +kernel
theorem dX12_thrown_1 : decode cX12_thrown 1 = .ok (.getfield 3, 3) := by decide +kernel
theorem dX12_thrown_4 : decode cX12_thrown 4 = .ok (.ireturn, 1) := by decide +kernel
theorem dX12_in_0 : decode cX12_in 0 = .ok (.lload_n 0, 1) := by decide +kernel
theorem dX12_in_1 : decode cX12_in 1 = .ok (.lload_n 2, 1) := by decide +kernel
theorem dX12_in_2 : decode cX12_in 2 = .ok (.lcmp, 1) := by decide +kernel
theorem dX12_in_3 : decode cX12_in 3 = .ok (.ifCond .lt 14, 3) := by decide +kernel
theorem dX12_in_6 : decode cX12_in 6 = .ok (.lload_n 0, 1) := by decide +kernel
theorem dX12_in_7 : decode cX12_in 7 = .ok (.lload 4, 2) := by decide +kernel
theorem dX12_in_9 : decode cX12_in 9 = .ok (.lcmp, 1) := by decide +kernel
theorem dX12_in_10 : decode cX12_in 10 = .ok (.ifCond .gt 7, 3) := by decide +kernel
theorem dX12_in_13 : decode cX12_in 13 = .ok (.iconst 1, 1) := by decide +kernel
theorem dX12_in_14 : decode cX12_in 14 = .ok (.goto 4, 3) := by decide +kernel
theorem dX12_in_17 : decode cX12_in 17 = .ok (.iconst 0, 1) := by decide +kernel
theorem dX12_in_18 : decode cX12_in 18 = .ok (.ireturn, 1) := by decide +kernel
theorem dX12_passes3_0 : decode cX12_passes3 0 = .ok (.aload_n 0, 1) := by decide +kernel
theorem dX12_passes3_1 : decode cX12_passes3 1 = .ok (.iload_n 1, 1) := by decide +kernel
theorem dX12_passes3_2 : decode cX12_passes3 2 = .ok (.ifCond .ne 7, 3) := by decide +kernel
theorem dX12_passes3_5 : decode cX12_passes3 5 = .ok (.iconst 1, 1) := by decide +kernel
theorem dX12_passes3_6 : decode cX12_passes3 6 = .ok (.goto 20, 3) := by decide +kernel
theorem dX12_passes3_9 : decode cX12_passes3 9 = .ok (.iload_n 2, 1) := by decide +kernel
theorem dX12_passes3_10 : decode cX12_passes3 10 = .ok (.ifCond .ne 7, 3) := by decide +kernel
theorem dX12_passes3_13 : decode cX12_passes3 13 = .ok (.iconst 2, 1) := by decide +kernel
theorem dX12_passes3_14 : decode cX12_passes3 14 = .ok (.goto 12, 3) := by decide +kernel
theorem dX12_passes3_17 : decode cX12_passes3 17 = .ok (.iload_n 3, 1) := by decide +kernel
theorem dX12_passes3_18 : decode cX12_passes3 18 = .ok (.ifCond .ne 7, 3) := by decide +kernel
theorem dX12_passes3_21 : decode cX12_passes3 21 = .ok (.iconst 3, 1) := by decide +kernel
theorem dX12_passes3_22 : decode cX12_passes3 22 = .ok (.goto 4, 3) := by decide +kernel
theorem dX12_passes3_25 : decode cX12_passes3 25 = .ok (.iconst 0, 1) := by decide +kernel
theorem dX12_passes3_26 : decode cX12_passes3 26 = .ok (.putfield 3, 3) := by decide +kernel
theorem dX12_passes3_29 : decode cX12_passes3 29 = .ok (.aload_n 0, 1) := by decide +kernel
theorem dX12_passes3_30 : decode cX12_passes3 30 = .ok (.getfield 3, 3) := by decide +kernel
theorem dX12_passes3_33 : decode cX12_passes3 33 = .ok (.ifCond .ne 7, 3) := by decide +kernel
theorem dX12_passes3_36 : decode cX12_passes3 36 = .ok (.iconst 1, 1) := by decide +kernel
theorem dX12_passes3_37 : decode cX12_passes3 37 = .ok (.goto 4, 3) := by decide +kernel
theorem dX12_passes3_40 : decode cX12_passes3 40 = .ok (.iconst 0, 1) := by decide +kernel
theorem dX12_passes3_41 : decode cX12_passes3 41 = .ok (.ireturn, 1) := by decide +kernel
theorem dX12_passes2_0 : decode cX12_passes2 0 = .ok (.aload_n 0, 1) := by decide +kernel
theorem dX12_passes2_1 : decode cX12_passes2 1 = .ok (.iload_n 1, 1) := by decide +kernel
theorem dX12_passes2_2 : decode cX12_passes2 2 = .ok (.iload_n 2, 1) := by decide +kernel
theorem dX12_passes2_3 : decode cX12_passes2 3 = .ok (.iconst 1, 1) := by decide +kernel
theorem dX12_passes2_4 : decode cX12_passes2 4 = .ok (.invokevirtual 7, 3) := by decide +kernel
theorem dX12_passes2_7 : decode cX12_passes2 7 = .ok (.ireturn, 1) := by decide +kernel
theorem dX12_passes_0 : decode cX12_passes 0 = .ok (.aload_n 0, 1) := by decide +kernel
theorem dX12_passes_1 : decode cX12_passes 1 = .ok (.iload_n 1, 1) := by decide +kernel
theorem dX12_passes_2 : decode cX12_passes 2 = .ok (.iconst 1, 1) := by decide +kernel
theorem dX12_passes_3 : decode cX12_passes 3 = .ok (.iconst 1, 1) := by decide +kernel
theorem dX12_passes_4 : decode cX12_passes 4 = .ok (.invokevirtual 7, 3) := by decide +kernel
theorem dX12_passes_7 : decode cX12_passes 7 = .ok (.ireturn, 1) := by decide +kernel
theorem dX12_init_0 : decode cX12_init 0 = .ok (.aload_n 0, 1) := by decide +kernel
theorem dX12_init_1 : decode cX12_init 1 = .ok (.invokespecial 11, 3) := by decide +kernel
theorem dX12_init_4 : decode cX12_init 4 = .ok (.aload_n 0, 1) := by decide +kernel
theorem dX12_init_5 : decode cX12_init 5 = .ok (.sipush 18701, 3) := by decide +kernel
theorem dX12_init_8 : decode cX12_init 8 = .ok (.newarray .int, 2) := by decide +kernel
theorem dX12_init_10 : decode cX12_init 10 = .ok (.putfield 17, 3) := by decide +kernel
theorem dX12_init_13 : decode cX12_init 13 = .ok (.aload_n 0, 1) := by decide +kernel
theorem dX12_init_14 : decode cX12_init 14 = .ok (.sipush 2460, 3) := by decide +kernel
theorem dX12_init_17 : decode cX12_init 17 = .ok (.newarray .int, 2) := by decide +kernel
theorem dX12_init_19 : decode cX12_init 19 = .ok (.putfield 21, 3) := by decide +kernel
theorem dX12_init_22 : decode cX12_init 22 = .ok (.aload_n 0, 1) := by decide +kernel
theorem dX12_init_23 : decode cX12_init 23 = .ok (.aload_n 0, 1) := by decide +kernel
theorem dX12_init_24 : decode cX12_init 24 = .ok (.getfield 17, 3) := by decide +kernel
theorem dX12_init_27 : decode cX12_init 27 = .ok (.putfield 24, 3) := by decide +kernel
theorem dX12_init_30 : decode cX12_init 30 = .ok (.aload_n 0, 1) := by decide +kernel
theorem dX12_init_31 : decode cX12_init 31 = .ok (.sipush 1100, 3) := by decide +kernel
theorem dX12_init_34 : decode cX12_init 34 = .ok (.newarray .byte, 2) := by decide +kernel
theorem dX12_init_36 : decode cX12_init 36 = .ok (.putfield 27, 3) := by decide +kernel
theorem dX12_init_39 : decode cX12_init 39 = .ok (.aload_n 0, 1) := by decide +kernel
theorem dX12_init_40 : decode cX12_init 40 = .ok (.iconst (-1), 1) := by decide +kernel
theorem dX12_init_41 : decode cX12_init 41 = .ok (.putfield 31, 3) := by decide +kernel
theorem dX12_init_44 : decode cX12_init 44 = .ok (.aload_n 0, 1) := by decide +kernel
theorem dX12_init_45 : decode cX12_init 45 = .ok (.sipush 16000, 3) := by decide +kernel
theorem dX12_init_48 : decode cX12_init 48 = .ok (.newarray .byte, 2) := by decide +kernel
theorem dX12_init_50 : decode cX12_init 50 = .ok (.putfield 34, 3) := by decide +kernel
theorem dX12_init_53 : decode cX12_init 53 = .ok (.aload_n 0, 1) := by decide +kernel
theorem dX12_init_54 : decode cX12_init 54 = .ok (.bipush 24, 2) := by decide +kernel
theorem dX12_init_56 : decode cX12_init 56 = .ok (.newarray .int, 2) := by decide +kernel
theorem dX12_init_58 : decode cX12_init 58 = .ok (.putfield 37, 3) := by decide +kernel
theorem dX12_init_61 : decode cX12_init 61 = .ok (.aload_n 0, 1) := by decide +kernel
theorem dX12_init_62 : decode cX12_init 62 = .ok (.bipush 24, 2) := by decide +kernel
theorem dX12_init_64 : decode cX12_init 64 = .ok (.newarray .int, 2) := by decide +kernel
theorem dX12_init_66 : decode cX12_init 66 = .ok (.putfield 40, 3) := by decide +kernel
theorem dX12_init_69 : decode cX12_init 69 = .ok (.aload_n 0, 1) := by decide +kernel
theorem dX12_init_70 : decode cX12_init 70 = .ok (.iconst 4, 1) := by decide +kernel
theorem dX12_init_71 : decode cX12_init 71 = .ok (.newarray .int, 2) := by decide +kernel
theorem dX12_init_73 : decode cX12_init 73 = .ok (.putfield 43, 3) := by decide +kernel
theorem dX12_init_76 : decode cX12_init 76 = .ok (.aload_n 0, 1) := by decide +kernel
theorem dX12_init_77 : decode cX12_init 77 = .ok (.bipush 24, 2) := by decide +kernel
theorem dX12_init_79 : decode cX12_init 79 = .ok (.newarray .int, 2) := by decide +kernel
theorem dX12_init_81 : decode cX12_init 81 = .ok (.putfield 46, 3) := by decide +kernel
theorem dX12_init_84 : decode cX12_init 84 = .ok (.aload_n 0, 1) := by decide +kernel
theorem dX12_init_85 : decode cX12_init 85 = .ok (.bipush 24, 2) := by decide +kernel
theorem dX12_init_87 : decode cX12_init 87 = .ok (.newarray .int, 2) := by decide +kernel
theorem dX12_init_89 : decode cX12_init 89 = .ok (.putfield 49, 3) := by decide +kernel
theorem dX12_init_92 : decode cX12_init 92 = .ok (.aload_n 0, 1) := by decide +kernel
theorem dX12_init_93 : decode cX12_init 93 = .ok (.sipush 240, 3) := by decide +kernel
theorem dX12_init_96 : decode cX12_init 96 = .ok (.newarray .int, 2) := by decide +kernel
theorem dX12_init_98 : decode cX12_init 98 = .ok (.putfield 52, 3) := by decide +kernel
theorem dX12_init_101 : decode cX12_init 101 = .ok (.aload_n 0, 1) := by decide +kernel
theorem dX12_init_102 : decode cX12_init 102 = .ok (.sipush 240, 3) := by decide +kernel
theorem dX12_init_105 : decode cX12_init 105 = .ok (.newarray .int, 2) := by decide +kernel
theorem dX12_init_107 : decode cX12_init 107 = .ok (.putfield 55, 3) := by decide +kernel
theorem dX12_init_110 : decode cX12_init 110 = .ok (.aload_n 0, 1) := by decide +kernel
theorem dX12_init_111 : decode cX12_init 111 = .ok (.sipush 240, 3) := by decide +kernel
theorem dX12_init_114 : decode cX12_init 114 = .ok (.newarray .int, 2) := by decide +kernel
theorem dX12_init_116 : decode cX12_init 116 = .ok (.putfield 58, 3) := by decide +kernel
theorem dX12_init_119 : decode cX12_init 119 = .ok (.aload_n 0, 1) := by decide +kernel
theorem dX12_init_120 : decode cX12_init 120 = .ok (.sipush 240, 3) := by decide +kernel
theorem dX12_init_123 : decode cX12_init 123 = .ok (.newarray .int, 2) := by decide +kernel
theorem dX12_init_125 : decode cX12_init 125 = .ok (.putfield 61, 3) := by decide +kernel
theorem dX12_init_128 : decode cX12_init 128 = .ok (.aload_n 0, 1) := by decide +kernel
theorem dX12_init_129 : decode cX12_init 129 = .ok (.sipush 240, 3) := by decide +kernel
theorem dX12_init_132 : decode cX12_init 132 = .ok (.newarray .int, 2) := by decide +kernel
theorem dX12_init_134 : decode cX12_init 134 = .ok (.putfield 64, 3) := by decide +kernel
theorem dX12_init_137 : decode cX12_init 137 = .ok (.aload_n 0, 1) := by decide +kernel
theorem dX12_init_138 : decode cX12_init 138 = .ok (.sipush 240, 3) := by decide +kernel
theorem dX12_init_141 : decode cX12_init 141 = .ok (.newarray .boolean, 2) := by decide +kernel
theorem dX12_init_143 : decode cX12_init 143 = .ok (.putfield 67, 3) := by decide +kernel
theorem dX12_init_146 : decode cX12_init 146 = .ok (.aload_n 0, 1) := by decide +kernel
theorem dX12_init_147 : decode cX12_init 147 = .ok (.sipush 240, 3) := by decide +kernel
theorem dX12_init_150 : decode cX12_init 150 = .ok (.newarray .int, 2) := by decide +kernel
theorem dX12_init_152 : decode cX12_init 152 = .ok (.putfield 71, 3) := by decide +kernel
theorem dX12_init_155 : decode cX12_init 155 = .ok (.aload_n 0, 1) := by decide +kernel
theorem dX12_init_156 : decode cX12_init 156 = .ok (.sipush 240, 3) := by decide +kernel
theorem dX12_init_159 : decode cX12_init 159 = .ok (.newarray .int, 2) := by decide +kernel
theorem dX12_init_161 : decode cX12_init 161 = .ok (.putfield 74, 3) := by decide +kernel
theorem dX12_init_164 : decode cX12_init 164 = .ok (.aload_n 0, 1) := by decide +kernel
theorem dX12_init_165 : decode cX12_init 165 = .ok (.bipush 24, 2) := by decide +kernel
theorem dX12_init_167 : decode cX12_init 167 = .ok (.newarray .int, 2) := by decide +kernel
theorem dX12_init_169 : decode cX12_init 169 = .ok (.putfield 77, 3) := by decide +kernel
theorem dX12_init_172 : decode cX12_init 172 = .ok (.aload_n 0, 1) := by decide +kernel
theorem dX12_init_173 : decode cX12_init 173 = .ok (.bipush 32, 2) := by decide +kernel
theorem dX12_init_175 : decode cX12_init 175 = .ok (.newarray .int, 2) := by decide +kernel
theorem dX12_init_177 : decode cX12_init 177 = .ok (.putfield 80, 3) := by decide +kernel
theorem dX12_init_180 : decode cX12_init 180 = .ok (.aload_n 0, 1) := by decide +kernel
theorem dX12_init_181 : decode cX12_init 181 = .ok (.bipush 32, 2) := by decide +kernel
theorem dX12_init_183 : decode cX12_init 183 = .ok (.newarray .int, 2) := by decide +kernel
theorem dX12_init_185 : decode cX12_init 185 = .ok (.putfield 83, 3) := by decide +kernel
theorem dX12_init_188 : decode cX12_init 188 = .ok (.aload_n 0, 1) := by decide +kernel
theorem dX12_init_189 : decode cX12_init 189 = .ok (.sipush 192, 3) := by decide +kernel
theorem dX12_init_192 : decode cX12_init 192 = .ok (.newarray .int, 2) := by decide +kernel
theorem dX12_init_194 : decode cX12_init 194 = .ok (.putfield 86, 3) := by decide +kernel
theorem dX12_init_197 : decode cX12_init 197 = .ok (.aload_n 0, 1) := by decide +kernel
theorem dX12_init_198 : decode cX12_init 198 = .ok (.bipush 24, 2) := by decide +kernel
theorem dX12_init_200 : decode cX12_init 200 = .ok (.newarray .int, 2) := by decide +kernel
theorem dX12_init_202 : decode cX12_init 202 = .ok (.putfield 89, 3) := by decide +kernel
theorem dX12_init_205 : decode cX12_init 205 = .ok (.aload_n 0, 1) := by decide +kernel
theorem dX12_init_206 : decode cX12_init 206 = .ok (.ldc 92, 2) := by decide +kernel
theorem dX12_init_208 : decode cX12_init 208 = .ok (.newarray .int, 2) := by decide +kernel
theorem dX12_init_210 : decode cX12_init 210 = .ok (.putfield 93, 3) := by decide +kernel
theorem dX12_init_213 : decode cX12_init 213 = .ok (.aload_n 0, 1) := by decide +kernel
theorem dX12_init_214 : decode cX12_init 214 = .ok (.sipush 16000, 3) := by decide +kernel
theorem dX12_init_217 : decode cX12_init 217 = .ok (.newarray .byte, 2) := by decide +kernel
theorem dX12_init_219 : decode cX12_init 219 = .ok (.putfield 96, 3) := by decide +kernel
theorem dX12_init_222 : decode cX12_init 222 = .ok (.aload_n 0, 1) := by decide +kernel
theorem dX12_init_223 : decode cX12_init 223 = .ok (.getfield 17, 3) := by decide +kernel
theorem dX12_init_226 : decode cX12_init 226 = .ok (.invokestatic 99, 3) := by decide +kernel
theorem dX12_init_229 : decode cX12_init 229 = .ok (.aload_n 0, 1) := by decide +kernel
theorem dX12_init_230 : decode cX12_init 230 = .ok (.getfield 17, 3) := by decide +kernel
theorem dX12_init_233 : decode cX12_init 233 = .ok (.iconst 0, 1) := by decide +kernel
theorem dX12_init_234 : decode cX12_init 234 = .ok (.bipush 60, 2) := by decide +kernel
theorem dX12_init_236 : decode cX12_init 236 = .ok (.iastore, 1) := by decide +kernel
theorem dX12_init_237 : decode cX12_init 237 = .ok (.aload_n 0, 1) := by decide +kernel
theorem dX12_init_238 : decode cX12_init 238 = .ok (.getfield 17, 3) := by decide +kernel
theorem dX12_init_241 : decode cX12_init 241 = .ok (.iconst 1, 1) := by decide +kernel
theorem dX12_init_242 : decode cX12_init 242 = .ok (.bipush 40, 2) := by decide +kernel
theorem dX12_init_244 : decode cX12_init 244 = .ok (.iastore, 1) := by decide +kernel
theorem dX12_init_245 : decode cX12_init 245 = .ok (.aload_n 0, 1) := by decide +kernel
theorem dX12_init_246 : decode cX12_init 246 = .ok (.getfield 17, 3) := by decide +kernel
theorem dX12_init_249 : decode cX12_init 249 = .ok (.iconst 2, 1) := by decide +kernel
theorem dX12_init_250 : decode cX12_init 250 = .ok (.bipush 40, 2) := by decide +kernel
theorem dX12_init_252 : decode cX12_init 252 = .ok (.iastore, 1) := by decide +kernel
theorem dX12_init_253 : decode cX12_init 253 = .ok (.return_, 1) := by decide +kernel
theorem dX12_begin_0 : decode cX12_begin 0 = .ok (.aload_n 0, 1) := by decide +kernel
theorem dX12_begin_1 : decode cX12_begin 1 = .ok (.iconst 3, 1) := by decide +kernel
theorem dX12_begin_2 : decode cX12_begin 2 = .ok (.iconst 2, 1) := by decide +kernel
theorem dX12_begin_3 : decode cX12_begin 3 = .ok (.iastore, 1) := by decide +kernel
theorem dX12_begin_4 : decode cX12_begin 4 = .ok (.aload_n 0, 1) := by decide +kernel
theorem dX12_begin_5 : decode cX12_begin 5 = .ok (.iconst 4, 1) := by decide +kernel
theorem dX12_begin_6 : decode cX12_begin 6 = .ok (.iconst 3, 1) := by decide +kernel
theorem dX12_begin_7 : decode cX12_begin 7 = .ok (.iastore, 1) := by decide +kernel
theorem dX12_begin_8 : decode cX12_begin 8 = .ok (.aload_n 0, 1) := by decide +kernel
theorem dX12_begin_9 : decode cX12_begin 9 = .ok (.iconst 5, 1) := by decide +kernel
theorem dX12_begin_10 : decode cX12_begin 10 = .ok (.iconst 1, 1) := by decide +kernel
theorem dX12_begin_11 : decode cX12_begin 11 = .ok (.iastore, 1) := by decide +kernel
theorem dX12_begin_12 : decode cX12_begin 12 = .ok (.aload_n 0, 1) := by decide +kernel
theorem dX12_begin_13 : decode cX12_begin 13 = .ok (.bipush 6, 2) := by decide +kernel
theorem dX12_begin_15 : decode cX12_begin 15 = .ok (.iconst 2, 1) := by decide +kernel
theorem dX12_begin_16 : decode cX12_begin 16 = .ok (.iastore, 1) := by decide +kernel
theorem dX12_begin_17 : decode cX12_begin 17 = .ok (.aload_n 0, 1) := by decide +kernel
theorem dX12_begin_18 : decode cX12_begin 18 = .ok (.bipush 7, 2) := by decide +kernel
theorem dX12_begin_20 : decode cX12_begin 20 = .ok (.iconst 3, 1) := by decide +kernel
theorem dX12_begin_21 : decode cX12_begin 21 = .ok (.iastore, 1) := by decide +kernel
theorem dX12_begin_22 : decode cX12_begin 22 = .ok (.return_, 1) := by decide +kernel
theorem dX12_of_0 : decode cX12_of 0 = .ok (.aload_n 0, 1) := by decide +kernel
theorem dX12_of_1 : decode cX12_of 1 = .ok (.getfield 24, 3) := by decide +kernel
theorem dX12_of_4 : decode cX12_of 4 = .ok (.bipush 12, 2) := by decide +kernel
theorem dX12_of_6 : decode cX12_of 6 = .ok (.bipush 102, 2) := by decide +kernel
theorem dX12_of_8 : decode cX12_of 8 = .ok (.iload_n 1, 1) := by decide +kernel
theorem dX12_of_9 : decode cX12_of 9 = .ok (.imul, 1) := by decide +kernel
theorem dX12_of_10 : decode cX12_of 10 = .ok (.iadd, 1) := by decide +kernel
theorem dX12_of_11 : decode cX12_of 11 = .ok (.iload_n 2, 1) := by decide +kernel
theorem dX12_of_12 : decode cX12_of 12 = .ok (.iadd, 1) := by decide +kernel
theorem dX12_of_13 : decode cX12_of 13 = .ok (.iaload, 1) := by decide +kernel
theorem dX12_of_14 : decode cX12_of 14 = .ok (.ireturn, 1) := by decide +kernel
theorem dX12_set_0 : decode cX12_set 0 = .ok (.aload_n 0, 1) := by decide +kernel
theorem dX12_set_1 : decode cX12_set 1 = .ok (.getfield 24, 3) := by decide +kernel
theorem dX12_set_4 : decode cX12_set 4 = .ok (.bipush 12, 2) := by decide +kernel
theorem dX12_set_6 : decode cX12_set 6 = .ok (.bipush 102, 2) := by decide +kernel
theorem dX12_set_8 : decode cX12_set 8 = .ok (.iload_n 1, 1) := by decide +kernel
theorem dX12_set_9 : decode cX12_set 9 = .ok (.imul, 1) := by decide +kernel
theorem dX12_set_10 : decode cX12_set 10 = .ok (.iadd, 1) := by decide +kernel
theorem dX12_set_11 : decode cX12_set 11 = .ok (.iload_n 2, 1) := by decide +kernel
theorem dX12_set_12 : decode cX12_set 12 = .ok (.iadd, 1) := by decide +kernel
theorem dX12_set_13 : decode cX12_set 13 = .ok (.iload_n 3, 1) := by decide +kernel
theorem dX12_set_14 : decode cX12_set 14 = .ok (.iastore, 1) := by decide +kernel
theorem dX12_set_15 : decode cX12_set 15 = .ok (.return_, 1) := by decide +kernel
theorem dX12_isSection_0 : decode cX12_isSection 0 = .ok (.iload_n 1, 1) := by decide +kernel
theorem dX12_isSection_1 : decode cX12_isSection 1 = .ok (.i2l, 1) := by decide +kernel
theorem dX12_isSection_2 : decode cX12_isSection 2 = .ok (.lconst 0, 1) := by decide +kernel
theorem dX12_isSection_3 : decode cX12_isSection 3 = .ok (.aload_n 0, 1) := by decide +kernel
theorem dX12_isSection_4 : decode cX12_isSection 4 = .ok (.getfield 24, 3) := by decide +kernel
theorem dX12_isSection_7 : decode cX12_isSection 7 = .ok (.bipush 9, 2) := by decide +kernel
theorem dX12_isSection_9 : decode cX12_isSection 9 = .ok (.iaload, 1) := by decide +kernel
theorem dX12_isSection_10 : decode cX12_isSection 10 = .ok (.iconst 1, 1) := by decide +kernel
theorem dX12_isSection_11 : decode cX12_isSection 11 = .ok (.isub, 1) := by decide +kernel
theorem dX12_isSection_12 : decode cX12_isSection 12 = .ok (.i2l, 1) := by decide +kernel
theorem dX12_isSection_13 : decode cX12_isSection 13 = .ok (.invokestatic 103, 3) := by decide +kernel
theorem dX12_isSection_16 : decode cX12_isSection 16 = .ok (.ireturn, 1) := by decide +kernel
theorem dX12_letterOf_0 : decode cX12_letterOf 0 = .ok (.aload_n 0, 1) := by decide +kernel
theorem dX12_letterOf_1 : decode cX12_letterOf 1 = .ok (.iload_n 1, 1) := by decide +kernel
theorem dX12_letterOf_2 : decode cX12_letterOf 2 = .ok (.bipush 6, 2) := by decide +kernel
theorem dX12_letterOf_4 : decode cX12_letterOf 4 = .ok (.bipush 12, 2) := by decide +kernel
theorem dX12_letterOf_6 : decode cX12_letterOf 6 = .ok (.iload_n 2, 1) := by decide +kernel
theorem dX12_letterOf_7 : decode cX12_letterOf 7 = .ok (.imul, 1) := by decide +kernel
theorem dX12_letterOf_8 : decode cX12_letterOf 8 = .ok (.iadd, 1) := by decide +kernel
theorem dX12_letterOf_9 : decode cX12_letterOf 9 = .ok (.iload_n 3, 1) := by decide +kernel
theorem dX12_letterOf_10 : decode cX12_letterOf 10 = .ok (.iadd, 1) := by decide +kernel
theorem dX12_letterOf_11 : decode cX12_letterOf 11 = .ok (.invokevirtual 107, 3) := by decide +kernel
theorem dX12_letterOf_14 : decode cX12_letterOf 14 = .ok (.ireturn, 1) := by decide +kernel
theorem dX12_appendFour_0 : decode cX12_appendFour 0 = .ok (.bipush 24, 2) := by decide +kernel
theorem dX12_appendFour_2 : decode cX12_appendFour 2 = .ok (.istore_n 2, 1) := by decide +kernel
theorem dX12_appendFour_3 : decode cX12_appendFour 3 = .ok (.iload_n 2, 1) := by decide +kernel
theorem dX12_appendFour_4 : decode cX12_appendFour 4 = .ok (.ifCond .lt 32, 3) := by decide +kernel
theorem dX12_appendFour_7 : decode cX12_appendFour 7 = .ok (.aload_n 0, 1) := by decide +kernel
theorem dX12_appendFour_8 : decode cX12_appendFour 8 = .ok (.getfield 27, 3) := by decide +kernel
theorem dX12_appendFour_11 : decode cX12_appendFour 11 = .ok (.aload_n 0, 1) := by decide +kernel
theorem dX12_appendFour_12 : decode cX12_appendFour 12 = .ok (.getfield 111, 3) := by decide +kernel
theorem dX12_appendFour_15 : decode cX12_appendFour 15 = .ok (.iload_n 1, 1) := by decide +kernel
theorem dX12_appendFour_16 : decode cX12_appendFour 16 = .ok (.iload_n 2, 1) := by decide +kernel
theorem dX12_appendFour_17 : decode cX12_appendFour 17 = .ok (.ishr, 1) := by decide +kernel
theorem dX12_appendFour_18 : decode cX12_appendFour 18 = .ok (.i2b, 1) := by decide +kernel
theorem dX12_appendFour_19 : decode cX12_appendFour 19 = .ok (.bastore, 1) := by decide +kernel
theorem dX12_appendFour_20 : decode cX12_appendFour 20 = .ok (.aload_n 0, 1) := by decide +kernel
theorem dX12_appendFour_21 : decode cX12_appendFour 21 = .ok (.dup, 1) := by decide +kernel
theorem dX12_appendFour_22 : decode cX12_appendFour 22 = .ok (.getfield 111, 3) := by decide +kernel
theorem dX12_appendFour_25 : decode cX12_appendFour 25 = .ok (.iconst 1, 1) := by decide +kernel
theorem dX12_appendFour_26 : decode cX12_appendFour 26 = .ok (.iadd, 1) := by decide +kernel
theorem dX12_appendFour_27 : decode cX12_appendFour 27 = .ok (.putfield 111, 3) := by decide +kernel
theorem dX12_appendFour_30 : decode cX12_appendFour 30 = .ok (.iinc 2 (-8), 3) := by decide +kernel
theorem dX12_appendFour_33 : decode cX12_appendFour 33 = .ok (.goto (-30), 3) := by decide +kernel
theorem dX12_appendFour_36 : decode cX12_appendFour 36 = .ok (.return_, 1) := by decide +kernel
theorem dX12_append_0 : decode cX12_append 0 = .ok (.aload_n 0, 1) := by decide +kernel
theorem dX12_append_1 : decode cX12_append 1 = .ok (.aload_n 0, 1) := by decide +kernel
theorem dX12_append_2 : decode cX12_append 2 = .ok (.getfield 111, 3) := by decide +kernel
theorem dX12_append_5 : decode cX12_append 5 = .ok (.bipush 20, 2) := by decide +kernel
theorem dX12_append_7 : decode cX12_append 7 = .ok (.iadd, 1) := by decide +kernel
theorem dX12_append_8 : decode cX12_append 8 = .ok (.sipush 1100, 3) := by decide +kernel
theorem dX12_append_11 : decode cX12_append 11 = .ok (.if_icmp .gt 7, 3) := by decide +kernel
theorem dX12_append_14 : decode cX12_append 14 = .ok (.iconst 1, 1) := by decide +kernel
theorem dX12_append_15 : decode cX12_append 15 = .ok (.goto 4, 3) := by decide +kernel
theorem dX12_append_18 : decode cX12_append 18 = .ok (.iconst 0, 1) := by decide +kernel
theorem dX12_append_19 : decode cX12_append 19 = .ok (.invokevirtual 114, 3) := by decide +kernel
theorem dX12_append_22 : decode cX12_append 22 = .ok (.ifCond .ne 5, 3) := by decide +kernel
theorem dX12_append_25 : decode cX12_append 25 = .ok (.iconst 0, 1) := by decide +kernel
theorem dX12_append_26 : decode cX12_append 26 = .ok (.ireturn, 1) := by decide +kernel
theorem dX12_append_27 : decode cX12_append 27 = .ok (.aload_n 0, 1) := by decide +kernel
theorem dX12_append_28 : decode cX12_append 28 = .ok (.iload_n 1, 1) := by decide +kernel
theorem dX12_append_29 : decode cX12_append 29 = .ok (.invokevirtual 118, 3) := by decide +kernel
theorem dX12_append_32 : decode cX12_append 32 = .ok (.aload_n 0, 1) := by decide +kernel
theorem dX12_append_33 : decode cX12_append 33 = .ok (.iload_n 2, 1) := by decide +kernel
theorem dX12_append_34 : decode cX12_append 34 = .ok (.invokevirtual 118, 3) := by decide +kernel
theorem dX12_append_37 : decode cX12_append 37 = .ok (.aload_n 0, 1) := by decide +kernel
theorem dX12_append_38 : decode cX12_append 38 = .ok (.iload_n 3, 1) := by decide +kernel
theorem dX12_append_39 : decode cX12_append 39 = .ok (.invokevirtual 118, 3) := by decide +kernel
theorem dX12_append_42 : decode cX12_append 42 = .ok (.aload_n 0, 1) := by decide +kernel
theorem dX12_append_43 : decode cX12_append 43 = .ok (.iload 4, 2) := by decide +kernel
theorem dX12_append_45 : decode cX12_append 45 = .ok (.invokevirtual 118, 3) := by decide +kernel
theorem dX12_append_48 : decode cX12_append 48 = .ok (.aload_n 0, 1) := by decide +kernel
theorem dX12_append_49 : decode cX12_append 49 = .ok (.iload 5, 2) := by decide +kernel
theorem dX12_append_51 : decode cX12_append 51 = .ok (.invokevirtual 118, 3) := by decide +kernel
theorem dX12_append_54 : decode cX12_append 54 = .ok (.aload_n 0, 1) := by decide +kernel
theorem dX12_append_55 : decode cX12_append 55 = .ok (.getfield 111, 3) := by decide +kernel
theorem dX12_append_58 : decode cX12_append 58 = .ok (.ireturn, 1) := by decide +kernel
theorem dX12_truncate_0 : decode cX12_truncate 0 = .ok (.aload_n 0, 1) := by decide +kernel
theorem dX12_truncate_1 : decode cX12_truncate 1 = .ok (.iload_n 1, 1) := by decide +kernel
theorem dX12_truncate_2 : decode cX12_truncate 2 = .ok (.i2l, 1) := by decide +kernel
theorem dX12_truncate_3 : decode cX12_truncate 3 = .ok (.lconst 0, 1) := by decide +kernel
theorem dX12_truncate_4 : decode cX12_truncate 4 = .ok (.aload_n 0, 1) := by decide +kernel
theorem dX12_truncate_5 : decode cX12_truncate 5 = .ok (.getfield 111, 3) := by decide +kernel
theorem dX12_truncate_8 : decode cX12_truncate 8 = .ok (.i2l, 1) := by decide +kernel
theorem dX12_truncate_9 : decode cX12_truncate 9 = .ok (.invokestatic 103, 3) := by decide +kernel
theorem dX12_truncate_12 : decode cX12_truncate 12 = .ok (.invokevirtual 114, 3) := by decide +kernel
theorem dX12_truncate_15 : decode cX12_truncate 15 = .ok (.ifCond .eq 8, 3) := by decide +kernel
theorem dX12_truncate_18 : decode cX12_truncate 18 = .ok (.aload_n 0, 1) := by decide +kernel
theorem dX12_truncate_19 : decode cX12_truncate 19 = .ok (.iload_n 1, 1) := by decide +kernel
theorem dX12_truncate_20 : decode cX12_truncate 20 = .ok (.putfield 111, 3) := by decide +kernel
theorem dX12_truncate_23 : decode cX12_truncate 23 = .ok (.return_, 1) := by decide +kernel
theorem dX12_good_0 : decode cX12_good 0 = .ok (.aload_n 0, 1) := by decide +kernel
theorem dX12_good_1 : decode cX12_good 1 = .ok (.getfield 122, 3) := by decide +kernel
theorem dX12_good_4 : decode cX12_good 4 = .ok (.ifCond .ne 7, 3) := by decide +kernel
theorem dX12_good_7 : decode cX12_good 7 = .ok (.iconst 1, 1) := by decide +kernel
theorem dX12_good_8 : decode cX12_good 8 = .ok (.goto 4, 3) := by decide +kernel
theorem dX12_good_11 : decode cX12_good 11 = .ok (.iconst 0, 1) := by decide +kernel
theorem dX12_good_12 : decode cX12_good 12 = .ok (.ireturn, 1) := by decide +kernel
theorem dX12_errs_0 : decode cX12_errs 0 = .ok (.aload_n 0, 1) := by decide +kernel
theorem dX12_errs_1 : decode cX12_errs 1 = .ok (.invokevirtual 125, 3) := by decide +kernel
theorem dX12_errs_4 : decode cX12_errs 4 = .ok (.ifCond .ne 4, 3) := by decide +kernel
theorem dX12_errs_7 : decode cX12_errs 7 = .ok (.return_, 1) := by decide +kernel
theorem dX12_errs_8 : decode cX12_errs 8 = .ok (.aload_n 0, 1) := by decide +kernel
theorem dX12_errs_9 : decode cX12_errs 9 = .ok (.iload_n 1, 1) := by decide +kernel
theorem dX12_errs_10 : decode cX12_errs 10 = .ok (.putfield 122, 3) := by decide +kernel
theorem dX12_errs_13 : decode cX12_errs 13 = .ok (.aload_n 0, 1) := by decide +kernel
theorem dX12_errs_14 : decode cX12_errs 14 = .ok (.aload_n 0, 1) := by decide +kernel
theorem dX12_errs_15 : decode cX12_errs 15 = .ok (.getfield 129, 3) := by decide +kernel
theorem dX12_errs_18 : decode cX12_errs 18 = .ok (.putfield 31, 3) := by decide +kernel
theorem dX12_errs_21 : decode cX12_errs 21 = .ok (.return_, 1) := by decide +kernel
theorem dX12_byteAt_0 : decode cX12_byteAt 0 = .ok (.iload_n 1, 1) := by decide +kernel
theorem dX12_byteAt_1 : decode cX12_byteAt 1 = .ok (.aload_n 0, 1) := by decide +kernel
theorem dX12_byteAt_2 : decode cX12_byteAt 2 = .ok (.getfield 132, 3) := by decide +kernel
theorem dX12_byteAt_5 : decode cX12_byteAt 5 = .ok (.if_icmp .ge 16, 3) := by decide +kernel
theorem dX12_byteAt_8 : decode cX12_byteAt 8 = .ok (.aload_n 0, 1) := by decide +kernel
theorem dX12_byteAt_9 : decode cX12_byteAt 9 = .ok (.getfield 27, 3) := by decide +kernel
theorem dX12_byteAt_12 : decode cX12_byteAt 12 = .ok (.iload_n 1, 1) := by decide +kernel
theorem dX12_byteAt_13 : decode cX12_byteAt 13 = .ok (.baload, 1) := by decide +kernel
theorem dX12_byteAt_14 : decode cX12_byteAt 14 = .ok (.sipush 255, 3) := by decide +kernel
theorem dX12_byteAt_17 : decode cX12_byteAt 17 = .ok (.iand, 1) := by decide +kernel
theorem dX12_byteAt_18 : decode cX12_byteAt 18 = .ok (.goto 4, 3) := by decide +kernel
theorem dX12_byteAt_21 : decode cX12_byteAt 21 = .ok (.iconst (-1), 1) := by decide +kernel
theorem dX12_byteAt_22 : decode cX12_byteAt 22 = .ok (.ireturn, 1) := by decide +kernel
theorem dX12_scan_0 : decode cX12_scan 0 = .ok (.aload_n 0, 1) := by decide +kernel
theorem dX12_scan_1 : decode cX12_scan 1 = .ok (.aload_n 0, 1) := by decide +kernel
theorem dX12_scan_2 : decode cX12_scan 2 = .ok (.getfield 135, 3) := by decide +kernel
theorem dX12_scan_5 : decode cX12_scan 5 = .ok (.invokevirtual 138, 3) := by decide +kernel
theorem dX12_scan_8 : decode cX12_scan 8 = .ok (.bipush 32, 2) := by decide +kernel
theorem dX12_scan_10 : decode cX12_scan 10 = .ok (.if_icmp .eq 16, 3) := by decide +kernel
theorem dX12_scan_13 : decode cX12_scan 13 = .ok (.aload_n 0, 1) := by decide +kernel
theorem dX12_scan_14 : decode cX12_scan 14 = .ok (.aload_n 0, 1) := by decide +kernel
theorem dX12_scan_15 : decode cX12_scan 15 = .ok (.getfield 135, 3) := by decide +kernel
theorem dX12_scan_18 : decode cX12_scan 18 = .ok (.invokevirtual 138, 3) := by decide +kernel
theorem dX12_scan_21 : decode cX12_scan 21 = .ok (.bipush 10, 2) := by decide +kernel
theorem dX12_scan_23 : decode cX12_scan 23 = .ok (.if_icmp .ne 16, 3) := by decide +kernel
theorem dX12_scan_26 : decode cX12_scan 26 = .ok (.aload_n 0, 1) := by decide +kernel
theorem dX12_scan_27 : decode cX12_scan 27 = .ok (.dup, 1) := by decide +kernel
theorem dX12_scan_28 : decode cX12_scan 28 = .ok (.getfield 135, 3) := by decide +kernel
theorem dX12_scan_31 : decode cX12_scan 31 = .ok (.iconst 1, 1) := by decide +kernel
theorem dX12_scan_32 : decode cX12_scan 32 = .ok (.iadd, 1) := by decide +kernel
theorem dX12_scan_33 : decode cX12_scan 33 = .ok (.putfield 135, 3) := by decide +kernel
theorem dX12_scan_36 : decode cX12_scan 36 = .ok (.goto (-36), 3) := by decide +kernel
theorem dX12_scan_39 : decode cX12_scan 39 = .ok (.aload_n 0, 1) := by decide +kernel
theorem dX12_scan_40 : decode cX12_scan 40 = .ok (.aload_n 0, 1) := by decide +kernel
theorem dX12_scan_41 : decode cX12_scan 41 = .ok (.getfield 135, 3) := by decide +kernel
theorem dX12_scan_44 : decode cX12_scan 44 = .ok (.putfield 129, 3) := by decide +kernel
theorem dX12_scan_47 : decode cX12_scan 47 = .ok (.aload_n 0, 1) := by decide +kernel
theorem dX12_scan_48 : decode cX12_scan 48 = .ok (.aload_n 0, 1) := by decide +kernel
theorem dX12_scan_49 : decode cX12_scan 49 = .ok (.getfield 135, 3) := by decide +kernel
theorem dX12_scan_52 : decode cX12_scan 52 = .ok (.invokevirtual 138, 3) := by decide +kernel
theorem dX12_scan_55 : decode cX12_scan 55 = .ok (.istore_n 1, 1) := by decide +kernel
theorem dX12_scan_56 : decode cX12_scan 56 = .ok (.iload_n 1, 1) := by decide +kernel
theorem dX12_scan_57 : decode cX12_scan 57 = .ok (.iconst (-1), 1) := by decide +kernel
theorem dX12_scan_58 : decode cX12_scan 58 = .ok (.if_icmp .ne 11, 3) := by decide +kernel
theorem dX12_scan_61 : decode cX12_scan 61 = .ok (.aload_n 0, 1) := by decide +kernel
theorem dX12_scan_62 : decode cX12_scan 62 = .ok (.iconst 0, 1) := by decide +kernel
theorem dX12_scan_63 : decode cX12_scan 63 = .ok (.putfield 142, 3) := by decide +kernel
theorem dX12_scan_66 : decode cX12_scan 66 = .ok (.goto 168, 3) := by decide +kernel
theorem dX12_scan_69 : decode cX12_scan 69 = .ok (.iload_n 1, 1) := by decide +kernel
theorem dX12_scan_70 : decode cX12_scan 70 = .ok (.i2l, 1) := by decide +kernel
theorem dX12_scan_71 : decode cX12_scan 71 = .ok (.ldc2_w 145, 3) := by decide +kernel
theorem dX12_scan_74 : decode cX12_scan 74 = .ok (.ldc2_w 147, 3) := by decide +kernel
theorem dX12_scan_77 : decode cX12_scan 77 = .ok (.invokestatic 103, 3) := by decide +kernel
theorem dX12_scan_80 : decode cX12_scan 80 = .ok (.ifCond .eq 45, 3) := by decide +kernel
theorem dX12_scan_83 : decode cX12_scan 83 = .ok (.aload_n 0, 1) := by decide +kernel
theorem dX12_scan_84 : decode cX12_scan 84 = .ok (.aload_n 0, 1) := by decide +kernel
theorem dX12_scan_85 : decode cX12_scan 85 = .ok (.getfield 135, 3) := by decide +kernel
theorem dX12_scan_88 : decode cX12_scan 88 = .ok (.invokevirtual 138, 3) := by decide +kernel
theorem dX12_scan_91 : decode cX12_scan 91 = .ok (.i2l, 1) := by decide +kernel
theorem dX12_scan_92 : decode cX12_scan 92 = .ok (.ldc2_w 145, 3) := by decide +kernel
theorem dX12_scan_95 : decode cX12_scan 95 = .ok (.ldc2_w 147, 3) := by decide +kernel
theorem dX12_scan_98 : decode cX12_scan 98 = .ok (.invokestatic 103, 3) := by decide +kernel
theorem dX12_scan_101 : decode cX12_scan 101 = .ok (.ifCond .eq 16, 3) := by decide +kernel
theorem dX12_scan_104 : decode cX12_scan 104 = .ok (.aload_n 0, 1) := by decide +kernel
theorem dX12_scan_105 : decode cX12_scan 105 = .ok (.dup, 1) := by decide +kernel
theorem dX12_scan_106 : decode cX12_scan 106 = .ok (.getfield 135, 3) := by decide +kernel
theorem dX12_scan_109 : decode cX12_scan 109 = .ok (.iconst 1, 1) := by decide +kernel
theorem dX12_scan_110 : decode cX12_scan 110 = .ok (.iadd, 1) := by decide +kernel
theorem dX12_scan_111 : decode cX12_scan 111 = .ok (.putfield 135, 3) := by decide +kernel
theorem dX12_scan_114 : decode cX12_scan 114 = .ok (.goto (-31), 3) := by decide +kernel
theorem dX12_scan_117 : decode cX12_scan 117 = .ok (.aload_n 0, 1) := by decide +kernel
theorem dX12_scan_118 : decode cX12_scan 118 = .ok (.iconst 1, 1) := by decide +kernel
theorem dX12_scan_119 : decode cX12_scan 119 = .ok (.putfield 142, 3) := by decide +kernel
theorem dX12_scan_122 : decode cX12_scan 122 = .ok (.goto 112, 3) := by decide +kernel
theorem dX12_scan_125 : decode cX12_scan 125 = .ok (.iload_n 1, 1) := by decide +kernel
theorem dX12_scan_126 : decode cX12_scan 126 = .ok (.i2l, 1) := by decide +kernel
theorem dX12_scan_127 : decode cX12_scan 127 = .ok (.ldc2_w 149, 3) := by decide +kernel
theorem dX12_scan_130 : decode cX12_scan 130 = .ok (.ldc2_w 151, 3) := by decide +kernel
theorem dX12_scan_133 : decode cX12_scan 133 = .ok (.invokestatic 103, 3) := by decide +kernel
theorem dX12_scan_136 : decode cX12_scan 136 = .ok (.ifCond .eq 78, 3) := by decide +kernel
theorem dX12_scan_139 : decode cX12_scan 139 = .ok (.aload_n 0, 1) := by decide +kernel
theorem dX12_scan_140 : decode cX12_scan 140 = .ok (.iconst 0, 1) := by decide +kernel
theorem dX12_scan_141 : decode cX12_scan 141 = .ok (.putfield 153, 3) := by decide +kernel
theorem dX12_scan_144 : decode cX12_scan 144 = .ok (.aload_n 0, 1) := by decide +kernel
theorem dX12_scan_145 : decode cX12_scan 145 = .ok (.aload_n 0, 1) := by decide +kernel
theorem dX12_scan_146 : decode cX12_scan 146 = .ok (.getfield 135, 3) := by decide +kernel
theorem dX12_scan_149 : decode cX12_scan 149 = .ok (.invokevirtual 138, 3) := by decide +kernel
theorem dX12_scan_152 : decode cX12_scan 152 = .ok (.i2l, 1) := by decide +kernel
theorem dX12_scan_153 : decode cX12_scan 153 = .ok (.ldc2_w 149, 3) := by decide +kernel
theorem dX12_scan_156 : decode cX12_scan 156 = .ok (.ldc2_w 151, 3) := by decide +kernel
theorem dX12_scan_159 : decode cX12_scan 159 = .ok (.invokestatic 103, 3) := by decide +kernel
theorem dX12_scan_162 : decode cX12_scan 162 = .ok (.ifCond .eq 44, 3) := by decide +kernel
theorem dX12_scan_165 : decode cX12_scan 165 = .ok (.aload_n 0, 1) := by decide +kernel
theorem dX12_scan_166 : decode cX12_scan 166 = .ok (.ldc 156, 2) := by decide +kernel
theorem dX12_scan_168 : decode cX12_scan 168 = .ok (.bipush 10, 2) := by decide +kernel
theorem dX12_scan_170 : decode cX12_scan 170 = .ok (.aload_n 0, 1) := by decide +kernel
theorem dX12_scan_171 : decode cX12_scan 171 = .ok (.getfield 153, 3) := by decide +kernel
theorem dX12_scan_174 : decode cX12_scan 174 = .ok (.imul, 1) := by decide +kernel
theorem dX12_scan_175 : decode cX12_scan 175 = .ok (.aload_n 0, 1) := by decide +kernel
theorem dX12_scan_176 : decode cX12_scan 176 = .ok (.aload_n 0, 1) := by decide +kernel
theorem dX12_scan_177 : decode cX12_scan 177 = .ok (.getfield 135, 3) := by decide +kernel
theorem dX12_scan_180 : decode cX12_scan 180 = .ok (.invokevirtual 138, 3) := by decide +kernel
theorem dX12_scan_183 : decode cX12_scan 183 = .ok (.iadd, 1) := by decide +kernel
theorem dX12_scan_184 : decode cX12_scan 184 = .ok (.bipush 48, 2) := by decide +kernel
theorem dX12_scan_186 : decode cX12_scan 186 = .ok (.isub, 1) := by decide +kernel
theorem dX12_scan_187 : decode cX12_scan 187 = .ok (.invokestatic 157, 3) := by decide +kernel
theorem dX12_scan_190 : decode cX12_scan 190 = .ok (.putfield 153, 3) := by decide +kernel
theorem dX12_scan_193 : decode cX12_scan 193 = .ok (.aload_n 0, 1) := by decide +kernel
theorem dX12_scan_194 : decode cX12_scan 194 = .ok (.dup, 1) := by decide +kernel
theorem dX12_scan_195 : decode cX12_scan 195 = .ok (.getfield 135, 3) := by decide +kernel
theorem dX12_scan_198 : decode cX12_scan 198 = .ok (.iconst 1, 1) := by decide +kernel
theorem dX12_scan_199 : decode cX12_scan 199 = .ok (.iadd, 1) := by decide +kernel
theorem dX12_scan_200 : decode cX12_scan 200 = .ok (.putfield 135, 3) := by decide +kernel
theorem dX12_scan_203 : decode cX12_scan 203 = .ok (.goto (-59), 3) := by decide +kernel
theorem dX12_scan_206 : decode cX12_scan 206 = .ok (.aload_n 0, 1) := by decide +kernel
theorem dX12_scan_207 : decode cX12_scan 207 = .ok (.iconst 2, 1) := by decide +kernel
theorem dX12_scan_208 : decode cX12_scan 208 = .ok (.putfield 142, 3) := by decide +kernel
theorem dX12_scan_211 : decode cX12_scan 211 = .ok (.goto 23, 3) := by decide +kernel
theorem dX12_scan_214 : decode cX12_scan 214 = .ok (.aload_n 0, 1) := by decide +kernel
theorem dX12_scan_215 : decode cX12_scan 215 = .ok (.iconst 3, 1) := by decide +kernel
theorem dX12_scan_216 : decode cX12_scan 216 = .ok (.putfield 142, 3) := by decide +kernel
theorem dX12_scan_219 : decode cX12_scan 219 = .ok (.aload_n 0, 1) := by decide +kernel
theorem dX12_scan_220 : decode cX12_scan 220 = .ok (.iload_n 1, 1) := by decide +kernel
theorem dX12_scan_221 : decode cX12_scan 221 = .ok (.putfield 153, 3) := by decide +kernel
theorem dX12_scan_224 : decode cX12_scan 224 = .ok (.aload_n 0, 1) := by decide +kernel
theorem dX12_scan_225 : decode cX12_scan 225 = .ok (.dup, 1) := by decide +kernel
theorem dX12_scan_226 : decode cX12_scan 226 = .ok (.getfield 135, 3) := by decide +kernel
theorem dX12_scan_229 : decode cX12_scan 229 = .ok (.iconst 1, 1) := by decide +kernel
theorem dX12_scan_230 : decode cX12_scan 230 = .ok (.iadd, 1) := by decide +kernel
theorem dX12_scan_231 : decode cX12_scan 231 = .ok (.putfield 135, 3) := by decide +kernel
theorem dX12_scan_234 : decode cX12_scan 234 = .ok (.return_, 1) := by decide +kernel
theorem dX12_goOn_0 : decode cX12_goOn 0 = .ok (.aload_n 0, 1) := by decide +kernel
theorem dX12_goOn_1 : decode cX12_goOn 1 = .ok (.invokevirtual 125, 3) := by decide +kernel
theorem dX12_goOn_4 : decode cX12_goOn 4 = .ok (.ifCond .eq 7, 3) := by decide +kernel
theorem dX12_goOn_7 : decode cX12_goOn 7 = .ok (.aload_n 0, 1) := by decide +kernel
theorem dX12_goOn_8 : decode cX12_goOn 8 = .ok (.invokevirtual 162, 3) := by decide +kernel
theorem dX12_goOn_11 : decode cX12_goOn 11 = .ok (.return_, 1) := by decide +kernel
theorem dX12_isText_0 : decode cX12_isText 0 = .ok (.aload_n 0, 1) := by decide +kernel
theorem dX12_isText_1 : decode cX12_isText 1 = .ok (.invokevirtual 125, 3) := by decide +kernel
theorem dX12_isText_4 : decode cX12_isText 4 = .ok (.ifCond .eq 31, 3) := by decide +kernel
theorem dX12_isText_7 : decode cX12_isText 7 = .ok (.aload_n 0, 1) := by decide +kernel
theorem dX12_isText_8 : decode cX12_isText 8 = .ok (.getfield 142, 3) := by decide +kernel
theorem dX12_isText_11 : decode cX12_isText 11 = .ok (.iconst 1, 1) := by decide +kernel
theorem dX12_isText_12 : decode cX12_isText 12 = .ok (.if_icmp .ne 23, 3) := by decide +kernel
theorem dX12_isText_15 : decode cX12_isText 15 = .ok (.aload_n 0, 1) := by decide +kernel
theorem dX12_isText_16 : decode cX12_isText 16 = .ok (.getfield 135, 3) := by decide +kernel
theorem dX12_isText_19 : decode cX12_isText 19 = .ok (.aload_n 0, 1) := by decide +kernel
theorem dX12_isText_20 : decode cX12_isText 20 = .ok (.getfield 129, 3) := by decide +kernel
theorem dX12_isText_23 : decode cX12_isText 23 = .ok (.isub, 1) := by decide +kernel
theorem dX12_isText_24 : decode cX12_isText 24 = .ok (.aload_n 1, 1) := by decide +kernel
theorem dX12_isText_25 : decode cX12_isText 25 = .ok (.invokevirtual 165, 3) := by decide +kernel
theorem dX12_isText_28 : decode cX12_isText 28 = .ok (.if_icmp .ne 7, 3) := by decide +kernel
theorem dX12_isText_31 : decode cX12_isText 31 = .ok (.iconst 1, 1) := by decide +kernel
theorem dX12_isText_32 : decode cX12_isText 32 = .ok (.goto 4, 3) := by decide +kernel
theorem dX12_isText_35 : decode cX12_isText 35 = .ok (.iconst 0, 1) := by decide +kernel
theorem dX12_isText_36 : decode cX12_isText 36 = .ok (.istore_n 2, 1) := by decide +kernel
theorem dX12_isText_37 : decode cX12_isText 37 = .ok (.iconst 0, 1) := by decide +kernel
theorem dX12_isText_38 : decode cX12_isText 38 = .ok (.istore_n 3, 1) := by decide +kernel
theorem dX12_isText_39 : decode cX12_isText 39 = .ok (.iload_n 3, 1) := by decide +kernel
theorem dX12_isText_40 : decode cX12_isText 40 = .ok (.aload_n 1, 1) := by decide +kernel
theorem dX12_isText_41 : decode cX12_isText 41 = .ok (.invokevirtual 165, 3) := by decide +kernel
theorem dX12_isText_44 : decode cX12_isText 44 = .ok (.if_icmp .ge 38, 3) := by decide +kernel
theorem dX12_isText_47 : decode cX12_isText 47 = .ok (.iload_n 2, 1) := by decide +kernel
theorem dX12_isText_48 : decode cX12_isText 48 = .ok (.ifCond .eq 34, 3) := by decide +kernel
theorem dX12_isText_51 : decode cX12_isText 51 = .ok (.aload_n 0, 1) := by decide +kernel
theorem dX12_isText_52 : decode cX12_isText 52 = .ok (.getfield 27, 3) := by decide +kernel
theorem dX12_isText_55 : decode cX12_isText 55 = .ok (.aload_n 0, 1) := by decide +kernel
theorem dX12_isText_56 : decode cX12_isText 56 = .ok (.getfield 129, 3) := by decide +kernel
theorem dX12_isText_59 : decode cX12_isText 59 = .ok (.iload_n 3, 1) := by decide +kernel
theorem dX12_isText_60 : decode cX12_isText 60 = .ok (.iadd, 1) := by decide +kernel
theorem dX12_isText_61 : decode cX12_isText 61 = .ok (.baload, 1) := by decide +kernel
theorem dX12_isText_62 : decode cX12_isText 62 = .ok (.aload_n 1, 1) := by decide +kernel
theorem dX12_isText_63 : decode cX12_isText 63 = .ok (.iload_n 3, 1) := by decide +kernel
theorem dX12_isText_64 : decode cX12_isText 64 = .ok (.invokevirtual 171, 3) := by decide +kernel
theorem dX12_isText_67 : decode cX12_isText 67 = .ok (.if_icmp .ne 7, 3) := by decide +kernel
theorem dX12_isText_70 : decode cX12_isText 70 = .ok (.iconst 1, 1) := by decide +kernel
theorem dX12_isText_71 : decode cX12_isText 71 = .ok (.goto 4, 3) := by decide +kernel
theorem dX12_isText_74 : decode cX12_isText 74 = .ok (.iconst 0, 1) := by decide +kernel
theorem dX12_isText_75 : decode cX12_isText 75 = .ok (.istore_n 2, 1) := by decide +kernel
theorem dX12_isText_76 : decode cX12_isText 76 = .ok (.iinc 3 1, 3) := by decide +kernel
theorem dX12_isText_79 : decode cX12_isText 79 = .ok (.goto (-40), 3) := by decide +kernel
theorem dX12_isText_82 : decode cX12_isText 82 = .ok (.iload_n 2, 1) := by decide +kernel
theorem dX12_isText_83 : decode cX12_isText 83 = .ok (.ireturn, 1) := by decide +kernel
theorem dX12_word_0 : decode cX12_word 0 = .ok (.aload_n 0, 1) := by decide +kernel
theorem dX12_word_1 : decode cX12_word 1 = .ok (.aload_n 1, 1) := by decide +kernel
theorem dX12_word_2 : decode cX12_word 2 = .ok (.invokevirtual 175, 3) := by decide +kernel
theorem dX12_word_5 : decode cX12_word 5 = .ok (.ifCond .ne 8, 3) := by decide +kernel
theorem dX12_word_8 : decode cX12_word 8 = .ok (.aload_n 0, 1) := by decide +kernel
theorem dX12_word_9 : decode cX12_word 9 = .ok (.iconst 1, 1) := by decide +kernel
theorem dX12_word_10 : decode cX12_word 10 = .ok (.invokevirtual 179, 3) := by decide +kernel
theorem dX12_word_13 : decode cX12_word 13 = .ok (.aload_n 0, 1) := by decide +kernel
theorem dX12_word_14 : decode cX12_word 14 = .ok (.invokevirtual 182, 3) := by decide +kernel
theorem dX12_word_17 : decode cX12_word 17 = .ok (.return_, 1) := by decide +kernel
theorem dX12_number_0 : decode cX12_number 0 = .ok (.aload_n 0, 1) := by decide +kernel
theorem dX12_number_1 : decode cX12_number 1 = .ok (.invokevirtual 125, 3) := by decide +kernel
theorem dX12_number_4 : decode cX12_number 4 = .ok (.ifCond .eq 16, 3) := by decide +kernel
theorem dX12_number_7 : decode cX12_number 7 = .ok (.aload_n 0, 1) := by decide +kernel
theorem dX12_number_8 : decode cX12_number 8 = .ok (.getfield 142, 3) := by decide +kernel
theorem dX12_number_11 : decode cX12_number 11 = .ok (.iconst 2, 1) := by decide +kernel
theorem dX12_number_12 : decode cX12_number 12 = .ok (.if_icmp .eq 8, 3) := by decide +kernel
theorem dX12_number_15 : decode cX12_number 15 = .ok (.aload_n 0, 1) := by decide +kernel
theorem dX12_number_16 : decode cX12_number 16 = .ok (.iconst 1, 1) := by decide +kernel
theorem dX12_number_17 : decode cX12_number 17 = .ok (.invokevirtual 179, 3) := by decide +kernel
theorem dX12_number_20 : decode cX12_number 20 = .ok (.aload_n 0, 1) := by decide +kernel
theorem dX12_number_21 : decode cX12_number 21 = .ok (.invokevirtual 125, 3) := by decide +kernel
theorem dX12_number_24 : decode cX12_number 24 = .ok (.ifCond .eq 23, 3) := by decide +kernel
theorem dX12_number_27 : decode cX12_number 27 = .ok (.aload_n 0, 1) := by decide +kernel
theorem dX12_number_28 : decode cX12_number 28 = .ok (.getfield 153, 3) := by decide +kernel
theorem dX12_number_31 : decode cX12_number 31 = .ok (.i2l, 1) := by decide +kernel
theorem dX12_number_32 : decode cX12_number 32 = .ok (.iload_n 1, 1) := by decide +kernel
theorem dX12_number_33 : decode cX12_number 33 = .ok (.i2l, 1) := by decide +kernel
theorem dX12_number_34 : decode cX12_number 34 = .ok (.iload_n 2, 1) := by decide +kernel
theorem dX12_number_35 : decode cX12_number 35 = .ok (.i2l, 1) := by decide +kernel
theorem dX12_number_36 : decode cX12_number 36 = .ok (.invokestatic 103, 3) := by decide +kernel
theorem dX12_number_39 : decode cX12_number 39 = .ok (.ifCond .ne 8, 3) := by decide +kernel
theorem dX12_number_42 : decode cX12_number 42 = .ok (.aload_n 0, 1) := by decide +kernel
theorem dX12_number_43 : decode cX12_number 43 = .ok (.iconst 2, 1) := by decide +kernel
theorem dX12_number_44 : decode cX12_number 44 = .ok (.invokevirtual 179, 3) := by decide +kernel
theorem dX12_number_47 : decode cX12_number 47 = .ok (.aload_n 0, 1) := by decide +kernel
theorem dX12_number_48 : decode cX12_number 48 = .ok (.invokevirtual 125, 3) := by decide +kernel
theorem dX12_number_51 : decode cX12_number 51 = .ok (.ifCond .eq 10, 3) := by decide +kernel
theorem dX12_number_54 : decode cX12_number 54 = .ok (.aload_n 0, 1) := by decide +kernel
theorem dX12_number_55 : decode cX12_number 55 = .ok (.getfield 153, 3) := by decide +kernel
theorem dX12_number_58 : decode cX12_number 58 = .ok (.goto 4, 3) := by decide +kernel
theorem dX12_number_61 : decode cX12_number 61 = .ok (.iload_n 1, 1) := by decide +kernel
theorem dX12_number_62 : decode cX12_number 62 = .ok (.istore_n 3, 1) := by decide +kernel
theorem dX12_number_63 : decode cX12_number 63 = .ok (.aload_n 0, 1) := by decide +kernel
theorem dX12_number_64 : decode cX12_number 64 = .ok (.invokevirtual 182, 3) := by decide +kernel
theorem dX12_number_67 : decode cX12_number 67 = .ok (.iload_n 3, 1) := by decide +kernel
theorem dX12_number_68 : decode cX12_number 68 = .ok (.ireturn, 1) := by decide +kernel
theorem dX12_numberBehind_0 : decode cX12_numberBehind 0 = .ok (.aload_n 0, 1) := by decide +kernel
theorem dX12_numberBehind_1 : decode cX12_numberBehind 1 = .ok (.aload_n 1, 1) := by decide +kernel
theorem dX12_numberBehind_2 : decode cX12_numberBehind 2 = .ok (.invokevirtual 185, 3) := by decide +kernel
theorem dX12_numberBehind_5 : decode cX12_numberBehind 5 = .ok (.aload_n 0, 1) := by decide +kernel
theorem dX12_numberBehind_6 : decode cX12_numberBehind 6 = .ok (.iload_n 2, 1) := by decide +kernel
theorem dX12_numberBehind_7 : decode cX12_numberBehind 7 = .ok (.iload_n 3, 1) := by decide +kernel
theorem dX12_numberBehind_8 : decode cX12_numberBehind 8 = .ok (.invokevirtual 189, 3) := by decide +kernel
theorem dX12_numberBehind_11 : decode cX12_numberBehind 11 = .ok (.ireturn, 1) := by decide +kernel
theorem dX12_semicolon_0 : decode cX12_semicolon 0 = .ok (.aload_n 0, 1) := by decide +kernel
theorem dX12_semicolon_1 : decode cX12_semicolon 1 = .ok (.invokevirtual 125, 3) := by decide +kernel
theorem dX12_semicolon_4 : decode cX12_semicolon 4 = .ok (.ifCond .eq 25, 3) := by decide +kernel
theorem dX12_semicolon_7 : decode cX12_semicolon 7 = .ok (.aload_n 0, 1) := by decide +kernel
theorem dX12_semicolon_8 : decode cX12_semicolon 8 = .ok (.getfield 142, 3) := by decide +kernel
theorem dX12_semicolon_11 : decode cX12_semicolon 11 = .ok (.iconst 3, 1) := by decide +kernel
theorem dX12_semicolon_12 : decode cX12_semicolon 12 = .ok (.if_icmp .ne 12, 3) := by decide +kernel
theorem dX12_semicolon_15 : decode cX12_semicolon 15 = .ok (.aload_n 0, 1) := by decide +kernel
theorem dX12_semicolon_16 : decode cX12_semicolon 16 = .ok (.getfield 153, 3) := by decide +kernel
theorem dX12_semicolon_19 : decode cX12_semicolon 19 = .ok (.bipush 59, 2) := by decide +kernel
theorem dX12_semicolon_21 : decode cX12_semicolon 21 = .ok (.if_icmp .eq 8, 3) := by decide +kernel
theorem dX12_semicolon_24 : decode cX12_semicolon 24 = .ok (.aload_n 0, 1) := by decide +kernel
theorem dX12_semicolon_25 : decode cX12_semicolon 25 = .ok (.iconst 1, 1) := by decide +kernel
theorem dX12_semicolon_26 : decode cX12_semicolon 26 = .ok (.invokevirtual 179, 3) := by decide +kernel
theorem dX12_semicolon_29 : decode cX12_semicolon 29 = .ok (.aload_n 0, 1) := by decide +kernel
theorem dX12_semicolon_30 : decode cX12_semicolon 30 = .ok (.invokevirtual 182, 3) := by decide +kernel
theorem dX12_semicolon_33 : decode cX12_semicolon 33 = .ok (.return_, 1) := by decide +kernel
theorem dX12_keepWord_0 : decode cX12_keepWord 0 = .ok (.aload_n 0, 1) := by decide +kernel
theorem dX12_keepWord_1 : decode cX12_keepWord 1 = .ok (.iload_n 1, 1) := by decide +kernel
theorem dX12_keepWord_2 : decode cX12_keepWord 2 = .ok (.iconst 3, 1) := by decide +kernel
theorem dX12_keepWord_3 : decode cX12_keepWord 3 = .ok (.invokevirtual 107, 3) := by decide +kernel
theorem dX12_keepWord_6 : decode cX12_keepWord 6 = .ok (.istore_n 2, 1) := by decide +kernel
theorem dX12_keepWord_7 : decode cX12_keepWord 7 = .ok (.iconst 0, 1) := by decide +kernel
theorem dX12_keepWord_8 : decode cX12_keepWord 8 = .ok (.istore_n 3, 1) := by decide +kernel
theorem dX12_keepWord_9 : decode cX12_keepWord 9 = .ok (.iload_n 3, 1) := by decide +kernel
theorem dX12_keepWord_10 : decode cX12_keepWord 10 = .ok (.bipush 12, 2) := by decide +kernel
theorem dX12_keepWord_12 : decode cX12_keepWord 12 = .ok (.if_icmp .ge 51, 3) := by decide +kernel
theorem dX12_keepWord_15 : decode cX12_keepWord 15 = .ok (.aload_n 0, 1) := by decide +kernel
theorem dX12_keepWord_16 : decode cX12_keepWord 16 = .ok (.iload_n 1, 1) := by decide +kernel
theorem dX12_keepWord_17 : decode cX12_keepWord 17 = .ok (.bipush 6, 2) := by decide +kernel
theorem dX12_keepWord_19 : decode cX12_keepWord 19 = .ok (.bipush 12, 2) := by decide +kernel
theorem dX12_keepWord_21 : decode cX12_keepWord 21 = .ok (.iload_n 2, 1) := by decide +kernel
theorem dX12_keepWord_22 : decode cX12_keepWord 22 = .ok (.imul, 1) := by decide +kernel
theorem dX12_keepWord_23 : decode cX12_keepWord 23 = .ok (.iadd, 1) := by decide +kernel
theorem dX12_keepWord_24 : decode cX12_keepWord 24 = .ok (.iload_n 3, 1) := by decide +kernel
theorem dX12_keepWord_25 : decode cX12_keepWord 25 = .ok (.iadd, 1) := by decide +kernel
theorem dX12_keepWord_26 : decode cX12_keepWord 26 = .ok (.iload_n 3, 1) := by decide +kernel
theorem dX12_keepWord_27 : decode cX12_keepWord 27 = .ok (.aload_n 0, 1) := by decide +kernel
theorem dX12_keepWord_28 : decode cX12_keepWord 28 = .ok (.getfield 135, 3) := by decide +kernel
theorem dX12_keepWord_31 : decode cX12_keepWord 31 = .ok (.aload_n 0, 1) := by decide +kernel
theorem dX12_keepWord_32 : decode cX12_keepWord 32 = .ok (.getfield 129, 3) := by decide +kernel
theorem dX12_keepWord_35 : decode cX12_keepWord 35 = .ok (.isub, 1) := by decide +kernel
theorem dX12_keepWord_36 : decode cX12_keepWord 36 = .ok (.if_icmp .ge 17, 3) := by decide +kernel
theorem dX12_keepWord_39 : decode cX12_keepWord 39 = .ok (.aload_n 0, 1) := by decide +kernel
theorem dX12_keepWord_40 : decode cX12_keepWord 40 = .ok (.getfield 27, 3) := by decide +kernel
theorem dX12_keepWord_43 : decode cX12_keepWord 43 = .ok (.aload_n 0, 1) := by decide +kernel
theorem dX12_keepWord_44 : decode cX12_keepWord 44 = .ok (.getfield 129, 3) := by decide +kernel
theorem dX12_keepWord_47 : decode cX12_keepWord 47 = .ok (.iload_n 3, 1) := by decide +kernel
theorem dX12_keepWord_48 : decode cX12_keepWord 48 = .ok (.iadd, 1) := by decide +kernel
theorem dX12_keepWord_49 : decode cX12_keepWord 49 = .ok (.baload, 1) := by decide +kernel
theorem dX12_keepWord_50 : decode cX12_keepWord 50 = .ok (.goto 4, 3) := by decide +kernel
theorem dX12_keepWord_53 : decode cX12_keepWord 53 = .ok (.iconst 0, 1) := by decide +kernel
theorem dX12_keepWord_54 : decode cX12_keepWord 54 = .ok (.invokevirtual 192, 3) := by decide +kernel
theorem dX12_keepWord_57 : decode cX12_keepWord 57 = .ok (.iinc 3 1, 3) := by decide +kernel
theorem dX12_keepWord_60 : decode cX12_keepWord 60 = .ok (.goto (-51), 3) := by decide +kernel
theorem dX12_keepWord_63 : decode cX12_keepWord 63 = .ok (.aload_n 0, 1) := by decide +kernel
theorem dX12_keepWord_64 : decode cX12_keepWord 64 = .ok (.iload_n 1, 1) := by decide +kernel
theorem dX12_keepWord_65 : decode cX12_keepWord 65 = .ok (.iconst 3, 1) := by decide +kernel
theorem dX12_keepWord_66 : decode cX12_keepWord 66 = .ok (.iload_n 2, 1) := by decide +kernel
theorem dX12_keepWord_67 : decode cX12_keepWord 67 = .ok (.iconst 1, 1) := by decide +kernel
theorem dX12_keepWord_68 : decode cX12_keepWord 68 = .ok (.iadd, 1) := by decide +kernel
theorem dX12_keepWord_69 : decode cX12_keepWord 69 = .ok (.invokevirtual 192, 3) := by decide +kernel
theorem dX12_keepWord_72 : decode cX12_keepWord 72 = .ok (.return_, 1) := by decide +kernel
theorem dX12_parseTitle_0 : decode cX12_parseTitle 0 = .ok (.aload_n 0, 1) := by decide +kernel
theorem dX12_parseTitle_1 : decode cX12_parseTitle 1 = .ok (.iload_n 1, 1) := by decide +kernel
theorem dX12_parseTitle_2 : decode cX12_parseTitle 2 = .ok (.iconst 3, 1) := by decide +kernel
theorem dX12_parseTitle_3 : decode cX12_parseTitle 3 = .ok (.iconst 0, 1) := by decide +kernel
theorem dX12_parseTitle_4 : decode cX12_parseTitle 4 = .ok (.invokevirtual 192, 3) := by decide +kernel
theorem dX12_parseTitle_7 : decode cX12_parseTitle 7 = .ok (.aload_n 0, 1) := by decide +kernel
theorem dX12_parseTitle_8 : decode cX12_parseTitle 8 = .ok (.invokevirtual 125, 3) := by decide +kernel
theorem dX12_parseTitle_11 : decode cX12_parseTitle 11 = .ok (.ifCond .eq 30, 3) := by decide +kernel
theorem dX12_parseTitle_14 : decode cX12_parseTitle 14 = .ok (.aload_n 0, 1) := by decide +kernel
theorem dX12_parseTitle_15 : decode cX12_parseTitle 15 = .ok (.getfield 142, 3) := by decide +kernel
theorem dX12_parseTitle_18 : decode cX12_parseTitle 18 = .ok (.iconst 1, 1) := by decide +kernel
theorem dX12_parseTitle_19 : decode cX12_parseTitle 19 = .ok (.if_icmp .ne 17, 3) := by decide +kernel
theorem dX12_parseTitle_22 : decode cX12_parseTitle 22 = .ok (.aload_n 0, 1) := by decide +kernel
theorem dX12_parseTitle_23 : decode cX12_parseTitle 23 = .ok (.getfield 135, 3) := by decide +kernel
theorem dX12_parseTitle_26 : decode cX12_parseTitle 26 = .ok (.aload_n 0, 1) := by decide +kernel
theorem dX12_parseTitle_27 : decode cX12_parseTitle 27 = .ok (.getfield 129, 3) := by decide +kernel
theorem dX12_parseTitle_30 : decode cX12_parseTitle 30 = .ok (.isub, 1) := by decide +kernel
theorem dX12_parseTitle_31 : decode cX12_parseTitle 31 = .ok (.bipush 12, 2) := by decide +kernel
theorem dX12_parseTitle_33 : decode cX12_parseTitle 33 = .ok (.if_icmp .le 8, 3) := by decide +kernel
theorem dX12_parseTitle_36 : decode cX12_parseTitle 36 = .ok (.aload_n 0, 1) := by decide +kernel
theorem dX12_parseTitle_37 : decode cX12_parseTitle 37 = .ok (.iconst 1, 1) := by decide +kernel
theorem dX12_parseTitle_38 : decode cX12_parseTitle 38 = .ok (.invokevirtual 179, 3) := by decide +kernel
theorem dX12_parseTitle_41 : decode cX12_parseTitle 41 = .ok (.aload_n 0, 1) := by decide +kernel
theorem dX12_parseTitle_42 : decode cX12_parseTitle 42 = .ok (.invokevirtual 125, 3) := by decide +kernel
theorem dX12_parseTitle_45 : decode cX12_parseTitle 45 = .ok (.ifCond .eq 19, 3) := by decide +kernel
theorem dX12_parseTitle_48 : decode cX12_parseTitle 48 = .ok (.aload_n 0, 1) := by decide +kernel
theorem dX12_parseTitle_49 : decode cX12_parseTitle 49 = .ok (.iload_n 1, 1) := by decide +kernel
theorem dX12_parseTitle_50 : decode cX12_parseTitle 50 = .ok (.iconst 3, 1) := by decide +kernel
theorem dX12_parseTitle_51 : decode cX12_parseTitle 51 = .ok (.invokevirtual 107, 3) := by decide +kernel
theorem dX12_parseTitle_54 : decode cX12_parseTitle 54 = .ok (.bipush 8, 2) := by decide +kernel
theorem dX12_parseTitle_56 : decode cX12_parseTitle 56 = .ok (.if_icmp .ne 8, 3) := by decide +kernel
theorem dX12_parseTitle_59 : decode cX12_parseTitle 59 = .ok (.aload_n 0, 1) := by decide +kernel
theorem dX12_parseTitle_60 : decode cX12_parseTitle 60 = .ok (.iconst 4, 1) := by decide +kernel
theorem dX12_parseTitle_61 : decode cX12_parseTitle 61 = .ok (.invokevirtual 179, 3) := by decide +kernel
theorem dX12_parseTitle_64 : decode cX12_parseTitle 64 = .ok (.aload_n 0, 1) := by decide +kernel
theorem dX12_parseTitle_65 : decode cX12_parseTitle 65 = .ok (.invokevirtual 125, 3) := by decide +kernel
theorem dX12_parseTitle_68 : decode cX12_parseTitle 68 = .ok (.ifCond .eq 8, 3) := by decide +kernel
theorem dX12_parseTitle_71 : decode cX12_parseTitle 71 = .ok (.aload_n 0, 1) := by decide +kernel
theorem dX12_parseTitle_72 : decode cX12_parseTitle 72 = .ok (.iload_n 1, 1) := by decide +kernel
theorem dX12_parseTitle_73 : decode cX12_parseTitle 73 = .ok (.invokevirtual 196, 3) := by decide +kernel
theorem dX12_parseTitle_76 : decode cX12_parseTitle 76 = .ok (.aload_n 0, 1) := by decide +kernel
theorem dX12_parseTitle_77 : decode cX12_parseTitle 77 = .ok (.invokevirtual 182, 3) := by decide +kernel
theorem dX12_parseTitle_80 : decode cX12_parseTitle 80 = .ok (.aload_n 0, 1) := by decide +kernel
theorem dX12_parseTitle_81 : decode cX12_parseTitle 81 = .ok (.invokevirtual 125, 3) := by decide +kernel
theorem dX12_parseTitle_84 : decode cX12_parseTitle 84 = .ok (.ifCond .eq 11, 3) := by decide +kernel
theorem dX12_parseTitle_87 : decode cX12_parseTitle 87 = .ok (.aload_n 0, 1) := by decide +kernel
theorem dX12_parseTitle_88 : decode cX12_parseTitle 88 = .ok (.getfield 142, 3) := by decide +kernel
theorem dX12_parseTitle_91 : decode cX12_parseTitle 91 = .ok (.iconst 1, 1) := by decide +kernel
theorem dX12_parseTitle_92 : decode cX12_parseTitle 92 = .ok (.if_icmp .eq (-85), 3) := by decide +kernel
theorem dX12_parseTitle_95 : decode cX12_parseTitle 95 = .ok (.return_, 1) := by decide +kernel
theorem dX12_levelBehind_0 : decode cX12_levelBehind 0 = .ok (.iload_n 1, 1) := by decide +kernel
theorem dX12_levelBehind_1 : decode cX12_levelBehind 1 = .ok (.ifCond .lt 13, 3) := by decide +kernel
theorem dX12_levelBehind_4 : decode cX12_levelBehind 4 = .ok (.aload_n 0, 1) := by decide +kernel
theorem dX12_levelBehind_5 : decode cX12_levelBehind 5 = .ok (.iload_n 1, 1) := by decide +kernel
theorem dX12_levelBehind_6 : decode cX12_levelBehind 6 = .ok (.iconst 2, 1) := by decide +kernel
theorem dX12_levelBehind_7 : decode cX12_levelBehind 7 = .ok (.invokevirtual 107, 3) := by decide +kernel
theorem dX12_levelBehind_10 : decode cX12_levelBehind 10 = .ok (.iload_n 2, 1) := by decide +kernel
theorem dX12_levelBehind_11 : decode cX12_levelBehind 11 = .ok (.if_icmp .eq 7, 3) := by decide +kernel
theorem dX12_levelBehind_14 : decode cX12_levelBehind 14 = .ok (.iconst 1, 1) := by decide +kernel
theorem dX12_levelBehind_15 : decode cX12_levelBehind 15 = .ok (.goto 15, 3) := by decide +kernel
theorem dX12_levelBehind_18 : decode cX12_levelBehind 18 = .ok (.iconst 4, 1) := by decide +kernel
theorem dX12_levelBehind_19 : decode cX12_levelBehind 19 = .ok (.aload_n 0, 1) := by decide +kernel
theorem dX12_levelBehind_20 : decode cX12_levelBehind 20 = .ok (.iload_n 1, 1) := by decide +kernel
theorem dX12_levelBehind_21 : decode cX12_levelBehind 21 = .ok (.iconst 0, 1) := by decide +kernel
theorem dX12_levelBehind_22 : decode cX12_levelBehind 22 = .ok (.invokevirtual 107, 3) := by decide +kernel
theorem dX12_levelBehind_25 : decode cX12_levelBehind 25 = .ok (.iconst 1, 1) := by decide +kernel
theorem dX12_levelBehind_26 : decode cX12_levelBehind 26 = .ok (.iadd, 1) := by decide +kernel
theorem dX12_levelBehind_27 : decode cX12_levelBehind 27 = .ok (.invokestatic 157, 3) := by decide +kernel
theorem dX12_levelBehind_30 : decode cX12_levelBehind 30 = .ok (.ireturn, 1) := by decide +kernel
theorem dX12_parseSection_0 : decode cX12_parseSection 0 = .ok (.aload_n 0, 1) := by decide +kernel
theorem dX12_parseSection_1 : decode cX12_parseSection 1 = .ok (.getfield 24, 3) := by decide +kernel
theorem dX12_parseSection_4 : decode cX12_parseSection 4 = .ok (.bipush 9, 2) := by decide +kernel
theorem dX12_parseSection_6 : decode cX12_parseSection 6 = .ok (.iaload, 1) := by decide +kernel
theorem dX12_parseSection_7 : decode cX12_parseSection 7 = .ok (.istore_n 1, 1) := by decide +kernel
theorem dX12_parseSection_8 : decode cX12_parseSection 8 = .ok (.iload_n 1, 1) := by decide +kernel
theorem dX12_parseSection_9 : decode cX12_parseSection 9 = .ok (.bipush 24, 2) := by decide +kernel
theorem dX12_parseSection_11 : decode cX12_parseSection 11 = .ok (.if_icmp .ne 8, 3) := by decide +kernel
theorem dX12_parseSection_14 : decode cX12_parseSection 14 = .ok (.aload_n 0, 1) := by decide +kernel
theorem dX12_parseSection_15 : decode cX12_parseSection 15 = .ok (.iconst 4, 1) := by decide +kernel
theorem dX12_parseSection_16 : decode cX12_parseSection 16 = .ok (.invokevirtual 179, 3) := by decide +kernel
theorem dX12_parseSection_19 : decode cX12_parseSection 19 = .ok (.aload_n 0, 1) := by decide +kernel
theorem dX12_parseSection_20 : decode cX12_parseSection 20 = .ok (.invokevirtual 182, 3) := by decide +kernel
theorem dX12_parseSection_23 : decode cX12_parseSection 23 = .ok (.aload_n 0, 1) := by decide +kernel
theorem dX12_parseSection_24 : decode cX12_parseSection 24 = .ok (.invokevirtual 125, 3) := by decide +kernel
theorem dX12_parseSection_27 : decode cX12_parseSection 27 = .ok (.ifCond .ne 4, 3) := by decide +kernel
theorem dX12_parseSection_30 : decode cX12_parseSection 30 = .ok (.return_, 1) := by decide +kernel
theorem dX12_parseSection_31 : decode cX12_parseSection 31 = .ok (.aload_n 0, 1) := by decide +kernel
theorem dX12_parseSection_32 : decode cX12_parseSection 32 = .ok (.getfield 199, 3) := by decide +kernel
theorem dX12_parseSection_35 : decode cX12_parseSection 35 = .ok (.ifCond .eq 7, 3) := by decide +kernel
theorem dX12_parseSection_38 : decode cX12_parseSection 38 = .ok (.iconst 1, 1) := by decide +kernel
theorem dX12_parseSection_39 : decode cX12_parseSection 39 = .ok (.goto 4, 3) := by decide +kernel
theorem dX12_parseSection_42 : decode cX12_parseSection 42 = .ok (.iconst 0, 1) := by decide +kernel
theorem dX12_parseSection_43 : decode cX12_parseSection 43 = .ok (.istore_n 2, 1) := by decide +kernel
theorem dX12_parseSection_44 : decode cX12_parseSection 44 = .ok (.aload_n 0, 1) := by decide +kernel
theorem dX12_parseSection_45 : decode cX12_parseSection 45 = .ok (.iload_n 1, 1) := by decide +kernel
theorem dX12_parseSection_46 : decode cX12_parseSection 46 = .ok (.iconst 2, 1) := by decide +kernel
theorem dX12_parseSection_47 : decode cX12_parseSection 47 = .ok (.iload_n 2, 1) := by decide +kernel
theorem dX12_parseSection_48 : decode cX12_parseSection 48 = .ok (.invokevirtual 192, 3) := by decide +kernel
theorem dX12_parseSection_51 : decode cX12_parseSection 51 = .ok (.aload_n 0, 1) := by decide +kernel
theorem dX12_parseSection_52 : decode cX12_parseSection 52 = .ok (.iload_n 1, 1) := by decide +kernel
theorem dX12_parseSection_53 : decode cX12_parseSection 53 = .ok (.iconst 0, 1) := by decide +kernel
theorem dX12_parseSection_54 : decode cX12_parseSection 54 = .ok (.aload_n 0, 1) := by decide +kernel
theorem dX12_parseSection_55 : decode cX12_parseSection 55 = .ok (.iconst 1, 1) := by decide +kernel
theorem dX12_parseSection_56 : decode cX12_parseSection 56 = .ok (.aload_n 0, 1) := by decide +kernel
theorem dX12_parseSection_57 : decode cX12_parseSection 57 = .ok (.iload_n 1, 1) := by decide +kernel
theorem dX12_parseSection_58 : decode cX12_parseSection 58 = .ok (.iconst 1, 1) := by decide +kernel
theorem dX12_parseSection_59 : decode cX12_parseSection 59 = .ok (.isub, 1) := by decide +kernel
theorem dX12_parseSection_60 : decode cX12_parseSection 60 = .ok (.iload_n 2, 1) := by decide +kernel
theorem dX12_parseSection_61 : decode cX12_parseSection 61 = .ok (.invokevirtual 203, 3) := by decide +kernel
theorem dX12_parseSection_64 : decode cX12_parseSection 64 = .ok (.invokevirtual 189, 3) := by decide +kernel
theorem dX12_parseSection_67 : decode cX12_parseSection 67 = .ok (.invokevirtual 192, 3) := by decide +kernel
theorem dX12_parseSection_70 : decode cX12_parseSection 70 = .ok (.aload_n 0, 1) := by decide +kernel
theorem dX12_parseSection_71 : decode cX12_parseSection 71 = .ok (.iload_n 1, 1) := by decide +kernel
theorem dX12_parseSection_72 : decode cX12_parseSection 72 = .ok (.iconst 1, 1) := by decide +kernel
theorem dX12_parseSection_73 : decode cX12_parseSection 73 = .ok (.aload_n 0, 1) := by decide +kernel
theorem dX12_parseSection_74 : decode cX12_parseSection 74 = .ok (.ldc 206, 2) := by decide +kernel
theorem dX12_parseSection_76 : decode cX12_parseSection 76 = .ok (.iconst 0, 1) := by decide +kernel
theorem dX12_parseSection_77 : decode cX12_parseSection 77 = .ok (.sipush 500, 3) := by decide +kernel
theorem dX12_parseSection_80 : decode cX12_parseSection 80 = .ok (.invokevirtual 208, 3) := by decide +kernel
theorem dX12_parseSection_83 : decode cX12_parseSection 83 = .ok (.invokevirtual 192, 3) := by decide +kernel
theorem dX12_parseSection_86 : decode cX12_parseSection 86 = .ok (.aload_n 0, 1) := by decide +kernel
theorem dX12_parseSection_87 : decode cX12_parseSection 87 = .ok (.iload_n 1, 1) := by decide +kernel
theorem dX12_parseSection_88 : decode cX12_parseSection 88 = .ok (.invokevirtual 212, 3) := by decide +kernel
theorem dX12_parseSection_91 : decode cX12_parseSection 91 = .ok (.aload_n 0, 1) := by decide +kernel
theorem dX12_parseSection_92 : decode cX12_parseSection 92 = .ok (.iload_n 1, 1) := by decide +kernel
theorem dX12_parseSection_93 : decode cX12_parseSection 93 = .ok (.iconst 4, 1) := by decide +kernel
theorem dX12_parseSection_94 : decode cX12_parseSection 94 = .ok (.iconst (-1), 1) := by decide +kernel
theorem dX12_parseSection_95 : decode cX12_parseSection 95 = .ok (.invokevirtual 192, 3) := by decide +kernel
theorem dX12_parseSection_98 : decode cX12_parseSection 98 = .ok (.aload_n 0, 1) := by decide +kernel
theorem dX12_parseSection_99 : decode cX12_parseSection 99 = .ok (.getfield 24, 3) := by decide +kernel
theorem dX12_parseSection_102 : decode cX12_parseSection 102 = .ok (.bipush 9, 2) := by decide +kernel
theorem dX12_parseSection_104 : decode cX12_parseSection 104 = .ok (.dup2, 1) := by decide +kernel
theorem dX12_parseSection_105 : decode cX12_parseSection 105 = .ok (.iaload, 1) := by decide +kernel
theorem dX12_parseSection_106 : decode cX12_parseSection 106 = .ok (.iconst 1, 1) := by decide +kernel
theorem dX12_parseSection_107 : decode cX12_parseSection 107 = .ok (.iadd, 1) := by decide +kernel
theorem dX12_parseSection_108 : decode cX12_parseSection 108 = .ok (.iastore, 1) := by decide +kernel
theorem dX12_parseSection_109 : decode cX12_parseSection 109 = .ok (.return_, 1) := by decide +kernel
theorem dX12_parseStyle_0 : decode cX12_parseStyle 0 = .ok (.aload_n 0, 1) := by decide +kernel
theorem dX12_parseStyle_1 : decode cX12_parseStyle 1 = .ok (.getfield 215, 3) := by decide +kernel
theorem dX12_parseStyle_4 : decode cX12_parseStyle 4 = .ok (.ifCond .eq 8, 3) := by decide +kernel
theorem dX12_parseStyle_7 : decode cX12_parseStyle 7 = .ok (.aload_n 0, 1) := by decide +kernel
theorem dX12_parseStyle_8 : decode cX12_parseStyle 8 = .ok (.iconst 3, 1) := by decide +kernel
theorem dX12_parseStyle_9 : decode cX12_parseStyle 9 = .ok (.invokevirtual 179, 3) := by decide +kernel
theorem dX12_parseStyle_12 : decode cX12_parseStyle 12 = .ok (.aload_n 0, 1) := by decide +kernel
theorem dX12_parseStyle_13 : decode cX12_parseStyle 13 = .ok (.iconst 1, 1) := by decide +kernel
theorem dX12_parseStyle_14 : decode cX12_parseStyle 14 = .ok (.putfield 215, 3) := by decide +kernel
theorem dX12_parseStyle_17 : decode cX12_parseStyle 17 = .ok (.aload_n 0, 1) := by decide +kernel
theorem dX12_parseStyle_18 : decode cX12_parseStyle 18 = .ok (.invokevirtual 182, 3) := by decide +kernel
theorem dX12_parseStyle_21 : decode cX12_parseStyle 21 = .ok (.aload_n 0, 1) := by decide +kernel
theorem dX12_parseStyle_22 : decode cX12_parseStyle 22 = .ok (.getfield 24, 3) := by decide +kernel
theorem dX12_parseStyle_25 : decode cX12_parseStyle 25 = .ok (.iconst 3, 1) := by decide +kernel
theorem dX12_parseStyle_26 : decode cX12_parseStyle 26 = .ok (.aload_n 0, 1) := by decide +kernel
theorem dX12_parseStyle_27 : decode cX12_parseStyle 27 = .ok (.ldc 218, 2) := by decide +kernel
theorem dX12_parseStyle_29 : decode cX12_parseStyle 29 = .ok (.iconst 0, 1) := by decide +kernel
theorem dX12_parseStyle_30 : decode cX12_parseStyle 30 = .ok (.bipush 9, 2) := by decide +kernel
theorem dX12_parseStyle_32 : decode cX12_parseStyle 32 = .ok (.invokevirtual 208, 3) := by decide +kernel
theorem dX12_parseStyle_35 : decode cX12_parseStyle 35 = .ok (.iastore, 1) := by decide +kernel
theorem dX12_parseStyle_36 : decode cX12_parseStyle 36 = .ok (.aload_n 0, 1) := by decide +kernel
theorem dX12_parseStyle_37 : decode cX12_parseStyle 37 = .ok (.getfield 24, 3) := by decide +kernel
theorem dX12_parseStyle_40 : decode cX12_parseStyle 40 = .ok (.iconst 4, 1) := by decide +kernel
theorem dX12_parseStyle_41 : decode cX12_parseStyle 41 = .ok (.aload_n 0, 1) := by decide +kernel
theorem dX12_parseStyle_42 : decode cX12_parseStyle 42 = .ok (.ldc 220, 2) := by decide +kernel
theorem dX12_parseStyle_44 : decode cX12_parseStyle 44 = .ok (.iconst 0, 1) := by decide +kernel
theorem dX12_parseStyle_45 : decode cX12_parseStyle 45 = .ok (.bipush 9, 2) := by decide +kernel
theorem dX12_parseStyle_47 : decode cX12_parseStyle 47 = .ok (.invokevirtual 208, 3) := by decide +kernel
theorem dX12_parseStyle_50 : decode cX12_parseStyle 50 = .ok (.iastore, 1) := by decide +kernel
theorem dX12_parseStyle_51 : decode cX12_parseStyle 51 = .ok (.aload_n 0, 1) := by decide +kernel
theorem dX12_parseStyle_52 : decode cX12_parseStyle 52 = .ok (.getfield 24, 3) := by decide +kernel
theorem dX12_parseStyle_55 : decode cX12_parseStyle 55 = .ok (.iconst 5, 1) := by decide +kernel
theorem dX12_parseStyle_56 : decode cX12_parseStyle 56 = .ok (.aload_n 0, 1) := by decide +kernel
theorem dX12_parseStyle_57 : decode cX12_parseStyle 57 = .ok (.ldc 222, 2) := by decide +kernel
theorem dX12_parseStyle_59 : decode cX12_parseStyle 59 = .ok (.iconst 0, 1) := by decide +kernel
theorem dX12_parseStyle_60 : decode cX12_parseStyle 60 = .ok (.bipush 9, 2) := by decide +kernel
theorem dX12_parseStyle_62 : decode cX12_parseStyle 62 = .ok (.invokevirtual 208, 3) := by decide +kernel
theorem dX12_parseStyle_65 : decode cX12_parseStyle 65 = .ok (.iastore, 1) := by decide +kernel
theorem dX12_parseStyle_66 : decode cX12_parseStyle 66 = .ok (.aload_n 0, 1) := by decide +kernel
theorem dX12_parseStyle_67 : decode cX12_parseStyle 67 = .ok (.getfield 24, 3) := by decide +kernel
theorem dX12_parseStyle_70 : decode cX12_parseStyle 70 = .ok (.bipush 6, 2) := by decide +kernel
theorem dX12_parseStyle_72 : decode cX12_parseStyle 72 = .ok (.aload_n 0, 1) := by decide +kernel
theorem dX12_parseStyle_73 : decode cX12_parseStyle 73 = .ok (.ldc 224, 2) := by decide +kernel
theorem dX12_parseStyle_75 : decode cX12_parseStyle 75 = .ok (.iconst 0, 1) := by decide +kernel
theorem dX12_parseStyle_76 : decode cX12_parseStyle 76 = .ok (.bipush 9, 2) := by decide +kernel
theorem dX12_parseStyle_78 : decode cX12_parseStyle 78 = .ok (.invokevirtual 208, 3) := by decide +kernel
theorem dX12_parseStyle_81 : decode cX12_parseStyle 81 = .ok (.iastore, 1) := by decide +kernel
theorem dX12_parseStyle_82 : decode cX12_parseStyle 82 = .ok (.aload_n 0, 1) := by decide +kernel
theorem dX12_parseStyle_83 : decode cX12_parseStyle 83 = .ok (.getfield 24, 3) := by decide +kernel
theorem dX12_parseStyle_86 : decode cX12_parseStyle 86 = .ok (.bipush 7, 2) := by decide +kernel
theorem dX12_parseStyle_88 : decode cX12_parseStyle 88 = .ok (.aload_n 0, 1) := by decide +kernel
theorem dX12_parseStyle_89 : decode cX12_parseStyle 89 = .ok (.ldc 226, 2) := by decide +kernel
theorem dX12_parseStyle_91 : decode cX12_parseStyle 91 = .ok (.iconst 1, 1) := by decide +kernel
theorem dX12_parseStyle_92 : decode cX12_parseStyle 92 = .ok (.bipush 9, 2) := by decide +kernel
theorem dX12_parseStyle_94 : decode cX12_parseStyle 94 = .ok (.invokevirtual 208, 3) := by decide +kernel
theorem dX12_parseStyle_97 : decode cX12_parseStyle 97 = .ok (.iastore, 1) := by decide +kernel
theorem dX12_parseStyle_98 : decode cX12_parseStyle 98 = .ok (.return_, 1) := by decide +kernel
theorem dX12_parseOnce_0 : decode cX12_parseOnce 0 = .ok (.iload_n 1, 1) := by decide +kernel
theorem dX12_parseOnce_1 : decode cX12_parseOnce 1 = .ok (.ifCond .eq 13, 3) := by decide +kernel
theorem dX12_parseOnce_4 : decode cX12_parseOnce 4 = .ok (.aload_n 0, 1) := by decide +kernel
theorem dX12_parseOnce_5 : decode cX12_parseOnce 5 = .ok (.getfield 228, 3) := by decide +kernel
theorem dX12_parseOnce_8 : decode cX12_parseOnce 8 = .ok (.ifCond .eq 18, 3) := by decide +kernel
theorem dX12_parseOnce_11 : decode cX12_parseOnce 11 = .ok (.goto 10, 3) := by decide +kernel
theorem dX12_parseOnce_14 : decode cX12_parseOnce 14 = .ok (.aload_n 0, 1) := by decide +kernel
theorem dX12_parseOnce_15 : decode cX12_parseOnce 15 = .ok (.getfield 199, 3) := by decide +kernel
theorem dX12_parseOnce_18 : decode cX12_parseOnce 18 = .ok (.ifCond .eq 8, 3) := by decide +kernel
theorem dX12_parseOnce_21 : decode cX12_parseOnce 21 = .ok (.aload_n 0, 1) := by decide +kernel
theorem dX12_parseOnce_22 : decode cX12_parseOnce 22 = .ok (.iconst 3, 1) := by decide +kernel
theorem dX12_parseOnce_23 : decode cX12_parseOnce 23 = .ok (.invokevirtual 179, 3) := by decide +kernel
theorem dX12_parseOnce_26 : decode cX12_parseOnce 26 = .ok (.aload_n 0, 1) := by decide +kernel
theorem dX12_parseOnce_27 : decode cX12_parseOnce 27 = .ok (.aload_n 0, 1) := by decide +kernel
theorem dX12_parseOnce_28 : decode cX12_parseOnce 28 = .ok (.getfield 228, 3) := by decide +kernel
theorem dX12_parseOnce_31 : decode cX12_parseOnce 31 = .ok (.ifCond .ne 7, 3) := by decide +kernel
theorem dX12_parseOnce_34 : decode cX12_parseOnce 34 = .ok (.iload_n 1, 1) := by decide +kernel
theorem dX12_parseOnce_35 : decode cX12_parseOnce 35 = .ok (.ifCond .eq 7, 3) := by decide +kernel
theorem dX12_parseOnce_38 : decode cX12_parseOnce 38 = .ok (.iconst 1, 1) := by decide +kernel
theorem dX12_parseOnce_39 : decode cX12_parseOnce 39 = .ok (.goto 4, 3) := by decide +kernel
theorem dX12_parseOnce_42 : decode cX12_parseOnce 42 = .ok (.iconst 0, 1) := by decide +kernel
theorem dX12_parseOnce_43 : decode cX12_parseOnce 43 = .ok (.putfield 228, 3) := by decide +kernel
theorem dX12_parseOnce_46 : decode cX12_parseOnce 46 = .ok (.aload_n 0, 1) := by decide +kernel
theorem dX12_parseOnce_47 : decode cX12_parseOnce 47 = .ok (.aload_n 0, 1) := by decide +kernel
theorem dX12_parseOnce_48 : decode cX12_parseOnce 48 = .ok (.getfield 199, 3) := by decide +kernel
theorem dX12_parseOnce_51 : decode cX12_parseOnce 51 = .ok (.ifCond .ne 7, 3) := by decide +kernel
theorem dX12_parseOnce_54 : decode cX12_parseOnce 54 = .ok (.iload_n 1, 1) := by decide +kernel
theorem dX12_parseOnce_55 : decode cX12_parseOnce 55 = .ok (.ifCond .ne 7, 3) := by decide +kernel
theorem dX12_parseOnce_58 : decode cX12_parseOnce 58 = .ok (.iconst 1, 1) := by decide +kernel
theorem dX12_parseOnce_59 : decode cX12_parseOnce 59 = .ok (.goto 4, 3) := by decide +kernel
theorem dX12_parseOnce_62 : decode cX12_parseOnce 62 = .ok (.iconst 0, 1) := by decide +kernel
theorem dX12_parseOnce_63 : decode cX12_parseOnce 63 = .ok (.putfield 199, 3) := by decide +kernel
theorem dX12_parseOnce_66 : decode cX12_parseOnce 66 = .ok (.iload_n 1, 1) := by decide +kernel
theorem dX12_parseOnce_67 : decode cX12_parseOnce 67 = .ok (.ifCond .eq 11, 3) := by decide +kernel
theorem dX12_parseOnce_70 : decode cX12_parseOnce 70 = .ok (.aload_n 0, 1) := by decide +kernel
theorem dX12_parseOnce_71 : decode cX12_parseOnce 71 = .ok (.getfield 24, 3) := by decide +kernel
theorem dX12_parseOnce_74 : decode cX12_parseOnce 74 = .ok (.bipush 8, 2) := by decide +kernel
theorem dX12_parseOnce_76 : decode cX12_parseOnce 76 = .ok (.iconst 1, 1) := by decide +kernel
theorem dX12_parseOnce_77 : decode cX12_parseOnce 77 = .ok (.iastore, 1) := by decide +kernel
theorem dX12_parseOnce_78 : decode cX12_parseOnce 78 = .ok (.aload_n 0, 1) := by decide +kernel
theorem dX12_parseOnce_79 : decode cX12_parseOnce 79 = .ok (.invokevirtual 182, 3) := by decide +kernel
theorem dX12_parseOnce_82 : decode cX12_parseOnce 82 = .ok (.return_, 1) := by decide +kernel
theorem dX12_parseStatement_0 : decode cX12_parseStatement 0 = .ok (.aload_n 0, 1) := by decide +kernel
theorem dX12_parseStatement_1 : decode cX12_parseStatement 1 = .ok (.ldc 231, 2) := by decide +kernel
theorem dX12_parseStatement_3 : decode cX12_parseStatement 3 = .ok (.invokevirtual 175, 3) := by decide +kernel
theorem dX12_parseStatement_6 : decode cX12_parseStatement 6 = .ok (.ifCond .eq 10, 3) := by decide +kernel
theorem dX12_parseStatement_9 : decode cX12_parseStatement 9 = .ok (.aload_n 0, 1) := by decide +kernel
theorem dX12_parseStatement_10 : decode cX12_parseStatement 10 = .ok (.invokevirtual 233, 3) := by decide +kernel
theorem dX12_parseStatement_13 : decode cX12_parseStatement 13 = .ok (.goto 58, 3) := by decide +kernel
theorem dX12_parseStatement_16 : decode cX12_parseStatement 16 = .ok (.aload_n 0, 1) := by decide +kernel
theorem dX12_parseStatement_17 : decode cX12_parseStatement 17 = .ok (.ldc 236, 2) := by decide +kernel
theorem dX12_parseStatement_19 : decode cX12_parseStatement 19 = .ok (.invokevirtual 175, 3) := by decide +kernel
theorem dX12_parseStatement_22 : decode cX12_parseStatement 22 = .ok (.ifCond .eq 11, 3) := by decide +kernel
theorem dX12_parseStatement_25 : decode cX12_parseStatement 25 = .ok (.aload_n 0, 1) := by decide +kernel
theorem dX12_parseStatement_26 : decode cX12_parseStatement 26 = .ok (.iconst 1, 1) := by decide +kernel
theorem dX12_parseStatement_27 : decode cX12_parseStatement 27 = .ok (.invokevirtual 238, 3) := by decide +kernel
theorem dX12_parseStatement_30 : decode cX12_parseStatement 30 = .ok (.goto 41, 3) := by decide +kernel
theorem dX12_parseStatement_33 : decode cX12_parseStatement 33 = .ok (.aload_n 0, 1) := by decide +kernel
theorem dX12_parseStatement_34 : decode cX12_parseStatement 34 = .ok (.ldc 242, 2) := by decide +kernel
theorem dX12_parseStatement_36 : decode cX12_parseStatement 36 = .ok (.invokevirtual 175, 3) := by decide +kernel
theorem dX12_parseStatement_39 : decode cX12_parseStatement 39 = .ok (.ifCond .eq 11, 3) := by decide +kernel
theorem dX12_parseStatement_42 : decode cX12_parseStatement 42 = .ok (.aload_n 0, 1) := by decide +kernel
theorem dX12_parseStatement_43 : decode cX12_parseStatement 43 = .ok (.iconst 0, 1) := by decide +kernel
theorem dX12_parseStatement_44 : decode cX12_parseStatement 44 = .ok (.invokevirtual 238, 3) := by decide +kernel
theorem dX12_parseStatement_47 : decode cX12_parseStatement 47 = .ok (.goto 24, 3) := by decide +kernel
theorem dX12_parseStatement_50 : decode cX12_parseStatement 50 = .ok (.aload_n 0, 1) := by decide +kernel
theorem dX12_parseStatement_51 : decode cX12_parseStatement 51 = .ok (.ldc 244, 2) := by decide +kernel
theorem dX12_parseStatement_53 : decode cX12_parseStatement 53 = .ok (.invokevirtual 175, 3) := by decide +kernel
theorem dX12_parseStatement_56 : decode cX12_parseStatement 56 = .ok (.ifCond .eq 10, 3) := by decide +kernel
theorem dX12_parseStatement_59 : decode cX12_parseStatement 59 = .ok (.aload_n 0, 1) := by decide +kernel
theorem dX12_parseStatement_60 : decode cX12_parseStatement 60 = .ok (.invokevirtual 246, 3) := by decide +kernel
theorem dX12_parseStatement_63 : decode cX12_parseStatement 63 = .ok (.goto 8, 3) := by decide +kernel
theorem dX12_parseStatement_66 : decode cX12_parseStatement 66 = .ok (.aload_n 0, 1) := by decide +kernel
theorem dX12_parseStatement_67 : decode cX12_parseStatement 67 = .ok (.iconst 1, 1) := by decide +kernel
theorem dX12_parseStatement_68 : decode cX12_parseStatement 68 = .ok (.invokevirtual 179, 3) := by decide +kernel
theorem dX12_parseStatement_71 : decode cX12_parseStatement 71 = .ok (.aload_n 0, 1) := by decide +kernel
theorem dX12_parseStatement_72 : decode cX12_parseStatement 72 = .ok (.invokevirtual 249, 3) := by decide +kernel
theorem dX12_parseStatement_75 : decode cX12_parseStatement 75 = .ok (.return_, 1) := by decide +kernel
theorem dX12_load_0 : decode cX12_load 0 = .ok (.aload_n 0, 1) := by decide +kernel
theorem dX12_load_1 : decode cX12_load 1 = .ok (.iconst 0, 1) := by decide +kernel
theorem dX12_load_2 : decode cX12_load 2 = .ok (.putfield 3, 3) := by decide +kernel
theorem dX12_load_5 : decode cX12_load 5 = .ok (.aload_n 0, 1) := by decide +kernel
theorem dX12_load_6 : decode cX12_load 6 = .ok (.aload_n 0, 1) := by decide +kernel
theorem dX12_load_7 : decode cX12_load 7 = .ok (.getfield 111, 3) := by decide +kernel
theorem dX12_load_10 : decode cX12_load 10 = .ok (.putfield 132, 3) := by decide +kernel
theorem dX12_load_13 : decode cX12_load 13 = .ok (.aload_n 0, 1) := by decide +kernel
theorem dX12_load_14 : decode cX12_load 14 = .ok (.iconst 0, 1) := by decide +kernel
theorem dX12_load_15 : decode cX12_load 15 = .ok (.putfield 111, 3) := by decide +kernel
theorem dX12_load_18 : decode cX12_load 18 = .ok (.aload_n 0, 1) := by decide +kernel
theorem dX12_load_19 : decode cX12_load 19 = .ok (.iconst 0, 1) := by decide +kernel
theorem dX12_load_20 : decode cX12_load 20 = .ok (.putfield 135, 3) := by decide +kernel
theorem dX12_load_23 : decode cX12_load 23 = .ok (.aload_n 0, 1) := by decide +kernel
theorem dX12_load_24 : decode cX12_load 24 = .ok (.iconst 0, 1) := by decide +kernel
theorem dX12_load_25 : decode cX12_load 25 = .ok (.putfield 122, 3) := by decide +kernel
theorem dX12_load_28 : decode cX12_load 28 = .ok (.aload_n 0, 1) := by decide +kernel
theorem dX12_load_29 : decode cX12_load 29 = .ok (.iconst (-1), 1) := by decide +kernel
theorem dX12_load_30 : decode cX12_load 30 = .ok (.putfield 31, 3) := by decide +kernel
theorem dX12_load_33 : decode cX12_load 33 = .ok (.aload_n 0, 1) := by decide +kernel
theorem dX12_load_34 : decode cX12_load 34 = .ok (.iconst 0, 1) := by decide +kernel
theorem dX12_load_35 : decode cX12_load 35 = .ok (.putfield 199, 3) := by decide +kernel
theorem dX12_load_38 : decode cX12_load 38 = .ok (.aload_n 0, 1) := by decide +kernel
theorem dX12_load_39 : decode cX12_load 39 = .ok (.iconst 0, 1) := by decide +kernel
theorem dX12_load_40 : decode cX12_load 40 = .ok (.putfield 215, 3) := by decide +kernel
theorem dX12_load_43 : decode cX12_load 43 = .ok (.aload_n 0, 1) := by decide +kernel
theorem dX12_load_44 : decode cX12_load 44 = .ok (.iconst 0, 1) := by decide +kernel
theorem dX12_load_45 : decode cX12_load 45 = .ok (.putfield 228, 3) := by decide +kernel
theorem dX12_load_48 : decode cX12_load 48 = .ok (.iconst 0, 1) := by decide +kernel
theorem dX12_load_49 : decode cX12_load 49 = .ok (.istore_n 1, 1) := by decide +kernel
theorem dX12_load_50 : decode cX12_load 50 = .ok (.iload_n 1, 1) := by decide +kernel
theorem dX12_load_51 : decode cX12_load 51 = .ok (.sipush 2460, 3) := by decide +kernel
theorem dX12_load_54 : decode cX12_load 54 = .ok (.if_icmp .ge 16, 3) := by decide +kernel
theorem dX12_load_57 : decode cX12_load 57 = .ok (.aload_n 0, 1) := by decide +kernel
theorem dX12_load_58 : decode cX12_load 58 = .ok (.getfield 21, 3) := by decide +kernel
theorem dX12_load_61 : decode cX12_load 61 = .ok (.iload_n 1, 1) := by decide +kernel
theorem dX12_load_62 : decode cX12_load 62 = .ok (.iconst 0, 1) := by decide +kernel
theorem dX12_load_63 : decode cX12_load 63 = .ok (.iastore, 1) := by decide +kernel
theorem dX12_load_64 : decode cX12_load 64 = .ok (.iinc 1 1, 3) := by decide +kernel
theorem dX12_load_67 : decode cX12_load 67 = .ok (.goto (-17), 3) := by decide +kernel
theorem dX12_load_70 : decode cX12_load 70 = .ok (.aload_n 0, 1) := by decide +kernel
theorem dX12_load_71 : decode cX12_load 71 = .ok (.getfield 21, 3) := by decide +kernel
theorem dX12_load_74 : decode cX12_load 74 = .ok (.invokestatic 99, 3) := by decide +kernel
theorem dX12_load_77 : decode cX12_load 77 = .ok (.aload_n 0, 1) := by decide +kernel
theorem dX12_load_78 : decode cX12_load 78 = .ok (.aload_n 0, 1) := by decide +kernel
theorem dX12_load_79 : decode cX12_load 79 = .ok (.getfield 21, 3) := by decide +kernel
theorem dX12_load_82 : decode cX12_load 82 = .ok (.putfield 24, 3) := by decide +kernel
theorem dX12_load_85 : decode cX12_load 85 = .ok (.aload_n 0, 1) := by decide +kernel
theorem dX12_load_86 : decode cX12_load 86 = .ok (.invokevirtual 162, 3) := by decide +kernel
theorem dX12_load_89 : decode cX12_load 89 = .ok (.aload_n 0, 1) := by decide +kernel
theorem dX12_load_90 : decode cX12_load 90 = .ok (.ldc 252, 2) := by decide +kernel
theorem dX12_load_92 : decode cX12_load 92 = .ok (.invokevirtual 185, 3) := by decide +kernel
theorem dX12_load_95 : decode cX12_load 95 = .ok (.aload_n 0, 1) := by decide +kernel
theorem dX12_load_96 : decode cX12_load 96 = .ok (.getfield 24, 3) := by decide +kernel
theorem dX12_load_99 : decode cX12_load 99 = .ok (.iconst 0, 1) := by decide +kernel
theorem dX12_load_100 : decode cX12_load 100 = .ok (.aload_n 0, 1) := by decide +kernel
theorem dX12_load_101 : decode cX12_load 101 = .ok (.ldc 254, 2) := by decide +kernel
theorem dX12_load_103 : decode cX12_load 103 = .ok (.bipush 20, 2) := by decide +kernel
theorem dX12_load_105 : decode cX12_load 105 = .ok (.bipush 120, 2) := by decide +kernel
theorem dX12_load_107 : decode cX12_load 107 = .ok (.invokevirtual 208, 3) := by decide +kernel
theorem dX12_load_110 : decode cX12_load 110 = .ok (.iastore, 1) := by decide +kernel
theorem dX12_load_111 : decode cX12_load 111 = .ok (.aload_n 0, 1) := by decide +kernel
theorem dX12_load_112 : decode cX12_load 112 = .ok (.getfield 24, 3) := by decide +kernel
theorem dX12_load_115 : decode cX12_load 115 = .ok (.iconst 1, 1) := by decide +kernel
theorem dX12_load_116 : decode cX12_load 116 = .ok (.aload_n 0, 1) := by decide +kernel
theorem dX12_load_117 : decode cX12_load 117 = .ok (.ldc 206, 2) := by decide +kernel
theorem dX12_load_119 : decode cX12_load 119 = .ok (.iconst 2, 1) := by decide +kernel
theorem dX12_load_120 : decode cX12_load 120 = .ok (.bipush 60, 2) := by decide +kernel
theorem dX12_load_122 : decode cX12_load 122 = .ok (.invokevirtual 208, 3) := by decide +kernel
theorem dX12_load_125 : decode cX12_load 125 = .ok (.iastore, 1) := by decide +kernel
theorem dX12_load_126 : decode cX12_load 126 = .ok (.aload_n 0, 1) := by decide +kernel
theorem dX12_load_127 : decode cX12_load 127 = .ok (.getfield 24, 3) := by decide +kernel
theorem dX12_load_130 : decode cX12_load 130 = .ok (.iconst 2, 1) := by decide +kernel
theorem dX12_load_131 : decode cX12_load 131 = .ok (.aload_n 0, 1) := by decide +kernel
theorem dX12_load_132 : decode cX12_load 132 = .ok (.ldc_w 256, 3) := by decide +kernel
theorem dX12_load_135 : decode cX12_load 135 = .ok (.iconst 5, 1) := by decide +kernel
theorem dX12_load_136 : decode cX12_load 136 = .ok (.bipush 99, 2) := by decide +kernel
theorem dX12_load_138 : decode cX12_load 138 = .ok (.invokevirtual 208, 3) := by decide +kernel
theorem dX12_load_141 : decode cX12_load 141 = .ok (.iastore, 1) := by decide +kernel
theorem dX12_load_142 : decode cX12_load 142 = .ok (.aload_n 0, 1) := by decide +kernel
theorem dX12_load_143 : decode cX12_load 143 = .ok (.invokevirtual 249, 3) := by decide +kernel
theorem dX12_load_146 : decode cX12_load 146 = .ok (.aload_n 0, 1) := by decide +kernel
theorem dX12_load_147 : decode cX12_load 147 = .ok (.invokevirtual 125, 3) := by decide +kernel
theorem dX12_load_150 : decode cX12_load 150 = .ok (.ifCond .eq 17, 3) := by decide +kernel
theorem dX12_load_153 : decode cX12_load 153 = .ok (.aload_n 0, 1) := by decide +kernel
theorem dX12_load_154 : decode cX12_load 154 = .ok (.getfield 142, 3) := by decide +kernel
theorem dX12_load_157 : decode cX12_load 157 = .ok (.ifCond .eq 10, 3) := by decide +kernel
theorem dX12_load_160 : decode cX12_load 160 = .ok (.aload_n 0, 1) := by decide +kernel
theorem dX12_load_161 : decode cX12_load 161 = .ok (.invokevirtual 258, 3) := by decide +kernel
theorem dX12_load_164 : decode cX12_load 164 = .ok (.goto (-18), 3) := by decide +kernel
theorem dX12_load_167 : decode cX12_load 167 = .ok (.aload_n 0, 1) := by decide +kernel
theorem dX12_load_168 : decode cX12_load 168 = .ok (.aload_n 0, 1) := by decide +kernel
theorem dX12_load_169 : decode cX12_load 169 = .ok (.getfield 17, 3) := by decide +kernel
theorem dX12_load_172 : decode cX12_load 172 = .ok (.putfield 24, 3) := by decide +kernel
theorem dX12_load_175 : decode cX12_load 175 = .ok (.aload_n 0, 1) := by decide +kernel
theorem dX12_load_176 : decode cX12_load 176 = .ok (.invokevirtual 125, 3) := by decide +kernel
theorem dX12_load_179 : decode cX12_load 179 = .ok (.ifCond .ne 6, 3) := by decide +kernel
theorem dX12_load_182 : decode cX12_load 182 = .ok (.bipush (-4), 2) := by decide +kernel
theorem dX12_load_184 : decode cX12_load 184 = .ok (.ireturn, 1) := by decide +kernel
theorem dX12_load_185 : decode cX12_load 185 = .ok (.aload_n 0, 1) := by decide +kernel
theorem dX12_load_186 : decode cX12_load 186 = .ok (.invokevirtual 261, 3) := by decide +kernel
theorem dX12_load_189 : decode cX12_load 189 = .ok (.iconst 0, 1) := by decide +kernel
theorem dX12_load_190 : decode cX12_load 190 = .ok (.istore_n 1, 1) := by decide +kernel
theorem dX12_load_191 : decode cX12_load 191 = .ok (.iload_n 1, 1) := by decide +kernel
theorem dX12_load_192 : decode cX12_load 192 = .ok (.sipush 2460, 3) := by decide +kernel
theorem dX12_load_195 : decode cX12_load 195 = .ok (.if_icmp .ge 21, 3) := by decide +kernel
theorem dX12_load_198 : decode cX12_load 198 = .ok (.aload_n 0, 1) := by decide +kernel
theorem dX12_load_199 : decode cX12_load 199 = .ok (.getfield 17, 3) := by decide +kernel
theorem dX12_load_202 : decode cX12_load 202 = .ok (.iload_n 1, 1) := by decide +kernel
theorem dX12_load_203 : decode cX12_load 203 = .ok (.aload_n 0, 1) := by decide +kernel
theorem dX12_load_204 : decode cX12_load 204 = .ok (.getfield 21, 3) := by decide +kernel
theorem dX12_load_207 : decode cX12_load 207 = .ok (.iload_n 1, 1) := by decide +kernel
theorem dX12_load_208 : decode cX12_load 208 = .ok (.iaload, 1) := by decide +kernel
theorem dX12_load_209 : decode cX12_load 209 = .ok (.iastore, 1) := by decide +kernel
theorem dX12_load_210 : decode cX12_load 210 = .ok (.iinc 1 1, 3) := by decide +kernel
theorem dX12_load_213 : decode cX12_load 213 = .ok (.goto (-22), 3) := by decide +kernel
theorem dX12_load_216 : decode cX12_load 216 = .ok (.aload_n 0, 1) := by decide +kernel
theorem dX12_load_217 : decode cX12_load 217 = .ok (.getfield 17, 3) := by decide +kernel
theorem dX12_load_220 : decode cX12_load 220 = .ok (.bipush 9, 2) := by decide +kernel
theorem dX12_load_222 : decode cX12_load 222 = .ok (.iaload, 1) := by decide +kernel
theorem dX12_load_223 : decode cX12_load 223 = .ok (.ireturn, 1) := by decide +kernel
theorem dX12_errorCode_0 : decode cX12_errorCode 0 = .ok (.aload_n 0, 1) := by decide +kernel
theorem dX12_errorCode_1 : decode cX12_errorCode 1 = .ok (.iconst 0, 1) := by decide +kernel
theorem dX12_errorCode_2 : decode cX12_errorCode 2 = .ok (.putfield 3, 3) := by decide +kernel
theorem dX12_errorCode_5 : decode cX12_errorCode 5 = .ok (.aload_n 0, 1) := by decide +kernel
theorem dX12_errorCode_6 : decode cX12_errorCode 6 = .ok (.getfield 122, 3) := by decide +kernel
theorem dX12_errorCode_9 : decode cX12_errorCode 9 = .ok (.ireturn, 1) := by decide +kernel
theorem dX12_errorPosition_0 : decode cX12_errorPosition 0 = .ok (.aload_n 0, 1) := by decide +kernel
theorem dX12_errorPosition_1 : decode cX12_errorPosition 1 = .ok (.iconst 0, 1) := by decide +kernel
theorem dX12_errorPosition_2 : decode cX12_errorPosition 2 = .ok (.putfield 3, 3) := by decide +kernel
theorem dX12_errorPosition_5 : decode cX12_errorPosition 5 = .ok (.aload_n 0, 1) := by decide +kernel
theorem dX12_errorPosition_6 : decode cX12_errorPosition 6 = .ok (.getfield 31, 3) := by decide +kernel
theorem dX12_errorPosition_9 : decode cX12_errorPosition 9 = .ok (.ireturn, 1) := by decide +kernel
theorem dX12_put_0 : decode cX12_put 0 = .ok (.aload_n 0, 1) := by decide +kernel
theorem dX12_put_1 : decode cX12_put 1 = .ok (.getfield 34, 3) := by decide +kernel
theorem dX12_put_4 : decode cX12_put 4 = .ok (.aload_n 0, 1) := by decide +kernel
theorem dX12_put_5 : decode cX12_put 5 = .ok (.getfield 264, 3) := by decide +kernel
theorem dX12_put_8 : decode cX12_put 8 = .ok (.iload_n 1, 1) := by decide +kernel
theorem dX12_put_9 : decode cX12_put 9 = .ok (.i2b, 1) := by decide +kernel
theorem dX12_put_10 : decode cX12_put 10 = .ok (.bastore, 1) := by decide +kernel
theorem dX12_put_11 : decode cX12_put 11 = .ok (.aload_n 0, 1) := by decide +kernel
theorem dX12_put_12 : decode cX12_put 12 = .ok (.dup, 1) := by decide +kernel
theorem dX12_put_13 : decode cX12_put 13 = .ok (.getfield 264, 3) := by decide +kernel
theorem dX12_put_16 : decode cX12_put 16 = .ok (.iconst 1, 1) := by decide +kernel
theorem dX12_put_17 : decode cX12_put 17 = .ok (.iadd, 1) := by decide +kernel
theorem dX12_put_18 : decode cX12_put 18 = .ok (.putfield 264, 3) := by decide +kernel
theorem dX12_put_21 : decode cX12_put 21 = .ok (.return_, 1) := by decide +kernel
theorem dX12_putNumber_0 : decode cX12_putNumber 0 = .ok (.iconst 1, 1) := by decide +kernel
theorem dX12_putNumber_1 : decode cX12_putNumber 1 = .ok (.istore_n 2, 1) := by decide +kernel
theorem dX12_putNumber_2 : decode cX12_putNumber 2 = .ok (.iload_n 1, 1) := by decide +kernel
theorem dX12_putNumber_3 : decode cX12_putNumber 3 = .ok (.iload_n 2, 1) := by decide +kernel
theorem dX12_putNumber_4 : decode cX12_putNumber 4 = .ok (.idiv, 1) := by decide +kernel
theorem dX12_putNumber_5 : decode cX12_putNumber 5 = .ok (.bipush 10, 2) := by decide +kernel
theorem dX12_putNumber_7 : decode cX12_putNumber 7 = .ok (.if_icmp .lt 11, 3) := by decide +kernel
theorem dX12_putNumber_10 : decode cX12_putNumber 10 = .ok (.iload_n 2, 1) := by decide +kernel
theorem dX12_putNumber_11 : decode cX12_putNumber 11 = .ok (.bipush 10, 2) := by decide +kernel
theorem dX12_putNumber_13 : decode cX12_putNumber 13 = .ok (.imul, 1) := by decide +kernel
theorem dX12_putNumber_14 : decode cX12_putNumber 14 = .ok (.istore_n 2, 1) := by decide +kernel
theorem dX12_putNumber_15 : decode cX12_putNumber 15 = .ok (.goto (-13), 3) := by decide +kernel
theorem dX12_putNumber_18 : decode cX12_putNumber 18 = .ok (.iload_n 2, 1) := by decide +kernel
theorem dX12_putNumber_19 : decode cX12_putNumber 19 = .ok (.istore_n 3, 1) := by decide +kernel
theorem dX12_putNumber_20 : decode cX12_putNumber 20 = .ok (.iload_n 3, 1) := by decide +kernel
theorem dX12_putNumber_21 : decode cX12_putNumber 21 = .ok (.ifCond .le 24, 3) := by decide +kernel
theorem dX12_putNumber_24 : decode cX12_putNumber 24 = .ok (.aload_n 0, 1) := by decide +kernel
theorem dX12_putNumber_25 : decode cX12_putNumber 25 = .ok (.bipush 48, 2) := by decide +kernel
theorem dX12_putNumber_27 : decode cX12_putNumber 27 = .ok (.iload_n 1, 1) := by decide +kernel
theorem dX12_putNumber_28 : decode cX12_putNumber 28 = .ok (.iload_n 3, 1) := by decide +kernel
theorem dX12_putNumber_29 : decode cX12_putNumber 29 = .ok (.idiv, 1) := by decide +kernel
theorem dX12_putNumber_30 : decode cX12_putNumber 30 = .ok (.bipush 10, 2) := by decide +kernel
theorem dX12_putNumber_32 : decode cX12_putNumber 32 = .ok (.irem, 1) := by decide +kernel
theorem dX12_putNumber_33 : decode cX12_putNumber 33 = .ok (.iadd, 1) := by decide +kernel
theorem dX12_putNumber_34 : decode cX12_putNumber 34 = .ok (.invokevirtual 267, 3) := by decide +kernel
theorem dX12_putNumber_37 : decode cX12_putNumber 37 = .ok (.iload_n 3, 1) := by decide +kernel
theorem dX12_putNumber_38 : decode cX12_putNumber 38 = .ok (.bipush 10, 2) := by decide +kernel
theorem dX12_putNumber_40 : decode cX12_putNumber 40 = .ok (.idiv, 1) := by decide +kernel
theorem dX12_putNumber_41 : decode cX12_putNumber 41 = .ok (.istore_n 3, 1) := by decide +kernel
theorem dX12_putNumber_42 : decode cX12_putNumber 42 = .ok (.goto (-22), 3) := by decide +kernel
theorem dX12_putNumber_45 : decode cX12_putNumber 45 = .ok (.return_, 1) := by decide +kernel
theorem dX12_putWord_0 : decode cX12_putWord 0 = .ok (.iconst 0, 1) := by decide +kernel
theorem dX12_putWord_1 : decode cX12_putWord 1 = .ok (.istore_n 3, 1) := by decide +kernel
theorem dX12_putWord_2 : decode cX12_putWord 2 = .ok (.iload_n 3, 1) := by decide +kernel
theorem dX12_putWord_3 : decode cX12_putWord 3 = .ok (.bipush 12, 2) := by decide +kernel
theorem dX12_putWord_5 : decode cX12_putWord 5 = .ok (.if_icmp .ge 30, 3) := by decide +kernel
theorem dX12_putWord_8 : decode cX12_putWord 8 = .ok (.aload_n 0, 1) := by decide +kernel
theorem dX12_putWord_9 : decode cX12_putWord 9 = .ok (.iload_n 1, 1) := by decide +kernel
theorem dX12_putWord_10 : decode cX12_putWord 10 = .ok (.iload_n 2, 1) := by decide +kernel
theorem dX12_putWord_11 : decode cX12_putWord 11 = .ok (.iload_n 3, 1) := by decide +kernel
theorem dX12_putWord_12 : decode cX12_putWord 12 = .ok (.invokevirtual 270, 3) := by decide +kernel
theorem dX12_putWord_15 : decode cX12_putWord 15 = .ok (.ifCond .eq 20, 3) := by decide +kernel
theorem dX12_putWord_18 : decode cX12_putWord 18 = .ok (.aload_n 0, 1) := by decide +kernel
theorem dX12_putWord_19 : decode cX12_putWord 19 = .ok (.aload_n 0, 1) := by decide +kernel
theorem dX12_putWord_20 : decode cX12_putWord 20 = .ok (.iload_n 1, 1) := by decide +kernel
theorem dX12_putWord_21 : decode cX12_putWord 21 = .ok (.iload_n 2, 1) := by decide +kernel
theorem dX12_putWord_22 : decode cX12_putWord 22 = .ok (.iload_n 3, 1) := by decide +kernel
theorem dX12_putWord_23 : decode cX12_putWord 23 = .ok (.invokevirtual 270, 3) := by decide +kernel
theorem dX12_putWord_26 : decode cX12_putWord 26 = .ok (.invokevirtual 267, 3) := by decide +kernel
theorem dX12_putWord_29 : decode cX12_putWord 29 = .ok (.iinc 3 1, 3) := by decide +kernel
theorem dX12_putWord_32 : decode cX12_putWord 32 = .ok (.goto (-30), 3) := by decide +kernel
theorem dX12_putWord_35 : decode cX12_putWord 35 = .ok (.return_, 1) := by decide +kernel
theorem dX12_putRomanFigure_0 : decode cX12_putRomanFigure 0 = .ok (.iload_n 1, 1) := by decide +kernel
theorem dX12_putRomanFigure_1 : decode cX12_putRomanFigure 1 = .ok (.iconst 4, 1) := by decide +kernel
theorem dX12_putRomanFigure_2 : decode cX12_putRomanFigure 2 = .ok (.if_icmp .eq 9, 3) := by decide +kernel
theorem dX12_putRomanFigure_5 : decode cX12_putRomanFigure 5 = .ok (.iload_n 1, 1) := by decide +kernel
theorem dX12_putRomanFigure_6 : decode cX12_putRomanFigure 6 = .ok (.bipush 9, 2) := by decide +kernel
theorem dX12_putRomanFigure_8 : decode cX12_putRomanFigure 8 = .ok (.if_icmp .ne 8, 3) := by decide +kernel
theorem dX12_putRomanFigure_11 : decode cX12_putRomanFigure 11 = .ok (.aload_n 0, 1) := by decide +kernel
theorem dX12_putRomanFigure_12 : decode cX12_putRomanFigure 12 = .ok (.iload_n 2, 1) := by decide +kernel
theorem dX12_putRomanFigure_13 : decode cX12_putRomanFigure 13 = .ok (.invokevirtual 267, 3) := by decide +kernel
theorem dX12_putRomanFigure_16 : decode cX12_putRomanFigure 16 = .ok (.iload_n 1, 1) := by decide +kernel
theorem dX12_putRomanFigure_17 : decode cX12_putRomanFigure 17 = .ok (.bipush 9, 2) := by decide +kernel
theorem dX12_putRomanFigure_19 : decode cX12_putRomanFigure 19 = .ok (.if_icmp .ne 9, 3) := by decide +kernel
theorem dX12_putRomanFigure_22 : decode cX12_putRomanFigure 22 = .ok (.aload_n 0, 1) := by decide +kernel
theorem dX12_putRomanFigure_23 : decode cX12_putRomanFigure 23 = .ok (.iload 4, 2) := by decide +kernel
theorem dX12_putRomanFigure_25 : decode cX12_putRomanFigure 25 = .ok (.invokevirtual 267, 3) := by decide +kernel
theorem dX12_putRomanFigure_28 : decode cX12_putRomanFigure 28 = .ok (.iload_n 1, 1) := by decide +kernel
theorem dX12_putRomanFigure_29 : decode cX12_putRomanFigure 29 = .ok (.iconst 4, 1) := by decide +kernel
theorem dX12_putRomanFigure_30 : decode cX12_putRomanFigure 30 = .ok (.if_icmp .lt 14, 3) := by decide +kernel
theorem dX12_putRomanFigure_33 : decode cX12_putRomanFigure 33 = .ok (.iload_n 1, 1) := by decide +kernel
theorem dX12_putRomanFigure_34 : decode cX12_putRomanFigure 34 = .ok (.bipush 8, 2) := by decide +kernel
theorem dX12_putRomanFigure_36 : decode cX12_putRomanFigure 36 = .ok (.if_icmp .gt 8, 3) := by decide +kernel
theorem dX12_putRomanFigure_39 : decode cX12_putRomanFigure 39 = .ok (.aload_n 0, 1) := by decide +kernel
theorem dX12_putRomanFigure_40 : decode cX12_putRomanFigure 40 = .ok (.iload_n 3, 1) := by decide +kernel
theorem dX12_putRomanFigure_41 : decode cX12_putRomanFigure 41 = .ok (.invokevirtual 267, 3) := by decide +kernel
theorem dX12_putRomanFigure_44 : decode cX12_putRomanFigure 44 = .ok (.iload_n 1, 1) := by decide +kernel
theorem dX12_putRomanFigure_45 : decode cX12_putRomanFigure 45 = .ok (.iconst 4, 1) := by decide +kernel
theorem dX12_putRomanFigure_46 : decode cX12_putRomanFigure 46 = .ok (.if_icmp .eq 9, 3) := by decide +kernel
theorem dX12_putRomanFigure_49 : decode cX12_putRomanFigure 49 = .ok (.iload_n 1, 1) := by decide +kernel
theorem dX12_putRomanFigure_50 : decode cX12_putRomanFigure 50 = .ok (.bipush 9, 2) := by decide +kernel
theorem dX12_putRomanFigure_52 : decode cX12_putRomanFigure 52 = .ok (.if_icmp .ne 7, 3) := by decide +kernel
theorem dX12_putRomanFigure_55 : decode cX12_putRomanFigure 55 = .ok (.iconst 0, 1) := by decide +kernel
theorem dX12_putRomanFigure_56 : decode cX12_putRomanFigure 56 = .ok (.goto 6, 3) := by decide +kernel
theorem dX12_putRomanFigure_59 : decode cX12_putRomanFigure 59 = .ok (.iload_n 1, 1) := by decide +kernel
theorem dX12_putRomanFigure_60 : decode cX12_putRomanFigure 60 = .ok (.iconst 5, 1) := by decide +kernel
theorem dX12_putRomanFigure_61 : decode cX12_putRomanFigure 61 = .ok (.irem, 1) := by decide +kernel
theorem dX12_putRomanFigure_62 : decode cX12_putRomanFigure 62 = .ok (.istore 5, 2) := by decide +kernel
theorem dX12_putRomanFigure_64 : decode cX12_putRomanFigure 64 = .ok (.iconst 0, 1) := by decide +kernel
theorem dX12_putRomanFigure_65 : decode cX12_putRomanFigure 65 = .ok (.istore 6, 2) := by decide +kernel
theorem dX12_putRomanFigure_67 : decode cX12_putRomanFigure 67 = .ok (.iload 6, 2) := by decide +kernel
theorem dX12_putRomanFigure_69 : decode cX12_putRomanFigure 69 = .ok (.iload 5, 2) := by decide +kernel
theorem dX12_putRomanFigure_71 : decode cX12_putRomanFigure 71 = .ok (.if_icmp .ge 14, 3) := by decide +kernel
theorem dX12_putRomanFigure_74 : decode cX12_putRomanFigure 74 = .ok (.aload_n 0, 1) := by decide +kernel
theorem dX12_putRomanFigure_75 : decode cX12_putRomanFigure 75 = .ok (.iload_n 2, 1) := by decide +kernel
theorem dX12_putRomanFigure_76 : decode cX12_putRomanFigure 76 = .ok (.invokevirtual 267, 3) := by decide +kernel
theorem dX12_putRomanFigure_79 : decode cX12_putRomanFigure 79 = .ok (.iinc 6 1, 3) := by decide +kernel
theorem dX12_putRomanFigure_82 : decode cX12_putRomanFigure 82 = .ok (.goto (-15), 3) := by decide +kernel
theorem dX12_putRomanFigure_85 : decode cX12_putRomanFigure 85 = .ok (.return_, 1) := by decide +kernel
theorem dX12_putRoman_0 : decode cX12_putRoman 0 = .ok (.iconst 0, 1) := by decide +kernel
theorem dX12_putRoman_1 : decode cX12_putRoman 1 = .ok (.istore_n 2, 1) := by decide +kernel
theorem dX12_putRoman_2 : decode cX12_putRoman 2 = .ok (.iload_n 2, 1) := by decide +kernel
theorem dX12_putRoman_3 : decode cX12_putRoman 3 = .ok (.iload_n 1, 1) := by decide +kernel
theorem dX12_putRoman_4 : decode cX12_putRoman 4 = .ok (.sipush 1000, 3) := by decide +kernel
theorem dX12_putRoman_7 : decode cX12_putRoman 7 = .ok (.idiv, 1) := by decide +kernel
theorem dX12_putRoman_8 : decode cX12_putRoman 8 = .ok (.if_icmp .ge 15, 3) := by decide +kernel
theorem dX12_putRoman_11 : decode cX12_putRoman 11 = .ok (.aload_n 0, 1) := by decide +kernel
theorem dX12_putRoman_12 : decode cX12_putRoman 12 = .ok (.bipush 109, 2) := by decide +kernel
theorem dX12_putRoman_14 : decode cX12_putRoman 14 = .ok (.invokevirtual 267, 3) := by decide +kernel
theorem dX12_putRoman_17 : decode cX12_putRoman 17 = .ok (.iinc 2 1, 3) := by decide +kernel
theorem dX12_putRoman_20 : decode cX12_putRoman 20 = .ok (.goto (-18), 3) := by decide +kernel
theorem dX12_putRoman_23 : decode cX12_putRoman 23 = .ok (.aload_n 0, 1) := by decide +kernel
theorem dX12_putRoman_24 : decode cX12_putRoman 24 = .ok (.iload_n 1, 1) := by decide +kernel
theorem dX12_putRoman_25 : decode cX12_putRoman 25 = .ok (.bipush 100, 2) := by decide +kernel
theorem dX12_putRoman_27 : decode cX12_putRoman 27 = .ok (.idiv, 1) := by decide +kernel
theorem dX12_putRoman_28 : decode cX12_putRoman 28 = .ok (.bipush 10, 2) := by decide +kernel
theorem dX12_putRoman_30 : decode cX12_putRoman 30 = .ok (.irem, 1) := by decide +kernel
theorem dX12_putRoman_31 : decode cX12_putRoman 31 = .ok (.bipush 99, 2) := by decide +kernel
theorem dX12_putRoman_33 : decode cX12_putRoman 33 = .ok (.bipush 100, 2) := by decide +kernel
theorem dX12_putRoman_35 : decode cX12_putRoman 35 = .ok (.bipush 109, 2) := by decide +kernel
theorem dX12_putRoman_37 : decode cX12_putRoman 37 = .ok (.invokevirtual 274, 3) := by decide +kernel
theorem dX12_putRoman_40 : decode cX12_putRoman 40 = .ok (.aload_n 0, 1) := by decide +kernel
theorem dX12_putRoman_41 : decode cX12_putRoman 41 = .ok (.iload_n 1, 1) := by decide +kernel
theorem dX12_putRoman_42 : decode cX12_putRoman 42 = .ok (.bipush 10, 2) := by decide +kernel
theorem dX12_putRoman_44 : decode cX12_putRoman 44 = .ok (.idiv, 1) := by decide +kernel
theorem dX12_putRoman_45 : decode cX12_putRoman 45 = .ok (.bipush 10, 2) := by decide +kernel
