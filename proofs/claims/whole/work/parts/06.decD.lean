theorem dX12_leaves_0 : decode cX12_leaves 0 = .ok (.aload_n 0, 1) := by decide +kernel
theorem dX12_leaves_1 : decode cX12_leaves 1 = .ok (.getfield 102, 3) := by decide +kernel
theorem dX12_leaves_4 : decode cX12_leaves 4 = .ok (.bipush 6, 2) := by decide +kernel
theorem dX12_leaves_6 : decode cX12_leaves 6 = .ok (.iload_n 1, 1) := by decide +kernel
theorem dX12_leaves_7 : decode cX12_leaves 7 = .ok (.imul, 1) := by decide +kernel
theorem dX12_leaves_8 : decode cX12_leaves 8 = .ok (.iload_n 2, 1) := by decide +kernel
theorem dX12_leaves_9 : decode cX12_leaves 9 = .ok (.iadd, 1) := by decide +kernel
theorem dX12_leaves_10 : decode cX12_leaves 10 = .ok (.iconst (-1), 1) := by decide +kernel
theorem dX12_leaves_11 : decode cX12_leaves 11 = .ok (.iastore, 1) := by decide +kernel
theorem dX12_leaves_12 : decode cX12_leaves 12 = .ok (.aload_n 0, 1) := by decide +kernel
theorem dX12_leaves_13 : decode cX12_leaves 13 = .ok (.getfield 105, 3) := by decide +kernel
theorem dX12_leaves_16 : decode cX12_leaves 16 = .ok (.bipush 6, 2) := by decide +kernel
theorem dX12_leaves_18 : decode cX12_leaves 18 = .ok (.iload_n 1, 1) := by decide +kernel
theorem dX12_leaves_19 : decode cX12_leaves 19 = .ok (.imul, 1) := by decide +kernel
theorem dX12_leaves_20 : decode cX12_leaves 20 = .ok (.iload_n 2, 1) := by decide +kernel
theorem dX12_leaves_21 : decode cX12_leaves 21 = .ok (.iadd, 1) := by decide +kernel
theorem dX12_leaves_22 : decode cX12_leaves 22 = .ok (.iconst 0, 1) := by decide +kernel
theorem dX12_leaves_23 : decode cX12_leaves 23 = .ok (.iastore, 1) := by decide +kernel
theorem dX12_leaves_24 : decode cX12_leaves 24 = .ok (.return_, 1) := by decide +kernel
theorem dX12_doesFlinch_0 : decode cX12_doesFlinch 0 = .ok (.aload_n 0, 1) := by decide +kernel
theorem dX12_doesFlinch_1 : decode cX12_doesFlinch 1 = .ok (.getfield 375, 3) := by decide +kernel
theorem dX12_doesFlinch_4 : decode cX12_doesFlinch 4 = .ok (.iconst 5, 1) := by decide +kernel
theorem dX12_doesFlinch_5 : decode cX12_doesFlinch 5 = .ok (.if_icmp .ne 5, 3) := by decide +kernel
theorem dX12_doesFlinch_8 : decode cX12_doesFlinch 8 = .ok (.iconst 1, 1) := by decide +kernel
theorem dX12_doesFlinch_9 : decode cX12_doesFlinch 9 = .ok (.ireturn, 1) := by decide +kernel
theorem dX12_doesFlinch_10 : decode cX12_doesFlinch 10 = .ok (.aload_n 0, 1) := by decide +kernel
theorem dX12_doesFlinch_11 : decode cX12_doesFlinch 11 = .ok (.getfield 375, 3) := by decide +kernel
theorem dX12_doesFlinch_14 : decode cX12_doesFlinch 14 = .ok (.iconst 1, 1) := by decide +kernel
theorem dX12_doesFlinch_15 : decode cX12_doesFlinch 15 = .ok (.if_icmp .ne 5, 3) := by decide +kernel
theorem dX12_doesFlinch_18 : decode cX12_doesFlinch 18 = .ok (.iconst 0, 1) := by decide +kernel
theorem dX12_doesFlinch_19 : decode cX12_doesFlinch 19 = .ok (.ireturn, 1) := by decide +kernel
theorem dX12_doesFlinch_20 : decode cX12_doesFlinch 20 = .ok (.aload_n 0, 1) := by decide +kernel
theorem dX12_doesFlinch_21 : decode cX12_doesFlinch 21 = .ok (.getfield 13, 3) := by decide +kernel
theorem dX12_doesFlinch_24 : decode cX12_doesFlinch 24 = .ok (.iconst 5, 1) := by decide +kernel
theorem dX12_doesFlinch_25 : decode cX12_doesFlinch 25 = .ok (.iaload, 1) := by decide +kernel
theorem dX12_doesFlinch_26 : decode cX12_doesFlinch 26 = .ok (.istore_n 3, 1) := by decide +kernel
theorem dX12_doesFlinch_27 : decode cX12_doesFlinch 27 = .ok (.iload_n 2, 1) := by decide +kernel
theorem dX12_doesFlinch_28 : decode cX12_doesFlinch 28 = .ok (.ifCond .eq 13, 3) := by decide +kernel
theorem dX12_doesFlinch_31 : decode cX12_doesFlinch 31 = .ok (.iload_n 3, 1) := by decide +kernel
theorem dX12_doesFlinch_32 : decode cX12_doesFlinch 32 = .ok (.ifCond .eq 9, 3) := by decide +kernel
theorem dX12_doesFlinch_35 : decode cX12_doesFlinch 35 = .ok (.iload_n 3, 1) := by decide +kernel
theorem dX12_doesFlinch_36 : decode cX12_doesFlinch 36 = .ok (.bipush 100, 2) := by decide +kernel
theorem dX12_doesFlinch_38 : decode cX12_doesFlinch 38 = .ok (.if_icmp .ne 15, 3) := by decide +kernel
theorem dX12_doesFlinch_41 : decode cX12_doesFlinch 41 = .ok (.iload_n 3, 1) := by decide +kernel
theorem dX12_doesFlinch_42 : decode cX12_doesFlinch 42 = .ok (.bipush 50, 2) := by decide +kernel
theorem dX12_doesFlinch_44 : decode cX12_doesFlinch 44 = .ok (.if_icmp .lt 7, 3) := by decide +kernel
theorem dX12_doesFlinch_47 : decode cX12_doesFlinch 47 = .ok (.iconst 1, 1) := by decide +kernel
theorem dX12_doesFlinch_48 : decode cX12_doesFlinch 48 = .ok (.goto 4, 3) := by decide +kernel
theorem dX12_doesFlinch_51 : decode cX12_doesFlinch 51 = .ok (.iconst 0, 1) := by decide +kernel
theorem dX12_doesFlinch_52 : decode cX12_doesFlinch 52 = .ok (.ireturn, 1) := by decide +kernel
theorem dX12_doesFlinch_53 : decode cX12_doesFlinch 53 = .ok (.aload_n 0, 1) := by decide +kernel
theorem dX12_doesFlinch_54 : decode cX12_doesFlinch 54 = .ok (.getfield 87, 3) := by decide +kernel
theorem dX12_doesFlinch_57 : decode cX12_doesFlinch 57 = .ok (.iload_n 1, 1) := by decide +kernel
theorem dX12_doesFlinch_58 : decode cX12_doesFlinch 58 = .ok (.aload_n 0, 1) := by decide +kernel
theorem dX12_doesFlinch_59 : decode cX12_doesFlinch 59 = .ok (.getfield 87, 3) := by decide +kernel
theorem dX12_doesFlinch_62 : decode cX12_doesFlinch 62 = .ok (.iload_n 1, 1) := by decide +kernel
theorem dX12_doesFlinch_63 : decode cX12_doesFlinch 63 = .ok (.iaload, 1) := by decide +kernel
theorem dX12_doesFlinch_64 : decode cX12_doesFlinch 64 = .ok (.ldc_w 378, 3) := by decide +kernel
theorem dX12_doesFlinch_67 : decode cX12_doesFlinch 67 = .ok (.imul, 1) := by decide +kernel
theorem dX12_doesFlinch_68 : decode cX12_doesFlinch 68 = .ok (.sipush 12345, 3) := by decide +kernel
theorem dX12_doesFlinch_71 : decode cX12_doesFlinch 71 = .ok (.iadd, 1) := by decide +kernel
theorem dX12_doesFlinch_72 : decode cX12_doesFlinch 72 = .ok (.ldc_w 381, 3) := by decide +kernel
theorem dX12_doesFlinch_75 : decode cX12_doesFlinch 75 = .ok (.iand, 1) := by decide +kernel
theorem dX12_doesFlinch_76 : decode cX12_doesFlinch 76 = .ok (.iastore, 1) := by decide +kernel
theorem dX12_doesFlinch_77 : decode cX12_doesFlinch 77 = .ok (.aload_n 0, 1) := by decide +kernel
theorem dX12_doesFlinch_78 : decode cX12_doesFlinch 78 = .ok (.getfield 87, 3) := by decide +kernel
theorem dX12_doesFlinch_81 : decode cX12_doesFlinch 81 = .ok (.iload_n 1, 1) := by decide +kernel
theorem dX12_doesFlinch_82 : decode cX12_doesFlinch 82 = .ok (.iaload, 1) := by decide +kernel
theorem dX12_doesFlinch_83 : decode cX12_doesFlinch 83 = .ok (.bipush 16, 2) := by decide +kernel
theorem dX12_doesFlinch_85 : decode cX12_doesFlinch 85 = .ok (.ishr, 1) := by decide +kernel
theorem dX12_doesFlinch_86 : decode cX12_doesFlinch 86 = .ok (.bipush 100, 2) := by decide +kernel
theorem dX12_doesFlinch_88 : decode cX12_doesFlinch 88 = .ok (.irem, 1) := by decide +kernel
theorem dX12_doesFlinch_89 : decode cX12_doesFlinch 89 = .ok (.iload_n 3, 1) := by decide +kernel
theorem dX12_doesFlinch_90 : decode cX12_doesFlinch 90 = .ok (.if_icmp .ge 7, 3) := by decide +kernel
theorem dX12_doesFlinch_93 : decode cX12_doesFlinch 93 = .ok (.iconst 1, 1) := by decide +kernel
theorem dX12_doesFlinch_94 : decode cX12_doesFlinch 94 = .ok (.goto 4, 3) := by decide +kernel
theorem dX12_doesFlinch_97 : decode cX12_doesFlinch 97 = .ok (.iconst 0, 1) := by decide +kernel
theorem dX12_doesFlinch_98 : decode cX12_doesFlinch 98 = .ok (.ireturn, 1) := by decide +kernel
theorem dX12_bears_0 : decode cX12_bears 0 = .ok (.bipush 6, 2) := by decide +kernel
theorem dX12_bears_2 : decode cX12_bears 2 = .ok (.iload_n 1, 1) := by decide +kernel
theorem dX12_bears_3 : decode cX12_bears 3 = .ok (.imul, 1) := by decide +kernel
theorem dX12_bears_4 : decode cX12_bears 4 = .ok (.iload_n 2, 1) := by decide +kernel
theorem dX12_bears_5 : decode cX12_bears 5 = .ok (.iadd, 1) := by decide +kernel
theorem dX12_bears_6 : decode cX12_bears 6 = .ok (.istore 4, 2) := by decide +kernel
theorem dX12_bears_8 : decode cX12_bears 8 = .ok (.aload_n 0, 1) := by decide +kernel
theorem dX12_bears_9 : decode cX12_bears 9 = .ok (.getfield 102, 3) := by decide +kernel
theorem dX12_bears_12 : decode cX12_bears 12 = .ok (.iload 4, 2) := by decide +kernel
theorem dX12_bears_14 : decode cX12_bears 14 = .ok (.iaload, 1) := by decide +kernel
theorem dX12_bears_15 : decode cX12_bears 15 = .ok (.istore 5, 2) := by decide +kernel
theorem dX12_bears_17 : decode cX12_bears 17 = .ok (.aload_n 0, 1) := by decide +kernel
theorem dX12_bears_18 : decode cX12_bears 18 = .ok (.iload_n 1, 1) := by decide +kernel
theorem dX12_bears_19 : decode cX12_bears 19 = .ok (.iload_n 2, 1) := by decide +kernel
theorem dX12_bears_20 : decode cX12_bears 20 = .ok (.iload 5, 2) := by decide +kernel
theorem dX12_bears_22 : decode cX12_bears 22 = .ok (.aload_n 0, 1) := by decide +kernel
theorem dX12_bears_23 : decode cX12_bears 23 = .ok (.getfield 105, 3) := by decide +kernel
theorem dX12_bears_26 : decode cX12_bears 26 = .ok (.iload 4, 2) := by decide +kernel
theorem dX12_bears_28 : decode cX12_bears 28 = .ok (.iaload, 1) := by decide +kernel
theorem dX12_bears_29 : decode cX12_bears 29 = .ok (.invokevirtual 382, 3) := by decide +kernel
theorem dX12_bears_32 : decode cX12_bears 32 = .ok (.ifCond .eq 35, 3) := by decide +kernel
theorem dX12_bears_35 : decode cX12_bears 35 = .ok (.aload_n 0, 1) := by decide +kernel
theorem dX12_bears_36 : decode cX12_bears 36 = .ok (.getfield 111, 3) := by decide +kernel
theorem dX12_bears_39 : decode cX12_bears 39 = .ok (.iload 4, 2) := by decide +kernel
theorem dX12_bears_41 : decode cX12_bears 41 = .ok (.aload_n 0, 1) := by decide +kernel
theorem dX12_bears_42 : decode cX12_bears 42 = .ok (.getfield 111, 3) := by decide +kernel
theorem dX12_bears_45 : decode cX12_bears 45 = .ok (.iload 4, 2) := by decide +kernel
theorem dX12_bears_47 : decode cX12_bears 47 = .ok (.iaload, 1) := by decide +kernel
theorem dX12_bears_48 : decode cX12_bears 48 = .ok (.aload_n 0, 1) := by decide +kernel
theorem dX12_bears_49 : decode cX12_bears 49 = .ok (.getfield 96, 3) := by decide +kernel
theorem dX12_bears_52 : decode cX12_bears 52 = .ok (.bipush 6, 2) := by decide +kernel
theorem dX12_bears_54 : decode cX12_bears 54 = .ok (.iload_n 1, 1) := by decide +kernel
theorem dX12_bears_55 : decode cX12_bears 55 = .ok (.imul, 1) := by decide +kernel
theorem dX12_bears_56 : decode cX12_bears 56 = .ok (.iload 5, 2) := by decide +kernel
theorem dX12_bears_58 : decode cX12_bears 58 = .ok (.iadd, 1) := by decide +kernel
theorem dX12_bears_59 : decode cX12_bears 59 = .ok (.iaload, 1) := by decide +kernel
theorem dX12_bears_60 : decode cX12_bears 60 = .ok (.invokestatic 370, 3) := by decide +kernel
theorem dX12_bears_63 : decode cX12_bears 63 = .ok (.iastore, 1) := by decide +kernel
theorem dX12_bears_64 : decode cX12_bears 64 = .ok (.goto 30, 3) := by decide +kernel
theorem dX12_bears_67 : decode cX12_bears 67 = .ok (.aload_n 0, 1) := by decide +kernel
theorem dX12_bears_68 : decode cX12_bears 68 = .ok (.iload_n 1, 1) := by decide +kernel
theorem dX12_bears_69 : decode cX12_bears 69 = .ok (.iload_n 3, 1) := by decide +kernel
theorem dX12_bears_70 : decode cX12_bears 70 = .ok (.invokevirtual 385, 3) := by decide +kernel
theorem dX12_bears_73 : decode cX12_bears 73 = .ok (.ifCond .eq 21, 3) := by decide +kernel
theorem dX12_bears_76 : decode cX12_bears 76 = .ok (.aload_n 0, 1) := by decide +kernel
theorem dX12_bears_77 : decode cX12_bears 77 = .ok (.getfield 114, 3) := by decide +kernel
theorem dX12_bears_80 : decode cX12_bears 80 = .ok (.iload 4, 2) := by decide +kernel
theorem dX12_bears_82 : decode cX12_bears 82 = .ok (.dup2, 1) := by decide +kernel
theorem dX12_bears_83 : decode cX12_bears 83 = .ok (.iaload, 1) := by decide +kernel
theorem dX12_bears_84 : decode cX12_bears 84 = .ok (.iconst 1, 1) := by decide +kernel
theorem dX12_bears_85 : decode cX12_bears 85 = .ok (.iadd, 1) := by decide +kernel
theorem dX12_bears_86 : decode cX12_bears 86 = .ok (.iastore, 1) := by decide +kernel
theorem dX12_bears_87 : decode cX12_bears 87 = .ok (.aload_n 0, 1) := by decide +kernel
theorem dX12_bears_88 : decode cX12_bears 88 = .ok (.iload_n 1, 1) := by decide +kernel
theorem dX12_bears_89 : decode cX12_bears 89 = .ok (.iload_n 2, 1) := by decide +kernel
theorem dX12_bears_90 : decode cX12_bears 90 = .ok (.invokevirtual 389, 3) := by decide +kernel
theorem dX12_bears_93 : decode cX12_bears 93 = .ok (.return_, 1) := by decide +kernel
theorem dX12_bears_94 : decode cX12_bears 94 = .ok (.aload_n 0, 1) := by decide +kernel
theorem dX12_bears_95 : decode cX12_bears 95 = .ok (.getfield 108, 3) := by decide +kernel
theorem dX12_bears_98 : decode cX12_bears 98 = .ok (.iload 4, 2) := by decide +kernel
theorem dX12_bears_100 : decode cX12_bears 100 = .ok (.sipush 9999, 3) := by decide +kernel
theorem dX12_bears_103 : decode cX12_bears 103 = .ok (.aload_n 0, 1) := by decide +kernel
theorem dX12_bears_104 : decode cX12_bears 104 = .ok (.getfield 108, 3) := by decide +kernel
theorem dX12_bears_107 : decode cX12_bears 107 = .ok (.iload 4, 2) := by decide +kernel
theorem dX12_bears_109 : decode cX12_bears 109 = .ok (.iaload, 1) := by decide +kernel
theorem dX12_bears_110 : decode cX12_bears 110 = .ok (.iconst 1, 1) := by decide +kernel
theorem dX12_bears_111 : decode cX12_bears 111 = .ok (.iadd, 1) := by decide +kernel
theorem dX12_bears_112 : decode cX12_bears 112 = .ok (.invokestatic 364, 3) := by decide +kernel
theorem dX12_bears_115 : decode cX12_bears 115 = .ok (.iastore, 1) := by decide +kernel
theorem dX12_bears_116 : decode cX12_bears 116 = .ok (.aload_n 0, 1) := by decide +kernel
theorem dX12_bears_117 : decode cX12_bears 117 = .ok (.getfield 105, 3) := by decide +kernel
theorem dX12_bears_120 : decode cX12_bears 120 = .ok (.iload 4, 2) := by decide +kernel
theorem dX12_bears_122 : decode cX12_bears 122 = .ok (.dup2, 1) := by decide +kernel
theorem dX12_bears_123 : decode cX12_bears 123 = .ok (.iaload, 1) := by decide +kernel
theorem dX12_bears_124 : decode cX12_bears 124 = .ok (.iconst 1, 1) := by decide +kernel
theorem dX12_bears_125 : decode cX12_bears 125 = .ok (.iadd, 1) := by decide +kernel
theorem dX12_bears_126 : decode cX12_bears 126 = .ok (.iastore, 1) := by decide +kernel
theorem dX12_bears_127 : decode cX12_bears 127 = .ok (.aload_n 0, 1) := by decide +kernel
theorem dX12_bears_128 : decode cX12_bears 128 = .ok (.iload_n 1, 1) := by decide +kernel
theorem dX12_bears_129 : decode cX12_bears 129 = .ok (.iload_n 2, 1) := by decide +kernel
theorem dX12_bears_130 : decode cX12_bears 130 = .ok (.iload 5, 2) := by decide +kernel
theorem dX12_bears_132 : decode cX12_bears 132 = .ok (.aload_n 0, 1) := by decide +kernel
theorem dX12_bears_133 : decode cX12_bears 133 = .ok (.getfield 105, 3) := by decide +kernel
theorem dX12_bears_136 : decode cX12_bears 136 = .ok (.iload 4, 2) := by decide +kernel
theorem dX12_bears_138 : decode cX12_bears 138 = .ok (.iaload, 1) := by decide +kernel
theorem dX12_bears_139 : decode cX12_bears 139 = .ok (.invokevirtual 356, 3) := by decide +kernel
theorem dX12_bears_142 : decode cX12_bears 142 = .ok (.aload_n 0, 1) := by decide +kernel
theorem dX12_bears_143 : decode cX12_bears 143 = .ok (.getfield 99, 3) := by decide +kernel
theorem dX12_bears_146 : decode cX12_bears 146 = .ok (.iload 4, 2) := by decide +kernel
theorem dX12_bears_148 : decode cX12_bears 148 = .ok (.iconst 0, 1) := by decide +kernel
theorem dX12_bears_149 : decode cX12_bears 149 = .ok (.bipush 99, 2) := by decide +kernel
theorem dX12_bears_151 : decode cX12_bears 151 = .ok (.aload_n 0, 1) := by decide +kernel
theorem dX12_bears_152 : decode cX12_bears 152 = .ok (.getfield 99, 3) := by decide +kernel
theorem dX12_bears_155 : decode cX12_bears 155 = .ok (.iload 4, 2) := by decide +kernel
theorem dX12_bears_157 : decode cX12_bears 157 = .ok (.iaload, 1) := by decide +kernel
theorem dX12_bears_158 : decode cX12_bears 158 = .ok (.aload_n 0, 1) := by decide +kernel
theorem dX12_bears_159 : decode cX12_bears 159 = .ok (.iconst 2, 1) := by decide +kernel
theorem dX12_bears_160 : decode cX12_bears 160 = .ok (.bipush (-9), 2) := by decide +kernel
theorem dX12_bears_162 : decode cX12_bears 162 = .ok (.bipush 9, 2) := by decide +kernel
theorem dX12_bears_164 : decode cX12_bears 164 = .ok (.iconst 0, 1) := by decide +kernel
theorem dX12_bears_165 : decode cX12_bears 165 = .ok (.invokevirtual 372, 3) := by decide +kernel
theorem dX12_bears_168 : decode cX12_bears 168 = .ok (.iadd, 1) := by decide +kernel
theorem dX12_bears_169 : decode cX12_bears 169 = .ok (.invokestatic 364, 3) := by decide +kernel
theorem dX12_bears_172 : decode cX12_bears 172 = .ok (.invokestatic 370, 3) := by decide +kernel
theorem dX12_bears_175 : decode cX12_bears 175 = .ok (.iastore, 1) := by decide +kernel
theorem dX12_bears_176 : decode cX12_bears 176 = .ok (.return_, 1) := by decide +kernel
theorem dX12_passes_0 : decode cX12_passes 0 = .ok (.iconst 0, 1) := by decide +kernel
theorem dX12_passes_1 : decode cX12_passes 1 = .ok (.istore_n 3, 1) := by decide +kernel
theorem dX12_passes_2 : decode cX12_passes 2 = .ok (.iload_n 3, 1) := by decide +kernel
theorem dX12_passes_3 : decode cX12_passes 3 = .ok (.aload_n 0, 1) := by decide +kernel
theorem dX12_passes_4 : decode cX12_passes 4 = .ok (.getfield 13, 3) := by decide +kernel
theorem dX12_passes_7 : decode cX12_passes 7 = .ok (.iconst 3, 1) := by decide +kernel
theorem dX12_passes_8 : decode cX12_passes 8 = .ok (.iaload, 1) := by decide +kernel
theorem dX12_passes_9 : decode cX12_passes 9 = .ok (.if_icmp .ge 53, 3) := by decide +kernel
theorem dX12_passes_12 : decode cX12_passes 12 = .ok (.aload_n 0, 1) := by decide +kernel
theorem dX12_passes_13 : decode cX12_passes 13 = .ok (.getfield 375, 3) := by decide +kernel
theorem dX12_passes_16 : decode cX12_passes 16 = .ok (.iconst 3, 1) := by decide +kernel
theorem dX12_passes_17 : decode cX12_passes 17 = .ok (.if_icmp .eq 45, 3) := by decide +kernel
theorem dX12_passes_20 : decode cX12_passes 20 = .ok (.aload_n 0, 1) := by decide +kernel
theorem dX12_passes_21 : decode cX12_passes 21 = .ok (.getfield 49, 3) := by decide +kernel
theorem dX12_passes_24 : decode cX12_passes 24 = .ok (.iload_n 3, 1) := by decide +kernel
theorem dX12_passes_25 : decode cX12_passes 25 = .ok (.iaload, 1) := by decide +kernel
theorem dX12_passes_26 : decode cX12_passes 26 = .ok (.aload_n 0, 1) := by decide +kernel
theorem dX12_passes_27 : decode cX12_passes 27 = .ok (.getfield 84, 3) := by decide +kernel
theorem dX12_passes_30 : decode cX12_passes 30 = .ok (.iload_n 1, 1) := by decide +kernel
theorem dX12_passes_31 : decode cX12_passes 31 = .ok (.iaload, 1) := by decide +kernel
theorem dX12_passes_32 : decode cX12_passes 32 = .ok (.if_icmp .ne 24, 3) := by decide +kernel
theorem dX12_passes_35 : decode cX12_passes 35 = .ok (.aload_n 0, 1) := by decide +kernel
theorem dX12_passes_36 : decode cX12_passes 36 = .ok (.iload_n 1, 1) := by decide +kernel
theorem dX12_passes_37 : decode cX12_passes 37 = .ok (.aload_n 0, 1) := by decide +kernel
theorem dX12_passes_38 : decode cX12_passes 38 = .ok (.getfield 43, 3) := by decide +kernel
theorem dX12_passes_41 : decode cX12_passes 41 = .ok (.iload_n 3, 1) := by decide +kernel
theorem dX12_passes_42 : decode cX12_passes 42 = .ok (.iaload, 1) := by decide +kernel
theorem dX12_passes_43 : decode cX12_passes 43 = .ok (.aload_n 0, 1) := by decide +kernel
theorem dX12_passes_44 : decode cX12_passes 44 = .ok (.getfield 46, 3) := by decide +kernel
theorem dX12_passes_47 : decode cX12_passes 47 = .ok (.iload_n 3, 1) := by decide +kernel
theorem dX12_passes_48 : decode cX12_passes 48 = .ok (.iaload, 1) := by decide +kernel
theorem dX12_passes_49 : decode cX12_passes 49 = .ok (.sipush 990, 3) := by decide +kernel
theorem dX12_passes_52 : decode cX12_passes 52 = .ok (.invokevirtual 366, 3) := by decide +kernel
theorem dX12_passes_55 : decode cX12_passes 55 = .ok (.pop, 1) := by decide +kernel
theorem dX12_passes_56 : decode cX12_passes 56 = .ok (.iinc 3 1, 3) := by decide +kernel
theorem dX12_passes_59 : decode cX12_passes 59 = .ok (.goto (-57), 3) := by decide +kernel
theorem dX12_passes_62 : decode cX12_passes 62 = .ok (.iconst 0, 1) := by decide +kernel
theorem dX12_passes_63 : decode cX12_passes 63 = .ok (.istore_n 3, 1) := by decide +kernel
theorem dX12_passes_64 : decode cX12_passes 64 = .ok (.iload_n 3, 1) := by decide +kernel
theorem dX12_passes_65 : decode cX12_passes 65 = .ok (.aload_n 0, 1) := by decide +kernel
theorem dX12_passes_66 : decode cX12_passes 66 = .ok (.getfield 13, 3) := by decide +kernel
theorem dX12_passes_69 : decode cX12_passes 69 = .ok (.iconst 4, 1) := by decide +kernel
theorem dX12_passes_70 : decode cX12_passes 70 = .ok (.iaload, 1) := by decide +kernel
theorem dX12_passes_71 : decode cX12_passes 71 = .ok (.if_icmp .ge 15, 3) := by decide +kernel
theorem dX12_passes_74 : decode cX12_passes 74 = .ok (.aload_n 0, 1) := by decide +kernel
theorem dX12_passes_75 : decode cX12_passes 75 = .ok (.iload_n 1, 1) := by decide +kernel
theorem dX12_passes_76 : decode cX12_passes 76 = .ok (.iload_n 3, 1) := by decide +kernel
theorem dX12_passes_77 : decode cX12_passes 77 = .ok (.invokevirtual 392, 3) := by decide +kernel
theorem dX12_passes_80 : decode cX12_passes 80 = .ok (.iinc 3 1, 3) := by decide +kernel
theorem dX12_passes_83 : decode cX12_passes 83 = .ok (.goto (-19), 3) := by decide +kernel
theorem dX12_passes_86 : decode cX12_passes 86 = .ok (.iconst 0, 1) := by decide +kernel
theorem dX12_passes_87 : decode cX12_passes 87 = .ok (.istore_n 3, 1) := by decide +kernel
theorem dX12_passes_88 : decode cX12_passes 88 = .ok (.iload_n 3, 1) := by decide +kernel
theorem dX12_passes_89 : decode cX12_passes 89 = .ok (.aload_n 0, 1) := by decide +kernel
theorem dX12_passes_90 : decode cX12_passes 90 = .ok (.getfield 13, 3) := by decide +kernel
theorem dX12_passes_93 : decode cX12_passes 93 = .ok (.iconst 1, 1) := by decide +kernel
theorem dX12_passes_94 : decode cX12_passes 94 = .ok (.iaload, 1) := by decide +kernel
theorem dX12_passes_95 : decode cX12_passes 95 = .ok (.if_icmp .ge 23, 3) := by decide +kernel
theorem dX12_passes_98 : decode cX12_passes 98 = .ok (.aload_n 0, 1) := by decide +kernel
theorem dX12_passes_99 : decode cX12_passes 99 = .ok (.getfield 375, 3) := by decide +kernel
theorem dX12_passes_102 : decode cX12_passes 102 = .ok (.iconst 4, 1) := by decide +kernel
theorem dX12_passes_103 : decode cX12_passes 103 = .ok (.if_icmp .eq 9, 3) := by decide +kernel
theorem dX12_passes_106 : decode cX12_passes 106 = .ok (.aload_n 0, 1) := by decide +kernel
theorem dX12_passes_107 : decode cX12_passes 107 = .ok (.iload_n 1, 1) := by decide +kernel
theorem dX12_passes_108 : decode cX12_passes 108 = .ok (.iload_n 3, 1) := by decide +kernel
theorem dX12_passes_109 : decode cX12_passes 109 = .ok (.invokevirtual 395, 3) := by decide +kernel
theorem dX12_passes_112 : decode cX12_passes 112 = .ok (.iinc 3 1, 3) := by decide +kernel
theorem dX12_passes_115 : decode cX12_passes 115 = .ok (.goto (-27), 3) := by decide +kernel
theorem dX12_passes_118 : decode cX12_passes 118 = .ok (.iconst 0, 1) := by decide +kernel
theorem dX12_passes_119 : decode cX12_passes 119 = .ok (.istore_n 3, 1) := by decide +kernel
theorem dX12_passes_120 : decode cX12_passes 120 = .ok (.iload_n 3, 1) := by decide +kernel
theorem dX12_passes_121 : decode cX12_passes 121 = .ok (.aload_n 0, 1) := by decide +kernel
theorem dX12_passes_122 : decode cX12_passes 122 = .ok (.getfield 13, 3) := by decide +kernel
theorem dX12_passes_125 : decode cX12_passes 125 = .ok (.iconst 2, 1) := by decide +kernel
theorem dX12_passes_126 : decode cX12_passes 126 = .ok (.iaload, 1) := by decide +kernel
theorem dX12_passes_127 : decode cX12_passes 127 = .ok (.if_icmp .ge 93, 3) := by decide +kernel
theorem dX12_passes_130 : decode cX12_passes 130 = .ok (.aload_n 0, 1) := by decide +kernel
theorem dX12_passes_131 : decode cX12_passes 131 = .ok (.getfield 40, 3) := by decide +kernel
theorem dX12_passes_134 : decode cX12_passes 134 = .ok (.iload_n 3, 1) := by decide +kernel
theorem dX12_passes_135 : decode cX12_passes 135 = .ok (.iaload, 1) := by decide +kernel
theorem dX12_passes_136 : decode cX12_passes 136 = .ok (.aload_n 0, 1) := by decide +kernel
theorem dX12_passes_137 : decode cX12_passes 137 = .ok (.getfield 84, 3) := by decide +kernel
theorem dX12_passes_140 : decode cX12_passes 140 = .ok (.iload_n 1, 1) := by decide +kernel
theorem dX12_passes_141 : decode cX12_passes 141 = .ok (.iaload, 1) := by decide +kernel
theorem dX12_passes_142 : decode cX12_passes 142 = .ok (.if_icmp .ne 72, 3) := by decide +kernel
theorem dX12_passes_145 : decode cX12_passes 145 = .ok (.aload_n 0, 1) := by decide +kernel
theorem dX12_passes_146 : decode cX12_passes 146 = .ok (.getfield 375, 3) := by decide +kernel
theorem dX12_passes_149 : decode cX12_passes 149 = .ok (.iconst 2, 1) := by decide +kernel
theorem dX12_passes_150 : decode cX12_passes 150 = .ok (.if_icmp .ne 19, 3) := by decide +kernel
theorem dX12_passes_153 : decode cX12_passes 153 = .ok (.aload_n 0, 1) := by decide +kernel
theorem dX12_passes_154 : decode cX12_passes 154 = .ok (.getfield 34, 3) := by decide +kernel
theorem dX12_passes_157 : decode cX12_passes 157 = .ok (.iload_n 3, 1) := by decide +kernel
theorem dX12_passes_158 : decode cX12_passes 158 = .ok (.iaload, 1) := by decide +kernel
theorem dX12_passes_159 : decode cX12_passes 159 = .ok (.aload_n 0, 1) := by decide +kernel
theorem dX12_passes_160 : decode cX12_passes 160 = .ok (.getfield 117, 3) := by decide +kernel
theorem dX12_passes_163 : decode cX12_passes 163 = .ok (.if_icmp .ne 6, 3) := by decide +kernel
theorem dX12_passes_166 : decode cX12_passes 166 = .ok (.goto 48, 3) := by decide +kernel
theorem dX12_passes_169 : decode cX12_passes 169 = .ok (.aload_n 0, 1) := by decide +kernel
theorem dX12_passes_170 : decode cX12_passes 170 = .ok (.iload_n 1, 1) := by decide +kernel
theorem dX12_passes_171 : decode cX12_passes 171 = .ok (.aload_n 0, 1) := by decide +kernel
theorem dX12_passes_172 : decode cX12_passes 172 = .ok (.getfield 37, 3) := by decide +kernel
theorem dX12_passes_175 : decode cX12_passes 175 = .ok (.iload_n 3, 1) := by decide +kernel
theorem dX12_passes_176 : decode cX12_passes 176 = .ok (.iaload, 1) := by decide +kernel
theorem dX12_passes_177 : decode cX12_passes 177 = .ok (.invokevirtual 398, 3) := by decide +kernel
theorem dX12_passes_180 : decode cX12_passes 180 = .ok (.iconst (-1), 1) := by decide +kernel
theorem dX12_passes_181 : decode cX12_passes 181 = .ok (.if_icmp .ne 23, 3) := by decide +kernel
theorem dX12_passes_184 : decode cX12_passes 184 = .ok (.aload_n 0, 1) := by decide +kernel
theorem dX12_passes_185 : decode cX12_passes 185 = .ok (.iload_n 1, 1) := by decide +kernel
theorem dX12_passes_186 : decode cX12_passes 186 = .ok (.aload_n 0, 1) := by decide +kernel
theorem dX12_passes_187 : decode cX12_passes 187 = .ok (.getfield 34, 3) := by decide +kernel
theorem dX12_passes_190 : decode cX12_passes 190 = .ok (.iload_n 3, 1) := by decide +kernel
theorem dX12_passes_191 : decode cX12_passes 191 = .ok (.iaload, 1) := by decide +kernel
theorem dX12_passes_192 : decode cX12_passes 192 = .ok (.aload_n 0, 1) := by decide +kernel
theorem dX12_passes_193 : decode cX12_passes 193 = .ok (.getfield 37, 3) := by decide +kernel
theorem dX12_passes_196 : decode cX12_passes 196 = .ok (.iload_n 3, 1) := by decide +kernel
theorem dX12_passes_197 : decode cX12_passes 197 = .ok (.iaload, 1) := by decide +kernel
theorem dX12_passes_198 : decode cX12_passes 198 = .ok (.invokevirtual 401, 3) := by decide +kernel
theorem dX12_passes_201 : decode cX12_passes 201 = .ok (.goto 13, 3) := by decide +kernel
theorem dX12_passes_204 : decode cX12_passes 204 = .ok (.aload_n 0, 1) := by decide +kernel
theorem dX12_passes_205 : decode cX12_passes 205 = .ok (.getfield 90, 3) := by decide +kernel
theorem dX12_passes_208 : decode cX12_passes 208 = .ok (.iload_n 1, 1) := by decide +kernel
theorem dX12_passes_209 : decode cX12_passes 209 = .ok (.dup2, 1) := by decide +kernel
theorem dX12_passes_210 : decode cX12_passes 210 = .ok (.iaload, 1) := by decide +kernel
theorem dX12_passes_211 : decode cX12_passes 211 = .ok (.iconst 1, 1) := by decide +kernel
theorem dX12_passes_212 : decode cX12_passes 212 = .ok (.iadd, 1) := by decide +kernel
theorem dX12_passes_213 : decode cX12_passes 213 = .ok (.iastore, 1) := by decide +kernel
theorem dX12_passes_214 : decode cX12_passes 214 = .ok (.iinc 3 1, 3) := by decide +kernel
theorem dX12_passes_217 : decode cX12_passes 217 = .ok (.goto (-97), 3) := by decide +kernel
theorem dX12_passes_220 : decode cX12_passes 220 = .ok (.iconst 0, 1) := by decide +kernel
theorem dX12_passes_221 : decode cX12_passes 221 = .ok (.istore_n 3, 1) := by decide +kernel
theorem dX12_passes_222 : decode cX12_passes 222 = .ok (.iload_n 3, 1) := by decide +kernel
theorem dX12_passes_223 : decode cX12_passes 223 = .ok (.aload_n 0, 1) := by decide +kernel
theorem dX12_passes_224 : decode cX12_passes 224 = .ok (.getfield 13, 3) := by decide +kernel
theorem dX12_passes_227 : decode cX12_passes 227 = .ok (.iconst 0, 1) := by decide +kernel
theorem dX12_passes_228 : decode cX12_passes 228 = .ok (.iaload, 1) := by decide +kernel
theorem dX12_passes_229 : decode cX12_passes 229 = .ok (.if_icmp .ge 31, 3) := by decide +kernel
theorem dX12_passes_232 : decode cX12_passes 232 = .ok (.aload_n 0, 1) := by decide +kernel
theorem dX12_passes_233 : decode cX12_passes 233 = .ok (.getfield 102, 3) := by decide +kernel
theorem dX12_passes_236 : decode cX12_passes 236 = .ok (.bipush 6, 2) := by decide +kernel
theorem dX12_passes_238 : decode cX12_passes 238 = .ok (.iload_n 1, 1) := by decide +kernel
theorem dX12_passes_239 : decode cX12_passes 239 = .ok (.imul, 1) := by decide +kernel
theorem dX12_passes_240 : decode cX12_passes 240 = .ok (.iload_n 3, 1) := by decide +kernel
theorem dX12_passes_241 : decode cX12_passes 241 = .ok (.iadd, 1) := by decide +kernel
theorem dX12_passes_242 : decode cX12_passes 242 = .ok (.iaload, 1) := by decide +kernel
theorem dX12_passes_243 : decode cX12_passes 243 = .ok (.iconst (-1), 1) := by decide +kernel
theorem dX12_passes_244 : decode cX12_passes 244 = .ok (.if_icmp .eq 10, 3) := by decide +kernel
theorem dX12_passes_247 : decode cX12_passes 247 = .ok (.aload_n 0, 1) := by decide +kernel
theorem dX12_passes_248 : decode cX12_passes 248 = .ok (.iload_n 1, 1) := by decide +kernel
theorem dX12_passes_249 : decode cX12_passes 249 = .ok (.iload_n 3, 1) := by decide +kernel
theorem dX12_passes_250 : decode cX12_passes 250 = .ok (.iload_n 2, 1) := by decide +kernel
theorem dX12_passes_251 : decode cX12_passes 251 = .ok (.invokevirtual 405, 3) := by decide +kernel
theorem dX12_passes_254 : decode cX12_passes 254 = .ok (.iinc 3 1, 3) := by decide +kernel
theorem dX12_passes_257 : decode cX12_passes 257 = .ok (.goto (-35), 3) := by decide +kernel
theorem dX12_passes_260 : decode cX12_passes 260 = .ok (.aload_n 0, 1) := by decide +kernel
theorem dX12_passes_261 : decode cX12_passes 261 = .ok (.getfield 84, 3) := by decide +kernel
theorem dX12_passes_264 : decode cX12_passes 264 = .ok (.iload_n 1, 1) := by decide +kernel
theorem dX12_passes_265 : decode cX12_passes 265 = .ok (.dup2, 1) := by decide +kernel
theorem dX12_passes_266 : decode cX12_passes 266 = .ok (.iaload, 1) := by decide +kernel
theorem dX12_passes_267 : decode cX12_passes 267 = .ok (.iconst 1, 1) := by decide +kernel
theorem dX12_passes_268 : decode cX12_passes 268 = .ok (.iadd, 1) := by decide +kernel
theorem dX12_passes_269 : decode cX12_passes 269 = .ok (.iastore, 1) := by decide +kernel
theorem dX12_passes_270 : decode cX12_passes 270 = .ok (.return_, 1) := by decide +kernel
theorem dX12_goesOn_0 : decode cX12_goesOn 0 = .ok (.iconst 0, 1) := by decide +kernel
theorem dX12_goesOn_1 : decode cX12_goesOn 1 = .ok (.istore_n 2, 1) := by decide +kernel
theorem dX12_goesOn_2 : decode cX12_goesOn 2 = .ok (.iload_n 2, 1) := by decide +kernel
theorem dX12_goesOn_3 : decode cX12_goesOn 3 = .ok (.iload_n 1, 1) := by decide +kernel
theorem dX12_goesOn_4 : decode cX12_goesOn 4 = .ok (.if_icmp .ge 15, 3) := by decide +kernel
theorem dX12_goesOn_7 : decode cX12_goesOn 7 = .ok (.aload_n 0, 1) := by decide +kernel
theorem dX12_goesOn_8 : decode cX12_goesOn 8 = .ok (.iconst 1, 1) := by decide +kernel
theorem dX12_goesOn_9 : decode cX12_goesOn 9 = .ok (.iconst 0, 1) := by decide +kernel
theorem dX12_goesOn_10 : decode cX12_goesOn 10 = .ok (.invokevirtual 409, 3) := by decide +kernel
theorem dX12_goesOn_13 : decode cX12_goesOn 13 = .ok (.iinc 2 1, 3) := by decide +kernel
theorem dX12_goesOn_16 : decode cX12_goesOn 16 = .ok (.goto (-14), 3) := by decide +kernel
theorem dX12_goesOn_19 : decode cX12_goesOn 19 = .ok (.return_, 1) := by decide +kernel
theorem dX12_sumOf_0 : decode cX12_sumOf 0 = .ok (.iconst 0, 1) := by decide +kernel
theorem dX12_sumOf_1 : decode cX12_sumOf 1 = .ok (.istore_n 3, 1) := by decide +kernel
theorem dX12_sumOf_2 : decode cX12_sumOf 2 = .ok (.iconst 0, 1) := by decide +kernel
theorem dX12_sumOf_3 : decode cX12_sumOf 3 = .ok (.istore 4, 2) := by decide +kernel
theorem dX12_sumOf_5 : decode cX12_sumOf 5 = .ok (.iload 4, 2) := by decide +kernel
theorem dX12_sumOf_7 : decode cX12_sumOf 7 = .ok (.bipush 6, 2) := by decide +kernel
theorem dX12_sumOf_9 : decode cX12_sumOf 9 = .ok (.if_icmp .ge 21, 3) := by decide +kernel
theorem dX12_sumOf_12 : decode cX12_sumOf 12 = .ok (.iload_n 3, 1) := by decide +kernel
theorem dX12_sumOf_13 : decode cX12_sumOf 13 = .ok (.aload_n 1, 1) := by decide +kernel
theorem dX12_sumOf_14 : decode cX12_sumOf 14 = .ok (.bipush 6, 2) := by decide +kernel
theorem dX12_sumOf_16 : decode cX12_sumOf 16 = .ok (.iload_n 2, 1) := by decide +kernel
theorem dX12_sumOf_17 : decode cX12_sumOf 17 = .ok (.imul, 1) := by decide +kernel
theorem dX12_sumOf_18 : decode cX12_sumOf 18 = .ok (.iload 4, 2) := by decide +kernel
theorem dX12_sumOf_20 : decode cX12_sumOf 20 = .ok (.iadd, 1) := by decide +kernel
theorem dX12_sumOf_21 : decode cX12_sumOf 21 = .ok (.iaload, 1) := by decide +kernel
theorem dX12_sumOf_22 : decode cX12_sumOf 22 = .ok (.iadd, 1) := by decide +kernel
theorem dX12_sumOf_23 : decode cX12_sumOf 23 = .ok (.istore_n 3, 1) := by decide +kernel
theorem dX12_sumOf_24 : decode cX12_sumOf 24 = .ok (.iinc 4 1, 3) := by decide +kernel
theorem dX12_sumOf_27 : decode cX12_sumOf 27 = .ok (.goto (-22), 3) := by decide +kernel
theorem dX12_sumOf_30 : decode cX12_sumOf 30 = .ok (.iload_n 3, 1) := by decide +kernel
theorem dX12_sumOf_31 : decode cX12_sumOf 31 = .ok (.ireturn, 1) := by decide +kernel
theorem dX12_orNone_0 : decode cX12_orNone 0 = .ok (.iload_n 0, 1) := by decide +kernel
theorem dX12_orNone_1 : decode cX12_orNone 1 = .ok (.iconst (-1), 1) := by decide +kernel
theorem dX12_orNone_2 : decode cX12_orNone 2 = .ok (.if_icmp .ne 8, 3) := by decide +kernel
theorem dX12_orNone_5 : decode cX12_orNone 5 = .ok (.bipush (-2), 2) := by decide +kernel
theorem dX12_orNone_7 : decode cX12_orNone 7 = .ok (.goto 4, 3) := by decide +kernel
theorem dX12_orNone_10 : decode cX12_orNone 10 = .ok (.iload_n 0, 1) := by decide +kernel
theorem dX12_orNone_11 : decode cX12_orNone 11 = .ok (.ireturn, 1) := by decide +kernel
theorem dX12_tub_0 : decode cX12_tub 0 = .ok (.aload_n 0, 1) := by decide +kernel
theorem dX12_tub_1 : decode cX12_tub 1 = .ok (.aload_n 0, 1) := by decide +kernel
theorem dX12_tub_2 : decode cX12_tub 2 = .ok (.iload_n 1, 1) := by decide +kernel
theorem dX12_tub_3 : decode cX12_tub 3 = .ok (.invokevirtual 413, 3) := by decide +kernel
theorem dX12_tub_6 : decode cX12_tub 6 = .ok (.ifCond .ne 7, 3) := by decide +kernel
theorem dX12_tub_9 : decode cX12_tub 9 = .ok (.iconst 1, 1) := by decide +kernel
theorem dX12_tub_10 : decode cX12_tub 10 = .ok (.goto 17, 3) := by decide +kernel
theorem dX12_tub_13 : decode cX12_tub 13 = .ok (.iload_n 2, 1) := by decide +kernel
theorem dX12_tub_14 : decode cX12_tub 14 = .ok (.ifCond .lt 8, 3) := by decide +kernel
theorem dX12_tub_17 : decode cX12_tub 17 = .ok (.iload_n 2, 1) := by decide +kernel
theorem dX12_tub_18 : decode cX12_tub 18 = .ok (.iconst 2, 1) := by decide +kernel
theorem dX12_tub_19 : decode cX12_tub 19 = .ok (.if_icmp .le 7, 3) := by decide +kernel
theorem dX12_tub_22 : decode cX12_tub 22 = .ok (.iconst 2, 1) := by decide +kernel
theorem dX12_tub_23 : decode cX12_tub 23 = .ok (.goto 4, 3) := by decide +kernel
theorem dX12_tub_26 : decode cX12_tub 26 = .ok (.iconst 0, 1) := by decide +kernel
theorem dX12_tub_27 : decode cX12_tub 27 = .ok (.putfield 154, 3) := by decide +kernel
theorem dX12_tub_30 : decode cX12_tub 30 = .ok (.aload_n 0, 1) := by decide +kernel
theorem dX12_tub_31 : decode cX12_tub 31 = .ok (.getfield 154, 3) := by decide +kernel
theorem dX12_tub_34 : decode cX12_tub 34 = .ok (.ifCond .eq 5, 3) := by decide +kernel
theorem dX12_tub_37 : decode cX12_tub 37 = .ok (.iconst 0, 1) := by decide +kernel
theorem dX12_tub_38 : decode cX12_tub 38 = .ok (.ireturn, 1) := by decide +kernel
theorem dX12_tub_39 : decode cX12_tub 39 = .ok (.iload_n 2, 1) := by decide +kernel
theorem dX12_tub_40 : decode cX12_tub 40 = .ok (.ifCond .ne 12, 3) := by decide +kernel
theorem dX12_tub_43 : decode cX12_tub 43 = .ok (.aload_n 0, 1) := by decide +kernel
theorem dX12_tub_44 : decode cX12_tub 44 = .ok (.getfield 93, 3) := by decide +kernel
theorem dX12_tub_47 : decode cX12_tub 47 = .ok (.iload_n 1, 1) := by decide +kernel
theorem dX12_tub_48 : decode cX12_tub 48 = .ok (.iaload, 1) := by decide +kernel
theorem dX12_tub_49 : decode cX12_tub 49 = .ok (.goto 26, 3) := by decide +kernel
theorem dX12_tub_52 : decode cX12_tub 52 = .ok (.iload_n 2, 1) := by decide +kernel
theorem dX12_tub_53 : decode cX12_tub 53 = .ok (.iconst 1, 1) := by decide +kernel
theorem dX12_tub_54 : decode cX12_tub 54 = .ok (.if_icmp .ne 12, 3) := by decide +kernel
theorem dX12_tub_57 : decode cX12_tub 57 = .ok (.aload_n 0, 1) := by decide +kernel
theorem dX12_tub_58 : decode cX12_tub 58 = .ok (.getfield 96, 3) := by decide +kernel
theorem dX12_tub_61 : decode cX12_tub 61 = .ok (.iload_n 1, 1) := by decide +kernel
theorem dX12_tub_62 : decode cX12_tub 62 = .ok (.iaload, 1) := by decide +kernel
theorem dX12_tub_63 : decode cX12_tub 63 = .ok (.goto 12, 3) := by decide +kernel
theorem dX12_tub_66 : decode cX12_tub 66 = .ok (.aload_n 0, 1) := by decide +kernel
theorem dX12_tub_67 : decode cX12_tub 67 = .ok (.iconst 0, 1) := by decide +kernel
theorem dX12_tub_68 : decode cX12_tub 68 = .ok (.iload_n 1, 1) := by decide +kernel
theorem dX12_tub_69 : decode cX12_tub 69 = .ok (.invokevirtual 398, 3) := by decide +kernel
theorem dX12_tub_72 : decode cX12_tub 72 = .ok (.invokestatic 416, 3) := by decide +kernel
theorem dX12_tub_75 : decode cX12_tub 75 = .ok (.ireturn, 1) := by decide +kernel
theorem dX12_knight_0 : decode cX12_knight 0 = .ok (.aload_n 0, 1) := by decide +kernel
theorem dX12_knight_1 : decode cX12_knight 1 = .ok (.iconst 0, 1) := by decide +kernel
theorem dX12_knight_2 : decode cX12_knight 2 = .ok (.putfield 154, 3) := by decide +kernel
theorem dX12_knight_5 : decode cX12_knight 5 = .ok (.aload_n 0, 1) := by decide +kernel
theorem dX12_knight_6 : decode cX12_knight 6 = .ok (.iload_n 1, 1) := by decide +kernel
theorem dX12_knight_7 : decode cX12_knight 7 = .ok (.invokevirtual 419, 3) := by decide +kernel
theorem dX12_knight_10 : decode cX12_knight 10 = .ok (.ifCond .ne 5, 3) := by decide +kernel
theorem dX12_knight_13 : decode cX12_knight 13 = .ok (.iconst (-1), 1) := by decide +kernel
theorem dX12_knight_14 : decode cX12_knight 14 = .ok (.ireturn, 1) := by decide +kernel
theorem dX12_knight_15 : decode cX12_knight 15 = .ok (.iload_n 2, 1) := by decide +kernel
theorem dX12_knight_16 : decode cX12_knight 16 = .ok (.tableswitch 96 0 6 #[44, 51, 58, 68, 75, 82, 89], 44) := by decide +kernel
theorem dX12_knight_60 : decode cX12_knight 60 = .ok (.aload_n 0, 1) := by decide +kernel
theorem dX12_knight_61 : decode cX12_knight 61 = .ok (.getfield 99, 3) := by decide +kernel
theorem dX12_knight_64 : decode cX12_knight 64 = .ok (.iload_n 1, 1) := by decide +kernel
theorem dX12_knight_65 : decode cX12_knight 65 = .ok (.iaload, 1) := by decide +kernel
theorem dX12_knight_66 : decode cX12_knight 66 = .ok (.ireturn, 1) := by decide +kernel
theorem dX12_knight_67 : decode cX12_knight 67 = .ok (.aload_n 0, 1) := by decide +kernel
theorem dX12_knight_68 : decode cX12_knight 68 = .ok (.getfield 22, 3) := by decide +kernel
theorem dX12_knight_71 : decode cX12_knight 71 = .ok (.iload_n 1, 1) := by decide +kernel
theorem dX12_knight_72 : decode cX12_knight 72 = .ok (.iaload, 1) := by decide +kernel
theorem dX12_knight_73 : decode cX12_knight 73 = .ok (.ireturn, 1) := by decide +kernel
theorem dX12_knight_74 : decode cX12_knight 74 = .ok (.aload_n 0, 1) := by decide +kernel
theorem dX12_knight_75 : decode cX12_knight 75 = .ok (.getfield 102, 3) := by decide +kernel
theorem dX12_knight_78 : decode cX12_knight 78 = .ok (.iload_n 1, 1) := by decide +kernel
theorem dX12_knight_79 : decode cX12_knight 79 = .ok (.iaload, 1) := by decide +kernel
theorem dX12_knight_80 : decode cX12_knight 80 = .ok (.invokestatic 416, 3) := by decide +kernel
theorem dX12_knight_83 : decode cX12_knight 83 = .ok (.ireturn, 1) := by decide +kernel
theorem dX12_knight_84 : decode cX12_knight 84 = .ok (.aload_n 0, 1) := by decide +kernel
theorem dX12_knight_85 : decode cX12_knight 85 = .ok (.getfield 108, 3) := by decide +kernel
theorem dX12_knight_88 : decode cX12_knight 88 = .ok (.iload_n 1, 1) := by decide +kernel
theorem dX12_knight_89 : decode cX12_knight 89 = .ok (.iaload, 1) := by decide +kernel
theorem dX12_knight_90 : decode cX12_knight 90 = .ok (.ireturn, 1) := by decide +kernel
theorem dX12_knight_91 : decode cX12_knight 91 = .ok (.aload_n 0, 1) := by decide +kernel
theorem dX12_knight_92 : decode cX12_knight 92 = .ok (.getfield 111, 3) := by decide +kernel
theorem dX12_knight_95 : decode cX12_knight 95 = .ok (.iload_n 1, 1) := by decide +kernel
theorem dX12_knight_96 : decode cX12_knight 96 = .ok (.iaload, 1) := by decide +kernel
theorem dX12_knight_97 : decode cX12_knight 97 = .ok (.ireturn, 1) := by decide +kernel
theorem dX12_knight_98 : decode cX12_knight 98 = .ok (.aload_n 0, 1) := by decide +kernel
theorem dX12_knight_99 : decode cX12_knight 99 = .ok (.getfield 105, 3) := by decide +kernel
theorem dX12_knight_102 : decode cX12_knight 102 = .ok (.iload_n 1, 1) := by decide +kernel
theorem dX12_knight_103 : decode cX12_knight 103 = .ok (.iaload, 1) := by decide +kernel
theorem dX12_knight_104 : decode cX12_knight 104 = .ok (.ireturn, 1) := by decide +kernel
theorem dX12_knight_105 : decode cX12_knight 105 = .ok (.aload_n 0, 1) := by decide +kernel
theorem dX12_knight_106 : decode cX12_knight 106 = .ok (.getfield 114, 3) := by decide +kernel
theorem dX12_knight_109 : decode cX12_knight 109 = .ok (.iload_n 1, 1) := by decide +kernel
theorem dX12_knight_110 : decode cX12_knight 110 = .ok (.iaload, 1) := by decide +kernel
theorem dX12_knight_111 : decode cX12_knight 111 = .ok (.ireturn, 1) := by decide +kernel
theorem dX12_knight_112 : decode cX12_knight 112 = .ok (.iconst (-1), 1) := by decide +kernel
theorem dX12_knight_113 : decode cX12_knight 113 = .ok (.ireturn, 1) := by decide +kernel
theorem dX12_atEase_0 : decode cX12_atEase 0 = .ok (.aload_n 0, 1) := by decide +kernel
theorem dX12_atEase_1 : decode cX12_atEase 1 = .ok (.iconst 0, 1) := by decide +kernel
theorem dX12_atEase_2 : decode cX12_atEase 2 = .ok (.putfield 154, 3) := by decide +kernel
theorem dX12_atEase_5 : decode cX12_atEase 5 = .ok (.aload_n 0, 1) := by decide +kernel
theorem dX12_atEase_6 : decode cX12_atEase 6 = .ok (.iload_n 1, 1) := by decide +kernel
theorem dX12_atEase_7 : decode cX12_atEase 7 = .ok (.invokevirtual 419, 3) := by decide +kernel
theorem dX12_atEase_10 : decode cX12_atEase 10 = .ok (.ifCond .eq 11, 3) := by decide +kernel
theorem dX12_atEase_13 : decode cX12_atEase 13 = .ok (.aload_n 0, 1) := by decide +kernel
theorem dX12_atEase_14 : decode cX12_atEase 14 = .ok (.iload_n 2, 1) := by decide +kernel
theorem dX12_atEase_15 : decode cX12_atEase 15 = .ok (.invokevirtual 413, 3) := by decide +kernel
theorem dX12_atEase_18 : decode cX12_atEase 18 = .ok (.ifCond .ne 5, 3) := by decide +kernel
theorem dX12_atEase_21 : decode cX12_atEase 21 = .ok (.iconst (-1), 1) := by decide +kernel
theorem dX12_atEase_22 : decode cX12_atEase 22 = .ok (.ireturn, 1) := by decide +kernel
theorem dX12_atEase_23 : decode cX12_atEase 23 = .ok (.aload_n 0, 1) := by decide +kernel
theorem dX12_atEase_24 : decode cX12_atEase 24 = .ok (.iconst 0, 1) := by decide +kernel
theorem dX12_atEase_25 : decode cX12_atEase 25 = .ok (.iload_n 1, 1) := by decide +kernel
theorem dX12_atEase_26 : decode cX12_atEase 26 = .ok (.iload_n 2, 1) := by decide +kernel
theorem dX12_atEase_27 : decode cX12_atEase 27 = .ok (.iconst 0, 1) := by decide +kernel
theorem dX12_atEase_28 : decode cX12_atEase 28 = .ok (.invokevirtual 382, 3) := by decide +kernel
theorem dX12_atEase_31 : decode cX12_atEase 31 = .ok (.ifCond .eq 7, 3) := by decide +kernel
theorem dX12_atEase_34 : decode cX12_atEase 34 = .ok (.iconst 1, 1) := by decide +kernel
theorem dX12_atEase_35 : decode cX12_atEase 35 = .ok (.goto 4, 3) := by decide +kernel
theorem dX12_atEase_38 : decode cX12_atEase 38 = .ok (.iconst 0, 1) := by decide +kernel
theorem dX12_atEase_39 : decode cX12_atEase 39 = .ok (.ireturn, 1) := by decide +kernel
theorem dX12_law_0 : decode cX12_law 0 = .ok (.aload_n 0, 1) := by decide +kernel
theorem dX12_law_1 : decode cX12_law 1 = .ok (.iconst 0, 1) := by decide +kernel
theorem dX12_law_2 : decode cX12_law 2 = .ok (.putfield 154, 3) := by decide +kernel
theorem dX12_law_5 : decode cX12_law 5 = .ok (.iload_n 1, 1) := by decide +kernel
theorem dX12_law_6 : decode cX12_law 6 = .ok (.ifCond .lt 36, 3) := by decide +kernel
theorem dX12_law_9 : decode cX12_law 9 = .ok (.iload_n 1, 1) := by decide +kernel
theorem dX12_law_10 : decode cX12_law 10 = .ok (.iconst 2, 1) := by decide +kernel
theorem dX12_law_11 : decode cX12_law 11 = .ok (.if_icmp .gt 31, 3) := by decide +kernel
theorem dX12_law_14 : decode cX12_law 14 = .ok (.aload_n 0, 1) := by decide +kernel
theorem dX12_law_15 : decode cX12_law 15 = .ok (.iload_n 1, 1) := by decide +kernel
theorem dX12_law_16 : decode cX12_law 16 = .ok (.invokevirtual 343, 3) := by decide +kernel
theorem dX12_law_19 : decode cX12_law 19 = .ok (.ifCond .eq 23, 3) := by decide +kernel
theorem dX12_law_22 : decode cX12_law 22 = .ok (.aload_n 0, 1) := by decide +kernel
theorem dX12_law_23 : decode cX12_law 23 = .ok (.iload_n 3, 1) := by decide +kernel
theorem dX12_law_24 : decode cX12_law 24 = .ok (.invokevirtual 413, 3) := by decide +kernel
theorem dX12_law_27 : decode cX12_law 27 = .ok (.ifCond .eq 15, 3) := by decide +kernel
theorem dX12_law_30 : decode cX12_law 30 = .ok (.iload_n 1, 1) := by decide +kernel
theorem dX12_law_31 : decode cX12_law 31 = .ok (.ifCond .eq 15, 3) := by decide +kernel
theorem dX12_law_34 : decode cX12_law 34 = .ok (.aload_n 0, 1) := by decide +kernel
theorem dX12_law_35 : decode cX12_law 35 = .ok (.iload_n 2, 1) := by decide +kernel
theorem dX12_law_36 : decode cX12_law 36 = .ok (.invokevirtual 419, 3) := by decide +kernel
theorem dX12_law_39 : decode cX12_law 39 = .ok (.ifCond .ne 7, 3) := by decide +kernel
theorem dX12_law_42 : decode cX12_law 42 = .ok (.ldc2_w 424, 3) := by decide +kernel
theorem dX12_law_45 : decode cX12_law 45 = .ok (.lreturn, 1) := by decide +kernel
theorem dX12_law_46 : decode cX12_law 46 = .ok (.aload_n 0, 1) := by decide +kernel
theorem dX12_law_47 : decode cX12_law 47 = .ok (.iconst 0, 1) := by decide +kernel
theorem dX12_law_48 : decode cX12_law 48 = .ok (.iload_n 1, 1) := by decide +kernel
theorem dX12_law_49 : decode cX12_law 49 = .ok (.ifCond .ne 7, 3) := by decide +kernel
theorem dX12_law_52 : decode cX12_law 52 = .ok (.iconst (-1), 1) := by decide +kernel
theorem dX12_law_53 : decode cX12_law 53 = .ok (.goto 4, 3) := by decide +kernel
theorem dX12_law_56 : decode cX12_law 56 = .ok (.iload_n 2, 1) := by decide +kernel
theorem dX12_law_57 : decode cX12_law 57 = .ok (.iload_n 3, 1) := by decide +kernel
theorem dX12_law_58 : decode cX12_law 58 = .ok (.iconst 0, 1) := by decide +kernel
theorem dX12_law_59 : decode cX12_law 59 = .ok (.invokevirtual 356, 3) := by decide +kernel
theorem dX12_law_62 : decode cX12_law 62 = .ok (.aload_n 0, 1) := by decide +kernel
theorem dX12_law_63 : decode cX12_law 63 = .ok (.iload_n 1, 1) := by decide +kernel
theorem dX12_law_64 : decode cX12_law 64 = .ok (.invokevirtual 346, 3) := by decide +kernel
theorem dX12_law_67 : decode cX12_law 67 = .ok (.ifCond .eq 12, 3) := by decide +kernel
theorem dX12_law_70 : decode cX12_law 70 = .ok (.aload_n 0, 1) := by decide +kernel
theorem dX12_law_71 : decode cX12_law 71 = .ok (.getfield 81, 3) := by decide +kernel
theorem dX12_law_74 : decode cX12_law 74 = .ok (.iconst 0, 1) := by decide +kernel
theorem dX12_law_75 : decode cX12_law 75 = .ok (.laload, 1) := by decide +kernel
theorem dX12_law_76 : decode cX12_law 76 = .ok (.goto 6, 3) := by decide +kernel
theorem dX12_law_79 : decode cX12_law 79 = .ok (.ldc2_w 424, 3) := by decide +kernel
theorem dX12_law_82 : decode cX12_law 82 = .ok (.lreturn, 1) := by decide +kernel
theorem dX12_keepNow_0 : decode cX12_keepNow 0 = .ok (.aload_n 0, 1) := by decide +kernel
theorem dX12_keepNow_1 : decode cX12_keepNow 1 = .ok (.getfield 317, 3) := by decide +kernel
theorem dX12_keepNow_4 : decode cX12_keepNow 4 = .ok (.bipush 20, 2) := by decide +kernel
theorem dX12_keepNow_6 : decode cX12_keepNow 6 = .ok (.if_icmp .ne 39, 3) := by decide +kernel
theorem dX12_keepNow_9 : decode cX12_keepNow 9 = .ok (.iconst 1, 1) := by decide +kernel
theorem dX12_keepNow_10 : decode cX12_keepNow 10 = .ok (.istore_n 1, 1) := by decide +kernel
theorem dX12_keepNow_11 : decode cX12_keepNow 11 = .ok (.iload_n 1, 1) := by decide +kernel
theorem dX12_keepNow_12 : decode cX12_keepNow 12 = .ok (.bipush 20, 2) := by decide +kernel
theorem dX12_keepNow_14 : decode cX12_keepNow 14 = .ok (.if_icmp .ge 21, 3) := by decide +kernel
theorem dX12_keepNow_17 : decode cX12_keepNow 17 = .ok (.aload_n 0, 1) := by decide +kernel
theorem dX12_keepNow_18 : decode cX12_keepNow 18 = .ok (.iconst 3, 1) := by decide +kernel
theorem dX12_keepNow_19 : decode cX12_keepNow 19 = .ok (.iload_n 1, 1) := by decide +kernel
theorem dX12_keepNow_20 : decode cX12_keepNow 20 = .ok (.iadd, 1) := by decide +kernel
theorem dX12_keepNow_21 : decode cX12_keepNow 21 = .ok (.iconst 1, 1) := by decide +kernel
theorem dX12_keepNow_22 : decode cX12_keepNow 22 = .ok (.isub, 1) := by decide +kernel
theorem dX12_keepNow_23 : decode cX12_keepNow 23 = .ok (.iconst 3, 1) := by decide +kernel
theorem dX12_keepNow_24 : decode cX12_keepNow 24 = .ok (.iload_n 1, 1) := by decide +kernel
theorem dX12_keepNow_25 : decode cX12_keepNow 25 = .ok (.iadd, 1) := by decide +kernel
theorem dX12_keepNow_26 : decode cX12_keepNow 26 = .ok (.invokevirtual 426, 3) := by decide +kernel
theorem dX12_keepNow_29 : decode cX12_keepNow 29 = .ok (.iinc 1 1, 3) := by decide +kernel
theorem dX12_keepNow_32 : decode cX12_keepNow 32 = .ok (.goto (-21), 3) := by decide +kernel
theorem dX12_keepNow_35 : decode cX12_keepNow 35 = .ok (.aload_n 0, 1) := by decide +kernel
theorem dX12_keepNow_36 : decode cX12_keepNow 36 = .ok (.dup, 1) := by decide +kernel
theorem dX12_keepNow_37 : decode cX12_keepNow 37 = .ok (.getfield 317, 3) := by decide +kernel
theorem dX12_keepNow_40 : decode cX12_keepNow 40 = .ok (.iconst 1, 1) := by decide +kernel
theorem dX12_keepNow_41 : decode cX12_keepNow 41 = .ok (.isub, 1) := by decide +kernel
theorem dX12_keepNow_42 : decode cX12_keepNow 42 = .ok (.putfield 317, 3) := by decide +kernel
theorem dX12_keepNow_45 : decode cX12_keepNow 45 = .ok (.aload_n 0, 1) := by decide +kernel
theorem dX12_keepNow_46 : decode cX12_keepNow 46 = .ok (.iconst 3, 1) := by decide +kernel
theorem dX12_keepNow_47 : decode cX12_keepNow 47 = .ok (.aload_n 0, 1) := by decide +kernel
theorem dX12_keepNow_48 : decode cX12_keepNow 48 = .ok (.getfield 317, 3) := by decide +kernel
theorem dX12_keepNow_51 : decode cX12_keepNow 51 = .ok (.iadd, 1) := by decide +kernel
theorem dX12_keepNow_52 : decode cX12_keepNow 52 = .ok (.iconst 0, 1) := by decide +kernel
theorem dX12_keepNow_53 : decode cX12_keepNow 53 = .ok (.invokevirtual 426, 3) := by decide +kernel
theorem dX12_keepNow_56 : decode cX12_keepNow 56 = .ok (.aload_n 0, 1) := by decide +kernel
theorem dX12_keepNow_57 : decode cX12_keepNow 57 = .ok (.dup, 1) := by decide +kernel
theorem dX12_keepNow_58 : decode cX12_keepNow 58 = .ok (.getfield 317, 3) := by decide +kernel
theorem dX12_keepNow_61 : decode cX12_keepNow 61 = .ok (.iconst 1, 1) := by decide +kernel
theorem dX12_keepNow_62 : decode cX12_keepNow 62 = .ok (.iadd, 1) := by decide +kernel
theorem dX12_keepNow_63 : decode cX12_keepNow 63 = .ok (.putfield 317, 3) := by decide +kernel
theorem dX12_keepNow_66 : decode cX12_keepNow 66 = .ok (.return_, 1) := by decide +kernel
theorem dX12_add_0 : decode cX12_add 0 = .ok (.aload_n 0, 1) := by decide +kernel
theorem dX12_add_1 : decode cX12_add 1 = .ok (.iconst 0, 1) := by decide +kernel
theorem dX12_add_2 : decode cX12_add 2 = .ok (.putfield 154, 3) := by decide +kernel
theorem dX12_add_5 : decode cX12_add 5 = .ok (.aload_n 0, 1) := by decide +kernel
theorem dX12_add_6 : decode cX12_add 6 = .ok (.iload_n 1, 1) := by decide +kernel
theorem dX12_add_7 : decode cX12_add 7 = .ok (.invokevirtual 413, 3) := by decide +kernel
theorem dX12_add_10 : decode cX12_add 10 = .ok (.ifCond .eq 14, 3) := by decide +kernel
theorem dX12_add_13 : decode cX12_add 13 = .ok (.iload_n 2, 1) := by decide +kernel
theorem dX12_add_14 : decode cX12_add 14 = .ok (.iconst 1, 1) := by decide +kernel
theorem dX12_add_15 : decode cX12_add 15 = .ok (.if_icmp .lt 9, 3) := by decide +kernel
theorem dX12_add_18 : decode cX12_add 18 = .ok (.iload_n 2, 1) := by decide +kernel
theorem dX12_add_19 : decode cX12_add 19 = .ok (.bipush 60, 2) := by decide +kernel
theorem dX12_add_21 : decode cX12_add 21 = .ok (.if_icmp .le 5, 3) := by decide +kernel
theorem dX12_add_24 : decode cX12_add 24 = .ok (.iconst (-1), 1) := by decide +kernel
theorem dX12_add_25 : decode cX12_add 25 = .ok (.ireturn, 1) := by decide +kernel
theorem dX12_add_26 : decode cX12_add 26 = .ok (.aload_n 0, 1) := by decide +kernel
theorem dX12_add_27 : decode cX12_add 27 = .ok (.getfield 93, 3) := by decide +kernel
theorem dX12_add_30 : decode cX12_add 30 = .ok (.iload_n 1, 1) := by decide +kernel
theorem dX12_add_31 : decode cX12_add 31 = .ok (.iaload, 1) := by decide +kernel
theorem dX12_add_32 : decode cX12_add 32 = .ok (.iload_n 2, 1) := by decide +kernel
theorem dX12_add_33 : decode cX12_add 33 = .ok (.iadd, 1) := by decide +kernel
theorem dX12_add_34 : decode cX12_add 34 = .ok (.sipush 999, 3) := by decide +kernel
theorem dX12_add_37 : decode cX12_add 37 = .ok (.if_icmp .le 6, 3) := by decide +kernel
theorem dX12_add_40 : decode cX12_add 40 = .ok (.bipush (-2), 2) := by decide +kernel
theorem dX12_add_42 : decode cX12_add 42 = .ok (.ireturn, 1) := by decide +kernel
theorem dX12_add_43 : decode cX12_add 43 = .ok (.aload_n 0, 1) := by decide +kernel
theorem dX12_add_44 : decode cX12_add 44 = .ok (.invokevirtual 429, 3) := by decide +kernel
theorem dX12_add_47 : decode cX12_add 47 = .ok (.aload_n 0, 1) := by decide +kernel
theorem dX12_add_48 : decode cX12_add 48 = .ok (.iconst 0, 1) := by decide +kernel
theorem dX12_add_49 : decode cX12_add 49 = .ok (.iload_n 1, 1) := by decide +kernel
theorem dX12_add_50 : decode cX12_add 50 = .ok (.iload_n 2, 1) := by decide +kernel
theorem dX12_add_51 : decode cX12_add 51 = .ok (.sipush 990, 3) := by decide +kernel
theorem dX12_add_54 : decode cX12_add 54 = .ok (.invokevirtual 366, 3) := by decide +kernel
theorem dX12_add_57 : decode cX12_add 57 = .ok (.pop, 1) := by decide +kernel
theorem dX12_add_58 : decode cX12_add 58 = .ok (.aload_n 0, 1) := by decide +kernel
theorem dX12_add_59 : decode cX12_add 59 = .ok (.getfield 96, 3) := by decide +kernel
theorem dX12_add_62 : decode cX12_add 62 = .ok (.iload_n 1, 1) := by decide +kernel
theorem dX12_add_63 : decode cX12_add 63 = .ok (.iaload, 1) := by decide +kernel
theorem dX12_add_64 : decode cX12_add 64 = .ok (.ireturn, 1) := by decide +kernel
theorem dX12_pour_0 : decode cX12_pour 0 = .ok (.aload_n 0, 1) := by decide +kernel
theorem dX12_pour_1 : decode cX12_pour 1 = .ok (.iconst 0, 1) := by decide +kernel
theorem dX12_pour_2 : decode cX12_pour 2 = .ok (.putfield 154, 3) := by decide +kernel
theorem dX12_pour_5 : decode cX12_pour 5 = .ok (.aload_n 0, 1) := by decide +kernel
theorem dX12_pour_6 : decode cX12_pour 6 = .ok (.iload_n 1, 1) := by decide +kernel
theorem dX12_pour_7 : decode cX12_pour 7 = .ok (.invokevirtual 413, 3) := by decide +kernel
theorem dX12_pour_10 : decode cX12_pour 10 = .ok (.ifCond .eq 27, 3) := by decide +kernel
theorem dX12_pour_13 : decode cX12_pour 13 = .ok (.aload_n 0, 1) := by decide +kernel
theorem dX12_pour_14 : decode cX12_pour 14 = .ok (.iload_n 2, 1) := by decide +kernel
theorem dX12_pour_15 : decode cX12_pour 15 = .ok (.invokevirtual 413, 3) := by decide +kernel
theorem dX12_pour_18 : decode cX12_pour 18 = .ok (.ifCond .eq 19, 3) := by decide +kernel
theorem dX12_pour_21 : decode cX12_pour 21 = .ok (.iload_n 1, 1) := by decide +kernel
theorem dX12_pour_22 : decode cX12_pour 22 = .ok (.iload_n 2, 1) := by decide +kernel
theorem dX12_pour_23 : decode cX12_pour 23 = .ok (.if_icmp .eq 14, 3) := by decide +kernel
theorem dX12_pour_26 : decode cX12_pour 26 = .ok (.iload_n 3, 1) := by decide +kernel
theorem dX12_pour_27 : decode cX12_pour 27 = .ok (.iconst 1, 1) := by decide +kernel
theorem dX12_pour_28 : decode cX12_pour 28 = .ok (.if_icmp .lt 9, 3) := by decide +kernel
theorem dX12_pour_31 : decode cX12_pour 31 = .ok (.iload_n 3, 1) := by decide +kernel
theorem dX12_pour_32 : decode cX12_pour 32 = .ok (.bipush 60, 2) := by decide +kernel
theorem dX12_pour_34 : decode cX12_pour 34 = .ok (.if_icmp .le 5, 3) := by decide +kernel
theorem dX12_pour_37 : decode cX12_pour 37 = .ok (.iconst (-1), 1) := by decide +kernel
theorem dX12_pour_38 : decode cX12_pour 38 = .ok (.ireturn, 1) := by decide +kernel
theorem dX12_pour_39 : decode cX12_pour 39 = .ok (.aload_n 0, 1) := by decide +kernel
theorem dX12_pour_40 : decode cX12_pour 40 = .ok (.getfield 93, 3) := by decide +kernel
theorem dX12_pour_43 : decode cX12_pour 43 = .ok (.iload_n 1, 1) := by decide +kernel
theorem dX12_pour_44 : decode cX12_pour 44 = .ok (.iaload, 1) := by decide +kernel
theorem dX12_pour_45 : decode cX12_pour 45 = .ok (.iload_n 3, 1) := by decide +kernel
theorem dX12_pour_46 : decode cX12_pour 46 = .ok (.if_icmp .le 17, 3) := by decide +kernel
theorem dX12_pour_49 : decode cX12_pour 49 = .ok (.aload_n 0, 1) := by decide +kernel
theorem dX12_pour_50 : decode cX12_pour 50 = .ok (.getfield 93, 3) := by decide +kernel
theorem dX12_pour_53 : decode cX12_pour 53 = .ok (.iload_n 2, 1) := by decide +kernel
theorem dX12_pour_54 : decode cX12_pour 54 = .ok (.iaload, 1) := by decide +kernel
theorem dX12_pour_55 : decode cX12_pour 55 = .ok (.iload_n 3, 1) := by decide +kernel
theorem dX12_pour_56 : decode cX12_pour 56 = .ok (.iadd, 1) := by decide +kernel
theorem dX12_pour_57 : decode cX12_pour 57 = .ok (.sipush 999, 3) := by decide +kernel
theorem dX12_pour_60 : decode cX12_pour 60 = .ok (.if_icmp .le 6, 3) := by decide +kernel
theorem dX12_pour_63 : decode cX12_pour 63 = .ok (.bipush (-2), 2) := by decide +kernel
theorem dX12_pour_65 : decode cX12_pour 65 = .ok (.ireturn, 1) := by decide +kernel
theorem dX12_pour_66 : decode cX12_pour 66 = .ok (.aload_n 0, 1) := by decide +kernel
theorem dX12_pour_67 : decode cX12_pour 67 = .ok (.invokevirtual 429, 3) := by decide +kernel
theorem dX12_pour_70 : decode cX12_pour 70 = .ok (.aload_n 0, 1) := by decide +kernel
theorem dX12_pour_71 : decode cX12_pour 71 = .ok (.iconst 0, 1) := by decide +kernel
theorem dX12_pour_72 : decode cX12_pour 72 = .ok (.iload_n 2, 1) := by decide +kernel
theorem dX12_pour_73 : decode cX12_pour 73 = .ok (.iload_n 3, 1) := by decide +kernel
theorem dX12_pour_74 : decode cX12_pour 74 = .ok (.aload_n 0, 1) := by decide +kernel
theorem dX12_pour_75 : decode cX12_pour 75 = .ok (.getfield 96, 3) := by decide +kernel
theorem dX12_pour_78 : decode cX12_pour 78 = .ok (.iload_n 1, 1) := by decide +kernel
theorem dX12_pour_79 : decode cX12_pour 79 = .ok (.iaload, 1) := by decide +kernel
theorem dX12_pour_80 : decode cX12_pour 80 = .ok (.invokevirtual 366, 3) := by decide +kernel
theorem dX12_pour_83 : decode cX12_pour 83 = .ok (.pop, 1) := by decide +kernel
theorem dX12_pour_84 : decode cX12_pour 84 = .ok (.aload_n 0, 1) := by decide +kernel
theorem dX12_pour_85 : decode cX12_pour 85 = .ok (.getfield 93, 3) := by decide +kernel
theorem dX12_pour_88 : decode cX12_pour 88 = .ok (.iload_n 1, 1) := by decide +kernel
theorem dX12_pour_89 : decode cX12_pour 89 = .ok (.dup2, 1) := by decide +kernel
theorem dX12_pour_90 : decode cX12_pour 90 = .ok (.iaload, 1) := by decide +kernel
theorem dX12_pour_91 : decode cX12_pour 91 = .ok (.iload_n 3, 1) := by decide +kernel
theorem dX12_pour_92 : decode cX12_pour 92 = .ok (.isub, 1) := by decide +kernel
theorem dX12_pour_93 : decode cX12_pour 93 = .ok (.iastore, 1) := by decide +kernel
theorem dX12_pour_94 : decode cX12_pour 94 = .ok (.aload_n 0, 1) := by decide +kernel
theorem dX12_pour_95 : decode cX12_pour 95 = .ok (.getfield 96, 3) := by decide +kernel
theorem dX12_pour_98 : decode cX12_pour 98 = .ok (.iload_n 2, 1) := by decide +kernel
theorem dX12_pour_99 : decode cX12_pour 99 = .ok (.iaload, 1) := by decide +kernel
theorem dX12_pour_100 : decode cX12_pour 100 = .ok (.ireturn, 1) := by decide +kernel
theorem dX12_sit_0 : decode cX12_sit 0 = .ok (.aload_n 0, 1) := by decide +kernel
theorem dX12_sit_1 : decode cX12_sit 1 = .ok (.iconst 0, 1) := by decide +kernel
theorem dX12_sit_2 : decode cX12_sit 2 = .ok (.putfield 154, 3) := by decide +kernel
theorem dX12_sit_5 : decode cX12_sit 5 = .ok (.aload_n 0, 1) := by decide +kernel
theorem dX12_sit_6 : decode cX12_sit 6 = .ok (.iload_n 1, 1) := by decide +kernel
theorem dX12_sit_7 : decode cX12_sit 7 = .ok (.invokevirtual 419, 3) := by decide +kernel
theorem dX12_sit_10 : decode cX12_sit 10 = .ok (.ifCond .eq 21, 3) := by decide +kernel
theorem dX12_sit_13 : decode cX12_sit 13 = .ok (.aload_n 0, 1) := by decide +kernel
theorem dX12_sit_14 : decode cX12_sit 14 = .ok (.iload_n 2, 1) := by decide +kernel
theorem dX12_sit_15 : decode cX12_sit 15 = .ok (.invokevirtual 413, 3) := by decide +kernel
theorem dX12_sit_18 : decode cX12_sit 18 = .ok (.ifCond .eq 13, 3) := by decide +kernel
theorem dX12_sit_21 : decode cX12_sit 21 = .ok (.aload_n 0, 1) := by decide +kernel
theorem dX12_sit_22 : decode cX12_sit 22 = .ok (.iconst 0, 1) := by decide +kernel
theorem dX12_sit_23 : decode cX12_sit 23 = .ok (.iload_n 2, 1) := by decide +kernel
theorem dX12_sit_24 : decode cX12_sit 24 = .ok (.invokevirtual 398, 3) := by decide +kernel
theorem dX12_sit_27 : decode cX12_sit 27 = .ok (.iconst (-1), 1) := by decide +kernel
theorem dX12_sit_28 : decode cX12_sit 28 = .ok (.if_icmp .eq 5, 3) := by decide +kernel
theorem dX12_sit_31 : decode cX12_sit 31 = .ok (.iconst 0, 1) := by decide +kernel
theorem dX12_sit_32 : decode cX12_sit 32 = .ok (.ireturn, 1) := by decide +kernel
theorem dX12_sit_33 : decode cX12_sit 33 = .ok (.aload_n 0, 1) := by decide +kernel
theorem dX12_sit_34 : decode cX12_sit 34 = .ok (.invokevirtual 429, 3) := by decide +kernel
theorem dX12_sit_37 : decode cX12_sit 37 = .ok (.aload_n 0, 1) := by decide +kernel
theorem dX12_sit_38 : decode cX12_sit 38 = .ok (.iconst 0, 1) := by decide +kernel
theorem dX12_sit_39 : decode cX12_sit 39 = .ok (.iload_n 1, 1) := by decide +kernel
theorem dX12_sit_40 : decode cX12_sit 40 = .ok (.iload_n 2, 1) := by decide +kernel
theorem dX12_sit_41 : decode cX12_sit 41 = .ok (.invokevirtual 401, 3) := by decide +kernel
theorem dX12_sit_44 : decode cX12_sit 44 = .ok (.iconst 1, 1) := by decide +kernel
theorem dX12_sit_45 : decode cX12_sit 45 = .ok (.ireturn, 1) := by decide +kernel
theorem dX12_rise_0 : decode cX12_rise 0 = .ok (.aload_n 0, 1) := by decide +kernel
theorem dX12_rise_1 : decode cX12_rise 1 = .ok (.iconst 0, 1) := by decide +kernel
theorem dX12_rise_2 : decode cX12_rise 2 = .ok (.putfield 154, 3) := by decide +kernel
theorem dX12_rise_5 : decode cX12_rise 5 = .ok (.aload_n 0, 1) := by decide +kernel
theorem dX12_rise_6 : decode cX12_rise 6 = .ok (.iload_n 1, 1) := by decide +kernel
theorem dX12_rise_7 : decode cX12_rise 7 = .ok (.invokevirtual 419, 3) := by decide +kernel
theorem dX12_rise_10 : decode cX12_rise 10 = .ok (.ifCond .eq 13, 3) := by decide +kernel
theorem dX12_rise_13 : decode cX12_rise 13 = .ok (.aload_n 0, 1) := by decide +kernel
theorem dX12_rise_14 : decode cX12_rise 14 = .ok (.getfield 102, 3) := by decide +kernel
theorem dX12_rise_17 : decode cX12_rise 17 = .ok (.iload_n 1, 1) := by decide +kernel
theorem dX12_rise_18 : decode cX12_rise 18 = .ok (.iaload, 1) := by decide +kernel
theorem dX12_rise_19 : decode cX12_rise 19 = .ok (.iconst (-1), 1) := by decide +kernel
theorem dX12_rise_20 : decode cX12_rise 20 = .ok (.if_icmp .ne 5, 3) := by decide +kernel
theorem dX12_rise_23 : decode cX12_rise 23 = .ok (.iconst 0, 1) := by decide +kernel
theorem dX12_rise_24 : decode cX12_rise 24 = .ok (.ireturn, 1) := by decide +kernel
theorem dX12_rise_25 : decode cX12_rise 25 = .ok (.aload_n 0, 1) := by decide +kernel
theorem dX12_rise_26 : decode cX12_rise 26 = .ok (.invokevirtual 429, 3) := by decide +kernel
theorem dX12_rise_29 : decode cX12_rise 29 = .ok (.aload_n 0, 1) := by decide +kernel
theorem dX12_rise_30 : decode cX12_rise 30 = .ok (.iconst 0, 1) := by decide +kernel
theorem dX12_rise_31 : decode cX12_rise 31 = .ok (.iload_n 1, 1) := by decide +kernel
theorem dX12_rise_32 : decode cX12_rise 32 = .ok (.invokevirtual 389, 3) := by decide +kernel
theorem dX12_rise_35 : decode cX12_rise 35 = .ok (.iconst 1, 1) := by decide +kernel
theorem dX12_rise_36 : decode cX12_rise 36 = .ok (.ireturn, 1) := by decide +kernel
theorem dX12_go_0 : decode cX12_go 0 = .ok (.aload_n 0, 1) := by decide +kernel
theorem dX12_go_1 : decode cX12_go 1 = .ok (.iconst 0, 1) := by decide +kernel
theorem dX12_go_2 : decode cX12_go 2 = .ok (.putfield 154, 3) := by decide +kernel
theorem dX12_go_5 : decode cX12_go 5 = .ok (.iload_n 1, 1) := by decide +kernel
theorem dX12_go_6 : decode cX12_go 6 = .ok (.ifCond .lt 24, 3) := by decide +kernel
theorem dX12_go_9 : decode cX12_go 9 = .ok (.iload_n 1, 1) := by decide +kernel
theorem dX12_go_10 : decode cX12_go 10 = .ok (.sipush 200, 3) := by decide +kernel
theorem dX12_go_13 : decode cX12_go 13 = .ok (.if_icmp .gt 17, 3) := by decide +kernel
theorem dX12_go_16 : decode cX12_go 16 = .ok (.aload_n 0, 1) := by decide +kernel
theorem dX12_go_17 : decode cX12_go 17 = .ok (.getfield 84, 3) := by decide +kernel
theorem dX12_go_20 : decode cX12_go 20 = .ok (.iconst 0, 1) := by decide +kernel
theorem dX12_go_21 : decode cX12_go 21 = .ok (.iaload, 1) := by decide +kernel
theorem dX12_go_22 : decode cX12_go 22 = .ok (.iload_n 1, 1) := by decide +kernel
theorem dX12_go_23 : decode cX12_go 23 = .ok (.iadd, 1) := by decide +kernel
theorem dX12_go_24 : decode cX12_go 24 = .ok (.sipush 9800, 3) := by decide +kernel
theorem dX12_go_27 : decode cX12_go 27 = .ok (.if_icmp .le 5, 3) := by decide +kernel
theorem dX12_go_30 : decode cX12_go 30 = .ok (.iconst (-1), 1) := by decide +kernel
theorem dX12_go_31 : decode cX12_go 31 = .ok (.ireturn, 1) := by decide +kernel
theorem dX12_go_32 : decode cX12_go 32 = .ok (.iload_n 1, 1) := by decide +kernel
theorem dX12_go_33 : decode cX12_go 33 = .ok (.ifCond .le 8, 3) := by decide +kernel
theorem dX12_go_36 : decode cX12_go 36 = .ok (.aload_n 0, 1) := by decide +kernel
theorem dX12_go_37 : decode cX12_go 37 = .ok (.iconst 0, 1) := by decide +kernel
theorem dX12_go_38 : decode cX12_go 38 = .ok (.putfield 317, 3) := by decide +kernel
theorem dX12_go_41 : decode cX12_go 41 = .ok (.iconst 0, 1) := by decide +kernel
theorem dX12_go_42 : decode cX12_go 42 = .ok (.istore_n 2, 1) := by decide +kernel
theorem dX12_go_43 : decode cX12_go 43 = .ok (.iload_n 2, 1) := by decide +kernel
theorem dX12_go_44 : decode cX12_go 44 = .ok (.iload_n 1, 1) := by decide +kernel
theorem dX12_go_45 : decode cX12_go 45 = .ok (.if_icmp .ge 15, 3) := by decide +kernel
theorem dX12_go_48 : decode cX12_go 48 = .ok (.aload_n 0, 1) := by decide +kernel
theorem dX12_go_49 : decode cX12_go 49 = .ok (.iconst 0, 1) := by decide +kernel
theorem dX12_go_50 : decode cX12_go 50 = .ok (.iconst 1, 1) := by decide +kernel
theorem dX12_go_51 : decode cX12_go 51 = .ok (.invokevirtual 409, 3) := by decide +kernel
theorem dX12_go_54 : decode cX12_go 54 = .ok (.iinc 2 1, 3) := by decide +kernel
theorem dX12_go_57 : decode cX12_go 57 = .ok (.goto (-14), 3) := by decide +kernel
theorem dX12_go_60 : decode cX12_go 60 = .ok (.aload_n 0, 1) := by decide +kernel
theorem dX12_go_61 : decode cX12_go 61 = .ok (.getfield 84, 3) := by decide +kernel
theorem dX12_go_64 : decode cX12_go 64 = .ok (.iconst 0, 1) := by decide +kernel
theorem dX12_go_65 : decode cX12_go 65 = .ok (.iaload, 1) := by decide +kernel
theorem dX12_go_66 : decode cX12_go 66 = .ok (.ireturn, 1) := by decide +kernel
theorem dX12_ahead_0 : decode cX12_ahead 0 = .ok (.aload_n 0, 1) := by decide +kernel
theorem dX12_ahead_1 : decode cX12_ahead 1 = .ok (.iconst 0, 1) := by decide +kernel
theorem dX12_ahead_2 : decode cX12_ahead 2 = .ok (.putfield 154, 3) := by decide +kernel
theorem dX12_ahead_5 : decode cX12_ahead 5 = .ok (.iload_n 1, 1) := by decide +kernel
theorem dX12_ahead_6 : decode cX12_ahead 6 = .ok (.ifCond .lt 50, 3) := by decide +kernel
theorem dX12_ahead_9 : decode cX12_ahead 9 = .ok (.iload_n 1, 1) := by decide +kernel
theorem dX12_ahead_10 : decode cX12_ahead 10 = .ok (.sipush 200, 3) := by decide +kernel
theorem dX12_ahead_13 : decode cX12_ahead 13 = .ok (.if_icmp .gt 43, 3) := by decide +kernel
theorem dX12_ahead_16 : decode cX12_ahead 16 = .ok (.iload_n 2, 1) := by decide +kernel
theorem dX12_ahead_17 : decode cX12_ahead 17 = .ok (.ifCond .lt 39, 3) := by decide +kernel
theorem dX12_ahead_20 : decode cX12_ahead 20 = .ok (.iload_n 2, 1) := by decide +kernel
theorem dX12_ahead_21 : decode cX12_ahead 21 = .ok (.iconst 4, 1) := by decide +kernel
theorem dX12_ahead_22 : decode cX12_ahead 22 = .ok (.if_icmp .gt 34, 3) := by decide +kernel
theorem dX12_ahead_25 : decode cX12_ahead 25 = .ok (.iload_n 2, 1) := by decide +kernel
theorem dX12_ahead_26 : decode cX12_ahead 26 = .ok (.iconst 2, 1) := by decide +kernel
theorem dX12_ahead_27 : decode cX12_ahead 27 = .ok (.if_icmp .ge 11, 3) := by decide +kernel
theorem dX12_ahead_30 : decode cX12_ahead 30 = .ok (.aload_n 0, 1) := by decide +kernel
theorem dX12_ahead_31 : decode cX12_ahead 31 = .ok (.iload_n 3, 1) := by decide +kernel
theorem dX12_ahead_32 : decode cX12_ahead 32 = .ok (.invokevirtual 413, 3) := by decide +kernel
theorem dX12_ahead_35 : decode cX12_ahead 35 = .ok (.ifCond .eq 21, 3) := by decide +kernel
theorem dX12_ahead_38 : decode cX12_ahead 38 = .ok (.iload_n 2, 1) := by decide +kernel
theorem dX12_ahead_39 : decode cX12_ahead 39 = .ok (.iconst 2, 1) := by decide +kernel
theorem dX12_ahead_40 : decode cX12_ahead 40 = .ok (.if_icmp .eq 8, 3) := by decide +kernel
theorem dX12_ahead_43 : decode cX12_ahead 43 = .ok (.iload_n 2, 1) := by decide +kernel
theorem dX12_ahead_44 : decode cX12_ahead 44 = .ok (.iconst 3, 1) := by decide +kernel
theorem dX12_ahead_45 : decode cX12_ahead 45 = .ok (.if_icmp .ne 13, 3) := by decide +kernel
theorem dX12_ahead_48 : decode cX12_ahead 48 = .ok (.aload_n 0, 1) := by decide +kernel
theorem dX12_ahead_49 : decode cX12_ahead 49 = .ok (.iload_n 3, 1) := by decide +kernel
theorem dX12_ahead_50 : decode cX12_ahead 50 = .ok (.invokevirtual 419, 3) := by decide +kernel
theorem dX12_ahead_53 : decode cX12_ahead 53 = .ok (.ifCond .ne 5, 3) := by decide +kernel
theorem dX12_ahead_56 : decode cX12_ahead 56 = .ok (.iconst (-1), 1) := by decide +kernel
theorem dX12_ahead_57 : decode cX12_ahead 57 = .ok (.ireturn, 1) := by decide +kernel
theorem dX12_ahead_58 : decode cX12_ahead 58 = .ok (.aload_n 0, 1) := by decide +kernel
theorem dX12_ahead_59 : decode cX12_ahead 59 = .ok (.iconst 1, 1) := by decide +kernel
theorem dX12_ahead_60 : decode cX12_ahead 60 = .ok (.iconst 0, 1) := by decide +kernel
theorem dX12_ahead_61 : decode cX12_ahead 61 = .ok (.invokevirtual 426, 3) := by decide +kernel
theorem dX12_ahead_64 : decode cX12_ahead 64 = .ok (.aload_n 0, 1) := by decide +kernel
theorem dX12_ahead_65 : decode cX12_ahead 65 = .ok (.iload_n 1, 1) := by decide +kernel
theorem dX12_ahead_66 : decode cX12_ahead 66 = .ok (.invokevirtual 432, 3) := by decide +kernel
theorem dX12_ahead_69 : decode cX12_ahead 69 = .ok (.iload_n 2, 1) := by decide +kernel
theorem dX12_ahead_70 : decode cX12_ahead 70 = .ok (.tableswitch 70 0 3 #[30, 40, 50, 60], 30) := by decide +kernel
theorem dX12_ahead_100 : decode cX12_ahead 100 = .ok (.aload_n 0, 1) := by decide +kernel
theorem dX12_ahead_101 : decode cX12_ahead 101 = .ok (.getfield 96, 3) := by decide +kernel
theorem dX12_ahead_104 : decode cX12_ahead 104 = .ok (.bipush 6, 2) := by decide +kernel
theorem dX12_ahead_106 : decode cX12_ahead 106 = .ok (.iload_n 3, 1) := by decide +kernel
theorem dX12_ahead_107 : decode cX12_ahead 107 = .ok (.iadd, 1) := by decide +kernel
theorem dX12_ahead_108 : decode cX12_ahead 108 = .ok (.iaload, 1) := by decide +kernel
theorem dX12_ahead_109 : decode cX12_ahead 109 = .ok (.ireturn, 1) := by decide +kernel
theorem dX12_ahead_110 : decode cX12_ahead 110 = .ok (.aload_n 0, 1) := by decide +kernel
theorem dX12_ahead_111 : decode cX12_ahead 111 = .ok (.getfield 93, 3) := by decide +kernel
theorem dX12_ahead_114 : decode cX12_ahead 114 = .ok (.bipush 6, 2) := by decide +kernel
theorem dX12_ahead_116 : decode cX12_ahead 116 = .ok (.iload_n 3, 1) := by decide +kernel
theorem dX12_ahead_117 : decode cX12_ahead 117 = .ok (.iadd, 1) := by decide +kernel
theorem dX12_ahead_118 : decode cX12_ahead 118 = .ok (.iaload, 1) := by decide +kernel
theorem dX12_ahead_119 : decode cX12_ahead 119 = .ok (.ireturn, 1) := by decide +kernel
theorem dX12_ahead_120 : decode cX12_ahead 120 = .ok (.aload_n 0, 1) := by decide +kernel
theorem dX12_ahead_121 : decode cX12_ahead 121 = .ok (.getfield 108, 3) := by decide +kernel
theorem dX12_ahead_124 : decode cX12_ahead 124 = .ok (.bipush 6, 2) := by decide +kernel
theorem dX12_ahead_126 : decode cX12_ahead 126 = .ok (.iload_n 3, 1) := by decide +kernel
theorem dX12_ahead_127 : decode cX12_ahead 127 = .ok (.iadd, 1) := by decide +kernel
theorem dX12_ahead_128 : decode cX12_ahead 128 = .ok (.iaload, 1) := by decide +kernel
theorem dX12_ahead_129 : decode cX12_ahead 129 = .ok (.ireturn, 1) := by decide +kernel
theorem dX12_ahead_130 : decode cX12_ahead 130 = .ok (.aload_n 0, 1) := by decide +kernel
theorem dX12_ahead_131 : decode cX12_ahead 131 = .ok (.getfield 111, 3) := by decide +kernel
theorem dX12_ahead_134 : decode cX12_ahead 134 = .ok (.bipush 6, 2) := by decide +kernel
theorem dX12_ahead_136 : decode cX12_ahead 136 = .ok (.iload_n 3, 1) := by decide +kernel
theorem dX12_ahead_137 : decode cX12_ahead 137 = .ok (.iadd, 1) := by decide +kernel
theorem dX12_ahead_138 : decode cX12_ahead 138 = .ok (.iaload, 1) := by decide +kernel
theorem dX12_ahead_139 : decode cX12_ahead 139 = .ok (.ireturn, 1) := by decide +kernel
theorem dX12_ahead_140 : decode cX12_ahead 140 = .ok (.aload_n 0, 1) := by decide +kernel
theorem dX12_ahead_141 : decode cX12_ahead 141 = .ok (.aload_n 0, 1) := by decide +kernel
theorem dX12_ahead_142 : decode cX12_ahead 142 = .ok (.getfield 114, 3) := by decide +kernel
theorem dX12_ahead_145 : decode cX12_ahead 145 = .ok (.iconst 1, 1) := by decide +kernel
theorem dX12_ahead_146 : decode cX12_ahead 146 = .ok (.invokevirtual 435, 3) := by decide +kernel
theorem dX12_ahead_149 : decode cX12_ahead 149 = .ok (.aload_n 0, 1) := by decide +kernel
theorem dX12_ahead_150 : decode cX12_ahead 150 = .ok (.aload_n 0, 1) := by decide +kernel
theorem dX12_ahead_151 : decode cX12_ahead 151 = .ok (.getfield 114, 3) := by decide +kernel
theorem dX12_ahead_154 : decode cX12_ahead 154 = .ok (.iconst 0, 1) := by decide +kernel
theorem dX12_ahead_155 : decode cX12_ahead 155 = .ok (.invokevirtual 435, 3) := by decide +kernel
theorem dX12_ahead_158 : decode cX12_ahead 158 = .ok (.isub, 1) := by decide +kernel
theorem dX12_ahead_159 : decode cX12_ahead 159 = .ok (.ireturn, 1) := by decide +kernel
theorem dX12_areDegrees_0 : decode cX12_areDegrees 0 = .ok (.iload_n 0, 1) := by decide +kernel
theorem dX12_areDegrees_1 : decode cX12_areDegrees 1 = .ok (.ifCond .lt 13, 3) := by decide +kernel
theorem dX12_areDegrees_4 : decode cX12_areDegrees 4 = .ok (.iload_n 0, 1) := by decide +kernel
theorem dX12_areDegrees_5 : decode cX12_areDegrees 5 = .ok (.bipush 99, 2) := by decide +kernel
theorem dX12_areDegrees_7 : decode cX12_areDegrees 7 = .ok (.if_icmp .gt 7, 3) := by decide +kernel
theorem dX12_areDegrees_10 : decode cX12_areDegrees 10 = .ok (.iconst 1, 1) := by decide +kernel
theorem dX12_areDegrees_11 : decode cX12_areDegrees 11 = .ok (.goto 4, 3) := by decide +kernel
theorem dX12_areDegrees_14 : decode cX12_areDegrees 14 = .ok (.iconst 0, 1) := by decide +kernel
theorem dX12_areDegrees_15 : decode cX12_areDegrees 15 = .ok (.ireturn, 1) := by decide +kernel
theorem dX12_cools_0 : decode cX12_cools 0 = .ok (.aload_n 0, 1) := by decide +kernel
theorem dX12_cools_1 : decode cX12_cools 1 = .ok (.iconst 0, 1) := by decide +kernel
theorem dX12_cools_2 : decode cX12_cools 2 = .ok (.putfield 154, 3) := by decide +kernel
theorem dX12_cools_5 : decode cX12_cools 5 = .ok (.aload_n 0, 1) := by decide +kernel
theorem dX12_cools_6 : decode cX12_cools 6 = .ok (.iload_n 1, 1) := by decide +kernel
theorem dX12_cools_7 : decode cX12_cools 7 = .ok (.invokevirtual 413, 3) := by decide +kernel
theorem dX12_cools_10 : decode cX12_cools 10 = .ok (.ifCond .eq 10, 3) := by decide +kernel
theorem dX12_cools_13 : decode cX12_cools 13 = .ok (.iload_n 2, 1) := by decide +kernel
theorem dX12_cools_14 : decode cX12_cools 14 = .ok (.invokestatic 439, 3) := by decide +kernel
theorem dX12_cools_17 : decode cX12_cools 17 = .ok (.ifCond .ne 5, 3) := by decide +kernel
theorem dX12_cools_20 : decode cX12_cools 20 = .ok (.iconst (-1), 1) := by decide +kernel
theorem dX12_cools_21 : decode cX12_cools 21 = .ok (.ireturn, 1) := by decide +kernel
theorem dX12_cools_22 : decode cX12_cools 22 = .ok (.aload_n 0, 1) := by decide +kernel
theorem dX12_cools_23 : decode cX12_cools 23 = .ok (.iconst 1, 1) := by decide +kernel
theorem dX12_cools_24 : decode cX12_cools 24 = .ok (.iconst 0, 1) := by decide +kernel
theorem dX12_cools_25 : decode cX12_cools 25 = .ok (.invokevirtual 426, 3) := by decide +kernel
theorem dX12_cools_28 : decode cX12_cools 28 = .ok (.iconst 0, 1) := by decide +kernel
theorem dX12_cools_29 : decode cX12_cools 29 = .ok (.istore_n 3, 1) := by decide +kernel
theorem dX12_cools_30 : decode cX12_cools 30 = .ok (.iload_n 3, 1) := by decide +kernel
theorem dX12_cools_31 : decode cX12_cools 31 = .ok (.sipush 199, 3) := by decide +kernel
theorem dX12_cools_34 : decode cX12_cools 34 = .ok (.if_icmp .gt 33, 3) := by decide +kernel
theorem dX12_cools_37 : decode cX12_cools 37 = .ok (.aload_n 0, 1) := by decide +kernel
theorem dX12_cools_38 : decode cX12_cools 38 = .ok (.getfield 96, 3) := by decide +kernel
theorem dX12_cools_41 : decode cX12_cools 41 = .ok (.bipush 6, 2) := by decide +kernel
theorem dX12_cools_43 : decode cX12_cools 43 = .ok (.iload_n 1, 1) := by decide +kernel
theorem dX12_cools_44 : decode cX12_cools 44 = .ok (.iadd, 1) := by decide +kernel
theorem dX12_cools_45 : decode cX12_cools 45 = .ok (.iaload, 1) := by decide +kernel
theorem dX12_cools_46 : decode cX12_cools 46 = .ok (.bipush 10, 2) := by decide +kernel
theorem dX12_cools_48 : decode cX12_cools 48 = .ok (.iload_n 2, 1) := by decide +kernel
theorem dX12_cools_49 : decode cX12_cools 49 = .ok (.imul, 1) := by decide +kernel
theorem dX12_cools_50 : decode cX12_cools 50 = .ok (.if_icmp .gt 5, 3) := by decide +kernel
theorem dX12_cools_53 : decode cX12_cools 53 = .ok (.iload_n 3, 1) := by decide +kernel
theorem dX12_cools_54 : decode cX12_cools 54 = .ok (.ireturn, 1) := by decide +kernel
theorem dX12_cools_55 : decode cX12_cools 55 = .ok (.aload_n 0, 1) := by decide +kernel
theorem dX12_cools_56 : decode cX12_cools 56 = .ok (.iconst 1, 1) := by decide +kernel
theorem dX12_cools_57 : decode cX12_cools 57 = .ok (.iconst 0, 1) := by decide +kernel
theorem dX12_cools_58 : decode cX12_cools 58 = .ok (.invokevirtual 409, 3) := by decide +kernel
theorem dX12_cools_61 : decode cX12_cools 61 = .ok (.iinc 3 1, 3) := by decide +kernel
theorem dX12_cools_64 : decode cX12_cools 64 = .ok (.goto (-34), 3) := by decide +kernel
theorem dX12_cools_67 : decode cX12_cools 67 = .ok (.bipush (-2), 2) := by decide +kernel
theorem dX12_cools_69 : decode cX12_cools 69 = .ok (.ireturn, 1) := by decide +kernel
theorem dX12_flinches_0 : decode cX12_flinches 0 = .ok (.aload_n 0, 1) := by decide +kernel
theorem dX12_flinches_1 : decode cX12_flinches 1 = .ok (.iconst 0, 1) := by decide +kernel
theorem dX12_flinches_2 : decode cX12_flinches 2 = .ok (.putfield 154, 3) := by decide +kernel
theorem dX12_flinches_5 : decode cX12_flinches 5 = .ok (.aload_n 0, 1) := by decide +kernel
theorem dX12_flinches_6 : decode cX12_flinches 6 = .ok (.iload_n 1, 1) := by decide +kernel
theorem dX12_flinches_7 : decode cX12_flinches 7 = .ok (.invokevirtual 419, 3) := by decide +kernel
theorem dX12_flinches_10 : decode cX12_flinches 10 = .ok (.ifCond .ne 5, 3) := by decide +kernel
theorem dX12_flinches_13 : decode cX12_flinches 13 = .ok (.iconst (-1), 1) := by decide +kernel
theorem dX12_flinches_14 : decode cX12_flinches 14 = .ok (.ireturn, 1) := by decide +kernel
theorem dX12_flinches_15 : decode cX12_flinches 15 = .ok (.aload_n 0, 1) := by decide +kernel
theorem dX12_flinches_16 : decode cX12_flinches 16 = .ok (.iconst 1, 1) := by decide +kernel
theorem dX12_flinches_17 : decode cX12_flinches 17 = .ok (.iconst 0, 1) := by decide +kernel
theorem dX12_flinches_18 : decode cX12_flinches 18 = .ok (.invokevirtual 426, 3) := by decide +kernel
theorem dX12_flinches_21 : decode cX12_flinches 21 = .ok (.iconst 1, 1) := by decide +kernel
theorem dX12_flinches_22 : decode cX12_flinches 22 = .ok (.istore_n 2, 1) := by decide +kernel
theorem dX12_flinches_23 : decode cX12_flinches 23 = .ok (.iload_n 2, 1) := by decide +kernel
theorem dX12_flinches_24 : decode cX12_flinches 24 = .ok (.sipush 199, 3) := by decide +kernel
theorem dX12_flinches_27 : decode cX12_flinches 27 = .ok (.if_icmp .gt 35, 3) := by decide +kernel
theorem dX12_flinches_30 : decode cX12_flinches 30 = .ok (.aload_n 0, 1) := by decide +kernel
theorem dX12_flinches_31 : decode cX12_flinches 31 = .ok (.iconst 1, 1) := by decide +kernel
theorem dX12_flinches_32 : decode cX12_flinches 32 = .ok (.iconst 0, 1) := by decide +kernel
theorem dX12_flinches_33 : decode cX12_flinches 33 = .ok (.invokevirtual 409, 3) := by decide +kernel
theorem dX12_flinches_36 : decode cX12_flinches 36 = .ok (.aload_n 0, 1) := by decide +kernel
theorem dX12_flinches_37 : decode cX12_flinches 37 = .ok (.getfield 114, 3) := by decide +kernel
theorem dX12_flinches_40 : decode cX12_flinches 40 = .ok (.bipush 6, 2) := by decide +kernel
theorem dX12_flinches_42 : decode cX12_flinches 42 = .ok (.iload_n 1, 1) := by decide +kernel
theorem dX12_flinches_43 : decode cX12_flinches 43 = .ok (.iadd, 1) := by decide +kernel
theorem dX12_flinches_44 : decode cX12_flinches 44 = .ok (.iaload, 1) := by decide +kernel
theorem dX12_flinches_45 : decode cX12_flinches 45 = .ok (.aload_n 0, 1) := by decide +kernel
theorem dX12_flinches_46 : decode cX12_flinches 46 = .ok (.getfield 114, 3) := by decide +kernel
theorem dX12_flinches_49 : decode cX12_flinches 49 = .ok (.iload_n 1, 1) := by decide +kernel
theorem dX12_flinches_50 : decode cX12_flinches 50 = .ok (.iaload, 1) := by decide +kernel
theorem dX12_flinches_51 : decode cX12_flinches 51 = .ok (.if_icmp .le 5, 3) := by decide +kernel
theorem dX12_flinches_54 : decode cX12_flinches 54 = .ok (.iload_n 2, 1) := by decide +kernel
theorem dX12_flinches_55 : decode cX12_flinches 55 = .ok (.ireturn, 1) := by decide +kernel
theorem dX12_flinches_56 : decode cX12_flinches 56 = .ok (.iinc 2 1, 3) := by decide +kernel
theorem dX12_flinches_59 : decode cX12_flinches 59 = .ok (.goto (-36), 3) := by decide +kernel
theorem dX12_flinches_62 : decode cX12_flinches 62 = .ok (.bipush (-2), 2) := by decide +kernel
theorem dX12_flinches_64 : decode cX12_flinches 64 = .ok (.ireturn, 1) := by decide +kernel
theorem dX12_isAhead_0 : decode cX12_isAhead 0 = .ok (.aload_n 0, 1) := by decide +kernel
theorem dX12_isAhead_1 : decode cX12_isAhead 1 = .ok (.getfield 111, 3) := by decide +kernel
theorem dX12_isAhead_4 : decode cX12_isAhead 4 = .ok (.iload_n 1, 1) := by decide +kernel
theorem dX12_isAhead_5 : decode cX12_isAhead 5 = .ok (.iaload, 1) := by decide +kernel
theorem dX12_isAhead_6 : decode cX12_isAhead 6 = .ok (.aload_n 0, 1) := by decide +kernel
theorem dX12_isAhead_7 : decode cX12_isAhead 7 = .ok (.getfield 111, 3) := by decide +kernel
theorem dX12_isAhead_10 : decode cX12_isAhead 10 = .ok (.iload_n 2, 1) := by decide +kernel
theorem dX12_isAhead_11 : decode cX12_isAhead 11 = .ok (.iaload, 1) := by decide +kernel
theorem dX12_isAhead_12 : decode cX12_isAhead 12 = .ok (.if_icmp .eq 24, 3) := by decide +kernel
theorem dX12_isAhead_15 : decode cX12_isAhead 15 = .ok (.aload_n 0, 1) := by decide +kernel
theorem dX12_isAhead_16 : decode cX12_isAhead 16 = .ok (.getfield 111, 3) := by decide +kernel
theorem dX12_isAhead_19 : decode cX12_isAhead 19 = .ok (.iload_n 1, 1) := by decide +kernel
theorem dX12_isAhead_20 : decode cX12_isAhead 20 = .ok (.iaload, 1) := by decide +kernel
theorem dX12_isAhead_21 : decode cX12_isAhead 21 = .ok (.aload_n 0, 1) := by decide +kernel
theorem dX12_isAhead_22 : decode cX12_isAhead 22 = .ok (.getfield 111, 3) := by decide +kernel
theorem dX12_isAhead_25 : decode cX12_isAhead 25 = .ok (.iload_n 2, 1) := by decide +kernel
theorem dX12_isAhead_26 : decode cX12_isAhead 26 = .ok (.iaload, 1) := by decide +kernel
theorem dX12_isAhead_27 : decode cX12_isAhead 27 = .ok (.if_icmp .le 7, 3) := by decide +kernel
theorem dX12_isAhead_30 : decode cX12_isAhead 30 = .ok (.iconst 1, 1) := by decide +kernel
theorem dX12_isAhead_31 : decode cX12_isAhead 31 = .ok (.goto 4, 3) := by decide +kernel
theorem dX12_isAhead_34 : decode cX12_isAhead 34 = .ok (.iconst 0, 1) := by decide +kernel
theorem dX12_isAhead_35 : decode cX12_isAhead 35 = .ok (.ireturn, 1) := by decide +kernel
theorem dX12_isAhead_36 : decode cX12_isAhead 36 = .ok (.aload_n 0, 1) := by decide +kernel
theorem dX12_isAhead_37 : decode cX12_isAhead 37 = .ok (.getfield 108, 3) := by decide +kernel
theorem dX12_isAhead_40 : decode cX12_isAhead 40 = .ok (.iload_n 1, 1) := by decide +kernel
theorem dX12_isAhead_41 : decode cX12_isAhead 41 = .ok (.iaload, 1) := by decide +kernel
theorem dX12_isAhead_42 : decode cX12_isAhead 42 = .ok (.aload_n 0, 1) := by decide +kernel
theorem dX12_isAhead_43 : decode cX12_isAhead 43 = .ok (.getfield 108, 3) := by decide +kernel
theorem dX12_isAhead_46 : decode cX12_isAhead 46 = .ok (.iload_n 2, 1) := by decide +kernel
theorem dX12_isAhead_47 : decode cX12_isAhead 47 = .ok (.iaload, 1) := by decide +kernel
theorem dX12_isAhead_48 : decode cX12_isAhead 48 = .ok (.if_icmp .eq 26, 3) := by decide +kernel
theorem dX12_isAhead_51 : decode cX12_isAhead 51 = .ok (.aload_n 0, 1) := by decide +kernel
theorem dX12_isAhead_52 : decode cX12_isAhead 52 = .ok (.getfield 108, 3) := by decide +kernel
theorem dX12_isAhead_55 : decode cX12_isAhead 55 = .ok (.iload_n 1, 1) := by decide +kernel
theorem dX12_isAhead_56 : decode cX12_isAhead 56 = .ok (.iaload, 1) := by decide +kernel
theorem dX12_isAhead_57 : decode cX12_isAhead 57 = .ok (.aload_n 0, 1) := by decide +kernel
theorem dX12_isAhead_58 : decode cX12_isAhead 58 = .ok (.getfield 108, 3) := by decide +kernel
theorem dX12_isAhead_61 : decode cX12_isAhead 61 = .ok (.iload_n 2, 1) := by decide +kernel
theorem dX12_isAhead_62 : decode cX12_isAhead 62 = .ok (.iaload, 1) := by decide +kernel
theorem dX12_isAhead_63 : decode cX12_isAhead 63 = .ok (.if_icmp .le 7, 3) := by decide +kernel
theorem dX12_isAhead_66 : decode cX12_isAhead 66 = .ok (.iconst 1, 1) := by decide +kernel
theorem dX12_isAhead_67 : decode cX12_isAhead 67 = .ok (.goto 17, 3) := by decide +kernel
theorem dX12_isAhead_70 : decode cX12_isAhead 70 = .ok (.iconst 0, 1) := by decide +kernel
theorem dX12_isAhead_71 : decode cX12_isAhead 71 = .ok (.goto 13, 3) := by decide +kernel
theorem dX12_isAhead_74 : decode cX12_isAhead 74 = .ok (.iload_n 1, 1) := by decide +kernel
theorem dX12_isAhead_75 : decode cX12_isAhead 75 = .ok (.iload_n 2, 1) := by decide +kernel
theorem dX12_isAhead_76 : decode cX12_isAhead 76 = .ok (.if_icmp .ge 7, 3) := by decide +kernel
theorem dX12_isAhead_79 : decode cX12_isAhead 79 = .ok (.iconst 1, 1) := by decide +kernel
theorem dX12_isAhead_80 : decode cX12_isAhead 80 = .ok (.goto 4, 3) := by decide +kernel
theorem dX12_isAhead_83 : decode cX12_isAhead 83 = .ok (.iconst 0, 1) := by decide +kernel
theorem dX12_isAhead_84 : decode cX12_isAhead 84 = .ok (.ireturn, 1) := by decide +kernel
theorem dX12_order_0 : decode cX12_order 0 = .ok (.aload_n 0, 1) := by decide +kernel
theorem dX12_order_1 : decode cX12_order 1 = .ok (.iconst 0, 1) := by decide +kernel
theorem dX12_order_2 : decode cX12_order 2 = .ok (.putfield 154, 3) := by decide +kernel
theorem dX12_order_5 : decode cX12_order 5 = .ok (.iload_n 1, 1) := by decide +kernel
theorem dX12_order_6 : decode cX12_order 6 = .ok (.ifCond .ge 5, 3) := by decide +kernel
theorem dX12_order_9 : decode cX12_order 9 = .ok (.iconst (-1), 1) := by decide +kernel
theorem dX12_order_10 : decode cX12_order 10 = .ok (.ireturn, 1) := by decide +kernel
theorem dX12_order_11 : decode cX12_order 11 = .ok (.iconst 0, 1) := by decide +kernel
theorem dX12_order_12 : decode cX12_order 12 = .ok (.istore_n 2, 1) := by decide +kernel
theorem dX12_order_13 : decode cX12_order 13 = .ok (.iload_n 2, 1) := by decide +kernel
theorem dX12_order_14 : decode cX12_order 14 = .ok (.aload_n 0, 1) := by decide +kernel
theorem dX12_order_15 : decode cX12_order 15 = .ok (.getfield 13, 3) := by decide +kernel
theorem dX12_order_18 : decode cX12_order 18 = .ok (.iconst 0, 1) := by decide +kernel
theorem dX12_order_19 : decode cX12_order 19 = .ok (.iaload, 1) := by decide +kernel
theorem dX12_order_20 : decode cX12_order 20 = .ok (.if_icmp .ge 56, 3) := by decide +kernel
theorem dX12_order_23 : decode cX12_order 23 = .ok (.iconst 0, 1) := by decide +kernel
theorem dX12_order_24 : decode cX12_order 24 = .ok (.istore_n 3, 1) := by decide +kernel
theorem dX12_order_25 : decode cX12_order 25 = .ok (.iconst 0, 1) := by decide +kernel
theorem dX12_order_26 : decode cX12_order 26 = .ok (.istore 4, 2) := by decide +kernel
theorem dX12_order_28 : decode cX12_order 28 = .ok (.iload 4, 2) := by decide +kernel
theorem dX12_order_30 : decode cX12_order 30 = .ok (.aload_n 0, 1) := by decide +kernel
theorem dX12_order_31 : decode cX12_order 31 = .ok (.getfield 13, 3) := by decide +kernel
theorem dX12_order_34 : decode cX12_order 34 = .ok (.iconst 0, 1) := by decide +kernel
theorem dX12_order_35 : decode cX12_order 35 = .ok (.iaload, 1) := by decide +kernel
theorem dX12_order_36 : decode cX12_order 36 = .ok (.if_icmp .ge 27, 3) := by decide +kernel
theorem dX12_order_39 : decode cX12_order 39 = .ok (.iload_n 3, 1) := by decide +kernel
theorem dX12_order_40 : decode cX12_order 40 = .ok (.aload_n 0, 1) := by decide +kernel
theorem dX12_order_41 : decode cX12_order 41 = .ok (.iload 4, 2) := by decide +kernel
theorem dX12_order_43 : decode cX12_order 43 = .ok (.iload_n 2, 1) := by decide +kernel
theorem dX12_order_44 : decode cX12_order 44 = .ok (.invokevirtual 442, 3) := by decide +kernel
theorem dX12_order_47 : decode cX12_order 47 = .ok (.ifCond .eq 7, 3) := by decide +kernel
theorem dX12_order_50 : decode cX12_order 50 = .ok (.iconst 1, 1) := by decide +kernel
theorem dX12_order_51 : decode cX12_order 51 = .ok (.goto 4, 3) := by decide +kernel
theorem dX12_order_54 : decode cX12_order 54 = .ok (.iconst 0, 1) := by decide +kernel
theorem dX12_order_55 : decode cX12_order 55 = .ok (.iadd, 1) := by decide +kernel
theorem dX12_order_56 : decode cX12_order 56 = .ok (.istore_n 3, 1) := by decide +kernel
theorem dX12_order_57 : decode cX12_order 57 = .ok (.iinc 4 1, 3) := by decide +kernel
theorem dX12_order_60 : decode cX12_order 60 = .ok (.goto (-32), 3) := by decide +kernel
theorem dX12_order_63 : decode cX12_order 63 = .ok (.iload_n 3, 1) := by decide +kernel
theorem dX12_order_64 : decode cX12_order 64 = .ok (.iload_n 1, 1) := by decide +kernel
theorem dX12_order_65 : decode cX12_order 65 = .ok (.if_icmp .ne 5, 3) := by decide +kernel
theorem dX12_order_68 : decode cX12_order 68 = .ok (.iload_n 2, 1) := by decide +kernel
theorem dX12_order_69 : decode cX12_order 69 = .ok (.ireturn, 1) := by decide +kernel
theorem dX12_order_70 : decode cX12_order 70 = .ok (.iinc 2 1, 3) := by decide +kernel
theorem dX12_order_73 : decode cX12_order 73 = .ok (.goto (-60), 3) := by decide +kernel
theorem dX12_order_76 : decode cX12_order 76 = .ok (.bipush (-2), 2) := by decide +kernel
theorem dX12_order_78 : decode cX12_order 78 = .ok (.ireturn, 1) := by decide +kernel
theorem dX12_addsTo_0 : decode cX12_addsTo 0 = .ok (.aload_n 0, 1) := by decide +kernel
theorem dX12_addsTo_1 : decode cX12_addsTo 1 = .ok (.getfield 96, 3) := by decide +kernel
theorem dX12_addsTo_4 : decode cX12_addsTo 4 = .ok (.iload_n 1, 1) := by decide +kernel
theorem dX12_addsTo_5 : decode cX12_addsTo 5 = .ok (.iaload, 1) := by decide +kernel
theorem dX12_addsTo_6 : decode cX12_addsTo 6 = .ok (.bipush 10, 2) := by decide +kernel
theorem dX12_addsTo_8 : decode cX12_addsTo 8 = .ok (.iload_n 2, 1) := by decide +kernel
theorem dX12_addsTo_9 : decode cX12_addsTo 9 = .ok (.imul, 1) := by decide +kernel
theorem dX12_addsTo_10 : decode cX12_addsTo 10 = .ok (.if_icmp .lt 5, 3) := by decide +kernel
theorem dX12_addsTo_13 : decode cX12_addsTo 13 = .ok (.iconst 0, 1) := by decide +kernel
theorem dX12_addsTo_14 : decode cX12_addsTo 14 = .ok (.ireturn, 1) := by decide +kernel
theorem dX12_addsTo_15 : decode cX12_addsTo 15 = .ok (.iconst 1, 1) := by decide +kernel
theorem dX12_addsTo_16 : decode cX12_addsTo 16 = .ok (.istore_n 3, 1) := by decide +kernel
theorem dX12_addsTo_17 : decode cX12_addsTo 17 = .ok (.iload_n 3, 1) := by decide +kernel
theorem dX12_addsTo_18 : decode cX12_addsTo 18 = .ok (.bipush 60, 2) := by decide +kernel
theorem dX12_addsTo_20 : decode cX12_addsTo 20 = .ok (.if_icmp .gt 51, 3) := by decide +kernel
theorem dX12_addsTo_23 : decode cX12_addsTo 23 = .ok (.aload_n 0, 1) := by decide +kernel
theorem dX12_addsTo_24 : decode cX12_addsTo 24 = .ok (.getfield 93, 3) := by decide +kernel
theorem dX12_addsTo_27 : decode cX12_addsTo 27 = .ok (.iload_n 1, 1) := by decide +kernel
theorem dX12_addsTo_28 : decode cX12_addsTo 28 = .ok (.iaload, 1) := by decide +kernel
theorem dX12_addsTo_29 : decode cX12_addsTo 29 = .ok (.iload_n 3, 1) := by decide +kernel
theorem dX12_addsTo_30 : decode cX12_addsTo 30 = .ok (.iadd, 1) := by decide +kernel
theorem dX12_addsTo_31 : decode cX12_addsTo 31 = .ok (.sipush 999, 3) := by decide +kernel
theorem dX12_addsTo_34 : decode cX12_addsTo 34 = .ok (.if_icmp .gt 37, 3) := by decide +kernel
theorem dX12_addsTo_37 : decode cX12_addsTo 37 = .ok (.aload_n 0, 1) := by decide +kernel
theorem dX12_addsTo_38 : decode cX12_addsTo 38 = .ok (.getfield 93, 3) := by decide +kernel
theorem dX12_addsTo_41 : decode cX12_addsTo 41 = .ok (.iload_n 1, 1) := by decide +kernel
theorem dX12_addsTo_42 : decode cX12_addsTo 42 = .ok (.iaload, 1) := by decide +kernel
theorem dX12_addsTo_43 : decode cX12_addsTo 43 = .ok (.aload_n 0, 1) := by decide +kernel
theorem dX12_addsTo_44 : decode cX12_addsTo 44 = .ok (.getfield 96, 3) := by decide +kernel
theorem dX12_addsTo_47 : decode cX12_addsTo 47 = .ok (.iload_n 1, 1) := by decide +kernel
theorem dX12_addsTo_48 : decode cX12_addsTo 48 = .ok (.iaload, 1) := by decide +kernel
theorem dX12_addsTo_49 : decode cX12_addsTo 49 = .ok (.iload_n 3, 1) := by decide +kernel
theorem dX12_addsTo_50 : decode cX12_addsTo 50 = .ok (.sipush 990, 3) := by decide +kernel
theorem dX12_addsTo_53 : decode cX12_addsTo 53 = .ok (.invokestatic 360, 3) := by decide +kernel
theorem dX12_addsTo_56 : decode cX12_addsTo 56 = .ok (.bipush 10, 2) := by decide +kernel
theorem dX12_addsTo_58 : decode cX12_addsTo 58 = .ok (.iload_n 2, 1) := by decide +kernel
theorem dX12_addsTo_59 : decode cX12_addsTo 59 = .ok (.imul, 1) := by decide +kernel
theorem dX12_addsTo_60 : decode cX12_addsTo 60 = .ok (.if_icmp .lt 5, 3) := by decide +kernel
theorem dX12_addsTo_63 : decode cX12_addsTo 63 = .ok (.iload_n 3, 1) := by decide +kernel
theorem dX12_addsTo_64 : decode cX12_addsTo 64 = .ok (.ireturn, 1) := by decide +kernel
theorem dX12_addsTo_65 : decode cX12_addsTo 65 = .ok (.iinc 3 1, 3) := by decide +kernel
theorem dX12_addsTo_68 : decode cX12_addsTo 68 = .ok (.goto (-51), 3) := by decide +kernel
theorem dX12_addsTo_71 : decode cX12_addsTo 71 = .ok (.bipush (-2), 2) := by decide +kernel
theorem dX12_addsTo_73 : decode cX12_addsTo 73 = .ok (.ireturn, 1) := by decide +kernel
theorem dX12_addFor_0 : decode cX12_addFor 0 = .ok (.aload_n 0, 1) := by decide +kernel
theorem dX12_addFor_1 : decode cX12_addFor 1 = .ok (.iconst 0, 1) := by decide +kernel
theorem dX12_addFor_2 : decode cX12_addFor 2 = .ok (.putfield 154, 3) := by decide +kernel
theorem dX12_addFor_5 : decode cX12_addFor 5 = .ok (.aload_n 0, 1) := by decide +kernel
theorem dX12_addFor_6 : decode cX12_addFor 6 = .ok (.iload_n 1, 1) := by decide +kernel
theorem dX12_addFor_7 : decode cX12_addFor 7 = .ok (.invokevirtual 413, 3) := by decide +kernel
theorem dX12_addFor_10 : decode cX12_addFor 10 = .ok (.ifCond .eq 19, 3) := by decide +kernel
theorem dX12_addFor_13 : decode cX12_addFor 13 = .ok (.iload_n 2, 1) := by decide +kernel
theorem dX12_addFor_14 : decode cX12_addFor 14 = .ok (.invokestatic 439, 3) := by decide +kernel
theorem dX12_addFor_17 : decode cX12_addFor 17 = .ok (.ifCond .eq 12, 3) := by decide +kernel
theorem dX12_addFor_20 : decode cX12_addFor 20 = .ok (.aload_n 0, 1) := by decide +kernel
theorem dX12_addFor_21 : decode cX12_addFor 21 = .ok (.iload_n 1, 1) := by decide +kernel
theorem dX12_addFor_22 : decode cX12_addFor 22 = .ok (.iload_n 2, 1) := by decide +kernel
theorem dX12_addFor_23 : decode cX12_addFor 23 = .ok (.invokevirtual 446, 3) := by decide +kernel
theorem dX12_addFor_26 : decode cX12_addFor 26 = .ok (.goto 4, 3) := by decide +kernel
theorem dX12_addFor_29 : decode cX12_addFor 29 = .ok (.iconst (-1), 1) := by decide +kernel
theorem dX12_addFor_30 : decode cX12_addFor 30 = .ok (.ireturn, 1) := by decide +kernel
theorem dX12_coal_0 : decode cX12_coal 0 = .ok (.aload_n 0, 1) := by decide +kernel
theorem dX12_coal_1 : decode cX12_coal 1 = .ok (.iconst 0, 1) := by decide +kernel
theorem dX12_coal_2 : decode cX12_coal 2 = .ok (.putfield 154, 3) := by decide +kernel
theorem dX12_coal_5 : decode cX12_coal 5 = .ok (.iload_n 1, 1) := by decide +kernel
theorem dX12_coal_6 : decode cX12_coal 6 = .ok (.invokestatic 439, 3) := by decide +kernel
theorem dX12_coal_9 : decode cX12_coal 9 = .ok (.ifCond .ne 5, 3) := by decide +kernel
theorem dX12_coal_12 : decode cX12_coal 12 = .ok (.iconst (-1), 1) := by decide +kernel
theorem dX12_coal_13 : decode cX12_coal 13 = .ok (.ireturn, 1) := by decide +kernel
theorem dX12_coal_14 : decode cX12_coal 14 = .ok (.iconst 0, 1) := by decide +kernel
theorem dX12_coal_15 : decode cX12_coal 15 = .ok (.istore_n 2, 1) := by decide +kernel
theorem dX12_coal_16 : decode cX12_coal 16 = .ok (.iconst 0, 1) := by decide +kernel
theorem dX12_coal_17 : decode cX12_coal 17 = .ok (.istore_n 3, 1) := by decide +kernel
theorem dX12_coal_18 : decode cX12_coal 18 = .ok (.iload_n 3, 1) := by decide +kernel
theorem dX12_coal_19 : decode cX12_coal 19 = .ok (.aload_n 0, 1) := by decide +kernel
theorem dX12_coal_20 : decode cX12_coal 20 = .ok (.getfield 13, 3) := by decide +kernel
theorem dX12_coal_23 : decode cX12_coal 23 = .ok (.iconst 1, 1) := by decide +kernel
theorem dX12_coal_24 : decode cX12_coal 24 = .ok (.iaload, 1) := by decide +kernel
theorem dX12_coal_25 : decode cX12_coal 25 = .ok (.if_icmp .ge 30, 3) := by decide +kernel
theorem dX12_coal_28 : decode cX12_coal 28 = .ok (.aload_n 0, 1) := by decide +kernel
theorem dX12_coal_29 : decode cX12_coal 29 = .ok (.iload_n 3, 1) := by decide +kernel
theorem dX12_coal_30 : decode cX12_coal 30 = .ok (.iload_n 1, 1) := by decide +kernel
theorem dX12_coal_31 : decode cX12_coal 31 = .ok (.invokevirtual 446, 3) := by decide +kernel
theorem dX12_coal_34 : decode cX12_coal 34 = .ok (.istore 4, 2) := by decide +kernel
theorem dX12_coal_36 : decode cX12_coal 36 = .ok (.iload 4, 2) := by decide +kernel
theorem dX12_coal_38 : decode cX12_coal 38 = .ok (.ifCond .ge 6, 3) := by decide +kernel
theorem dX12_coal_41 : decode cX12_coal 41 = .ok (.bipush (-2), 2) := by decide +kernel
theorem dX12_coal_43 : decode cX12_coal 43 = .ok (.ireturn, 1) := by decide +kernel
theorem dX12_coal_44 : decode cX12_coal 44 = .ok (.iload_n 2, 1) := by decide +kernel
theorem dX12_coal_45 : decode cX12_coal 45 = .ok (.iload 4, 2) := by decide +kernel
theorem dX12_coal_47 : decode cX12_coal 47 = .ok (.iadd, 1) := by decide +kernel
theorem dX12_coal_48 : decode cX12_coal 48 = .ok (.istore_n 2, 1) := by decide +kernel
theorem dX12_coal_49 : decode cX12_coal 49 = .ok (.iinc 3 1, 3) := by decide +kernel
theorem dX12_coal_52 : decode cX12_coal 52 = .ok (.goto (-34), 3) := by decide +kernel
theorem dX12_coal_55 : decode cX12_coal 55 = .ok (.iload_n 2, 1) := by decide +kernel
theorem dX12_coal_56 : decode cX12_coal 56 = .ok (.ireturn, 1) := by decide +kernel
theorem dX12_common_0 : decode cX12_common 0 = .ok (.lload_n 0, 1) := by decide +kernel
theorem dX12_common_1 : decode cX12_common 1 = .ok (.lstore 4, 2) := by decide +kernel
theorem dX12_common_3 : decode cX12_common 3 = .ok (.lload_n 2, 1) := by decide +kernel
theorem dX12_common_4 : decode cX12_common 4 = .ok (.lstore 6, 2) := by decide +kernel
theorem dX12_common_6 : decode cX12_common 6 = .ok (.lload 6, 2) := by decide +kernel
theorem dX12_common_8 : decode cX12_common 8 = .ok (.lconst 0, 1) := by decide +kernel
theorem dX12_common_9 : decode cX12_common 9 = .ok (.lcmp, 1) := by decide +kernel
theorem dX12_common_10 : decode cX12_common 10 = .ok (.ifCond .eq 21, 3) := by decide +kernel
theorem dX12_common_13 : decode cX12_common 13 = .ok (.lload 4, 2) := by decide +kernel
theorem dX12_common_15 : decode cX12_common 15 = .ok (.lload 6, 2) := by decide +kernel
theorem dX12_common_17 : decode cX12_common 17 = .ok (.lrem, 1) := by decide +kernel
theorem dX12_common_18 : decode cX12_common 18 = .ok (.lstore 8, 2) := by decide +kernel
theorem dX12_common_20 : decode cX12_common 20 = .ok (.lload 6, 2) := by decide +kernel
theorem dX12_common_22 : decode cX12_common 22 = .ok (.lstore 4, 2) := by decide +kernel
theorem dX12_common_24 : decode cX12_common 24 = .ok (.lload 8, 2) := by decide +kernel
theorem dX12_common_26 : decode cX12_common 26 = .ok (.lstore 6, 2) := by decide +kernel
theorem dX12_common_28 : decode cX12_common 28 = .ok (.goto (-22), 3) := by decide +kernel
theorem dX12_common_31 : decode cX12_common 31 = .ok (.lload 4, 2) := by decide +kernel
theorem dX12_common_33 : decode cX12_common 33 = .ok (.lreturn, 1) := by decide +kernel
theorem dX12_together_0 : decode cX12_together 0 = .ok (.aload_n 0, 1) := by decide +kernel
theorem dX12_together_1 : decode cX12_together 1 = .ok (.iconst 0, 1) := by decide +kernel
theorem dX12_together_2 : decode cX12_together 2 = .ok (.putfield 154, 3) := by decide +kernel
theorem dX12_together_5 : decode cX12_together 5 = .ok (.iload_n 1, 1) := by decide +kernel
theorem dX12_together_6 : decode cX12_together 6 = .ok (.iconst 1, 1) := by decide +kernel
theorem dX12_together_7 : decode cX12_together 7 = .ok (.if_icmp .lt 24, 3) := by decide +kernel
theorem dX12_together_10 : decode cX12_together 10 = .ok (.iload_n 1, 1) := by decide +kernel
theorem dX12_together_11 : decode cX12_together 11 = .ok (.iconst 1, 1) := by decide +kernel
theorem dX12_together_12 : decode cX12_together 12 = .ok (.aload_n 0, 1) := by decide +kernel
theorem dX12_together_13 : decode cX12_together 13 = .ok (.getfield 13, 3) := by decide +kernel
theorem dX12_together_16 : decode cX12_together 16 = .ok (.iconst 1, 1) := by decide +kernel
theorem dX12_together_17 : decode cX12_together 17 = .ok (.iaload, 1) := by decide +kernel
theorem dX12_together_18 : decode cX12_together 18 = .ok (.ishl, 1) := by decide +kernel
theorem dX12_together_19 : decode cX12_together 19 = .ok (.if_icmp .ge 12, 3) := by decide +kernel
theorem dX12_together_22 : decode cX12_together 22 = .ok (.iload_n 2, 1) := by decide +kernel
theorem dX12_together_23 : decode cX12_together 23 = .ok (.ifCond .lt 8, 3) := by decide +kernel
theorem dX12_together_26 : decode cX12_together 26 = .ok (.iload_n 2, 1) := by decide +kernel
theorem dX12_together_27 : decode cX12_together 27 = .ok (.iconst 1, 1) := by decide +kernel
theorem dX12_together_28 : decode cX12_together 28 = .ok (.if_icmp .le 5, 3) := by decide +kernel
theorem dX12_together_31 : decode cX12_together 31 = .ok (.iconst (-1), 1) := by decide +kernel
theorem dX12_together_32 : decode cX12_together 32 = .ok (.ireturn, 1) := by decide +kernel
theorem dX12_together_33 : decode cX12_together 33 = .ok (.iconst 0, 1) := by decide +kernel
theorem dX12_together_34 : decode cX12_together 34 = .ok (.istore_n 3, 1) := by decide +kernel
theorem dX12_together_35 : decode cX12_together 35 = .ok (.iconst 0, 1) := by decide +kernel
theorem dX12_together_36 : decode cX12_together 36 = .ok (.istore 4, 2) := by decide +kernel
theorem dX12_together_38 : decode cX12_together 38 = .ok (.iconst 0, 1) := by decide +kernel
theorem dX12_together_39 : decode cX12_together 39 = .ok (.istore 5, 2) := by decide +kernel
theorem dX12_together_41 : decode cX12_together 41 = .ok (.iload 5, 2) := by decide +kernel
theorem dX12_together_43 : decode cX12_together 43 = .ok (.aload_n 0, 1) := by decide +kernel
theorem dX12_together_44 : decode cX12_together 44 = .ok (.getfield 13, 3) := by decide +kernel
theorem dX12_together_47 : decode cX12_together 47 = .ok (.iconst 1, 1) := by decide +kernel
theorem dX12_together_48 : decode cX12_together 48 = .ok (.iaload, 1) := by decide +kernel
theorem dX12_together_49 : decode cX12_together 49 = .ok (.if_icmp .ge 51, 3) := by decide +kernel
theorem dX12_together_52 : decode cX12_together 52 = .ok (.iload_n 1, 1) := by decide +kernel
theorem dX12_together_53 : decode cX12_together 53 = .ok (.iload 5, 2) := by decide +kernel
theorem dX12_together_55 : decode cX12_together 55 = .ok (.ishr, 1) := by decide +kernel
theorem dX12_together_56 : decode cX12_together 56 = .ok (.iconst 1, 1) := by decide +kernel
theorem dX12_together_57 : decode cX12_together 57 = .ok (.iand, 1) := by decide +kernel
theorem dX12_together_58 : decode cX12_together 58 = .ok (.ifCond .ne 6, 3) := by decide +kernel
theorem dX12_together_61 : decode cX12_together 61 = .ok (.goto 33, 3) := by decide +kernel
theorem dX12_together_64 : decode cX12_together 64 = .ok (.iload_n 3, 1) := by decide +kernel
theorem dX12_together_65 : decode cX12_together 65 = .ok (.aload_n 0, 1) := by decide +kernel
theorem dX12_together_66 : decode cX12_together 66 = .ok (.getfield 93, 3) := by decide +kernel
theorem dX12_together_69 : decode cX12_together 69 = .ok (.iload 5, 2) := by decide +kernel
theorem dX12_together_71 : decode cX12_together 71 = .ok (.iaload, 1) := by decide +kernel
theorem dX12_together_72 : decode cX12_together 72 = .ok (.aload_n 0, 1) := by decide +kernel
theorem dX12_together_73 : decode cX12_together 73 = .ok (.getfield 96, 3) := by decide +kernel
theorem dX12_together_76 : decode cX12_together 76 = .ok (.iload 5, 2) := by decide +kernel
theorem dX12_together_78 : decode cX12_together 78 = .ok (.iaload, 1) := by decide +kernel
theorem dX12_together_79 : decode cX12_together 79 = .ok (.imul, 1) := by decide +kernel
theorem dX12_together_80 : decode cX12_together 80 = .ok (.iadd, 1) := by decide +kernel
theorem dX12_together_81 : decode cX12_together 81 = .ok (.istore_n 3, 1) := by decide +kernel
theorem dX12_together_82 : decode cX12_together 82 = .ok (.iload 4, 2) := by decide +kernel
theorem dX12_together_84 : decode cX12_together 84 = .ok (.aload_n 0, 1) := by decide +kernel
theorem dX12_together_85 : decode cX12_together 85 = .ok (.getfield 93, 3) := by decide +kernel
theorem dX12_together_88 : decode cX12_together 88 = .ok (.iload 5, 2) := by decide +kernel
theorem dX12_together_90 : decode cX12_together 90 = .ok (.iaload, 1) := by decide +kernel
theorem dX12_together_91 : decode cX12_together 91 = .ok (.iadd, 1) := by decide +kernel
theorem dX12_together_92 : decode cX12_together 92 = .ok (.istore 4, 2) := by decide +kernel
theorem dX12_together_94 : decode cX12_together 94 = .ok (.iinc 5 1, 3) := by decide +kernel
theorem dX12_together_97 : decode cX12_together 97 = .ok (.goto (-56), 3) := by decide +kernel
theorem dX12_together_100 : decode cX12_together 100 = .ok (.iload_n 3, 1) := by decide +kernel
theorem dX12_together_101 : decode cX12_together 101 = .ok (.i2l, 1) := by decide +kernel
theorem dX12_together_102 : decode cX12_together 102 = .ok (.iload 4, 2) := by decide +kernel
theorem dX12_together_104 : decode cX12_together 104 = .ok (.i2l, 1) := by decide +kernel
theorem dX12_together_105 : decode cX12_together 105 = .ok (.invokestatic 449, 3) := by decide +kernel
theorem dX12_together_108 : decode cX12_together 108 = .ok (.l2i, 1) := by decide +kernel
theorem dX12_together_109 : decode cX12_together 109 = .ok (.istore 5, 2) := by decide +kernel
theorem dX12_together_111 : decode cX12_together 111 = .ok (.iload_n 2, 1) := by decide +kernel
theorem dX12_together_112 : decode cX12_together 112 = .ok (.ifCond .ne 10, 3) := by decide +kernel
theorem dX12_together_115 : decode cX12_together 115 = .ok (.iload_n 3, 1) := by decide +kernel
theorem dX12_together_116 : decode cX12_together 116 = .ok (.iload 5, 2) := by decide +kernel
theorem dX12_together_118 : decode cX12_together 118 = .ok (.idiv, 1) := by decide +kernel
theorem dX12_together_119 : decode cX12_together 119 = .ok (.goto 8, 3) := by decide +kernel
theorem dX12_together_122 : decode cX12_together 122 = .ok (.iload 4, 2) := by decide +kernel
theorem dX12_together_124 : decode cX12_together 124 = .ok (.iload 5, 2) := by decide +kernel
theorem dX12_together_126 : decode cX12_together 126 = .ok (.idiv, 1) := by decide +kernel
theorem dX12_together_127 : decode cX12_together 127 = .ok (.ireturn, 1) := by decide +kernel
theorem dX12_matches_0 : decode cX12_matches 0 = .ok (.iload_n 1, 1) := by decide +kernel
theorem dX12_matches_1 : decode cX12_matches 1 = .ok (.aload_n 0, 1) := by decide +kernel
theorem dX12_matches_2 : decode cX12_matches 2 = .ok (.getfield 13, 3) := by decide +kernel
theorem dX12_matches_5 : decode cX12_matches 5 = .ok (.iconst 0, 1) := by decide +kernel
theorem dX12_matches_6 : decode cX12_matches 6 = .ok (.iaload, 1) := by decide +kernel
theorem dX12_matches_7 : decode cX12_matches 7 = .ok (.if_icmp .ne 70, 3) := by decide +kernel
theorem dX12_matches_10 : decode cX12_matches 10 = .ok (.iload_n 3, 1) := by decide +kernel
theorem dX12_matches_11 : decode cX12_matches 11 = .ok (.aload_n 0, 1) := by decide +kernel
theorem dX12_matches_12 : decode cX12_matches 12 = .ok (.getfield 452, 3) := by decide +kernel
theorem dX12_matches_15 : decode cX12_matches 15 = .ok (.if_icmp .lt 20, 3) := by decide +kernel
theorem dX12_matches_18 : decode cX12_matches 18 = .ok (.iload_n 3, 1) := by decide +kernel
theorem dX12_matches_19 : decode cX12_matches 19 = .ok (.aload_n 0, 1) := by decide +kernel
theorem dX12_matches_20 : decode cX12_matches 20 = .ok (.getfield 452, 3) := by decide +kernel
theorem dX12_matches_23 : decode cX12_matches 23 = .ok (.if_icmp .ne 13, 3) := by decide +kernel
theorem dX12_matches_26 : decode cX12_matches 26 = .ok (.iload 4, 2) := by decide +kernel
theorem dX12_matches_28 : decode cX12_matches 28 = .ok (.aload_n 0, 1) := by decide +kernel
theorem dX12_matches_29 : decode cX12_matches 29 = .ok (.getfield 455, 3) := by decide +kernel
theorem dX12_matches_32 : decode cX12_matches 32 = .ok (.if_icmp .gt 4, 3) := by decide +kernel
theorem dX12_matches_35 : decode cX12_matches 35 = .ok (.return_, 1) := by decide +kernel
theorem dX12_matches_36 : decode cX12_matches 36 = .ok (.aload_n 0, 1) := by decide +kernel
theorem dX12_matches_37 : decode cX12_matches 37 = .ok (.iload_n 3, 1) := by decide +kernel
theorem dX12_matches_38 : decode cX12_matches 38 = .ok (.putfield 452, 3) := by decide +kernel
theorem dX12_matches_41 : decode cX12_matches 41 = .ok (.aload_n 0, 1) := by decide +kernel
theorem dX12_matches_42 : decode cX12_matches 42 = .ok (.iload 4, 2) := by decide +kernel
theorem dX12_matches_44 : decode cX12_matches 44 = .ok (.putfield 455, 3) := by decide +kernel
theorem dX12_matches_47 : decode cX12_matches 47 = .ok (.iconst 0, 1) := by decide +kernel
theorem dX12_matches_48 : decode cX12_matches 48 = .ok (.istore 5, 2) := by decide +kernel
theorem dX12_matches_50 : decode cX12_matches 50 = .ok (.iload 5, 2) := by decide +kernel
theorem dX12_matches_52 : decode cX12_matches 52 = .ok (.iload_n 1, 1) := by decide +kernel
theorem dX12_matches_53 : decode cX12_matches 53 = .ok (.if_icmp .ge 23, 3) := by decide +kernel
theorem dX12_matches_56 : decode cX12_matches 56 = .ok (.aload_n 0, 1) := by decide +kernel
theorem dX12_matches_57 : decode cX12_matches 57 = .ok (.getfield 123, 3) := by decide +kernel
theorem dX12_matches_60 : decode cX12_matches 60 = .ok (.iload 5, 2) := by decide +kernel
theorem dX12_matches_62 : decode cX12_matches 62 = .ok (.aload_n 0, 1) := by decide +kernel
theorem dX12_matches_63 : decode cX12_matches 63 = .ok (.getfield 120, 3) := by decide +kernel
theorem dX12_matches_66 : decode cX12_matches 66 = .ok (.iload 5, 2) := by decide +kernel
theorem dX12_matches_68 : decode cX12_matches 68 = .ok (.iaload, 1) := by decide +kernel
theorem dX12_matches_69 : decode cX12_matches 69 = .ok (.iastore, 1) := by decide +kernel
theorem dX12_matches_70 : decode cX12_matches 70 = .ok (.iinc 5 1, 3) := by decide +kernel
theorem dX12_matches_73 : decode cX12_matches 73 = .ok (.goto (-23), 3) := by decide +kernel
theorem dX12_matches_76 : decode cX12_matches 76 = .ok (.return_, 1) := by decide +kernel
theorem dX12_matches_77 : decode cX12_matches 77 = .ok (.iconst 0, 1) := by decide +kernel
theorem dX12_matches_78 : decode cX12_matches 78 = .ok (.istore 5, 2) := by decide +kernel
theorem dX12_matches_80 : decode cX12_matches 80 = .ok (.iload 5, 2) := by decide +kernel
theorem dX12_matches_82 : decode cX12_matches 82 = .ok (.aload_n 0, 1) := by decide +kernel
theorem dX12_matches_83 : decode cX12_matches 83 = .ok (.getfield 13, 3) := by decide +kernel
theorem dX12_matches_86 : decode cX12_matches 86 = .ok (.iconst 1, 1) := by decide +kernel
theorem dX12_matches_87 : decode cX12_matches 87 = .ok (.iaload, 1) := by decide +kernel
theorem dX12_matches_88 : decode cX12_matches 88 = .ok (.if_icmp .ge 68, 3) := by decide +kernel
theorem dX12_matches_91 : decode cX12_matches 91 = .ok (.iload_n 2, 1) := by decide +kernel
theorem dX12_matches_92 : decode cX12_matches 92 = .ok (.iload 5, 2) := by decide +kernel
theorem dX12_matches_94 : decode cX12_matches 94 = .ok (.ishr, 1) := by decide +kernel
theorem dX12_matches_95 : decode cX12_matches 95 = .ok (.iconst 1, 1) := by decide +kernel
theorem dX12_matches_96 : decode cX12_matches 96 = .ok (.iand, 1) := by decide +kernel
theorem dX12_matches_97 : decode cX12_matches 97 = .ok (.iconst 1, 1) := by decide +kernel
theorem dX12_matches_98 : decode cX12_matches 98 = .ok (.if_icmp .eq 52, 3) := by decide +kernel
theorem dX12_matches_101 : decode cX12_matches 101 = .ok (.aload_n 0, 1) := by decide +kernel
theorem dX12_matches_102 : decode cX12_matches 102 = .ok (.iconst 0, 1) := by decide +kernel
theorem dX12_matches_103 : decode cX12_matches 103 = .ok (.iload_n 1, 1) := by decide +kernel
theorem dX12_matches_104 : decode cX12_matches 104 = .ok (.iload 5, 2) := by decide +kernel
theorem dX12_matches_106 : decode cX12_matches 106 = .ok (.iconst 0, 1) := by decide +kernel
theorem dX12_matches_107 : decode cX12_matches 107 = .ok (.invokevirtual 382, 3) := by decide +kernel
theorem dX12_matches_110 : decode cX12_matches 110 = .ok (.ifCond .ne 6, 3) := by decide +kernel
theorem dX12_matches_113 : decode cX12_matches 113 = .ok (.goto 37, 3) := by decide +kernel
theorem dX12_matches_116 : decode cX12_matches 116 = .ok (.aload_n 0, 1) := by decide +kernel
theorem dX12_matches_117 : decode cX12_matches 117 = .ok (.getfield 120, 3) := by decide +kernel
theorem dX12_matches_120 : decode cX12_matches 120 = .ok (.iload_n 1, 1) := by decide +kernel
theorem dX12_matches_121 : decode cX12_matches 121 = .ok (.iload 5, 2) := by decide +kernel
theorem dX12_matches_123 : decode cX12_matches 123 = .ok (.iastore, 1) := by decide +kernel
theorem dX12_matches_124 : decode cX12_matches 124 = .ok (.aload_n 0, 1) := by decide +kernel
theorem dX12_matches_125 : decode cX12_matches 125 = .ok (.iload_n 1, 1) := by decide +kernel
theorem dX12_matches_126 : decode cX12_matches 126 = .ok (.iconst 1, 1) := by decide +kernel
theorem dX12_matches_127 : decode cX12_matches 127 = .ok (.iadd, 1) := by decide +kernel
theorem dX12_matches_128 : decode cX12_matches 128 = .ok (.iload_n 2, 1) := by decide +kernel
theorem dX12_matches_129 : decode cX12_matches 129 = .ok (.iconst 1, 1) := by decide +kernel
theorem dX12_matches_130 : decode cX12_matches 130 = .ok (.iload 5, 2) := by decide +kernel
theorem dX12_matches_132 : decode cX12_matches 132 = .ok (.ishl, 1) := by decide +kernel
theorem dX12_matches_133 : decode cX12_matches 133 = .ok (.ior, 1) := by decide +kernel
theorem dX12_matches_134 : decode cX12_matches 134 = .ok (.iload_n 3, 1) := by decide +kernel
theorem dX12_matches_135 : decode cX12_matches 135 = .ok (.iconst 1, 1) := by decide +kernel
theorem dX12_matches_136 : decode cX12_matches 136 = .ok (.iadd, 1) := by decide +kernel
theorem dX12_matches_137 : decode cX12_matches 137 = .ok (.iload 4, 2) := by decide +kernel
theorem dX12_matches_139 : decode cX12_matches 139 = .ok (.aload_n 0, 1) := by decide +kernel
theorem dX12_matches_140 : decode cX12_matches 140 = .ok (.getfield 96, 3) := by decide +kernel
theorem dX12_matches_143 : decode cX12_matches 143 = .ok (.iload 5, 2) := by decide +kernel
theorem dX12_matches_145 : decode cX12_matches 145 = .ok (.iaload, 1) := by decide +kernel
theorem dX12_matches_146 : decode cX12_matches 146 = .ok (.iadd, 1) := by decide +kernel
theorem dX12_matches_147 : decode cX12_matches 147 = .ok (.invokevirtual 458, 3) := by decide +kernel
theorem dX12_matches_150 : decode cX12_matches 150 = .ok (.iinc 5 1, 3) := by decide +kernel
theorem dX12_matches_153 : decode cX12_matches 153 = .ok (.goto (-73), 3) := by decide +kernel
theorem dX12_matches_156 : decode cX12_matches 156 = .ok (.aload_n 0, 1) := by decide +kernel
theorem dX12_matches_157 : decode cX12_matches 157 = .ok (.getfield 120, 3) := by decide +kernel
theorem dX12_matches_160 : decode cX12_matches 160 = .ok (.iload_n 1, 1) := by decide +kernel
theorem dX12_matches_161 : decode cX12_matches 161 = .ok (.bipush (-2), 2) := by decide +kernel
theorem dX12_matches_163 : decode cX12_matches 163 = .ok (.iastore, 1) := by decide +kernel
theorem dX12_matches_164 : decode cX12_matches 164 = .ok (.aload_n 0, 1) := by decide +kernel
theorem dX12_matches_165 : decode cX12_matches 165 = .ok (.iload_n 1, 1) := by decide +kernel
theorem dX12_matches_166 : decode cX12_matches 166 = .ok (.iconst 1, 1) := by decide +kernel
theorem dX12_matches_167 : decode cX12_matches 167 = .ok (.iadd, 1) := by decide +kernel
theorem dX12_matches_168 : decode cX12_matches 168 = .ok (.iload_n 2, 1) := by decide +kernel
theorem dX12_matches_169 : decode cX12_matches 169 = .ok (.iload_n 3, 1) := by decide +kernel
theorem dX12_matches_170 : decode cX12_matches 170 = .ok (.iload 4, 2) := by decide +kernel
theorem dX12_matches_172 : decode cX12_matches 172 = .ok (.invokevirtual 458, 3) := by decide +kernel
theorem dX12_matches_175 : decode cX12_matches 175 = .ok (.return_, 1) := by decide +kernel
theorem dX12_match_0 : decode cX12_match 0 = .ok (.aload_n 0, 1) := by decide +kernel
theorem dX12_match_1 : decode cX12_match 1 = .ok (.iconst 0, 1) := by decide +kernel
theorem dX12_match_2 : decode cX12_match 2 = .ok (.putfield 154, 3) := by decide +kernel
theorem dX12_match_5 : decode cX12_match 5 = .ok (.iload_n 1, 1) := by decide +kernel
theorem dX12_match_6 : decode cX12_match 6 = .ok (.ifCond .lt 9, 3) := by decide +kernel
theorem dX12_match_9 : decode cX12_match 9 = .ok (.iload_n 1, 1) := by decide +kernel
theorem dX12_match_10 : decode cX12_match 10 = .ok (.bipush 7, 2) := by decide +kernel
theorem dX12_match_12 : decode cX12_match 12 = .ok (.if_icmp .le 5, 3) := by decide +kernel
theorem dX12_match_15 : decode cX12_match 15 = .ok (.iconst (-1), 1) := by decide +kernel
theorem dX12_match_16 : decode cX12_match 16 = .ok (.ireturn, 1) := by decide +kernel
theorem dX12_match_17 : decode cX12_match 17 = .ok (.aload_n 0, 1) := by decide +kernel
theorem dX12_match_18 : decode cX12_match 18 = .ok (.iconst (-1), 1) := by decide +kernel
theorem dX12_match_19 : decode cX12_match 19 = .ok (.putfield 452, 3) := by decide +kernel
theorem dX12_match_22 : decode cX12_match 22 = .ok (.aload_n 0, 1) := by decide +kernel
theorem dX12_match_23 : decode cX12_match 23 = .ok (.iconst 0, 1) := by decide +kernel
theorem dX12_match_24 : decode cX12_match 24 = .ok (.putfield 455, 3) := by decide +kernel
theorem dX12_match_27 : decode cX12_match 27 = .ok (.aload_n 0, 1) := by decide +kernel
theorem dX12_match_28 : decode cX12_match 28 = .ok (.iconst 0, 1) := by decide +kernel
theorem dX12_match_29 : decode cX12_match 29 = .ok (.iconst 0, 1) := by decide +kernel
theorem dX12_match_30 : decode cX12_match 30 = .ok (.iconst 0, 1) := by decide +kernel
theorem dX12_match_31 : decode cX12_match 31 = .ok (.iconst 0, 1) := by decide +kernel
theorem dX12_match_32 : decode cX12_match 32 = .ok (.invokevirtual 458, 3) := by decide +kernel
theorem dX12_match_35 : decode cX12_match 35 = .ok (.iload_n 1, 1) := by decide +kernel
theorem dX12_match_36 : decode cX12_match 36 = .ok (.bipush 6, 2) := by decide +kernel
theorem dX12_match_38 : decode cX12_match 38 = .ok (.if_icmp .ne 10, 3) := by decide +kernel
theorem dX12_match_41 : decode cX12_match 41 = .ok (.aload_n 0, 1) := by decide +kernel
theorem dX12_match_42 : decode cX12_match 42 = .ok (.getfield 452, 3) := by decide +kernel
theorem dX12_match_45 : decode cX12_match 45 = .ok (.goto 37, 3) := by decide +kernel
theorem dX12_match_48 : decode cX12_match 48 = .ok (.iload_n 1, 1) := by decide +kernel
theorem dX12_match_49 : decode cX12_match 49 = .ok (.bipush 7, 2) := by decide +kernel
theorem dX12_match_51 : decode cX12_match 51 = .ok (.if_icmp .ne 10, 3) := by decide +kernel
theorem dX12_match_54 : decode cX12_match 54 = .ok (.aload_n 0, 1) := by decide +kernel
theorem dX12_match_55 : decode cX12_match 55 = .ok (.getfield 455, 3) := by decide +kernel
theorem dX12_match_58 : decode cX12_match 58 = .ok (.goto 24, 3) := by decide +kernel
theorem dX12_match_61 : decode cX12_match 61 = .ok (.iload_n 1, 1) := by decide +kernel
theorem dX12_match_62 : decode cX12_match 62 = .ok (.aload_n 0, 1) := by decide +kernel
theorem dX12_match_63 : decode cX12_match 63 = .ok (.getfield 13, 3) := by decide +kernel
theorem dX12_match_66 : decode cX12_match 66 = .ok (.iconst 0, 1) := by decide +kernel
theorem dX12_match_67 : decode cX12_match 67 = .ok (.iaload, 1) := by decide +kernel
theorem dX12_match_68 : decode cX12_match 68 = .ok (.if_icmp .ge 12, 3) := by decide +kernel
theorem dX12_match_71 : decode cX12_match 71 = .ok (.aload_n 0, 1) := by decide +kernel
theorem dX12_match_72 : decode cX12_match 72 = .ok (.getfield 123, 3) := by decide +kernel
theorem dX12_match_75 : decode cX12_match 75 = .ok (.iload_n 1, 1) := by decide +kernel
theorem dX12_match_76 : decode cX12_match 76 = .ok (.iaload, 1) := by decide +kernel
theorem dX12_match_77 : decode cX12_match 77 = .ok (.goto 5, 3) := by decide +kernel
theorem dX12_match_80 : decode cX12_match 80 = .ok (.bipush (-2), 2) := by decide +kernel
theorem dX12_match_82 : decode cX12_match 82 = .ok (.ireturn, 1) := by decide +kernel
theorem dX12_roomOf_0 : decode cX12_roomOf 0 = .ok (.iconst 0, 1) := by decide +kernel
theorem dX12_roomOf_1 : decode cX12_roomOf 1 = .ok (.istore_n 3, 1) := by decide +kernel
theorem dX12_roomOf_2 : decode cX12_roomOf 2 = .ok (.aload_n 0, 1) := by decide +kernel
theorem dX12_roomOf_3 : decode cX12_roomOf 3 = .ok (.getfield 93, 3) := by decide +kernel
theorem dX12_roomOf_6 : decode cX12_roomOf 6 = .ok (.iload_n 1, 1) := by decide +kernel
theorem dX12_roomOf_7 : decode cX12_roomOf 7 = .ok (.iaload, 1) := by decide +kernel
theorem dX12_roomOf_8 : decode cX12_roomOf 8 = .ok (.iload_n 3, 1) := by decide +kernel
theorem dX12_roomOf_9 : decode cX12_roomOf 9 = .ok (.iadd, 1) := by decide +kernel
theorem dX12_roomOf_10 : decode cX12_roomOf 10 = .ok (.iconst 1, 1) := by decide +kernel
theorem dX12_roomOf_11 : decode cX12_roomOf 11 = .ok (.iadd, 1) := by decide +kernel
theorem dX12_roomOf_12 : decode cX12_roomOf 12 = .ok (.sipush 999, 3) := by decide +kernel
theorem dX12_roomOf_15 : decode cX12_roomOf 15 = .ok (.if_icmp .gt 37, 3) := by decide +kernel
theorem dX12_roomOf_18 : decode cX12_roomOf 18 = .ok (.aload_n 0, 1) := by decide +kernel
theorem dX12_roomOf_19 : decode cX12_roomOf 19 = .ok (.getfield 93, 3) := by decide +kernel
theorem dX12_roomOf_22 : decode cX12_roomOf 22 = .ok (.iload_n 1, 1) := by decide +kernel
theorem dX12_roomOf_23 : decode cX12_roomOf 23 = .ok (.iaload, 1) := by decide +kernel
theorem dX12_roomOf_24 : decode cX12_roomOf 24 = .ok (.aload_n 0, 1) := by decide +kernel
theorem dX12_roomOf_25 : decode cX12_roomOf 25 = .ok (.getfield 96, 3) := by decide +kernel
theorem dX12_roomOf_28 : decode cX12_roomOf 28 = .ok (.iload_n 1, 1) := by decide +kernel
theorem dX12_roomOf_29 : decode cX12_roomOf 29 = .ok (.iaload, 1) := by decide +kernel
theorem dX12_roomOf_30 : decode cX12_roomOf 30 = .ok (.iload_n 3, 1) := by decide +kernel
theorem dX12_roomOf_31 : decode cX12_roomOf 31 = .ok (.iconst 1, 1) := by decide +kernel
theorem dX12_roomOf_32 : decode cX12_roomOf 32 = .ok (.iadd, 1) := by decide +kernel
theorem dX12_roomOf_33 : decode cX12_roomOf 33 = .ok (.sipush 990, 3) := by decide +kernel
theorem dX12_roomOf_36 : decode cX12_roomOf 36 = .ok (.invokestatic 360, 3) := by decide +kernel
theorem dX12_roomOf_39 : decode cX12_roomOf 39 = .ok (.bipush 10, 2) := by decide +kernel
theorem dX12_roomOf_41 : decode cX12_roomOf 41 = .ok (.iload_n 2, 1) := by decide +kernel
theorem dX12_roomOf_42 : decode cX12_roomOf 42 = .ok (.imul, 1) := by decide +kernel
theorem dX12_roomOf_43 : decode cX12_roomOf 43 = .ok (.if_icmp .gt 9, 3) := by decide +kernel
theorem dX12_roomOf_46 : decode cX12_roomOf 46 = .ok (.iinc 3 1, 3) := by decide +kernel
theorem dX12_roomOf_49 : decode cX12_roomOf 49 = .ok (.goto (-47), 3) := by decide +kernel
theorem dX12_roomOf_52 : decode cX12_roomOf 52 = .ok (.iload_n 3, 1) := by decide +kernel
theorem dX12_roomOf_53 : decode cX12_roomOf 53 = .ok (.ireturn, 1) := by decide +kernel
theorem dX12_game_0 : decode cX12_game 0 = .ok (.aload_n 0, 1) := by decide +kernel
theorem dX12_game_1 : decode cX12_game 1 = .ok (.iconst 0, 1) := by decide +kernel
theorem dX12_game_2 : decode cX12_game 2 = .ok (.putfield 154, 3) := by decide +kernel
theorem dX12_game_5 : decode cX12_game 5 = .ok (.aload_n 0, 1) := by decide +kernel
theorem dX12_game_6 : decode cX12_game 6 = .ok (.iload_n 1, 1) := by decide +kernel
theorem dX12_game_7 : decode cX12_game 7 = .ok (.invokevirtual 413, 3) := by decide +kernel
theorem dX12_game_10 : decode cX12_game 10 = .ok (.ifCond .eq 22, 3) := by decide +kernel
theorem dX12_game_13 : decode cX12_game 13 = .ok (.iload_n 2, 1) := by decide +kernel
theorem dX12_game_14 : decode cX12_game 14 = .ok (.ifCond .lt 18, 3) := by decide +kernel
theorem dX12_game_17 : decode cX12_game 17 = .ok (.iload_n 2, 1) := by decide +kernel
theorem dX12_game_18 : decode cX12_game 18 = .ok (.bipush 98, 2) := by decide +kernel
theorem dX12_game_20 : decode cX12_game 20 = .ok (.if_icmp .gt 12, 3) := by decide +kernel
theorem dX12_game_23 : decode cX12_game 23 = .ok (.iload_n 3, 1) := by decide +kernel
theorem dX12_game_24 : decode cX12_game 24 = .ok (.ifCond .lt 8, 3) := by decide +kernel
theorem dX12_game_27 : decode cX12_game 27 = .ok (.iload_n 3, 1) := by decide +kernel
theorem dX12_game_28 : decode cX12_game 28 = .ok (.iconst 1, 1) := by decide +kernel
theorem dX12_game_29 : decode cX12_game 29 = .ok (.if_icmp .le 5, 3) := by decide +kernel
theorem dX12_game_32 : decode cX12_game 32 = .ok (.iconst (-1), 1) := by decide +kernel
theorem dX12_game_33 : decode cX12_game 33 = .ok (.ireturn, 1) := by decide +kernel
theorem dX12_game_34 : decode cX12_game 34 = .ok (.aload_n 0, 1) := by decide +kernel
theorem dX12_game_35 : decode cX12_game 35 = .ok (.getfield 96, 3) := by decide +kernel
theorem dX12_game_38 : decode cX12_game 38 = .ok (.iload_n 1, 1) := by decide +kernel
theorem dX12_game_39 : decode cX12_game 39 = .ok (.iaload, 1) := by decide +kernel
theorem dX12_game_40 : decode cX12_game 40 = .ok (.bipush 10, 2) := by decide +kernel
theorem dX12_game_42 : decode cX12_game 42 = .ok (.iload_n 2, 1) := by decide +kernel
theorem dX12_game_43 : decode cX12_game 43 = .ok (.imul, 1) := by decide +kernel
theorem dX12_game_44 : decode cX12_game 44 = .ok (.if_icmp .le 6, 3) := by decide +kernel
theorem dX12_game_47 : decode cX12_game 47 = .ok (.bipush (-2), 2) := by decide +kernel
theorem dX12_game_49 : decode cX12_game 49 = .ok (.ireturn, 1) := by decide +kernel
theorem dX12_game_50 : decode cX12_game 50 = .ok (.aload_n 0, 1) := by decide +kernel
theorem dX12_game_51 : decode cX12_game 51 = .ok (.iload_n 1, 1) := by decide +kernel
theorem dX12_game_52 : decode cX12_game 52 = .ok (.iload_n 2, 1) := by decide +kernel
theorem dX12_game_53 : decode cX12_game 53 = .ok (.invokevirtual 461, 3) := by decide +kernel
theorem dX12_game_56 : decode cX12_game 56 = .ok (.iconst 4, 1) := by decide +kernel
theorem dX12_game_57 : decode cX12_game 57 = .ok (.irem, 1) := by decide +kernel
theorem dX12_game_58 : decode cX12_game 58 = .ok (.istore 4, 2) := by decide +kernel
theorem dX12_game_60 : decode cX12_game 60 = .ok (.iload_n 3, 1) := by decide +kernel
theorem dX12_game_61 : decode cX12_game 61 = .ok (.ifCond .ne 14, 3) := by decide +kernel
theorem dX12_game_64 : decode cX12_game 64 = .ok (.iload 4, 2) := by decide +kernel
theorem dX12_game_66 : decode cX12_game 66 = .ok (.ifCond .ne 7, 3) := by decide +kernel
theorem dX12_game_69 : decode cX12_game 69 = .ok (.iconst 1, 1) := by decide +kernel
theorem dX12_game_70 : decode cX12_game 70 = .ok (.goto 4, 3) := by decide +kernel
theorem dX12_game_73 : decode cX12_game 73 = .ok (.iconst 0, 1) := by decide +kernel
theorem dX12_game_74 : decode cX12_game 74 = .ok (.ireturn, 1) := by decide +kernel
theorem dX12_game_75 : decode cX12_game 75 = .ok (.iload 4, 2) := by decide +kernel
theorem dX12_game_77 : decode cX12_game 77 = .ok (.ifCond .ne 8, 3) := by decide +kernel
theorem dX12_game_80 : decode cX12_game 80 = .ok (.bipush (-2), 2) := by decide +kernel
theorem dX12_game_82 : decode cX12_game 82 = .ok (.goto 5, 3) := by decide +kernel
theorem dX12_game_85 : decode cX12_game 85 = .ok (.iload 4, 2) := by decide +kernel
theorem dX12_game_87 : decode cX12_game 87 = .ok (.ireturn, 1) := by decide +kernel
theorem dX12_tells_0 : decode cX12_tells 0 = .ok (.aload_n 0, 1) := by decide +kernel
theorem dX12_tells_1 : decode cX12_tells 1 = .ok (.iconst 0, 1) := by decide +kernel
theorem dX12_tells_2 : decode cX12_tells 2 = .ok (.putfield 154, 3) := by decide +kernel
theorem dX12_tells_5 : decode cX12_tells 5 = .ok (.aload_n 0, 1) := by decide +kernel
theorem dX12_tells_6 : decode cX12_tells 6 = .ok (.iload_n 1, 1) := by decide +kernel
theorem dX12_tells_7 : decode cX12_tells 7 = .ok (.invokevirtual 413, 3) := by decide +kernel
theorem dX12_tells_10 : decode cX12_tells 10 = .ok (.ifCond .ne 5, 3) := by decide +kernel
theorem dX12_tells_13 : decode cX12_tells 13 = .ok (.iconst (-1), 1) := by decide +kernel
theorem dX12_tells_14 : decode cX12_tells 14 = .ok (.ireturn, 1) := by decide +kernel
theorem dX12_tells_15 : decode cX12_tells 15 = .ok (.iconst 0, 1) := by decide +kernel
theorem dX12_tells_16 : decode cX12_tells 16 = .ok (.istore_n 2, 1) := by decide +kernel
theorem dX12_tells_17 : decode cX12_tells 17 = .ok (.iconst 0, 1) := by decide +kernel
theorem dX12_tells_18 : decode cX12_tells 18 = .ok (.istore_n 3, 1) := by decide +kernel
theorem dX12_tells_19 : decode cX12_tells 19 = .ok (.iload_n 3, 1) := by decide +kernel
theorem dX12_tells_20 : decode cX12_tells 20 = .ok (.aload_n 0, 1) := by decide +kernel
theorem dX12_tells_21 : decode cX12_tells 21 = .ok (.getfield 13, 3) := by decide +kernel
theorem dX12_tells_24 : decode cX12_tells 24 = .ok (.iconst 0, 1) := by decide +kernel
theorem dX12_tells_25 : decode cX12_tells 25 = .ok (.iaload, 1) := by decide +kernel
theorem dX12_tells_26 : decode cX12_tells 26 = .ok (.if_icmp .ge 28, 3) := by decide +kernel
theorem dX12_tells_29 : decode cX12_tells 29 = .ok (.iload_n 2, 1) := by decide +kernel
theorem dX12_tells_30 : decode cX12_tells 30 = .ok (.aload_n 0, 1) := by decide +kernel
theorem dX12_tells_31 : decode cX12_tells 31 = .ok (.iconst 0, 1) := by decide +kernel
theorem dX12_tells_32 : decode cX12_tells 32 = .ok (.iload_n 3, 1) := by decide +kernel
theorem dX12_tells_33 : decode cX12_tells 33 = .ok (.iload_n 1, 1) := by decide +kernel
theorem dX12_tells_34 : decode cX12_tells 34 = .ok (.iconst 0, 1) := by decide +kernel
theorem dX12_tells_35 : decode cX12_tells 35 = .ok (.invokevirtual 382, 3) := by decide +kernel
theorem dX12_tells_38 : decode cX12_tells 38 = .ok (.ifCond .eq 7, 3) := by decide +kernel
theorem dX12_tells_41 : decode cX12_tells 41 = .ok (.iconst 1, 1) := by decide +kernel
theorem dX12_tells_42 : decode cX12_tells 42 = .ok (.goto 4, 3) := by decide +kernel
theorem dX12_tells_45 : decode cX12_tells 45 = .ok (.iconst 0, 1) := by decide +kernel
theorem dX12_tells_46 : decode cX12_tells 46 = .ok (.iadd, 1) := by decide +kernel
theorem dX12_tells_47 : decode cX12_tells 47 = .ok (.istore_n 2, 1) := by decide +kernel
theorem dX12_tells_48 : decode cX12_tells 48 = .ok (.iinc 3 1, 3) := by decide +kernel
theorem dX12_tells_51 : decode cX12_tells 51 = .ok (.goto (-32), 3) := by decide +kernel
theorem dX12_tells_54 : decode cX12_tells 54 = .ok (.iload_n 2, 1) := by decide +kernel
theorem dX12_tells_55 : decode cX12_tells 55 = .ok (.aload_n 0, 1) := by decide +kernel
theorem dX12_tells_56 : decode cX12_tells 56 = .ok (.getfield 13, 3) := by decide +kernel
theorem dX12_tells_59 : decode cX12_tells 59 = .ok (.iconst 0, 1) := by decide +kernel
theorem dX12_tells_60 : decode cX12_tells 60 = .ok (.iaload, 1) := by decide +kernel
theorem dX12_tells_61 : decode cX12_tells 61 = .ok (.iload_n 2, 1) := by decide +kernel
theorem dX12_tells_62 : decode cX12_tells 62 = .ok (.isub, 1) := by decide +kernel
theorem dX12_tells_63 : decode cX12_tells 63 = .ok (.invokestatic 364, 3) := by decide +kernel
theorem dX12_tells_66 : decode cX12_tells 66 = .ok (.ireturn, 1) := by decide +kernel
theorem dX12_hasOf_0 : decode cX12_hasOf 0 = .ok (.aload_n 0, 1) := by decide +kernel
theorem dX12_hasOf_1 : decode cX12_hasOf 1 = .ok (.getfield 22, 3) := by decide +kernel
theorem dX12_hasOf_4 : decode cX12_hasOf 4 = .ok (.iload_n 1, 1) := by decide +kernel
theorem dX12_hasOf_5 : decode cX12_hasOf 5 = .ok (.iaload, 1) := by decide +kernel
theorem dX12_hasOf_6 : decode cX12_hasOf 6 = .ok (.istore 4, 2) := by decide +kernel
theorem dX12_hasOf_8 : decode cX12_hasOf 8 = .ok (.iload_n 2, 1) := by decide +kernel
theorem dX12_hasOf_9 : decode cX12_hasOf 9 = .ok (.ifCond .ne 19, 3) := by decide +kernel
theorem dX12_hasOf_12 : decode cX12_hasOf 12 = .ok (.iload_n 3, 1) := by decide +kernel
theorem dX12_hasOf_13 : decode cX12_hasOf 13 = .ok (.ifCond .ne 10, 3) := by decide +kernel
theorem dX12_hasOf_16 : decode cX12_hasOf 16 = .ok (.iload 4, 2) := by decide +kernel
theorem dX12_hasOf_18 : decode cX12_hasOf 18 = .ok (.iconst 2, 1) := by decide +kernel
theorem dX12_hasOf_19 : decode cX12_hasOf 19 = .ok (.isub, 1) := by decide +kernel
theorem dX12_hasOf_20 : decode cX12_hasOf 20 = .ok (.goto 7, 3) := by decide +kernel
theorem dX12_hasOf_23 : decode cX12_hasOf 23 = .ok (.iload 4, 2) := by decide +kernel
theorem dX12_hasOf_25 : decode cX12_hasOf 25 = .ok (.iconst 3, 1) := by decide +kernel
theorem dX12_hasOf_26 : decode cX12_hasOf 26 = .ok (.iadd, 1) := by decide +kernel
theorem dX12_hasOf_27 : decode cX12_hasOf 27 = .ok (.ireturn, 1) := by decide +kernel
theorem dX12_hasOf_28 : decode cX12_hasOf 28 = .ok (.iload_n 3, 1) := by decide +kernel
theorem dX12_hasOf_29 : decode cX12_hasOf 29 = .ok (.ifCond .ne 7, 3) := by decide +kernel
theorem dX12_hasOf_32 : decode cX12_hasOf 32 = .ok (.iconst 1, 1) := by decide +kernel
theorem dX12_hasOf_33 : decode cX12_hasOf 33 = .ok (.goto 7, 3) := by decide +kernel
theorem dX12_hasOf_36 : decode cX12_hasOf 36 = .ok (.iload 4, 2) := by decide +kernel
theorem dX12_hasOf_38 : decode cX12_hasOf 38 = .ok (.iconst 2, 1) := by decide +kernel
theorem dX12_hasOf_39 : decode cX12_hasOf 39 = .ok (.idiv, 1) := by decide +kernel
theorem dX12_hasOf_40 : decode cX12_hasOf 40 = .ok (.ireturn, 1) := by decide +kernel
theorem dX12_isRest_0 : decode cX12_isRest 0 = .ok (.iload_n 3, 1) := by decide +kernel
theorem dX12_isRest_1 : decode cX12_isRest 1 = .ok (.iconst 2, 1) := by decide +kernel
theorem dX12_isRest_2 : decode cX12_isRest 2 = .ok (.idiv, 1) := by decide +kernel
theorem dX12_isRest_3 : decode cX12_isRest 3 = .ok (.istore 4, 2) := by decide +kernel
theorem dX12_isRest_5 : decode cX12_isRest 5 = .ok (.iload_n 3, 1) := by decide +kernel
theorem dX12_isRest_6 : decode cX12_isRest 6 = .ok (.iconst 2, 1) := by decide +kernel
theorem dX12_isRest_7 : decode cX12_isRest 7 = .ok (.irem, 1) := by decide +kernel
theorem dX12_isRest_8 : decode cX12_isRest 8 = .ok (.istore 5, 2) := by decide +kernel
theorem dX12_isRest_10 : decode cX12_isRest 10 = .ok (.aload_n 0, 1) := by decide +kernel
theorem dX12_isRest_11 : decode cX12_isRest 11 = .ok (.iload_n 1, 1) := by decide +kernel
theorem dX12_isRest_12 : decode cX12_isRest 12 = .ok (.iconst 1, 1) := by decide +kernel
theorem dX12_isRest_13 : decode cX12_isRest 13 = .ok (.iload 4, 2) := by decide +kernel
theorem dX12_isRest_15 : decode cX12_isRest 15 = .ok (.isub, 1) := by decide +kernel
theorem dX12_isRest_16 : decode cX12_isRest 16 = .ok (.iload 5, 2) := by decide +kernel
theorem dX12_isRest_18 : decode cX12_isRest 18 = .ok (.invokevirtual 464, 3) := by decide +kernel
theorem dX12_isRest_21 : decode cX12_isRest 21 = .ok (.aload_n 0, 1) := by decide +kernel
theorem dX12_isRest_22 : decode cX12_isRest 22 = .ok (.iload_n 1, 1) := by decide +kernel
theorem dX12_isRest_23 : decode cX12_isRest 23 = .ok (.iload 4, 2) := by decide +kernel
theorem dX12_isRest_25 : decode cX12_isRest 25 = .ok (.iload 5, 2) := by decide +kernel
theorem dX12_isRest_27 : decode cX12_isRest 27 = .ok (.invokevirtual 464, 3) := by decide +kernel
theorem dX12_isRest_30 : decode cX12_isRest 30 = .ok (.if_icmp .gt 30, 3) := by decide +kernel
theorem dX12_isRest_33 : decode cX12_isRest 33 = .ok (.aload_n 0, 1) := by decide +kernel
theorem dX12_isRest_34 : decode cX12_isRest 34 = .ok (.iload_n 2, 1) := by decide +kernel
theorem dX12_isRest_35 : decode cX12_isRest 35 = .ok (.iconst 1, 1) := by decide +kernel
theorem dX12_isRest_36 : decode cX12_isRest 36 = .ok (.iload 5, 2) := by decide +kernel
theorem dX12_isRest_38 : decode cX12_isRest 38 = .ok (.isub, 1) := by decide +kernel
theorem dX12_isRest_39 : decode cX12_isRest 39 = .ok (.iload 4, 2) := by decide +kernel
theorem dX12_isRest_41 : decode cX12_isRest 41 = .ok (.invokevirtual 464, 3) := by decide +kernel
theorem dX12_isRest_44 : decode cX12_isRest 44 = .ok (.aload_n 0, 1) := by decide +kernel
theorem dX12_isRest_45 : decode cX12_isRest 45 = .ok (.iload_n 2, 1) := by decide +kernel
theorem dX12_isRest_46 : decode cX12_isRest 46 = .ok (.iload 5, 2) := by decide +kernel
theorem dX12_isRest_48 : decode cX12_isRest 48 = .ok (.iload 4, 2) := by decide +kernel
theorem dX12_isRest_50 : decode cX12_isRest 50 = .ok (.invokevirtual 464, 3) := by decide +kernel
theorem dX12_isRest_53 : decode cX12_isRest 53 = .ok (.if_icmp .gt 7, 3) := by decide +kernel
theorem dX12_isRest_56 : decode cX12_isRest 56 = .ok (.iconst 1, 1) := by decide +kernel
theorem dX12_isRest_57 : decode cX12_isRest 57 = .ok (.goto 4, 3) := by decide +kernel
theorem dX12_isRest_60 : decode cX12_isRest 60 = .ok (.iconst 0, 1) := by decide +kernel
theorem dX12_isRest_61 : decode cX12_isRest 61 = .ok (.ireturn, 1) := by decide +kernel
theorem dX12_restOf_0 : decode cX12_restOf 0 = .ok (.iconst 0, 1) := by decide +kernel
theorem dX12_restOf_1 : decode cX12_restOf 1 = .ok (.istore 4, 2) := by decide +kernel
theorem dX12_restOf_3 : decode cX12_restOf 3 = .ok (.iconst 0, 1) := by decide +kernel
theorem dX12_restOf_4 : decode cX12_restOf 4 = .ok (.istore 5, 2) := by decide +kernel
theorem dX12_restOf_6 : decode cX12_restOf 6 = .ok (.iload 5, 2) := by decide +kernel
theorem dX12_restOf_8 : decode cX12_restOf 8 = .ok (.iconst 4, 1) := by decide +kernel
theorem dX12_restOf_9 : decode cX12_restOf 9 = .ok (.if_icmp .ge 45, 3) := by decide +kernel
theorem dX12_restOf_12 : decode cX12_restOf 12 = .ok (.aload_n 0, 1) := by decide +kernel
theorem dX12_restOf_13 : decode cX12_restOf 13 = .ok (.iload_n 1, 1) := by decide +kernel
theorem dX12_restOf_14 : decode cX12_restOf 14 = .ok (.iload_n 2, 1) := by decide +kernel
theorem dX12_restOf_15 : decode cX12_restOf 15 = .ok (.iload 5, 2) := by decide +kernel
theorem dX12_restOf_17 : decode cX12_restOf 17 = .ok (.invokevirtual 468, 3) := by decide +kernel
theorem dX12_restOf_20 : decode cX12_restOf 20 = .ok (.ifCond .ne 6, 3) := by decide +kernel
theorem dX12_restOf_23 : decode cX12_restOf 23 = .ok (.goto 25, 3) := by decide +kernel
theorem dX12_restOf_26 : decode cX12_restOf 26 = .ok (.iload 4, 2) := by decide +kernel
theorem dX12_restOf_28 : decode cX12_restOf 28 = .ok (.iload_n 3, 1) := by decide +kernel
theorem dX12_restOf_29 : decode cX12_restOf 29 = .ok (.if_icmp .ne 16, 3) := by decide +kernel
theorem dX12_restOf_32 : decode cX12_restOf 32 = .ok (.bipush 10, 2) := by decide +kernel
theorem dX12_restOf_34 : decode cX12_restOf 34 = .ok (.iload 5, 2) := by decide +kernel
theorem dX12_restOf_36 : decode cX12_restOf 36 = .ok (.iconst 2, 1) := by decide +kernel
theorem dX12_restOf_37 : decode cX12_restOf 37 = .ok (.idiv, 1) := by decide +kernel
theorem dX12_restOf_38 : decode cX12_restOf 38 = .ok (.imul, 1) := by decide +kernel
theorem dX12_restOf_39 : decode cX12_restOf 39 = .ok (.iload 5, 2) := by decide +kernel
theorem dX12_restOf_41 : decode cX12_restOf 41 = .ok (.iconst 2, 1) := by decide +kernel
theorem dX12_restOf_42 : decode cX12_restOf 42 = .ok (.irem, 1) := by decide +kernel
theorem dX12_restOf_43 : decode cX12_restOf 43 = .ok (.iadd, 1) := by decide +kernel
theorem dX12_restOf_44 : decode cX12_restOf 44 = .ok (.ireturn, 1) := by decide +kernel
theorem dX12_restOf_45 : decode cX12_restOf 45 = .ok (.iinc 4 1, 3) := by decide +kernel
theorem dX12_restOf_48 : decode cX12_restOf 48 = .ok (.iinc 5 1, 3) := by decide +kernel
theorem dX12_restOf_51 : decode cX12_restOf 51 = .ok (.goto (-45), 3) := by decide +kernel
theorem dX12_restOf_54 : decode cX12_restOf 54 = .ok (.iload_n 3, 1) := by decide +kernel
theorem dX12_restOf_55 : decode cX12_restOf 55 = .ok (.iconst (-1), 1) := by decide +kernel
theorem dX12_restOf_56 : decode cX12_restOf 56 = .ok (.if_icmp .ne 8, 3) := by decide +kernel
theorem dX12_restOf_59 : decode cX12_restOf 59 = .ok (.iload 4, 2) := by decide +kernel
theorem dX12_restOf_61 : decode cX12_restOf 61 = .ok (.goto 5, 3) := by decide +kernel
theorem dX12_restOf_64 : decode cX12_restOf 64 = .ok (.bipush (-2), 2) := by decide +kernel
theorem dX12_restOf_66 : decode cX12_restOf 66 = .ok (.ireturn, 1) := by decide +kernel
theorem dX12_areTwo_0 : decode cX12_areTwo 0 = .ok (.aload_n 0, 1) := by decide +kernel
theorem dX12_areTwo_1 : decode cX12_areTwo 1 = .ok (.iload_n 1, 1) := by decide +kernel
theorem dX12_areTwo_2 : decode cX12_areTwo 2 = .ok (.invokevirtual 419, 3) := by decide +kernel
theorem dX12_areTwo_5 : decode cX12_areTwo 5 = .ok (.ifCond .eq 20, 3) := by decide +kernel
theorem dX12_areTwo_8 : decode cX12_areTwo 8 = .ok (.aload_n 0, 1) := by decide +kernel
theorem dX12_areTwo_9 : decode cX12_areTwo 9 = .ok (.iload_n 2, 1) := by decide +kernel
theorem dX12_areTwo_10 : decode cX12_areTwo 10 = .ok (.invokevirtual 419, 3) := by decide +kernel
theorem dX12_areTwo_13 : decode cX12_areTwo 13 = .ok (.ifCond .eq 12, 3) := by decide +kernel
theorem dX12_areTwo_16 : decode cX12_areTwo 16 = .ok (.iload_n 1, 1) := by decide +kernel
theorem dX12_areTwo_17 : decode cX12_areTwo 17 = .ok (.iload_n 2, 1) := by decide +kernel
theorem dX12_areTwo_18 : decode cX12_areTwo 18 = .ok (.if_icmp .eq 7, 3) := by decide +kernel
theorem dX12_areTwo_21 : decode cX12_areTwo 21 = .ok (.iconst 1, 1) := by decide +kernel
theorem dX12_areTwo_22 : decode cX12_areTwo 22 = .ok (.goto 4, 3) := by decide +kernel
theorem dX12_areTwo_25 : decode cX12_areTwo 25 = .ok (.iconst 0, 1) := by decide +kernel
theorem dX12_areTwo_26 : decode cX12_areTwo 26 = .ok (.ireturn, 1) := by decide +kernel
theorem dX12_rests_0 : decode cX12_rests 0 = .ok (.aload_n 0, 1) := by decide +kernel
theorem dX12_rests_1 : decode cX12_rests 1 = .ok (.iconst 0, 1) := by decide +kernel
theorem dX12_rests_2 : decode cX12_rests 2 = .ok (.putfield 154, 3) := by decide +kernel
theorem dX12_rests_5 : decode cX12_rests 5 = .ok (.aload_n 0, 1) := by decide +kernel
theorem dX12_rests_6 : decode cX12_rests 6 = .ok (.iload_n 1, 1) := by decide +kernel
theorem dX12_rests_7 : decode cX12_rests 7 = .ok (.iload_n 2, 1) := by decide +kernel
theorem dX12_rests_8 : decode cX12_rests 8 = .ok (.invokevirtual 472, 3) := by decide +kernel
theorem dX12_rests_11 : decode cX12_rests 11 = .ok (.ifCond .eq 13, 3) := by decide +kernel
theorem dX12_rests_14 : decode cX12_rests 14 = .ok (.aload_n 0, 1) := by decide +kernel
theorem dX12_rests_15 : decode cX12_rests 15 = .ok (.iload_n 1, 1) := by decide +kernel
theorem dX12_rests_16 : decode cX12_rests 16 = .ok (.iload_n 2, 1) := by decide +kernel
theorem dX12_rests_17 : decode cX12_rests 17 = .ok (.iconst (-1), 1) := by decide +kernel
theorem dX12_rests_18 : decode cX12_rests 18 = .ok (.invokevirtual 475, 3) := by decide +kernel
theorem dX12_rests_21 : decode cX12_rests 21 = .ok (.goto 4, 3) := by decide +kernel
theorem dX12_rests_24 : decode cX12_rests 24 = .ok (.iconst (-1), 1) := by decide +kernel
theorem dX12_rests_25 : decode cX12_rests 25 = .ok (.ireturn, 1) := by decide +kernel
theorem dX12_rest_0 : decode cX12_rest 0 = .ok (.aload_n 0, 1) := by decide +kernel
theorem dX12_rest_1 : decode cX12_rest 1 = .ok (.iconst 0, 1) := by decide +kernel
theorem dX12_rest_2 : decode cX12_rest 2 = .ok (.putfield 154, 3) := by decide +kernel
theorem dX12_rest_5 : decode cX12_rest 5 = .ok (.aload_n 0, 1) := by decide +kernel
theorem dX12_rest_6 : decode cX12_rest 6 = .ok (.iload_n 1, 1) := by decide +kernel
theorem dX12_rest_7 : decode cX12_rest 7 = .ok (.iload_n 2, 1) := by decide +kernel
theorem dX12_rest_8 : decode cX12_rest 8 = .ok (.invokevirtual 472, 3) := by decide +kernel
theorem dX12_rest_11 : decode cX12_rest 11 = .ok (.ifCond .eq 17, 3) := by decide +kernel
theorem dX12_rest_14 : decode cX12_rest 14 = .ok (.iload_n 3, 1) := by decide +kernel
theorem dX12_rest_15 : decode cX12_rest 15 = .ok (.ifCond .lt 13, 3) := by decide +kernel
theorem dX12_rest_18 : decode cX12_rest 18 = .ok (.aload_n 0, 1) := by decide +kernel
theorem dX12_rest_19 : decode cX12_rest 19 = .ok (.iload_n 1, 1) := by decide +kernel
theorem dX12_rest_20 : decode cX12_rest 20 = .ok (.iload_n 2, 1) := by decide +kernel
theorem dX12_rest_21 : decode cX12_rest 21 = .ok (.iload_n 3, 1) := by decide +kernel
theorem dX12_rest_22 : decode cX12_rest 22 = .ok (.invokevirtual 475, 3) := by decide +kernel
theorem dX12_rest_25 : decode cX12_rest 25 = .ok (.goto 4, 3) := by decide +kernel
theorem dX12_rest_28 : decode cX12_rest 28 = .ok (.iconst (-1), 1) := by decide +kernel
theorem dX12_rest_29 : decode cX12_rest 29 = .ok (.ireturn, 1) := by decide +kernel
theorem dX12_steady_0 : decode cX12_steady 0 = .ok (.aload_n 0, 1) := by decide +kernel
theorem dX12_steady_1 : decode cX12_steady 1 = .ok (.iconst 0, 1) := by decide +kernel
theorem dX12_steady_2 : decode cX12_steady 2 = .ok (.putfield 154, 3) := by decide +kernel
theorem dX12_steady_5 : decode cX12_steady 5 = .ok (.iload_n 1, 1) := by decide +kernel
theorem dX12_steady_6 : decode cX12_steady 6 = .ok (.ifCond .lt 18, 3) := by decide +kernel
theorem dX12_steady_9 : decode cX12_steady 9 = .ok (.iload_n 1, 1) := by decide +kernel
theorem dX12_steady_10 : decode cX12_steady 10 = .ok (.bipush 6, 2) := by decide +kernel
theorem dX12_steady_12 : decode cX12_steady 12 = .ok (.if_icmp .gt 12, 3) := by decide +kernel
theorem dX12_steady_15 : decode cX12_steady 15 = .ok (.iload_n 2, 1) := by decide +kernel
theorem dX12_steady_16 : decode cX12_steady 16 = .ok (.ifCond .lt 8, 3) := by decide +kernel
theorem dX12_steady_19 : decode cX12_steady 19 = .ok (.iload_n 2, 1) := by decide +kernel
theorem dX12_steady_20 : decode cX12_steady 20 = .ok (.iconst 1, 1) := by decide +kernel
theorem dX12_steady_21 : decode cX12_steady 21 = .ok (.if_icmp .le 7, 3) := by decide +kernel
theorem dX12_steady_24 : decode cX12_steady 24 = .ok (.ldc2_w 478, 3) := by decide +kernel
theorem dX12_steady_27 : decode cX12_steady 27 = .ok (.lreturn, 1) := by decide +kernel
theorem dX12_steady_28 : decode cX12_steady 28 = .ok (.lconst 1, 1) := by decide +kernel
theorem dX12_steady_29 : decode cX12_steady 29 = .ok (.lstore_n 3, 1) := by decide +kernel
theorem dX12_steady_30 : decode cX12_steady 30 = .ok (.lconst 1, 1) := by decide +kernel
theorem dX12_steady_31 : decode cX12_steady 31 = .ok (.lstore 5, 2) := by decide +kernel
theorem dX12_steady_33 : decode cX12_steady 33 = .ok (.iconst 0, 1) := by decide +kernel
theorem dX12_steady_34 : decode cX12_steady 34 = .ok (.istore 7, 2) := by decide +kernel
theorem dX12_steady_36 : decode cX12_steady 36 = .ok (.iload 7, 2) := by decide +kernel
theorem dX12_steady_38 : decode cX12_steady 38 = .ok (.iload_n 1, 1) := by decide +kernel
theorem dX12_steady_39 : decode cX12_steady 39 = .ok (.if_icmp .ge 31, 3) := by decide +kernel
theorem dX12_steady_42 : decode cX12_steady 42 = .ok (.lload_n 3, 1) := by decide +kernel
theorem dX12_steady_43 : decode cX12_steady 43 = .ok (.ldc2_w 480, 3) := by decide +kernel
theorem dX12_steady_46 : decode cX12_steady 46 = .ok (.aload_n 0, 1) := by decide +kernel
theorem dX12_steady_47 : decode cX12_steady 47 = .ok (.getfield 13, 3) := by decide +kernel
theorem dX12_steady_50 : decode cX12_steady 50 = .ok (.iconst 5, 1) := by decide +kernel
theorem dX12_steady_51 : decode cX12_steady 51 = .ok (.iaload, 1) := by decide +kernel
theorem dX12_steady_52 : decode cX12_steady 52 = .ok (.i2l, 1) := by decide +kernel
theorem dX12_steady_53 : decode cX12_steady 53 = .ok (.lsub, 1) := by decide +kernel
theorem dX12_steady_54 : decode cX12_steady 54 = .ok (.lmul, 1) := by decide +kernel
theorem dX12_steady_55 : decode cX12_steady 55 = .ok (.lstore_n 3, 1) := by decide +kernel
theorem dX12_steady_56 : decode cX12_steady 56 = .ok (.lload 5, 2) := by decide +kernel
theorem dX12_steady_58 : decode cX12_steady 58 = .ok (.ldc2_w 480, 3) := by decide +kernel
theorem dX12_steady_61 : decode cX12_steady 61 = .ok (.lmul, 1) := by decide +kernel
theorem dX12_steady_62 : decode cX12_steady 62 = .ok (.lstore 5, 2) := by decide +kernel
theorem dX12_steady_64 : decode cX12_steady 64 = .ok (.iinc 7 1, 3) := by decide +kernel
theorem dX12_steady_67 : decode cX12_steady 67 = .ok (.goto (-31), 3) := by decide +kernel
theorem dX12_steady_70 : decode cX12_steady 70 = .ok (.lload_n 3, 1) := by decide +kernel
theorem dX12_steady_71 : decode cX12_steady 71 = .ok (.lload 5, 2) := by decide +kernel
theorem dX12_steady_73 : decode cX12_steady 73 = .ok (.invokestatic 449, 3) := by decide +kernel
theorem dX12_steady_76 : decode cX12_steady 76 = .ok (.lstore 7, 2) := by decide +kernel
theorem dX12_steady_78 : decode cX12_steady 78 = .ok (.iload_n 2, 1) := by decide +kernel
theorem dX12_steady_79 : decode cX12_steady 79 = .ok (.ifCond .ne 10, 3) := by decide +kernel
theorem dX12_steady_82 : decode cX12_steady 82 = .ok (.lload_n 3, 1) := by decide +kernel
theorem dX12_steady_83 : decode cX12_steady 83 = .ok (.lload 7, 2) := by decide +kernel
theorem dX12_steady_85 : decode cX12_steady 85 = .ok (.ldiv, 1) := by decide +kernel
theorem dX12_steady_86 : decode cX12_steady 86 = .ok (.goto 8, 3) := by decide +kernel
theorem dX12_steady_89 : decode cX12_steady 89 = .ok (.lload 5, 2) := by decide +kernel
theorem dX12_steady_91 : decode cX12_steady 91 = .ok (.lload 7, 2) := by decide +kernel
theorem dX12_steady_93 : decode cX12_steady 93 = .ok (.ldiv, 1) := by decide +kernel
theorem dX12_steady_94 : decode cX12_steady 94 = .ok (.lreturn, 1) := by decide +kernel
theorem dX12_see_0 : decode cX12_see 0 = .ok (.aload_n 0, 1) := by decide +kernel
theorem dX12_see_1 : decode cX12_see 1 = .ok (.iconst 0, 1) := by decide +kernel
theorem dX12_see_2 : decode cX12_see 2 = .ok (.putfield 154, 3) := by decide +kernel
theorem dX12_see_5 : decode cX12_see 5 = .ok (.iload_n 1, 1) := by decide +kernel
theorem dX12_see_6 : decode cX12_see 6 = .ok (.iconst 1, 1) := by decide +kernel
theorem dX12_see_7 : decode cX12_see 7 = .ok (.if_icmp .lt 36, 3) := by decide +kernel
theorem dX12_see_10 : decode cX12_see 10 = .ok (.iload_n 1, 1) := by decide +kernel
theorem dX12_see_11 : decode cX12_see 11 = .ok (.bipush 60, 2) := by decide +kernel
theorem dX12_see_13 : decode cX12_see 13 = .ok (.if_icmp .gt 30, 3) := by decide +kernel
theorem dX12_see_16 : decode cX12_see 16 = .ok (.aload_n 0, 1) := by decide +kernel
theorem dX12_see_17 : decode cX12_see 17 = .ok (.iload_n 2, 1) := by decide +kernel
theorem dX12_see_18 : decode cX12_see 18 = .ok (.invokevirtual 419, 3) := by decide +kernel
theorem dX12_see_21 : decode cX12_see 21 = .ok (.ifCond .eq 22, 3) := by decide +kernel
theorem dX12_see_24 : decode cX12_see 24 = .ok (.iload_n 3, 1) := by decide +kernel
theorem dX12_see_25 : decode cX12_see 25 = .ok (.ifCond .lt 18, 3) := by decide +kernel
theorem dX12_see_28 : decode cX12_see 28 = .ok (.iload_n 3, 1) := by decide +kernel
theorem dX12_see_29 : decode cX12_see 29 = .ok (.bipush 99, 2) := by decide +kernel
theorem dX12_see_31 : decode cX12_see 31 = .ok (.if_icmp .gt 12, 3) := by decide +kernel
theorem dX12_see_34 : decode cX12_see 34 = .ok (.aload_n 0, 1) := by decide +kernel
theorem dX12_see_35 : decode cX12_see 35 = .ok (.getfield 310, 3) := by decide +kernel
theorem dX12_see_38 : decode cX12_see 38 = .ok (.bipush 24, 2) := by decide +kernel
theorem dX12_see_40 : decode cX12_see 40 = .ok (.if_icmp .ne 5, 3) := by decide +kernel
theorem dX12_see_43 : decode cX12_see 43 = .ok (.iconst (-1), 1) := by decide +kernel
theorem dX12_see_44 : decode cX12_see 44 = .ok (.ireturn, 1) := by decide +kernel
theorem dX12_see_45 : decode cX12_see 45 = .ok (.aload_n 0, 1) := by decide +kernel
theorem dX12_see_46 : decode cX12_see 46 = .ok (.getfield 129, 3) := by decide +kernel
theorem dX12_see_49 : decode cX12_see 49 = .ok (.aload_n 0, 1) := by decide +kernel
theorem dX12_see_50 : decode cX12_see 50 = .ok (.getfield 310, 3) := by decide +kernel
theorem dX12_see_53 : decode cX12_see 53 = .ok (.iload_n 1, 1) := by decide +kernel
theorem dX12_see_54 : decode cX12_see 54 = .ok (.iastore, 1) := by decide +kernel
theorem dX12_see_55 : decode cX12_see 55 = .ok (.aload_n 0, 1) := by decide +kernel
theorem dX12_see_56 : decode cX12_see 56 = .ok (.getfield 132, 3) := by decide +kernel
theorem dX12_see_59 : decode cX12_see 59 = .ok (.aload_n 0, 1) := by decide +kernel
theorem dX12_see_60 : decode cX12_see 60 = .ok (.getfield 310, 3) := by decide +kernel
theorem dX12_see_63 : decode cX12_see 63 = .ok (.iload_n 2, 1) := by decide +kernel
theorem dX12_see_64 : decode cX12_see 64 = .ok (.iastore, 1) := by decide +kernel
theorem dX12_see_65 : decode cX12_see 65 = .ok (.aload_n 0, 1) := by decide +kernel
theorem dX12_see_66 : decode cX12_see 66 = .ok (.getfield 135, 3) := by decide +kernel
theorem dX12_see_69 : decode cX12_see 69 = .ok (.aload_n 0, 1) := by decide +kernel
theorem dX12_see_70 : decode cX12_see 70 = .ok (.getfield 310, 3) := by decide +kernel
theorem dX12_see_73 : decode cX12_see 73 = .ok (.iload_n 3, 1) := by decide +kernel
theorem dX12_see_74 : decode cX12_see 74 = .ok (.iastore, 1) := by decide +kernel
theorem dX12_see_75 : decode cX12_see 75 = .ok (.aload_n 0, 1) := by decide +kernel
theorem dX12_see_76 : decode cX12_see 76 = .ok (.getfield 138, 3) := by decide +kernel
theorem dX12_see_79 : decode cX12_see 79 = .ok (.aload_n 0, 1) := by decide +kernel
theorem dX12_see_80 : decode cX12_see 80 = .ok (.getfield 310, 3) := by decide +kernel
theorem dX12_see_83 : decode cX12_see 83 = .ok (.iload 4, 2) := by decide +kernel
theorem dX12_see_85 : decode cX12_see 85 = .ok (.bastore, 1) := by decide +kernel
theorem dX12_see_86 : decode cX12_see 86 = .ok (.aload_n 0, 1) := by decide +kernel
theorem dX12_see_87 : decode cX12_see 87 = .ok (.getfield 142, 3) := by decide +kernel
theorem dX12_see_90 : decode cX12_see 90 = .ok (.aload_n 0, 1) := by decide +kernel
theorem dX12_see_91 : decode cX12_see 91 = .ok (.getfield 310, 3) := by decide +kernel
theorem dX12_see_94 : decode cX12_see 94 = .ok (.iconst (-1), 1) := by decide +kernel
theorem dX12_see_95 : decode cX12_see 95 = .ok (.iastore, 1) := by decide +kernel
theorem dX12_see_96 : decode cX12_see 96 = .ok (.aload_n 0, 1) := by decide +kernel
theorem dX12_see_97 : decode cX12_see 97 = .ok (.dup, 1) := by decide +kernel
theorem dX12_see_98 : decode cX12_see 98 = .ok (.getfield 310, 3) := by decide +kernel
theorem dX12_see_101 : decode cX12_see 101 = .ok (.iconst 1, 1) := by decide +kernel
theorem dX12_see_102 : decode cX12_see 102 = .ok (.iadd, 1) := by decide +kernel
theorem dX12_see_103 : decode cX12_see 103 = .ok (.putfield 310, 3) := by decide +kernel
theorem dX12_see_106 : decode cX12_see 106 = .ok (.aload_n 0, 1) := by decide +kernel
theorem dX12_see_107 : decode cX12_see 107 = .ok (.getfield 310, 3) := by decide +kernel
theorem dX12_see_110 : decode cX12_see 110 = .ok (.iconst 1, 1) := by decide +kernel
theorem dX12_see_111 : decode cX12_see 111 = .ok (.isub, 1) := by decide +kernel
theorem dX12_see_112 : decode cX12_see 112 = .ok (.ireturn, 1) := by decide +kernel
theorem dX12_strike_0 : decode cX12_strike 0 = .ok (.aload_n 0, 1) := by decide +kernel
theorem dX12_strike_1 : decode cX12_strike 1 = .ok (.iconst 0, 1) := by decide +kernel
theorem dX12_strike_2 : decode cX12_strike 2 = .ok (.putfield 154, 3) := by decide +kernel
theorem dX12_strike_5 : decode cX12_strike 5 = .ok (.iload_n 1, 1) := by decide +kernel
theorem dX12_strike_6 : decode cX12_strike 6 = .ok (.ifCond .lt 20, 3) := by decide +kernel
theorem dX12_strike_9 : decode cX12_strike 9 = .ok (.iload_n 1, 1) := by decide +kernel
theorem dX12_strike_10 : decode cX12_strike 10 = .ok (.aload_n 0, 1) := by decide +kernel
theorem dX12_strike_11 : decode cX12_strike 11 = .ok (.getfield 310, 3) := by decide +kernel
theorem dX12_strike_14 : decode cX12_strike 14 = .ok (.if_icmp .ge 12, 3) := by decide +kernel
theorem dX12_strike_17 : decode cX12_strike 17 = .ok (.aload_n 0, 1) := by decide +kernel
theorem dX12_strike_18 : decode cX12_strike 18 = .ok (.getfield 310, 3) := by decide +kernel
theorem dX12_strike_21 : decode cX12_strike 21 = .ok (.bipush 24, 2) := by decide +kernel
theorem dX12_strike_23 : decode cX12_strike 23 = .ok (.if_icmp .ne 5, 3) := by decide +kernel
theorem dX12_strike_26 : decode cX12_strike 26 = .ok (.iconst (-1), 1) := by decide +kernel
theorem dX12_strike_27 : decode cX12_strike 27 = .ok (.ireturn, 1) := by decide +kernel
theorem dX12_strike_28 : decode cX12_strike 28 = .ok (.aload_n 0, 1) := by decide +kernel
theorem dX12_strike_29 : decode cX12_strike 29 = .ok (.getfield 142, 3) := by decide +kernel
theorem dX12_strike_32 : decode cX12_strike 32 = .ok (.aload_n 0, 1) := by decide +kernel
theorem dX12_strike_33 : decode cX12_strike 33 = .ok (.getfield 310, 3) := by decide +kernel
theorem dX12_strike_36 : decode cX12_strike 36 = .ok (.iload_n 1, 1) := by decide +kernel
theorem dX12_strike_37 : decode cX12_strike 37 = .ok (.iastore, 1) := by decide +kernel
theorem dX12_strike_38 : decode cX12_strike 38 = .ok (.aload_n 0, 1) := by decide +kernel
theorem dX12_strike_39 : decode cX12_strike 39 = .ok (.dup, 1) := by decide +kernel
theorem dX12_strike_40 : decode cX12_strike 40 = .ok (.getfield 310, 3) := by decide +kernel
theorem dX12_strike_43 : decode cX12_strike 43 = .ok (.iconst 1, 1) := by decide +kernel
theorem dX12_strike_44 : decode cX12_strike 44 = .ok (.iadd, 1) := by decide +kernel
theorem dX12_strike_45 : decode cX12_strike 45 = .ok (.putfield 310, 3) := by decide +kernel
theorem dX12_strike_48 : decode cX12_strike 48 = .ok (.aload_n 0, 1) := by decide +kernel
theorem dX12_strike_49 : decode cX12_strike 49 = .ok (.getfield 310, 3) := by decide +kernel
theorem dX12_strike_52 : decode cX12_strike 52 = .ok (.iconst 1, 1) := by decide +kernel
theorem dX12_strike_53 : decode cX12_strike 53 = .ok (.isub, 1) := by decide +kernel
theorem dX12_strike_54 : decode cX12_strike 54 = .ok (.ireturn, 1) := by decide +kernel
theorem dX12_known_0 : decode cX12_known 0 = .ok (.aload_n 0, 1) := by decide +kernel
theorem dX12_known_1 : decode cX12_known 1 = .ok (.iconst 0, 1) := by decide +kernel
theorem dX12_known_2 : decode cX12_known 2 = .ok (.putfield 154, 3) := by decide +kernel
theorem dX12_known_5 : decode cX12_known 5 = .ok (.iload_n 1, 1) := by decide +kernel
theorem dX12_known_6 : decode cX12_known 6 = .ok (.iconst (-1), 1) := by decide +kernel
theorem dX12_known_7 : decode cX12_known 7 = .ok (.if_icmp .lt 11, 3) := by decide +kernel
theorem dX12_known_10 : decode cX12_known 10 = .ok (.iload_n 1, 1) := by decide +kernel
theorem dX12_known_11 : decode cX12_known 11 = .ok (.aload_n 0, 1) := by decide +kernel
theorem dX12_known_12 : decode cX12_known 12 = .ok (.getfield 310, 3) := by decide +kernel
theorem dX12_known_15 : decode cX12_known 15 = .ok (.if_icmp .le 5, 3) := by decide +kernel
theorem dX12_known_18 : decode cX12_known 18 = .ok (.iconst 0, 1) := by decide +kernel
theorem dX12_known_19 : decode cX12_known 19 = .ok (.ireturn, 1) := by decide +kernel
theorem dX12_known_20 : decode cX12_known 20 = .ok (.aload_n 0, 1) := by decide +kernel
theorem dX12_known_21 : decode cX12_known 21 = .ok (.iload_n 1, 1) := by decide +kernel
theorem dX12_known_22 : decode cX12_known 22 = .ok (.putfield 126, 3) := by decide +kernel
theorem dX12_known_25 : decode cX12_known 25 = .ok (.iconst 1, 1) := by decide +kernel
theorem dX12_known_26 : decode cX12_known 26 = .ok (.ireturn, 1) := by decide +kernel
theorem dX12_knownMany_0 : decode cX12_knownMany 0 = .ok (.aload_n 0, 1) := by decide +kernel
theorem dX12_knownMany_1 : decode cX12_knownMany 1 = .ok (.getfield 126, 3) := by decide +kernel
theorem dX12_knownMany_4 : decode cX12_knownMany 4 = .ok (.iconst (-1), 1) := by decide +kernel
theorem dX12_knownMany_5 : decode cX12_knownMany 5 = .ok (.if_icmp .ne 10, 3) := by decide +kernel
theorem dX12_knownMany_8 : decode cX12_knownMany 8 = .ok (.aload_n 0, 1) := by decide +kernel
theorem dX12_knownMany_9 : decode cX12_knownMany 9 = .ok (.getfield 310, 3) := by decide +kernel
theorem dX12_knownMany_12 : decode cX12_knownMany 12 = .ok (.goto 7, 3) := by decide +kernel
theorem dX12_knownMany_15 : decode cX12_knownMany 15 = .ok (.aload_n 0, 1) := by decide +kernel
theorem dX12_knownMany_16 : decode cX12_knownMany 16 = .ok (.getfield 126, 3) := by decide +kernel
theorem dX12_knownMany_19 : decode cX12_knownMany 19 = .ok (.ireturn, 1) := by decide +kernel
theorem dX12_isSo_0 : decode cX12_isSo 0 = .ok (.iconst 0, 1) := by decide +kernel
theorem dX12_isSo_1 : decode cX12_isSo 1 = .ok (.istore_n 2, 1) := by decide +kernel
theorem dX12_isSo_2 : decode cX12_isSo 2 = .ok (.iload_n 2, 1) := by decide +kernel
theorem dX12_isSo_3 : decode cX12_isSo 3 = .ok (.aload_n 0, 1) := by decide +kernel
theorem dX12_isSo_4 : decode cX12_isSo 4 = .ok (.invokevirtual 482, 3) := by decide +kernel
theorem dX12_isSo_7 : decode cX12_isSo 7 = .ok (.if_icmp .ge 80, 3) := by decide +kernel
theorem dX12_isSo_10 : decode cX12_isSo 10 = .ok (.aload_n 0, 1) := by decide +kernel
theorem dX12_isSo_11 : decode cX12_isSo 11 = .ok (.getfield 145, 3) := by decide +kernel
theorem dX12_isSo_14 : decode cX12_isSo 14 = .ok (.iload_n 2, 1) := by decide +kernel
theorem dX12_isSo_15 : decode cX12_isSo 15 = .ok (.baload, 1) := by decide +kernel
theorem dX12_isSo_16 : decode cX12_isSo 16 = .ok (.ifCond .ne 65, 3) := by decide +kernel
theorem dX12_isSo_19 : decode cX12_isSo 19 = .ok (.aload_n 0, 1) := by decide +kernel
theorem dX12_isSo_20 : decode cX12_isSo 20 = .ok (.getfield 142, 3) := by decide +kernel
theorem dX12_isSo_23 : decode cX12_isSo 23 = .ok (.iload_n 2, 1) := by decide +kernel
theorem dX12_isSo_24 : decode cX12_isSo 24 = .ok (.iaload, 1) := by decide +kernel
theorem dX12_isSo_25 : decode cX12_isSo 25 = .ok (.iconst (-1), 1) := by decide +kernel
theorem dX12_isSo_26 : decode cX12_isSo 26 = .ok (.if_icmp .ne 55, 3) := by decide +kernel
theorem dX12_isSo_29 : decode cX12_isSo 29 = .ok (.aload_n 0, 1) := by decide +kernel
theorem dX12_isSo_30 : decode cX12_isSo 30 = .ok (.getfield 129, 3) := by decide +kernel
theorem dX12_isSo_33 : decode cX12_isSo 33 = .ok (.iload_n 2, 1) := by decide +kernel
theorem dX12_isSo_34 : decode cX12_isSo 34 = .ok (.iaload, 1) := by decide +kernel
theorem dX12_isSo_35 : decode cX12_isSo 35 = .ok (.iload_n 1, 1) := by decide +kernel
theorem dX12_isSo_36 : decode cX12_isSo 36 = .ok (.if_icmp .eq 6, 3) := by decide +kernel
theorem dX12_isSo_39 : decode cX12_isSo 39 = .ok (.goto 42, 3) := by decide +kernel
theorem dX12_isSo_42 : decode cX12_isSo 42 = .ok (.aload_n 0, 1) := by decide +kernel
theorem dX12_isSo_43 : decode cX12_isSo 43 = .ok (.getfield 108, 3) := by decide +kernel
theorem dX12_isSo_46 : decode cX12_isSo 46 = .ok (.bipush 6, 2) := by decide +kernel
theorem dX12_isSo_48 : decode cX12_isSo 48 = .ok (.aload_n 0, 1) := by decide +kernel
theorem dX12_isSo_49 : decode cX12_isSo 49 = .ok (.getfield 132, 3) := by decide +kernel
theorem dX12_isSo_52 : decode cX12_isSo 52 = .ok (.iload_n 2, 1) := by decide +kernel
theorem dX12_isSo_53 : decode cX12_isSo 53 = .ok (.iaload, 1) := by decide +kernel
theorem dX12_isSo_54 : decode cX12_isSo 54 = .ok (.iadd, 1) := by decide +kernel
theorem dX12_isSo_55 : decode cX12_isSo 55 = .ok (.iaload, 1) := by decide +kernel
theorem dX12_isSo_56 : decode cX12_isSo 56 = .ok (.aload_n 0, 1) := by decide +kernel
theorem dX12_isSo_57 : decode cX12_isSo 57 = .ok (.getfield 135, 3) := by decide +kernel
theorem dX12_isSo_60 : decode cX12_isSo 60 = .ok (.iload_n 2, 1) := by decide +kernel
theorem dX12_isSo_61 : decode cX12_isSo 61 = .ok (.iaload, 1) := by decide +kernel
theorem dX12_isSo_62 : decode cX12_isSo 62 = .ok (.if_icmp .lt 7, 3) := by decide +kernel
theorem dX12_isSo_65 : decode cX12_isSo 65 = .ok (.iconst 1, 1) := by decide +kernel
theorem dX12_isSo_66 : decode cX12_isSo 66 = .ok (.goto 4, 3) := by decide +kernel
theorem dX12_isSo_69 : decode cX12_isSo 69 = .ok (.iconst 0, 1) := by decide +kernel
theorem dX12_isSo_70 : decode cX12_isSo 70 = .ok (.aload_n 0, 1) := by decide +kernel
theorem dX12_isSo_71 : decode cX12_isSo 71 = .ok (.getfield 138, 3) := by decide +kernel
theorem dX12_isSo_74 : decode cX12_isSo 74 = .ok (.iload_n 2, 1) := by decide +kernel
theorem dX12_isSo_75 : decode cX12_isSo 75 = .ok (.baload, 1) := by decide +kernel
theorem dX12_isSo_76 : decode cX12_isSo 76 = .ok (.if_icmp .eq 5, 3) := by decide +kernel
theorem dX12_isSo_79 : decode cX12_isSo 79 = .ok (.iconst 0, 1) := by decide +kernel
theorem dX12_isSo_80 : decode cX12_isSo 80 = .ok (.ireturn, 1) := by decide +kernel
theorem dX12_isSo_81 : decode cX12_isSo 81 = .ok (.iinc 2 1, 3) := by decide +kernel
theorem dX12_isSo_84 : decode cX12_isSo 84 = .ok (.goto (-82), 3) := by decide +kernel
theorem dX12_isSo_87 : decode cX12_isSo 87 = .ok (.iconst 1, 1) := by decide +kernel
theorem dX12_isSo_88 : decode cX12_isSo 88 = .ok (.ireturn, 1) := by decide +kernel
theorem dX12_startsWith_0 : decode cX12_startsWith 0 = .ok (.aload_n 0, 1) := by decide +kernel
theorem dX12_startsWith_1 : decode cX12_startsWith 1 = .ok (.iconst 1, 1) := by decide +kernel
theorem dX12_startsWith_2 : decode cX12_startsWith 2 = .ok (.invokevirtual 340, 3) := by decide +kernel
theorem dX12_startsWith_5 : decode cX12_startsWith 5 = .ok (.aload_n 0, 1) := by decide +kernel
theorem dX12_startsWith_6 : decode cX12_startsWith 6 = .ok (.getfield 99, 3) := by decide +kernel
theorem dX12_startsWith_9 : decode cX12_startsWith 9 = .ok (.bipush 6, 2) := by decide +kernel
theorem dX12_startsWith_11 : decode cX12_startsWith 11 = .ok (.iload_n 1, 1) := by decide +kernel
theorem dX12_startsWith_12 : decode cX12_startsWith 12 = .ok (.iadd, 1) := by decide +kernel
theorem dX12_startsWith_13 : decode cX12_startsWith 13 = .ok (.iload_n 2, 1) := by decide +kernel
theorem dX12_startsWith_14 : decode cX12_startsWith 14 = .ok (.iastore, 1) := by decide +kernel
theorem dX12_startsWith_15 : decode cX12_startsWith 15 = .ok (.return_, 1) := by decide +kernel
theorem dX12_fitsBorne_0 : decode cX12_fitsBorne 0 = .ok (.aload_n 0, 1) := by decide +kernel
theorem dX12_fitsBorne_1 : decode cX12_fitsBorne 1 = .ok (.iload_n 1, 1) := by decide +kernel
theorem dX12_fitsBorne_2 : decode cX12_fitsBorne 2 = .ok (.iload_n 2, 1) := by decide +kernel
theorem dX12_fitsBorne_3 : decode cX12_fitsBorne 3 = .ok (.invokevirtual 485, 3) := by decide +kernel
theorem dX12_fitsBorne_6 : decode cX12_fitsBorne 6 = .ok (.iconst 1, 1) := by decide +kernel
theorem dX12_fitsBorne_7 : decode cX12_fitsBorne 7 = .ok (.istore 4, 2) := by decide +kernel
theorem dX12_fitsBorne_9 : decode cX12_fitsBorne 9 = .ok (.iload 4, 2) := by decide +kernel
theorem dX12_fitsBorne_11 : decode cX12_fitsBorne 11 = .ok (.iload_n 3, 1) := by decide +kernel
theorem dX12_fitsBorne_12 : decode cX12_fitsBorne 12 = .ok (.if_icmp .gt 26, 3) := by decide +kernel
theorem dX12_fitsBorne_15 : decode cX12_fitsBorne 15 = .ok (.aload_n 0, 1) := by decide +kernel
theorem dX12_fitsBorne_16 : decode cX12_fitsBorne 16 = .ok (.iconst 1, 1) := by decide +kernel
theorem dX12_fitsBorne_17 : decode cX12_fitsBorne 17 = .ok (.iconst 0, 1) := by decide +kernel
theorem dX12_fitsBorne_18 : decode cX12_fitsBorne 18 = .ok (.invokevirtual 409, 3) := by decide +kernel
theorem dX12_fitsBorne_21 : decode cX12_fitsBorne 21 = .ok (.aload_n 0, 1) := by decide +kernel
theorem dX12_fitsBorne_22 : decode cX12_fitsBorne 22 = .ok (.iload 4, 2) := by decide +kernel
theorem dX12_fitsBorne_24 : decode cX12_fitsBorne 24 = .ok (.invokevirtual 488, 3) := by decide +kernel
theorem dX12_fitsBorne_27 : decode cX12_fitsBorne 27 = .ok (.ifCond .ne 5, 3) := by decide +kernel
theorem dX12_fitsBorne_30 : decode cX12_fitsBorne 30 = .ok (.iconst 0, 1) := by decide +kernel
theorem dX12_fitsBorne_31 : decode cX12_fitsBorne 31 = .ok (.ireturn, 1) := by decide +kernel
theorem dX12_fitsBorne_32 : decode cX12_fitsBorne 32 = .ok (.iinc 4 1, 3) := by decide +kernel
theorem dX12_fitsBorne_35 : decode cX12_fitsBorne 35 = .ok (.goto (-26), 3) := by decide +kernel
theorem dX12_fitsBorne_38 : decode cX12_fitsBorne 38 = .ok (.iconst 1, 1) := by decide +kernel
theorem dX12_fitsBorne_39 : decode cX12_fitsBorne 39 = .ok (.ireturn, 1) := by decide +kernel
theorem dX12_borneBy_0 : decode cX12_borneBy 0 = .ok (.iconst 0, 1) := by decide +kernel
theorem dX12_borneBy_1 : decode cX12_borneBy 1 = .ok (.istore_n 2, 1) := by decide +kernel
theorem dX12_borneBy_2 : decode cX12_borneBy 2 = .ok (.iconst 0, 1) := by decide +kernel
theorem dX12_borneBy_3 : decode cX12_borneBy 3 = .ok (.istore_n 3, 1) := by decide +kernel
theorem dX12_borneBy_4 : decode cX12_borneBy 4 = .ok (.iload_n 3, 1) := by decide +kernel
theorem dX12_borneBy_5 : decode cX12_borneBy 5 = .ok (.aload_n 0, 1) := by decide +kernel
theorem dX12_borneBy_6 : decode cX12_borneBy 6 = .ok (.invokevirtual 482, 3) := by decide +kernel
theorem dX12_borneBy_9 : decode cX12_borneBy 9 = .ok (.if_icmp .ge 16, 3) := by decide +kernel
theorem dX12_borneBy_12 : decode cX12_borneBy 12 = .ok (.aload_n 0, 1) := by decide +kernel
theorem dX12_borneBy_13 : decode cX12_borneBy 13 = .ok (.getfield 145, 3) := by decide +kernel
theorem dX12_borneBy_16 : decode cX12_borneBy 16 = .ok (.iload_n 3, 1) := by decide +kernel
theorem dX12_borneBy_17 : decode cX12_borneBy 17 = .ok (.iconst 0, 1) := by decide +kernel
theorem dX12_borneBy_18 : decode cX12_borneBy 18 = .ok (.bastore, 1) := by decide +kernel
theorem dX12_borneBy_19 : decode cX12_borneBy 19 = .ok (.iinc 3 1, 3) := by decide +kernel
theorem dX12_borneBy_22 : decode cX12_borneBy 22 = .ok (.goto (-18), 3) := by decide +kernel
theorem dX12_borneBy_25 : decode cX12_borneBy 25 = .ok (.aload_n 0, 1) := by decide +kernel
theorem dX12_borneBy_26 : decode cX12_borneBy 26 = .ok (.invokevirtual 482, 3) := by decide +kernel
theorem dX12_borneBy_29 : decode cX12_borneBy 29 = .ok (.iconst 1, 1) := by decide +kernel
theorem dX12_borneBy_30 : decode cX12_borneBy 30 = .ok (.isub, 1) := by decide +kernel
theorem dX12_borneBy_31 : decode cX12_borneBy 31 = .ok (.istore_n 3, 1) := by decide +kernel
theorem dX12_borneBy_32 : decode cX12_borneBy 32 = .ok (.iload_n 3, 1) := by decide +kernel
theorem dX12_borneBy_33 : decode cX12_borneBy 33 = .ok (.ifCond .lt 40, 3) := by decide +kernel
theorem dX12_borneBy_36 : decode cX12_borneBy 36 = .ok (.aload_n 0, 1) := by decide +kernel
theorem dX12_borneBy_37 : decode cX12_borneBy 37 = .ok (.getfield 145, 3) := by decide +kernel
theorem dX12_borneBy_40 : decode cX12_borneBy 40 = .ok (.iload_n 3, 1) := by decide +kernel
theorem dX12_borneBy_41 : decode cX12_borneBy 41 = .ok (.baload, 1) := by decide +kernel
theorem dX12_borneBy_42 : decode cX12_borneBy 42 = .ok (.ifCond .ne 25, 3) := by decide +kernel
theorem dX12_borneBy_45 : decode cX12_borneBy 45 = .ok (.aload_n 0, 1) := by decide +kernel
theorem dX12_borneBy_46 : decode cX12_borneBy 46 = .ok (.getfield 142, 3) := by decide +kernel
theorem dX12_borneBy_49 : decode cX12_borneBy 49 = .ok (.iload_n 3, 1) := by decide +kernel
theorem dX12_borneBy_50 : decode cX12_borneBy 50 = .ok (.iaload, 1) := by decide +kernel
theorem dX12_borneBy_51 : decode cX12_borneBy 51 = .ok (.iconst (-1), 1) := by decide +kernel
theorem dX12_borneBy_52 : decode cX12_borneBy 52 = .ok (.if_icmp .eq 15, 3) := by decide +kernel
theorem dX12_borneBy_55 : decode cX12_borneBy 55 = .ok (.aload_n 0, 1) := by decide +kernel
theorem dX12_borneBy_56 : decode cX12_borneBy 56 = .ok (.getfield 145, 3) := by decide +kernel
theorem dX12_borneBy_59 : decode cX12_borneBy 59 = .ok (.aload_n 0, 1) := by decide +kernel
theorem dX12_borneBy_60 : decode cX12_borneBy 60 = .ok (.getfield 142, 3) := by decide +kernel
theorem dX12_borneBy_63 : decode cX12_borneBy 63 = .ok (.iload_n 3, 1) := by decide +kernel
theorem dX12_borneBy_64 : decode cX12_borneBy 64 = .ok (.iaload, 1) := by decide +kernel
theorem dX12_borneBy_65 : decode cX12_borneBy 65 = .ok (.iconst 1, 1) := by decide +kernel
theorem dX12_borneBy_66 : decode cX12_borneBy 66 = .ok (.bastore, 1) := by decide +kernel
theorem dX12_borneBy_67 : decode cX12_borneBy 67 = .ok (.iinc 3 (-1), 3) := by decide +kernel
theorem dX12_borneBy_70 : decode cX12_borneBy 70 = .ok (.goto (-38), 3) := by decide +kernel
theorem dX12_borneBy_73 : decode cX12_borneBy 73 = .ok (.iconst 0, 1) := by decide +kernel
theorem dX12_borneBy_74 : decode cX12_borneBy 74 = .ok (.istore_n 3, 1) := by decide +kernel
theorem dX12_borneBy_75 : decode cX12_borneBy 75 = .ok (.iload_n 3, 1) := by decide +kernel
theorem dX12_borneBy_76 : decode cX12_borneBy 76 = .ok (.aload_n 0, 1) := by decide +kernel
theorem dX12_borneBy_77 : decode cX12_borneBy 77 = .ok (.invokevirtual 482, 3) := by decide +kernel
theorem dX12_borneBy_80 : decode cX12_borneBy 80 = .ok (.if_icmp .ge 39, 3) := by decide +kernel
theorem dX12_borneBy_83 : decode cX12_borneBy 83 = .ok (.aload_n 0, 1) := by decide +kernel
theorem dX12_borneBy_84 : decode cX12_borneBy 84 = .ok (.getfield 145, 3) := by decide +kernel
theorem dX12_borneBy_87 : decode cX12_borneBy 87 = .ok (.iload_n 3, 1) := by decide +kernel
theorem dX12_borneBy_88 : decode cX12_borneBy 88 = .ok (.baload, 1) := by decide +kernel
theorem dX12_borneBy_89 : decode cX12_borneBy 89 = .ok (.ifCond .ne 24, 3) := by decide +kernel
theorem dX12_borneBy_92 : decode cX12_borneBy 92 = .ok (.aload_n 0, 1) := by decide +kernel
theorem dX12_borneBy_93 : decode cX12_borneBy 93 = .ok (.getfield 142, 3) := by decide +kernel
theorem dX12_borneBy_96 : decode cX12_borneBy 96 = .ok (.iload_n 3, 1) := by decide +kernel
theorem dX12_borneBy_97 : decode cX12_borneBy 97 = .ok (.iaload, 1) := by decide +kernel
theorem dX12_borneBy_98 : decode cX12_borneBy 98 = .ok (.iconst (-1), 1) := by decide +kernel
theorem dX12_borneBy_99 : decode cX12_borneBy 99 = .ok (.if_icmp .ne 14, 3) := by decide +kernel
theorem dX12_borneBy_102 : decode cX12_borneBy 102 = .ok (.iload_n 2, 1) := by decide +kernel
theorem dX12_borneBy_103 : decode cX12_borneBy 103 = .ok (.aload_n 0, 1) := by decide +kernel
theorem dX12_borneBy_104 : decode cX12_borneBy 104 = .ok (.getfield 129, 3) := by decide +kernel
theorem dX12_borneBy_107 : decode cX12_borneBy 107 = .ok (.iload_n 3, 1) := by decide +kernel
theorem dX12_borneBy_108 : decode cX12_borneBy 108 = .ok (.iaload, 1) := by decide +kernel
theorem dX12_borneBy_109 : decode cX12_borneBy 109 = .ok (.invokestatic 370, 3) := by decide +kernel
theorem dX12_borneBy_112 : decode cX12_borneBy 112 = .ok (.istore_n 2, 1) := by decide +kernel
theorem dX12_borneBy_113 : decode cX12_borneBy 113 = .ok (.iinc 3 1, 3) := by decide +kernel
theorem dX12_borneBy_116 : decode cX12_borneBy 116 = .ok (.goto (-41), 3) := by decide +kernel
theorem dX12_borneBy_119 : decode cX12_borneBy 119 = .ok (.iconst 0, 1) := by decide +kernel
theorem dX12_borneBy_120 : decode cX12_borneBy 120 = .ok (.istore_n 3, 1) := by decide +kernel
theorem dX12_borneBy_121 : decode cX12_borneBy 121 = .ok (.iconst 0, 1) := by decide +kernel
theorem dX12_borneBy_122 : decode cX12_borneBy 122 = .ok (.istore 4, 2) := by decide +kernel
theorem dX12_borneBy_124 : decode cX12_borneBy 124 = .ok (.iload 4, 2) := by decide +kernel
theorem dX12_borneBy_126 : decode cX12_borneBy 126 = .ok (.bipush 10, 2) := by decide +kernel
theorem dX12_borneBy_128 : decode cX12_borneBy 128 = .ok (.if_icmp .ge 34, 3) := by decide +kernel
theorem dX12_borneBy_131 : decode cX12_borneBy 131 = .ok (.iload_n 3, 1) := by decide +kernel
theorem dX12_borneBy_132 : decode cX12_borneBy 132 = .ok (.aload_n 0, 1) := by decide +kernel
theorem dX12_borneBy_133 : decode cX12_borneBy 133 = .ok (.iload_n 1, 1) := by decide +kernel
theorem dX12_borneBy_134 : decode cX12_borneBy 134 = .ok (.bipush 10, 2) := by decide +kernel
theorem dX12_borneBy_136 : decode cX12_borneBy 136 = .ok (.iload 4, 2) := by decide +kernel
theorem dX12_borneBy_138 : decode cX12_borneBy 138 = .ok (.imul, 1) := by decide +kernel
theorem dX12_borneBy_139 : decode cX12_borneBy 139 = .ok (.iload_n 2, 1) := by decide +kernel
theorem dX12_borneBy_140 : decode cX12_borneBy 140 = .ok (.invokevirtual 491, 3) := by decide +kernel
theorem dX12_borneBy_143 : decode cX12_borneBy 143 = .ok (.ifCond .eq 10, 3) := by decide +kernel
theorem dX12_borneBy_146 : decode cX12_borneBy 146 = .ok (.iconst 1, 1) := by decide +kernel
theorem dX12_borneBy_147 : decode cX12_borneBy 147 = .ok (.iload 4, 2) := by decide +kernel
theorem dX12_borneBy_149 : decode cX12_borneBy 149 = .ok (.ishl, 1) := by decide +kernel
theorem dX12_borneBy_150 : decode cX12_borneBy 150 = .ok (.goto 4, 3) := by decide +kernel
theorem dX12_borneBy_153 : decode cX12_borneBy 153 = .ok (.iconst 0, 1) := by decide +kernel
theorem dX12_borneBy_154 : decode cX12_borneBy 154 = .ok (.ior, 1) := by decide +kernel
theorem dX12_borneBy_155 : decode cX12_borneBy 155 = .ok (.istore_n 3, 1) := by decide +kernel
theorem dX12_borneBy_156 : decode cX12_borneBy 156 = .ok (.iinc 4 1, 3) := by decide +kernel
theorem dX12_borneBy_159 : decode cX12_borneBy 159 = .ok (.goto (-35), 3) := by decide +kernel
theorem dX12_borneBy_162 : decode cX12_borneBy 162 = .ok (.iload_n 3, 1) := by decide +kernel
theorem dX12_borneBy_163 : decode cX12_borneBy 163 = .ok (.ireturn, 1) := by decide +kernel
theorem dX12_borne_0 : decode cX12_borne 0 = .ok (.aload_n 0, 1) := by decide +kernel
theorem dX12_borne_1 : decode cX12_borne 1 = .ok (.iconst 0, 1) := by decide +kernel
theorem dX12_borne_2 : decode cX12_borne 2 = .ok (.putfield 154, 3) := by decide +kernel
theorem dX12_borne_5 : decode cX12_borne 5 = .ok (.aload_n 0, 1) := by decide +kernel
theorem dX12_borne_6 : decode cX12_borne 6 = .ok (.iload_n 1, 1) := by decide +kernel
theorem dX12_borne_7 : decode cX12_borne 7 = .ok (.invokevirtual 419, 3) := by decide +kernel
theorem dX12_borne_10 : decode cX12_borne 10 = .ok (.ifCond .eq 11, 3) := by decide +kernel
theorem dX12_borne_13 : decode cX12_borne 13 = .ok (.aload_n 0, 1) := by decide +kernel
theorem dX12_borne_14 : decode cX12_borne 14 = .ok (.iload_n 1, 1) := by decide +kernel
theorem dX12_borne_15 : decode cX12_borne 15 = .ok (.invokevirtual 494, 3) := by decide +kernel
theorem dX12_borne_18 : decode cX12_borne 18 = .ok (.goto 4, 3) := by decide +kernel
theorem dX12_borne_21 : decode cX12_borne 21 = .ok (.iconst (-1), 1) := by decide +kernel
theorem dX12_borne_22 : decode cX12_borne 22 = .ok (.ireturn, 1) := by decide +kernel
theorem dX12_ask_0 : decode cX12_ask 0 = .ok (.aload_n 0, 1) := by decide +kernel
theorem dX12_ask_1 : decode cX12_ask 1 = .ok (.iconst 0, 1) := by decide +kernel
theorem dX12_ask_2 : decode cX12_ask 2 = .ok (.putfield 154, 3) := by decide +kernel
theorem dX12_ask_5 : decode cX12_ask 5 = .ok (.aload_n 0, 1) := by decide +kernel
theorem dX12_ask_6 : decode cX12_ask 6 = .ok (.iload_n 1, 1) := by decide +kernel
theorem dX12_ask_7 : decode cX12_ask 7 = .ok (.invokevirtual 419, 3) := by decide +kernel
theorem dX12_ask_10 : decode cX12_ask 10 = .ok (.ifCond .eq 12, 3) := by decide +kernel
theorem dX12_ask_13 : decode cX12_ask 13 = .ok (.iload_n 2, 1) := by decide +kernel
theorem dX12_ask_14 : decode cX12_ask 14 = .ok (.ifCond .lt 8, 3) := by decide +kernel
theorem dX12_ask_17 : decode cX12_ask 17 = .ok (.iload_n 2, 1) := by decide +kernel
theorem dX12_ask_18 : decode cX12_ask 18 = .ok (.iconst 1, 1) := by decide +kernel
theorem dX12_ask_19 : decode cX12_ask 19 = .ok (.if_icmp .le 5, 3) := by decide +kernel
theorem dX12_ask_22 : decode cX12_ask 22 = .ok (.iconst (-1), 1) := by decide +kernel
theorem dX12_ask_23 : decode cX12_ask 23 = .ok (.ireturn, 1) := by decide +kernel
theorem dX12_ask_24 : decode cX12_ask 24 = .ok (.aload_n 0, 1) := by decide +kernel
theorem dX12_ask_25 : decode cX12_ask 25 = .ok (.iload_n 1, 1) := by decide +kernel
theorem dX12_ask_26 : decode cX12_ask 26 = .ok (.invokevirtual 494, 3) := by decide +kernel
theorem dX12_ask_29 : decode cX12_ask 29 = .ok (.istore_n 3, 1) := by decide +kernel
theorem dX12_ask_30 : decode cX12_ask 30 = .ok (.iconst 1, 1) := by decide +kernel
theorem dX12_ask_31 : decode cX12_ask 31 = .ok (.istore 4, 2) := by decide +kernel
theorem dX12_ask_33 : decode cX12_ask 33 = .ok (.iload 4, 2) := by decide +kernel
theorem dX12_ask_35 : decode cX12_ask 35 = .ok (.bipush 60, 2) := by decide +kernel
theorem dX12_ask_37 : decode cX12_ask 37 = .ok (.if_icmp .gt 17, 3) := by decide +kernel
theorem dX12_ask_40 : decode cX12_ask 40 = .ok (.aload_n 0, 1) := by decide +kernel
theorem dX12_ask_41 : decode cX12_ask 41 = .ok (.getfield 148, 3) := by decide +kernel
theorem dX12_ask_44 : decode cX12_ask 44 = .ok (.iload 4, 2) := by decide +kernel
theorem dX12_ask_46 : decode cX12_ask 46 = .ok (.iconst 0, 1) := by decide +kernel
theorem dX12_ask_47 : decode cX12_ask 47 = .ok (.iastore, 1) := by decide +kernel
theorem dX12_ask_48 : decode cX12_ask 48 = .ok (.iinc 4 1, 3) := by decide +kernel
theorem dX12_ask_51 : decode cX12_ask 51 = .ok (.goto (-18), 3) := by decide +kernel
theorem dX12_ask_54 : decode cX12_ask 54 = .ok (.iconst 0, 1) := by decide +kernel
theorem dX12_ask_55 : decode cX12_ask 55 = .ok (.istore 4, 2) := by decide +kernel
theorem dX12_ask_57 : decode cX12_ask 57 = .ok (.iload 4, 2) := by decide +kernel
theorem dX12_ask_59 : decode cX12_ask 59 = .ok (.bipush 10, 2) := by decide +kernel
theorem dX12_ask_61 : decode cX12_ask 61 = .ok (.if_icmp .ge 81, 3) := by decide +kernel
theorem dX12_ask_64 : decode cX12_ask 64 = .ok (.iload_n 3, 1) := by decide +kernel
theorem dX12_ask_65 : decode cX12_ask 65 = .ok (.iload 4, 2) := by decide +kernel
theorem dX12_ask_67 : decode cX12_ask 67 = .ok (.ishr, 1) := by decide +kernel
theorem dX12_ask_68 : decode cX12_ask 68 = .ok (.iconst 1, 1) := by decide +kernel
theorem dX12_ask_69 : decode cX12_ask 69 = .ok (.iand, 1) := by decide +kernel
theorem dX12_ask_70 : decode cX12_ask 70 = .ok (.ifCond .ne 6, 3) := by decide +kernel
theorem dX12_ask_73 : decode cX12_ask 73 = .ok (.goto 63, 3) := by decide +kernel
theorem dX12_ask_76 : decode cX12_ask 76 = .ok (.aload_n 0, 1) := by decide +kernel
theorem dX12_ask_77 : decode cX12_ask 77 = .ok (.iload_n 1, 1) := by decide +kernel
theorem dX12_ask_78 : decode cX12_ask 78 = .ok (.bipush 10, 2) := by decide +kernel
theorem dX12_ask_80 : decode cX12_ask 80 = .ok (.iload 4, 2) := by decide +kernel
theorem dX12_ask_82 : decode cX12_ask 82 = .ok (.imul, 1) := by decide +kernel
theorem dX12_ask_83 : decode cX12_ask 83 = .ok (.invokevirtual 485, 3) := by decide +kernel
theorem dX12_ask_86 : decode cX12_ask 86 = .ok (.iconst 1, 1) := by decide +kernel
theorem dX12_ask_87 : decode cX12_ask 87 = .ok (.istore 5, 2) := by decide +kernel
theorem dX12_ask_89 : decode cX12_ask 89 = .ok (.iload 5, 2) := by decide +kernel
theorem dX12_ask_91 : decode cX12_ask 91 = .ok (.bipush 60, 2) := by decide +kernel
theorem dX12_ask_93 : decode cX12_ask 93 = .ok (.if_icmp .gt 43, 3) := by decide +kernel
theorem dX12_ask_96 : decode cX12_ask 96 = .ok (.aload_n 0, 1) := by decide +kernel
theorem dX12_ask_97 : decode cX12_ask 97 = .ok (.iconst 1, 1) := by decide +kernel
theorem dX12_ask_98 : decode cX12_ask 98 = .ok (.iconst 0, 1) := by decide +kernel
theorem dX12_ask_99 : decode cX12_ask 99 = .ok (.invokevirtual 409, 3) := by decide +kernel
theorem dX12_ask_102 : decode cX12_ask 102 = .ok (.aload_n 0, 1) := by decide +kernel
theorem dX12_ask_103 : decode cX12_ask 103 = .ok (.getfield 148, 3) := by decide +kernel
theorem dX12_ask_106 : decode cX12_ask 106 = .ok (.iload 5, 2) := by decide +kernel
theorem dX12_ask_108 : decode cX12_ask 108 = .ok (.dup2, 1) := by decide +kernel
theorem dX12_ask_109 : decode cX12_ask 109 = .ok (.iaload, 1) := by decide +kernel
theorem dX12_ask_110 : decode cX12_ask 110 = .ok (.aload_n 0, 1) := by decide +kernel
theorem dX12_ask_111 : decode cX12_ask 111 = .ok (.getfield 102, 3) := by decide +kernel
theorem dX12_ask_114 : decode cX12_ask 114 = .ok (.bipush 6, 2) := by decide +kernel
theorem dX12_ask_116 : decode cX12_ask 116 = .ok (.iload_n 1, 1) := by decide +kernel
theorem dX12_ask_117 : decode cX12_ask 117 = .ok (.iadd, 1) := by decide +kernel
theorem dX12_ask_118 : decode cX12_ask 118 = .ok (.iaload, 1) := by decide +kernel
theorem dX12_ask_119 : decode cX12_ask 119 = .ok (.iconst (-1), 1) := by decide +kernel
theorem dX12_ask_120 : decode cX12_ask 120 = .ok (.if_icmp .eq 7, 3) := by decide +kernel
theorem dX12_ask_123 : decode cX12_ask 123 = .ok (.iconst 1, 1) := by decide +kernel
theorem dX12_ask_124 : decode cX12_ask 124 = .ok (.goto 4, 3) := by decide +kernel
theorem dX12_ask_127 : decode cX12_ask 127 = .ok (.iconst 0, 1) := by decide +kernel
theorem dX12_ask_128 : decode cX12_ask 128 = .ok (.iadd, 1) := by decide +kernel
theorem dX12_ask_129 : decode cX12_ask 129 = .ok (.iastore, 1) := by decide +kernel
theorem dX12_ask_130 : decode cX12_ask 130 = .ok (.iinc 5 1, 3) := by decide +kernel
theorem dX12_ask_133 : decode cX12_ask 133 = .ok (.goto (-44), 3) := by decide +kernel
theorem dX12_ask_136 : decode cX12_ask 136 = .ok (.iinc 4 1, 3) := by decide +kernel
theorem dX12_ask_139 : decode cX12_ask 139 = .ok (.goto (-82), 3) := by decide +kernel
theorem dX12_ask_142 : decode cX12_ask 142 = .ok (.iconst 0, 1) := by decide +kernel
theorem dX12_ask_143 : decode cX12_ask 143 = .ok (.istore 4, 2) := by decide +kernel
theorem dX12_ask_145 : decode cX12_ask 145 = .ok (.iconst 0, 1) := by decide +kernel
theorem dX12_ask_146 : decode cX12_ask 146 = .ok (.istore 5, 2) := by decide +kernel
theorem dX12_ask_148 : decode cX12_ask 148 = .ok (.iconst 1, 1) := by decide +kernel
theorem dX12_ask_149 : decode cX12_ask 149 = .ok (.istore 6, 2) := by decide +kernel
theorem dX12_ask_151 : decode cX12_ask 151 = .ok (.iload 6, 2) := by decide +kernel
theorem dX12_ask_153 : decode cX12_ask 153 = .ok (.bipush 60, 2) := by decide +kernel
theorem dX12_ask_155 : decode cX12_ask 155 = .ok (.if_icmp .gt 56, 3) := by decide +kernel
theorem dX12_ask_158 : decode cX12_ask 158 = .ok (.aload_n 0, 1) := by decide +kernel
theorem dX12_ask_159 : decode cX12_ask 159 = .ok (.getfield 148, 3) := by decide +kernel
theorem dX12_ask_162 : decode cX12_ask 162 = .ok (.iload 6, 2) := by decide +kernel
theorem dX12_ask_164 : decode cX12_ask 164 = .ok (.iaload, 1) := by decide +kernel
theorem dX12_ask_165 : decode cX12_ask 165 = .ok (.iload_n 3, 1) := by decide +kernel
theorem dX12_ask_166 : decode cX12_ask 166 = .ok (.invokestatic 497, 3) := by decide +kernel
theorem dX12_ask_169 : decode cX12_ask 169 = .ok (.aload_n 0, 1) := by decide +kernel
theorem dX12_ask_170 : decode cX12_ask 170 = .ok (.getfield 148, 3) := by decide +kernel
theorem dX12_ask_173 : decode cX12_ask 173 = .ok (.iload 6, 2) := by decide +kernel
theorem dX12_ask_175 : decode cX12_ask 175 = .ok (.iaload, 1) := by decide +kernel
theorem dX12_ask_176 : decode cX12_ask 176 = .ok (.isub, 1) := by decide +kernel
theorem dX12_ask_177 : decode cX12_ask 177 = .ok (.invokestatic 370, 3) := by decide +kernel
theorem dX12_ask_180 : decode cX12_ask 180 = .ok (.istore 7, 2) := by decide +kernel
theorem dX12_ask_182 : decode cX12_ask 182 = .ok (.iload 4, 2) := by decide +kernel
theorem dX12_ask_184 : decode cX12_ask 184 = .ok (.ifCond .eq 13, 3) := by decide +kernel
theorem dX12_ask_187 : decode cX12_ask 187 = .ok (.iload 7, 2) := by decide +kernel
theorem dX12_ask_189 : decode cX12_ask 189 = .ok (.iload 5, 2) := by decide +kernel
theorem dX12_ask_191 : decode cX12_ask 191 = .ok (.if_icmp .lt 6, 3) := by decide +kernel
theorem dX12_ask_194 : decode cX12_ask 194 = .ok (.goto 11, 3) := by decide +kernel
theorem dX12_ask_197 : decode cX12_ask 197 = .ok (.iload 6, 2) := by decide +kernel
theorem dX12_ask_199 : decode cX12_ask 199 = .ok (.istore 4, 2) := by decide +kernel
theorem dX12_ask_201 : decode cX12_ask 201 = .ok (.iload 7, 2) := by decide +kernel
theorem dX12_ask_203 : decode cX12_ask 203 = .ok (.istore 5, 2) := by decide +kernel
theorem dX12_ask_205 : decode cX12_ask 205 = .ok (.iinc 6 1, 3) := by decide +kernel
theorem dX12_ask_208 : decode cX12_ask 208 = .ok (.goto (-57), 3) := by decide +kernel
theorem dX12_ask_211 : decode cX12_ask 211 = .ok (.iload_n 2, 1) := by decide +kernel
theorem dX12_ask_212 : decode cX12_ask 212 = .ok (.ifCond .ne 8, 3) := by decide +kernel
theorem dX12_ask_215 : decode cX12_ask 215 = .ok (.iload 4, 2) := by decide +kernel
theorem dX12_ask_217 : decode cX12_ask 217 = .ok (.goto 5, 3) := by decide +kernel
theorem dX12_ask_220 : decode cX12_ask 220 = .ok (.iload 5, 2) := by decide +kernel
theorem dX12_ask_222 : decode cX12_ask 222 = .ok (.ireturn, 1) := by decide +kernel
theorem dX12_chance_0 : decode cX12_chance 0 = .ok (.aload_n 0, 1) := by decide +kernel
theorem dX12_chance_1 : decode cX12_chance 1 = .ok (.iconst 0, 1) := by decide +kernel
theorem dX12_chance_2 : decode cX12_chance 2 = .ok (.putfield 154, 3) := by decide +kernel
theorem dX12_chance_5 : decode cX12_chance 5 = .ok (.iload_n 1, 1) := by decide +kernel
theorem dX12_chance_6 : decode cX12_chance 6 = .ok (.ifCond .lt 22, 3) := by decide +kernel
theorem dX12_chance_9 : decode cX12_chance 9 = .ok (.iload_n 2, 1) := by decide +kernel
theorem dX12_chance_10 : decode cX12_chance 10 = .ok (.iconst 1, 1) := by decide +kernel
theorem dX12_chance_11 : decode cX12_chance 11 = .ok (.if_icmp .lt 17, 3) := by decide +kernel
theorem dX12_chance_14 : decode cX12_chance 14 = .ok (.iload_n 2, 1) := by decide +kernel
theorem dX12_chance_15 : decode cX12_chance 15 = .ok (.bipush 99, 2) := by decide +kernel
theorem dX12_chance_17 : decode cX12_chance 17 = .ok (.if_icmp .gt 11, 3) := by decide +kernel
theorem dX12_chance_20 : decode cX12_chance 20 = .ok (.aload_n 0, 1) := by decide +kernel
theorem dX12_chance_21 : decode cX12_chance 21 = .ok (.iload_n 3, 1) := by decide +kernel
theorem dX12_chance_22 : decode cX12_chance 22 = .ok (.invokevirtual 419, 3) := by decide +kernel
theorem dX12_chance_25 : decode cX12_chance 25 = .ok (.ifCond .ne 5, 3) := by decide +kernel
theorem dX12_chance_28 : decode cX12_chance 28 = .ok (.iconst (-1), 1) := by decide +kernel
theorem dX12_chance_29 : decode cX12_chance 29 = .ok (.ireturn, 1) := by decide +kernel
theorem dX12_chance_30 : decode cX12_chance 30 = .ok (.iload_n 1, 1) := by decide +kernel
theorem dX12_chance_31 : decode cX12_chance 31 = .ok (.istore 4, 2) := by decide +kernel
theorem dX12_chance_33 : decode cX12_chance 33 = .ok (.iconst 0, 1) := by decide +kernel
theorem dX12_chance_34 : decode cX12_chance 34 = .ok (.istore 5, 2) := by decide +kernel
theorem dX12_chance_36 : decode cX12_chance 36 = .ok (.iconst 0, 1) := by decide +kernel
theorem dX12_chance_37 : decode cX12_chance 37 = .ok (.istore 6, 2) := by decide +kernel
theorem dX12_chance_39 : decode cX12_chance 39 = .ok (.iload 6, 2) := by decide +kernel
theorem dX12_chance_41 : decode cX12_chance 41 = .ok (.bipush 10, 2) := by decide +kernel
theorem dX12_chance_43 : decode cX12_chance 43 = .ok (.if_icmp .ge 75, 3) := by decide +kernel
theorem dX12_chance_46 : decode cX12_chance 46 = .ok (.aload_n 0, 1) := by decide +kernel
theorem dX12_chance_47 : decode cX12_chance 47 = .ok (.iconst 1, 1) := by decide +kernel
theorem dX12_chance_48 : decode cX12_chance 48 = .ok (.iconst 0, 1) := by decide +kernel
theorem dX12_chance_49 : decode cX12_chance 49 = .ok (.invokevirtual 426, 3) := by decide +kernel
theorem dX12_chance_52 : decode cX12_chance 52 = .ok (.aload_n 0, 1) := by decide +kernel
theorem dX12_chance_53 : decode cX12_chance 53 = .ok (.getfield 87, 3) := by decide +kernel
theorem dX12_chance_56 : decode cX12_chance 56 = .ok (.iconst 1, 1) := by decide +kernel
theorem dX12_chance_57 : decode cX12_chance 57 = .ok (.iload 4, 2) := by decide +kernel
theorem dX12_chance_59 : decode cX12_chance 59 = .ok (.iastore, 1) := by decide +kernel
theorem dX12_chance_60 : decode cX12_chance 60 = .ok (.iconst 0, 1) := by decide +kernel
theorem dX12_chance_61 : decode cX12_chance 61 = .ok (.istore 7, 2) := by decide +kernel
theorem dX12_chance_63 : decode cX12_chance 63 = .ok (.iload 7, 2) := by decide +kernel
theorem dX12_chance_65 : decode cX12_chance 65 = .ok (.iload_n 2, 1) := by decide +kernel
theorem dX12_chance_66 : decode cX12_chance 66 = .ok (.if_icmp .ge 15, 3) := by decide +kernel
theorem dX12_chance_69 : decode cX12_chance 69 = .ok (.aload_n 0, 1) := by decide +kernel
theorem dX12_chance_70 : decode cX12_chance 70 = .ok (.iconst 1, 1) := by decide +kernel
theorem dX12_chance_71 : decode cX12_chance 71 = .ok (.iconst 1, 1) := by decide +kernel
theorem dX12_chance_72 : decode cX12_chance 72 = .ok (.invokevirtual 409, 3) := by decide +kernel
theorem dX12_chance_75 : decode cX12_chance 75 = .ok (.iinc 7 1, 3) := by decide +kernel
theorem dX12_chance_78 : decode cX12_chance 78 = .ok (.goto (-15), 3) := by decide +kernel
theorem dX12_chance_81 : decode cX12_chance 81 = .ok (.aload_n 0, 1) := by decide +kernel
theorem dX12_chance_82 : decode cX12_chance 82 = .ok (.getfield 87, 3) := by decide +kernel
theorem dX12_chance_85 : decode cX12_chance 85 = .ok (.iconst 1, 1) := by decide +kernel
theorem dX12_chance_86 : decode cX12_chance 86 = .ok (.iaload, 1) := by decide +kernel
theorem dX12_chance_87 : decode cX12_chance 87 = .ok (.istore 4, 2) := by decide +kernel
theorem dX12_chance_89 : decode cX12_chance 89 = .ok (.iload 5, 2) := by decide +kernel
theorem dX12_chance_91 : decode cX12_chance 91 = .ok (.aload_n 0, 1) := by decide +kernel
theorem dX12_chance_92 : decode cX12_chance 92 = .ok (.getfield 102, 3) := by decide +kernel
theorem dX12_chance_95 : decode cX12_chance 95 = .ok (.bipush 6, 2) := by decide +kernel
theorem dX12_chance_97 : decode cX12_chance 97 = .ok (.iload_n 3, 1) := by decide +kernel
theorem dX12_chance_98 : decode cX12_chance 98 = .ok (.iadd, 1) := by decide +kernel
theorem dX12_chance_99 : decode cX12_chance 99 = .ok (.iaload, 1) := by decide +kernel
theorem dX12_chance_100 : decode cX12_chance 100 = .ok (.iconst (-1), 1) := by decide +kernel
theorem dX12_chance_101 : decode cX12_chance 101 = .ok (.if_icmp .eq 7, 3) := by decide +kernel
theorem dX12_chance_104 : decode cX12_chance 104 = .ok (.iconst 1, 1) := by decide +kernel
theorem dX12_chance_105 : decode cX12_chance 105 = .ok (.goto 4, 3) := by decide +kernel
theorem dX12_chance_108 : decode cX12_chance 108 = .ok (.iconst 0, 1) := by decide +kernel
theorem dX12_chance_109 : decode cX12_chance 109 = .ok (.iadd, 1) := by decide +kernel
theorem dX12_chance_110 : decode cX12_chance 110 = .ok (.istore 5, 2) := by decide +kernel
theorem dX12_chance_112 : decode cX12_chance 112 = .ok (.iinc 6 1, 3) := by decide +kernel
theorem dX12_chance_115 : decode cX12_chance 115 = .ok (.goto (-76), 3) := by decide +kernel
theorem dX12_chance_118 : decode cX12_chance 118 = .ok (.iload 5, 2) := by decide +kernel
theorem dX12_chance_120 : decode cX12_chance 120 = .ok (.ireturn, 1) := by decide +kernel
theorem dX12_tried_0 : decode cX12_tried 0 = .ok (.aload_n 0, 1) := by decide +kernel
theorem dX12_tried_1 : decode cX12_tried 1 = .ok (.iconst 0, 1) := by decide +kernel
theorem dX12_tried_2 : decode cX12_tried 2 = .ok (.putfield 154, 3) := by decide +kernel
theorem dX12_tried_5 : decode cX12_tried 5 = .ok (.iload_n 1, 1) := by decide +kernel
theorem dX12_tried_6 : decode cX12_tried 6 = .ok (.iconst 2, 1) := by decide +kernel
theorem dX12_tried_7 : decode cX12_tried 7 = .ok (.if_icmp .ne 11, 3) := by decide +kernel
theorem dX12_tried_10 : decode cX12_tried 10 = .ok (.aload_n 0, 1) := by decide +kernel
theorem dX12_tried_11 : decode cX12_tried 11 = .ok (.iload_n 2, 1) := by decide +kernel
theorem dX12_tried_12 : decode cX12_tried 12 = .ok (.invokevirtual 419, 3) := by decide +kernel
theorem dX12_tried_15 : decode cX12_tried 15 = .ok (.goto 21, 3) := by decide +kernel
theorem dX12_tried_18 : decode cX12_tried 18 = .ok (.iload_n 1, 1) := by decide +kernel
theorem dX12_tried_19 : decode cX12_tried 19 = .ok (.ifCond .lt 16, 3) := by decide +kernel
theorem dX12_tried_22 : decode cX12_tried 22 = .ok (.iload_n 1, 1) := by decide +kernel
theorem dX12_tried_23 : decode cX12_tried 23 = .ok (.iconst 4, 1) := by decide +kernel
theorem dX12_tried_24 : decode cX12_tried 24 = .ok (.if_icmp .gt 11, 3) := by decide +kernel
theorem dX12_tried_27 : decode cX12_tried 27 = .ok (.iload_n 2, 1) := by decide +kernel
theorem dX12_tried_28 : decode cX12_tried 28 = .ok (.ifCond .ne 7, 3) := by decide +kernel
theorem dX12_tried_31 : decode cX12_tried 31 = .ok (.iconst 1, 1) := by decide +kernel
theorem dX12_tried_32 : decode cX12_tried 32 = .ok (.goto 4, 3) := by decide +kernel
theorem dX12_tried_35 : decode cX12_tried 35 = .ok (.iconst 0, 1) := by decide +kernel
theorem dX12_tried_36 : decode cX12_tried 36 = .ok (.istore 4, 2) := by decide +kernel
theorem dX12_tried_38 : decode cX12_tried 38 = .ok (.iload 4, 2) := by decide +kernel
theorem dX12_tried_40 : decode cX12_tried 40 = .ok (.ifCond .eq 14, 3) := by decide +kernel
theorem dX12_tried_43 : decode cX12_tried 43 = .ok (.iload_n 3, 1) := by decide +kernel
theorem dX12_tried_44 : decode cX12_tried 44 = .ok (.ifCond .lt 10, 3) := by decide +kernel
theorem dX12_tried_47 : decode cX12_tried 47 = .ok (.iload_n 3, 1) := by decide +kernel
theorem dX12_tried_48 : decode cX12_tried 48 = .ok (.sipush 200, 3) := by decide +kernel
theorem dX12_tried_51 : decode cX12_tried 51 = .ok (.if_icmp .le 5, 3) := by decide +kernel
theorem dX12_tried_54 : decode cX12_tried 54 = .ok (.iconst (-1), 1) := by decide +kernel
theorem dX12_tried_55 : decode cX12_tried 55 = .ok (.ireturn, 1) := by decide +kernel
theorem dX12_tried_56 : decode cX12_tried 56 = .ok (.aload_n 0, 1) := by decide +kernel
theorem dX12_tried_57 : decode cX12_tried 57 = .ok (.iconst 1, 1) := by decide +kernel
theorem dX12_tried_58 : decode cX12_tried 58 = .ok (.iconst 0, 1) := by decide +kernel
theorem dX12_tried_59 : decode cX12_tried 59 = .ok (.invokevirtual 426, 3) := by decide +kernel
theorem dX12_tried_62 : decode cX12_tried 62 = .ok (.aload_n 0, 1) := by decide +kernel
theorem dX12_tried_63 : decode cX12_tried 63 = .ok (.iload_n 1, 1) := by decide +kernel
theorem dX12_tried_64 : decode cX12_tried 64 = .ok (.ifCond .ne 7, 3) := by decide +kernel
theorem dX12_tried_67 : decode cX12_tried 67 = .ok (.iconst 5, 1) := by decide +kernel
theorem dX12_tried_68 : decode cX12_tried 68 = .ok (.goto 4, 3) := by decide +kernel
theorem dX12_tried_71 : decode cX12_tried 71 = .ok (.iload_n 1, 1) := by decide +kernel
theorem dX12_tried_72 : decode cX12_tried 72 = .ok (.putfield 375, 3) := by decide +kernel
theorem dX12_tried_75 : decode cX12_tried 75 = .ok (.aload_n 0, 1) := by decide +kernel
theorem dX12_tried_76 : decode cX12_tried 76 = .ok (.iload_n 2, 1) := by decide +kernel
theorem dX12_tried_77 : decode cX12_tried 77 = .ok (.putfield 117, 3) := by decide +kernel
theorem dX12_tried_80 : decode cX12_tried 80 = .ok (.aload_n 0, 1) := by decide +kernel
theorem dX12_tried_81 : decode cX12_tried 81 = .ok (.iload_n 3, 1) := by decide +kernel
theorem dX12_tried_82 : decode cX12_tried 82 = .ok (.invokevirtual 432, 3) := by decide +kernel
theorem dX12_tried_85 : decode cX12_tried 85 = .ok (.aload_n 0, 1) := by decide +kernel
theorem dX12_tried_86 : decode cX12_tried 86 = .ok (.iconst 0, 1) := by decide +kernel
theorem dX12_tried_87 : decode cX12_tried 87 = .ok (.putfield 375, 3) := by decide +kernel
theorem dX12_tried_90 : decode cX12_tried 90 = .ok (.aload_n 0, 1) := by decide +kernel
theorem dX12_tried_91 : decode cX12_tried 91 = .ok (.iconst (-1), 1) := by decide +kernel
theorem dX12_tried_92 : decode cX12_tried 92 = .ok (.putfield 117, 3) := by decide +kernel
theorem dX12_tried_95 : decode cX12_tried 95 = .ok (.aload_n 0, 1) := by decide +kernel
theorem dX12_tried_96 : decode cX12_tried 96 = .ok (.aload_n 0, 1) := by decide +kernel
theorem dX12_tried_97 : decode cX12_tried 97 = .ok (.getfield 108, 3) := by decide +kernel
theorem dX12_tried_100 : decode cX12_tried 100 = .ok (.iconst 1, 1) := by decide +kernel
theorem dX12_tried_101 : decode cX12_tried 101 = .ok (.invokevirtual 435, 3) := by decide +kernel
theorem dX12_tried_104 : decode cX12_tried 104 = .ok (.ireturn, 1) := by decide +kernel
theorem dX12_undo_0 : decode cX12_undo 0 = .ok (.aload_n 0, 1) := by decide +kernel
theorem dX12_undo_1 : decode cX12_undo 1 = .ok (.iconst 0, 1) := by decide +kernel
theorem dX12_undo_2 : decode cX12_undo 2 = .ok (.putfield 154, 3) := by decide +kernel
theorem dX12_undo_5 : decode cX12_undo 5 = .ok (.aload_n 0, 1) := by decide +kernel
theorem dX12_undo_6 : decode cX12_undo 6 = .ok (.getfield 317, 3) := by decide +kernel
theorem dX12_undo_9 : decode cX12_undo 9 = .ok (.ifCond .ne 5, 3) := by decide +kernel
theorem dX12_undo_12 : decode cX12_undo 12 = .ok (.iconst (-1), 1) := by decide +kernel
theorem dX12_undo_13 : decode cX12_undo 13 = .ok (.ireturn, 1) := by decide +kernel
theorem dX12_undo_14 : decode cX12_undo 14 = .ok (.aload_n 0, 1) := by decide +kernel
theorem dX12_undo_15 : decode cX12_undo 15 = .ok (.dup, 1) := by decide +kernel
theorem dX12_undo_16 : decode cX12_undo 16 = .ok (.getfield 317, 3) := by decide +kernel
theorem dX12_undo_19 : decode cX12_undo 19 = .ok (.iconst 1, 1) := by decide +kernel
theorem dX12_undo_20 : decode cX12_undo 20 = .ok (.isub, 1) := by decide +kernel
theorem dX12_undo_21 : decode cX12_undo 21 = .ok (.putfield 317, 3) := by decide +kernel
theorem dX12_undo_24 : decode cX12_undo 24 = .ok (.aload_n 0, 1) := by decide +kernel
theorem dX12_undo_25 : decode cX12_undo 25 = .ok (.iconst 0, 1) := by decide +kernel
theorem dX12_undo_26 : decode cX12_undo 26 = .ok (.iconst 3, 1) := by decide +kernel
theorem dX12_undo_27 : decode cX12_undo 27 = .ok (.aload_n 0, 1) := by decide +kernel
theorem dX12_undo_28 : decode cX12_undo 28 = .ok (.getfield 317, 3) := by decide +kernel
theorem dX12_undo_31 : decode cX12_undo 31 = .ok (.iadd, 1) := by decide +kernel
theorem dX12_undo_32 : decode cX12_undo 32 = .ok (.invokevirtual 426, 3) := by decide +kernel
theorem dX12_undo_35 : decode cX12_undo 35 = .ok (.aload_n 0, 1) := by decide +kernel
theorem dX12_undo_36 : decode cX12_undo 36 = .ok (.getfield 317, 3) := by decide +kernel
theorem dX12_undo_39 : decode cX12_undo 39 = .ok (.ireturn, 1) := by decide +kernel
theorem dX12_keep_0 : decode cX12_keep 0 = .ok (.aload_n 0, 1) := by decide +kernel
theorem dX12_keep_1 : decode cX12_keep 1 = .ok (.iconst 0, 1) := by decide +kernel
theorem dX12_keep_2 : decode cX12_keep 2 = .ok (.putfield 154, 3) := by decide +kernel
theorem dX12_keep_5 : decode cX12_keep 5 = .ok (.aload_n 0, 1) := by decide +kernel
theorem dX12_keep_6 : decode cX12_keep 6 = .ok (.iconst 2, 1) := by decide +kernel
theorem dX12_keep_7 : decode cX12_keep 7 = .ok (.iconst 0, 1) := by decide +kernel
theorem dX12_keep_8 : decode cX12_keep 8 = .ok (.invokevirtual 426, 3) := by decide +kernel
theorem dX12_keep_11 : decode cX12_keep 11 = .ok (.aload_n 0, 1) := by decide +kernel
theorem dX12_keep_12 : decode cX12_keep 12 = .ok (.iconst 1, 1) := by decide +kernel
theorem dX12_keep_13 : decode cX12_keep 13 = .ok (.putfield 313, 3) := by decide +kernel
theorem dX12_keep_16 : decode cX12_keep 16 = .ok (.aload_n 0, 1) := by decide +kernel
theorem dX12_keep_17 : decode cX12_keep 17 = .ok (.getfield 84, 3) := by decide +kernel
theorem dX12_keep_20 : decode cX12_keep 20 = .ok (.iconst 0, 1) := by decide +kernel
theorem dX12_keep_21 : decode cX12_keep 21 = .ok (.iaload, 1) := by decide +kernel
theorem dX12_keep_22 : decode cX12_keep 22 = .ok (.ireturn, 1) := by decide +kernel
theorem dX12_back_0 : decode cX12_back 0 = .ok (.aload_n 0, 1) := by decide +kernel
theorem dX12_back_1 : decode cX12_back 1 = .ok (.iconst 0, 1) := by decide +kernel
theorem dX12_back_2 : decode cX12_back 2 = .ok (.putfield 154, 3) := by decide +kernel
theorem dX12_back_5 : decode cX12_back 5 = .ok (.aload_n 0, 1) := by decide +kernel
theorem dX12_back_6 : decode cX12_back 6 = .ok (.getfield 313, 3) := by decide +kernel
theorem dX12_back_9 : decode cX12_back 9 = .ok (.ifCond .ne 5, 3) := by decide +kernel
theorem dX12_back_12 : decode cX12_back 12 = .ok (.iconst (-1), 1) := by decide +kernel
theorem dX12_back_13 : decode cX12_back 13 = .ok (.ireturn, 1) := by decide +kernel
theorem dX12_back_14 : decode cX12_back 14 = .ok (.aload_n 0, 1) := by decide +kernel
theorem dX12_back_15 : decode cX12_back 15 = .ok (.iconst 0, 1) := by decide +kernel
theorem dX12_back_16 : decode cX12_back 16 = .ok (.iconst 2, 1) := by decide +kernel
theorem dX12_back_17 : decode cX12_back 17 = .ok (.invokevirtual 426, 3) := by decide +kernel
theorem dX12_back_20 : decode cX12_back 20 = .ok (.aload_n 0, 1) := by decide +kernel
theorem dX12_back_21 : decode cX12_back 21 = .ok (.iconst 0, 1) := by decide +kernel
theorem dX12_back_22 : decode cX12_back 22 = .ok (.putfield 317, 3) := by decide +kernel
theorem dX12_back_25 : decode cX12_back 25 = .ok (.aload_n 0, 1) := by decide +kernel
theorem dX12_back_26 : decode cX12_back 26 = .ok (.getfield 84, 3) := by decide +kernel
theorem dX12_back_29 : decode cX12_back 29 = .ok (.iconst 0, 1) := by decide +kernel
theorem dX12_back_30 : decode cX12_back 30 = .ok (.iaload, 1) := by decide +kernel
theorem dX12_back_31 : decode cX12_back 31 = .ok (.ireturn, 1) := by decide +kernel
theorem dX12_inTubs_0 : decode cX12_inTubs 0 = .ok (.iconst 0, 1) := by decide +kernel
theorem dX12_inTubs_1 : decode cX12_inTubs 1 = .ok (.istore_n 1, 1) := by decide +kernel
theorem dX12_inTubs_2 : decode cX12_inTubs 2 = .ok (.iconst 0, 1) := by decide +kernel
theorem dX12_inTubs_3 : decode cX12_inTubs 3 = .ok (.istore_n 2, 1) := by decide +kernel
theorem dX12_inTubs_4 : decode cX12_inTubs 4 = .ok (.iload_n 2, 1) := by decide +kernel
theorem dX12_inTubs_5 : decode cX12_inTubs 5 = .ok (.aload_n 0, 1) := by decide +kernel
theorem dX12_inTubs_6 : decode cX12_inTubs 6 = .ok (.getfield 13, 3) := by decide +kernel
theorem dX12_inTubs_9 : decode cX12_inTubs 9 = .ok (.iconst 0, 1) := by decide +kernel
theorem dX12_inTubs_10 : decode cX12_inTubs 10 = .ok (.iaload, 1) := by decide +kernel
theorem dX12_inTubs_11 : decode cX12_inTubs 11 = .ok (.if_icmp .ge 27, 3) := by decide +kernel
theorem dX12_inTubs_14 : decode cX12_inTubs 14 = .ok (.iload_n 1, 1) := by decide +kernel
theorem dX12_inTubs_15 : decode cX12_inTubs 15 = .ok (.aload_n 0, 1) := by decide +kernel
theorem dX12_inTubs_16 : decode cX12_inTubs 16 = .ok (.getfield 102, 3) := by decide +kernel
theorem dX12_inTubs_19 : decode cX12_inTubs 19 = .ok (.iload_n 2, 1) := by decide +kernel
theorem dX12_inTubs_20 : decode cX12_inTubs 20 = .ok (.iaload, 1) := by decide +kernel
theorem dX12_inTubs_21 : decode cX12_inTubs 21 = .ok (.iconst (-1), 1) := by decide +kernel
theorem dX12_inTubs_22 : decode cX12_inTubs 22 = .ok (.if_icmp .eq 7, 3) := by decide +kernel
theorem dX12_inTubs_25 : decode cX12_inTubs 25 = .ok (.iconst 1, 1) := by decide +kernel
theorem dX12_inTubs_26 : decode cX12_inTubs 26 = .ok (.goto 4, 3) := by decide +kernel
theorem dX12_inTubs_29 : decode cX12_inTubs 29 = .ok (.iconst 0, 1) := by decide +kernel
theorem dX12_inTubs_30 : decode cX12_inTubs 30 = .ok (.iadd, 1) := by decide +kernel
theorem dX12_inTubs_31 : decode cX12_inTubs 31 = .ok (.istore_n 1, 1) := by decide +kernel
theorem dX12_inTubs_32 : decode cX12_inTubs 32 = .ok (.iinc 2 1, 3) := by decide +kernel
theorem dX12_inTubs_35 : decode cX12_inTubs 35 = .ok (.goto (-31), 3) := by decide +kernel
theorem dX12_inTubs_38 : decode cX12_inTubs 38 = .ok (.iload_n 1, 1) := by decide +kernel
theorem dX12_inTubs_39 : decode cX12_inTubs 39 = .ok (.ireturn, 1) := by decide +kernel
theorem dX12_count_0 : decode cX12_count 0 = .ok (.aload_n 0, 1) := by decide +kernel
theorem dX12_count_1 : decode cX12_count 1 = .ok (.iconst 0, 1) := by decide +kernel
theorem dX12_count_2 : decode cX12_count 2 = .ok (.putfield 154, 3) := by decide +kernel
theorem dX12_count_5 : decode cX12_count 5 = .ok (.iload_n 1, 1) := by decide +kernel
theorem dX12_count_6 : decode cX12_count 6 = .ok (.tableswitch 181 0 14 #[74, 81, 88, 95, 102, 109, 117, 124, 134, 139, 149, 159, 166, 171, 176], 74) := by decide +kernel
theorem dX12_count_80 : decode cX12_count 80 = .ok (.aload_n 0, 1) := by decide +kernel
theorem dX12_count_81 : decode cX12_count 81 = .ok (.getfield 13, 3) := by decide +kernel
theorem dX12_count_84 : decode cX12_count 84 = .ok (.iconst 0, 1) := by decide +kernel
theorem dX12_count_85 : decode cX12_count 85 = .ok (.iaload, 1) := by decide +kernel
theorem dX12_count_86 : decode cX12_count 86 = .ok (.ireturn, 1) := by decide +kernel
theorem dX12_count_87 : decode cX12_count 87 = .ok (.aload_n 0, 1) := by decide +kernel
theorem dX12_count_88 : decode cX12_count 88 = .ok (.getfield 13, 3) := by decide +kernel
theorem dX12_count_91 : decode cX12_count 91 = .ok (.iconst 1, 1) := by decide +kernel
theorem dX12_count_92 : decode cX12_count 92 = .ok (.iaload, 1) := by decide +kernel
theorem dX12_count_93 : decode cX12_count 93 = .ok (.ireturn, 1) := by decide +kernel
theorem dX12_count_94 : decode cX12_count 94 = .ok (.aload_n 0, 1) := by decide +kernel
theorem dX12_count_95 : decode cX12_count 95 = .ok (.getfield 13, 3) := by decide +kernel
theorem dX12_count_98 : decode cX12_count 98 = .ok (.iconst 2, 1) := by decide +kernel
theorem dX12_count_99 : decode cX12_count 99 = .ok (.iaload, 1) := by decide +kernel
theorem dX12_count_100 : decode cX12_count 100 = .ok (.ireturn, 1) := by decide +kernel
theorem dX12_count_101 : decode cX12_count 101 = .ok (.aload_n 0, 1) := by decide +kernel
theorem dX12_count_102 : decode cX12_count 102 = .ok (.getfield 13, 3) := by decide +kernel
theorem dX12_count_105 : decode cX12_count 105 = .ok (.iconst 3, 1) := by decide +kernel
theorem dX12_count_106 : decode cX12_count 106 = .ok (.iaload, 1) := by decide +kernel
theorem dX12_count_107 : decode cX12_count 107 = .ok (.ireturn, 1) := by decide +kernel
theorem dX12_count_108 : decode cX12_count 108 = .ok (.aload_n 0, 1) := by decide +kernel
theorem dX12_count_109 : decode cX12_count 109 = .ok (.getfield 13, 3) := by decide +kernel
theorem dX12_count_112 : decode cX12_count 112 = .ok (.iconst 4, 1) := by decide +kernel
theorem dX12_count_113 : decode cX12_count 113 = .ok (.iaload, 1) := by decide +kernel
theorem dX12_count_114 : decode cX12_count 114 = .ok (.ireturn, 1) := by decide +kernel
theorem dX12_count_115 : decode cX12_count 115 = .ok (.aload_n 0, 1) := by decide +kernel
theorem dX12_count_116 : decode cX12_count 116 = .ok (.getfield 13, 3) := by decide +kernel
theorem dX12_count_119 : decode cX12_count 119 = .ok (.bipush 7, 2) := by decide +kernel
theorem dX12_count_121 : decode cX12_count 121 = .ok (.iaload, 1) := by decide +kernel
theorem dX12_count_122 : decode cX12_count 122 = .ok (.ireturn, 1) := by decide +kernel
theorem dX12_count_123 : decode cX12_count 123 = .ok (.aload_n 0, 1) := by decide +kernel
theorem dX12_count_124 : decode cX12_count 124 = .ok (.getfield 84, 3) := by decide +kernel
theorem dX12_count_127 : decode cX12_count 127 = .ok (.iconst 0, 1) := by decide +kernel
theorem dX12_count_128 : decode cX12_count 128 = .ok (.iaload, 1) := by decide +kernel
theorem dX12_count_129 : decode cX12_count 129 = .ok (.ireturn, 1) := by decide +kernel
theorem dX12_count_130 : decode cX12_count 130 = .ok (.aload_n 0, 1) := by decide +kernel
theorem dX12_count_131 : decode cX12_count 131 = .ok (.aload_n 0, 1) := by decide +kernel
theorem dX12_count_132 : decode cX12_count 132 = .ok (.getfield 93, 3) := by decide +kernel
theorem dX12_count_135 : decode cX12_count 135 = .ok (.iconst 0, 1) := by decide +kernel
theorem dX12_count_136 : decode cX12_count 136 = .ok (.invokevirtual 435, 3) := by decide +kernel
theorem dX12_count_139 : decode cX12_count 139 = .ok (.ireturn, 1) := by decide +kernel
theorem dX12_count_140 : decode cX12_count 140 = .ok (.aload_n 0, 1) := by decide +kernel
theorem dX12_count_141 : decode cX12_count 141 = .ok (.invokevirtual 500, 3) := by decide +kernel
theorem dX12_count_144 : decode cX12_count 144 = .ok (.ireturn, 1) := by decide +kernel
theorem dX12_count_145 : decode cX12_count 145 = .ok (.aload_n 0, 1) := by decide +kernel
theorem dX12_count_146 : decode cX12_count 146 = .ok (.aload_n 0, 1) := by decide +kernel
theorem dX12_count_147 : decode cX12_count 147 = .ok (.getfield 108, 3) := by decide +kernel
theorem dX12_count_150 : decode cX12_count 150 = .ok (.iconst 0, 1) := by decide +kernel
theorem dX12_count_151 : decode cX12_count 151 = .ok (.invokevirtual 435, 3) := by decide +kernel
theorem dX12_count_154 : decode cX12_count 154 = .ok (.ireturn, 1) := by decide +kernel
theorem dX12_count_155 : decode cX12_count 155 = .ok (.aload_n 0, 1) := by decide +kernel
theorem dX12_count_156 : decode cX12_count 156 = .ok (.aload_n 0, 1) := by decide +kernel
theorem dX12_count_157 : decode cX12_count 157 = .ok (.getfield 114, 3) := by decide +kernel
theorem dX12_count_160 : decode cX12_count 160 = .ok (.iconst 0, 1) := by decide +kernel
theorem dX12_count_161 : decode cX12_count 161 = .ok (.invokevirtual 435, 3) := by decide +kernel
theorem dX12_count_164 : decode cX12_count 164 = .ok (.ireturn, 1) := by decide +kernel
theorem dX12_count_165 : decode cX12_count 165 = .ok (.aload_n 0, 1) := by decide +kernel
theorem dX12_count_166 : decode cX12_count 166 = .ok (.getfield 90, 3) := by decide +kernel
theorem dX12_count_169 : decode cX12_count 169 = .ok (.iconst 0, 1) := by decide +kernel
theorem dX12_count_170 : decode cX12_count 170 = .ok (.iaload, 1) := by decide +kernel
theorem dX12_count_171 : decode cX12_count 171 = .ok (.ireturn, 1) := by decide +kernel
theorem dX12_count_172 : decode cX12_count 172 = .ok (.aload_n 0, 1) := by decide +kernel
theorem dX12_count_173 : decode cX12_count 173 = .ok (.getfield 310, 3) := by decide +kernel
theorem dX12_count_176 : decode cX12_count 176 = .ok (.ireturn, 1) := by decide +kernel
theorem dX12_count_177 : decode cX12_count 177 = .ok (.aload_n 0, 1) := by decide +kernel
theorem dX12_count_178 : decode cX12_count 178 = .ok (.invokevirtual 482, 3) := by decide +kernel
theorem dX12_count_181 : decode cX12_count 181 = .ok (.ireturn, 1) := by decide +kernel
theorem dX12_count_182 : decode cX12_count 182 = .ok (.aload_n 0, 1) := by decide +kernel
theorem dX12_count_183 : decode cX12_count 183 = .ok (.getfield 317, 3) := by decide +kernel
theorem dX12_count_186 : decode cX12_count 186 = .ok (.ireturn, 1) := by decide +kernel
theorem dX12_count_187 : decode cX12_count 187 = .ok (.iconst (-1), 1) := by decide +kernel
theorem dX12_count_188 : decode cX12_count 188 = .ok (.ireturn, 1) := by decide +kernel
