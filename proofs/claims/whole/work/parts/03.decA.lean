theorem dX0_init_0 : decode cX0_init 0 = .ok (.aload_n 0, 1) := by decide +kernel
theorem dX0_init_1 : decode cX0_init 1 = .ok (.invokespecial 3, 3) := by decide +kernel
theorem dX0_init_4 : decode cX0_init 4 = .ok (.aload_n 0, 1) := by decide +kernel
theorem dX0_init_5 : decode cX0_init 5 = .ok (.bipush 6, 2) := by decide +kernel
theorem dX0_init_7 : decode cX0_init 7 = .ok (.newarray .int, 2) := by decide +kernel
theorem dX0_init_9 : decode cX0_init 9 = .ok (.putfield 9, 3) := by decide +kernel
theorem dX0_init_12 : decode cX0_init 12 = .ok (.aload_n 0, 1) := by decide +kernel
theorem dX0_init_13 : decode cX0_init 13 = .ok (.bipush 6, 2) := by decide +kernel
theorem dX0_init_15 : decode cX0_init 15 = .ok (.newarray .int, 2) := by decide +kernel
theorem dX0_init_17 : decode cX0_init 17 = .ok (.putfield 15, 3) := by decide +kernel
theorem dX0_init_20 : decode cX0_init 20 = .ok (.aload_n 0, 1) := by decide +kernel
theorem dX0_init_21 : decode cX0_init 21 = .ok (.bipush 6, 2) := by decide +kernel
theorem dX0_init_23 : decode cX0_init 23 = .ok (.newarray .int, 2) := by decide +kernel
theorem dX0_init_25 : decode cX0_init 25 = .ok (.putfield 18, 3) := by decide +kernel
theorem dX0_init_28 : decode cX0_init 28 = .ok (.aload_n 0, 1) := by decide +kernel
theorem dX0_init_29 : decode cX0_init 29 = .ok (.bipush 6, 2) := by decide +kernel
theorem dX0_init_31 : decode cX0_init 31 = .ok (.newarray .int, 2) := by decide +kernel
theorem dX0_init_33 : decode cX0_init 33 = .ok (.putfield 21, 3) := by decide +kernel
theorem dX0_init_36 : decode cX0_init 36 = .ok (.aload_n 0, 1) := by decide +kernel
theorem dX0_init_37 : decode cX0_init 37 = .ok (.bipush 6, 2) := by decide +kernel
theorem dX0_init_39 : decode cX0_init 39 = .ok (.newarray .int, 2) := by decide +kernel
theorem dX0_init_41 : decode cX0_init 41 = .ok (.putfield 24, 3) := by decide +kernel
theorem dX0_init_44 : decode cX0_init 44 = .ok (.aload_n 0, 1) := by decide +kernel
theorem dX0_init_45 : decode cX0_init 45 = .ok (.bipush 6, 2) := by decide +kernel
theorem dX0_init_47 : decode cX0_init 47 = .ok (.newarray .int, 2) := by decide +kernel
theorem dX0_init_49 : decode cX0_init 49 = .ok (.putfield 27, 3) := by decide +kernel
theorem dX0_init_52 : decode cX0_init 52 = .ok (.aload_n 0, 1) := by decide +kernel
theorem dX0_init_53 : decode cX0_init 53 = .ok (.bipush 6, 2) := by decide +kernel
theorem dX0_init_55 : decode cX0_init 55 = .ok (.newarray .int, 2) := by decide +kernel
theorem dX0_init_57 : decode cX0_init 57 = .ok (.putfield 30, 3) := by decide +kernel
theorem dX0_init_60 : decode cX0_init 60 = .ok (.aload_n 0, 1) := by decide +kernel
theorem dX0_init_61 : decode cX0_init 61 = .ok (.bipush 6, 2) := by decide +kernel
theorem dX0_init_63 : decode cX0_init 63 = .ok (.newarray .int, 2) := by decide +kernel
theorem dX0_init_65 : decode cX0_init 65 = .ok (.putfield 33, 3) := by decide +kernel
theorem dX0_init_68 : decode cX0_init 68 = .ok (.aload_n 0, 1) := by decide +kernel
theorem dX0_init_69 : decode cX0_init 69 = .ok (.bipush 6, 2) := by decide +kernel
theorem dX0_init_71 : decode cX0_init 71 = .ok (.newarray .int, 2) := by decide +kernel
theorem dX0_init_73 : decode cX0_init 73 = .ok (.putfield 36, 3) := by decide +kernel
theorem dX0_init_76 : decode cX0_init 76 = .ok (.return_, 1) := by decide +kernel
theorem dX0_begin_0 : decode cX0_begin 0 = .ok (.iconst 0, 1) := by decide +kernel
theorem dX0_begin_1 : decode cX0_begin 1 = .ok (.istore_n 2, 1) := by decide +kernel
theorem dX0_begin_2 : decode cX0_begin 2 = .ok (.iload_n 2, 1) := by decide +kernel
theorem dX0_begin_3 : decode cX0_begin 3 = .ok (.bipush 6, 2) := by decide +kernel
theorem dX0_begin_5 : decode cX0_begin 5 = .ok (.if_icmp .ge 72, 3) := by decide +kernel
theorem dX0_begin_8 : decode cX0_begin 8 = .ok (.aload_n 1, 1) := by decide +kernel
theorem dX0_begin_9 : decode cX0_begin 9 = .ok (.iload_n 2, 1) := by decide +kernel
theorem dX0_begin_10 : decode cX0_begin 10 = .ok (.invokevirtual 39, 3) := by decide +kernel
theorem dX0_begin_13 : decode cX0_begin 13 = .ok (.istore_n 3, 1) := by decide +kernel
theorem dX0_begin_14 : decode cX0_begin 14 = .ok (.aload_n 0, 1) := by decide +kernel
theorem dX0_begin_15 : decode cX0_begin 15 = .ok (.getfield 9, 3) := by decide +kernel
theorem dX0_begin_18 : decode cX0_begin 18 = .ok (.iload_n 2, 1) := by decide +kernel
theorem dX0_begin_19 : decode cX0_begin 19 = .ok (.iload_n 3, 1) := by decide +kernel
theorem dX0_begin_20 : decode cX0_begin 20 = .ok (.ifCond .eq 15, 3) := by decide +kernel
theorem dX0_begin_23 : decode cX0_begin 23 = .ok (.aload_n 1, 1) := by decide +kernel
theorem dX0_begin_24 : decode cX0_begin 24 = .ok (.getfield 45, 3) := by decide +kernel
theorem dX0_begin_27 : decode cX0_begin 27 = .ok (.iload_n 2, 1) := by decide +kernel
theorem dX0_begin_28 : decode cX0_begin 28 = .ok (.iconst 1, 1) := by decide +kernel
theorem dX0_begin_29 : decode cX0_begin 29 = .ok (.invokevirtual 49, 3) := by decide +kernel
theorem dX0_begin_32 : decode cX0_begin 32 = .ok (.goto 4, 3) := by decide +kernel
theorem dX0_begin_35 : decode cX0_begin 35 = .ok (.iconst 0, 1) := by decide +kernel
theorem dX0_begin_36 : decode cX0_begin 36 = .ok (.iastore, 1) := by decide +kernel
theorem dX0_begin_37 : decode cX0_begin 37 = .ok (.aload_n 0, 1) := by decide +kernel
theorem dX0_begin_38 : decode cX0_begin 38 = .ok (.getfield 15, 3) := by decide +kernel
theorem dX0_begin_41 : decode cX0_begin 41 = .ok (.iload_n 2, 1) := by decide +kernel
theorem dX0_begin_42 : decode cX0_begin 42 = .ok (.iload_n 3, 1) := by decide +kernel
theorem dX0_begin_43 : decode cX0_begin 43 = .ok (.ifCond .eq 18, 3) := by decide +kernel
theorem dX0_begin_46 : decode cX0_begin 46 = .ok (.bipush 10, 2) := by decide +kernel
theorem dX0_begin_48 : decode cX0_begin 48 = .ok (.aload_n 1, 1) := by decide +kernel
theorem dX0_begin_49 : decode cX0_begin 49 = .ok (.getfield 45, 3) := by decide +kernel
theorem dX0_begin_52 : decode cX0_begin 52 = .ok (.iload_n 2, 1) := by decide +kernel
theorem dX0_begin_53 : decode cX0_begin 53 = .ok (.iconst 2, 1) := by decide +kernel
theorem dX0_begin_54 : decode cX0_begin 54 = .ok (.invokevirtual 49, 3) := by decide +kernel
theorem dX0_begin_57 : decode cX0_begin 57 = .ok (.imul, 1) := by decide +kernel
theorem dX0_begin_58 : decode cX0_begin 58 = .ok (.goto 4, 3) := by decide +kernel
theorem dX0_begin_61 : decode cX0_begin 61 = .ok (.iconst 0, 1) := by decide +kernel
theorem dX0_begin_62 : decode cX0_begin 62 = .ok (.iastore, 1) := by decide +kernel
theorem dX0_begin_63 : decode cX0_begin 63 = .ok (.aload_n 0, 1) := by decide +kernel
theorem dX0_begin_64 : decode cX0_begin 64 = .ok (.getfield 18, 3) := by decide +kernel
theorem dX0_begin_67 : decode cX0_begin 67 = .ok (.iload_n 2, 1) := by decide +kernel
theorem dX0_begin_68 : decode cX0_begin 68 = .ok (.bipush (-2), 2) := by decide +kernel
theorem dX0_begin_70 : decode cX0_begin 70 = .ok (.iastore, 1) := by decide +kernel
theorem dX0_begin_71 : decode cX0_begin 71 = .ok (.iinc 2 1, 3) := by decide +kernel
theorem dX0_begin_74 : decode cX0_begin 74 = .ok (.goto (-72), 3) := by decide +kernel
theorem dX0_begin_77 : decode cX0_begin 77 = .ok (.iconst 0, 1) := by decide +kernel
theorem dX0_begin_78 : decode cX0_begin 78 = .ok (.istore_n 2, 1) := by decide +kernel
theorem dX0_begin_79 : decode cX0_begin 79 = .ok (.iload_n 2, 1) := by decide +kernel
theorem dX0_begin_80 : decode cX0_begin 80 = .ok (.bipush 6, 2) := by decide +kernel
theorem dX0_begin_82 : decode cX0_begin 82 = .ok (.if_icmp .ge 72, 3) := by decide +kernel
theorem dX0_begin_85 : decode cX0_begin 85 = .ok (.aload_n 0, 1) := by decide +kernel
theorem dX0_begin_86 : decode cX0_begin 86 = .ok (.getfield 21, 3) := by decide +kernel
theorem dX0_begin_89 : decode cX0_begin 89 = .ok (.iload_n 2, 1) := by decide +kernel
theorem dX0_begin_90 : decode cX0_begin 90 = .ok (.aload_n 1, 1) := by decide +kernel
theorem dX0_begin_91 : decode cX0_begin 91 = .ok (.iload_n 2, 1) := by decide +kernel
theorem dX0_begin_92 : decode cX0_begin 92 = .ok (.invokevirtual 55, 3) := by decide +kernel
theorem dX0_begin_95 : decode cX0_begin 95 = .ok (.ifCond .eq 15, 3) := by decide +kernel
theorem dX0_begin_98 : decode cX0_begin 98 = .ok (.aload_n 1, 1) := by decide +kernel
theorem dX0_begin_99 : decode cX0_begin 99 = .ok (.getfield 58, 3) := by decide +kernel
theorem dX0_begin_102 : decode cX0_begin 102 = .ok (.iload_n 2, 1) := by decide +kernel
theorem dX0_begin_103 : decode cX0_begin 103 = .ok (.iconst 1, 1) := by decide +kernel
theorem dX0_begin_104 : decode cX0_begin 104 = .ok (.invokevirtual 49, 3) := by decide +kernel
theorem dX0_begin_107 : decode cX0_begin 107 = .ok (.goto 4, 3) := by decide +kernel
theorem dX0_begin_110 : decode cX0_begin 110 = .ok (.iconst 0, 1) := by decide +kernel
theorem dX0_begin_111 : decode cX0_begin 111 = .ok (.iastore, 1) := by decide +kernel
theorem dX0_begin_112 : decode cX0_begin 112 = .ok (.aload_n 0, 1) := by decide +kernel
theorem dX0_begin_113 : decode cX0_begin 113 = .ok (.getfield 24, 3) := by decide +kernel
theorem dX0_begin_116 : decode cX0_begin 116 = .ok (.iload_n 2, 1) := by decide +kernel
theorem dX0_begin_117 : decode cX0_begin 117 = .ok (.bipush (-2), 2) := by decide +kernel
theorem dX0_begin_119 : decode cX0_begin 119 = .ok (.iastore, 1) := by decide +kernel
theorem dX0_begin_120 : decode cX0_begin 120 = .ok (.aload_n 0, 1) := by decide +kernel
theorem dX0_begin_121 : decode cX0_begin 121 = .ok (.getfield 27, 3) := by decide +kernel
theorem dX0_begin_124 : decode cX0_begin 124 = .ok (.iload_n 2, 1) := by decide +kernel
theorem dX0_begin_125 : decode cX0_begin 125 = .ok (.iconst 0, 1) := by decide +kernel
theorem dX0_begin_126 : decode cX0_begin 126 = .ok (.iastore, 1) := by decide +kernel
theorem dX0_begin_127 : decode cX0_begin 127 = .ok (.aload_n 0, 1) := by decide +kernel
theorem dX0_begin_128 : decode cX0_begin 128 = .ok (.getfield 30, 3) := by decide +kernel
theorem dX0_begin_131 : decode cX0_begin 131 = .ok (.iload_n 2, 1) := by decide +kernel
theorem dX0_begin_132 : decode cX0_begin 132 = .ok (.iconst 0, 1) := by decide +kernel
theorem dX0_begin_133 : decode cX0_begin 133 = .ok (.iastore, 1) := by decide +kernel
theorem dX0_begin_134 : decode cX0_begin 134 = .ok (.aload_n 0, 1) := by decide +kernel
theorem dX0_begin_135 : decode cX0_begin 135 = .ok (.getfield 33, 3) := by decide +kernel
theorem dX0_begin_138 : decode cX0_begin 138 = .ok (.iload_n 2, 1) := by decide +kernel
theorem dX0_begin_139 : decode cX0_begin 139 = .ok (.iconst 0, 1) := by decide +kernel
theorem dX0_begin_140 : decode cX0_begin 140 = .ok (.iastore, 1) := by decide +kernel
theorem dX0_begin_141 : decode cX0_begin 141 = .ok (.aload_n 0, 1) := by decide +kernel
theorem dX0_begin_142 : decode cX0_begin 142 = .ok (.getfield 36, 3) := by decide +kernel
theorem dX0_begin_145 : decode cX0_begin 145 = .ok (.iload_n 2, 1) := by decide +kernel
theorem dX0_begin_146 : decode cX0_begin 146 = .ok (.iconst 0, 1) := by decide +kernel
theorem dX0_begin_147 : decode cX0_begin 147 = .ok (.iastore, 1) := by decide +kernel
theorem dX0_begin_148 : decode cX0_begin 148 = .ok (.iinc 2 1, 3) := by decide +kernel
theorem dX0_begin_151 : decode cX0_begin 151 = .ok (.goto (-72), 3) := by decide +kernel
theorem dX0_begin_154 : decode cX0_begin 154 = .ok (.aload_n 0, 1) := by decide +kernel
theorem dX0_begin_155 : decode cX0_begin 155 = .ok (.iconst 0, 1) := by decide +kernel
theorem dX0_begin_156 : decode cX0_begin 156 = .ok (.putfield 61, 3) := by decide +kernel
theorem dX0_begin_159 : decode cX0_begin 159 = .ok (.aload_n 0, 1) := by decide +kernel
theorem dX0_begin_160 : decode cX0_begin 160 = .ok (.iconst 0, 1) := by decide +kernel
theorem dX0_begin_161 : decode cX0_begin 161 = .ok (.putfield 65, 3) := by decide +kernel
theorem dX0_begin_164 : decode cX0_begin 164 = .ok (.aload_n 0, 1) := by decide +kernel
theorem dX0_begin_165 : decode cX0_begin 165 = .ok (.aload_n 1, 1) := by decide +kernel
theorem dX0_begin_166 : decode cX0_begin 166 = .ok (.getfield 68, 3) := by decide +kernel
theorem dX0_begin_169 : decode cX0_begin 169 = .ok (.i2l, 1) := by decide +kernel
theorem dX0_begin_170 : decode cX0_begin 170 = .ok (.putfield 71, 3) := by decide +kernel
theorem dX0_begin_173 : decode cX0_begin 173 = .ok (.return_, 1) := by decide +kernel
theorem dX0_become_0 : decode cX0_become 0 = .ok (.aload_n 1, 1) := by decide +kernel
theorem dX0_become_1 : decode cX0_become 1 = .ok (.getfield 9, 3) := by decide +kernel
theorem dX0_become_4 : decode cX0_become 4 = .ok (.iconst 0, 1) := by decide +kernel
theorem dX0_become_5 : decode cX0_become 5 = .ok (.aload_n 0, 1) := by decide +kernel
theorem dX0_become_6 : decode cX0_become 6 = .ok (.getfield 9, 3) := by decide +kernel
theorem dX0_become_9 : decode cX0_become 9 = .ok (.iconst 0, 1) := by decide +kernel
theorem dX0_become_10 : decode cX0_become 10 = .ok (.bipush 6, 2) := by decide +kernel
theorem dX0_become_12 : decode cX0_become 12 = .ok (.invokestatic 75, 3) := by decide +kernel
theorem dX0_become_15 : decode cX0_become 15 = .ok (.aload_n 1, 1) := by decide +kernel
theorem dX0_become_16 : decode cX0_become 16 = .ok (.getfield 15, 3) := by decide +kernel
theorem dX0_become_19 : decode cX0_become 19 = .ok (.iconst 0, 1) := by decide +kernel
theorem dX0_become_20 : decode cX0_become 20 = .ok (.aload_n 0, 1) := by decide +kernel
theorem dX0_become_21 : decode cX0_become 21 = .ok (.getfield 15, 3) := by decide +kernel
theorem dX0_become_24 : decode cX0_become 24 = .ok (.iconst 0, 1) := by decide +kernel
theorem dX0_become_25 : decode cX0_become 25 = .ok (.bipush 6, 2) := by decide +kernel
theorem dX0_become_27 : decode cX0_become 27 = .ok (.invokestatic 75, 3) := by decide +kernel
theorem dX0_become_30 : decode cX0_become 30 = .ok (.aload_n 1, 1) := by decide +kernel
theorem dX0_become_31 : decode cX0_become 31 = .ok (.getfield 18, 3) := by decide +kernel
theorem dX0_become_34 : decode cX0_become 34 = .ok (.iconst 0, 1) := by decide +kernel
theorem dX0_become_35 : decode cX0_become 35 = .ok (.aload_n 0, 1) := by decide +kernel
theorem dX0_become_36 : decode cX0_become 36 = .ok (.getfield 18, 3) := by decide +kernel
theorem dX0_become_39 : decode cX0_become 39 = .ok (.iconst 0, 1) := by decide +kernel
theorem dX0_become_40 : decode cX0_become 40 = .ok (.bipush 6, 2) := by decide +kernel
theorem dX0_become_42 : decode cX0_become 42 = .ok (.invokestatic 75, 3) := by decide +kernel
theorem dX0_become_45 : decode cX0_become 45 = .ok (.aload_n 1, 1) := by decide +kernel
theorem dX0_become_46 : decode cX0_become 46 = .ok (.getfield 21, 3) := by decide +kernel
theorem dX0_become_49 : decode cX0_become 49 = .ok (.iconst 0, 1) := by decide +kernel
theorem dX0_become_50 : decode cX0_become 50 = .ok (.aload_n 0, 1) := by decide +kernel
theorem dX0_become_51 : decode cX0_become 51 = .ok (.getfield 21, 3) := by decide +kernel
theorem dX0_become_54 : decode cX0_become 54 = .ok (.iconst 0, 1) := by decide +kernel
theorem dX0_become_55 : decode cX0_become 55 = .ok (.bipush 6, 2) := by decide +kernel
theorem dX0_become_57 : decode cX0_become 57 = .ok (.invokestatic 75, 3) := by decide +kernel
theorem dX0_become_60 : decode cX0_become 60 = .ok (.aload_n 1, 1) := by decide +kernel
theorem dX0_become_61 : decode cX0_become 61 = .ok (.getfield 24, 3) := by decide +kernel
theorem dX0_become_64 : decode cX0_become 64 = .ok (.iconst 0, 1) := by decide +kernel
theorem dX0_become_65 : decode cX0_become 65 = .ok (.aload_n 0, 1) := by decide +kernel
theorem dX0_become_66 : decode cX0_become 66 = .ok (.getfield 24, 3) := by decide +kernel
theorem dX0_become_69 : decode cX0_become 69 = .ok (.iconst 0, 1) := by decide +kernel
theorem dX0_become_70 : decode cX0_become 70 = .ok (.bipush 6, 2) := by decide +kernel
theorem dX0_become_72 : decode cX0_become 72 = .ok (.invokestatic 75, 3) := by decide +kernel
theorem dX0_become_75 : decode cX0_become 75 = .ok (.aload_n 1, 1) := by decide +kernel
theorem dX0_become_76 : decode cX0_become 76 = .ok (.getfield 27, 3) := by decide +kernel
theorem dX0_become_79 : decode cX0_become 79 = .ok (.iconst 0, 1) := by decide +kernel
theorem dX0_become_80 : decode cX0_become 80 = .ok (.aload_n 0, 1) := by decide +kernel
theorem dX0_become_81 : decode cX0_become 81 = .ok (.getfield 27, 3) := by decide +kernel
theorem dX0_become_84 : decode cX0_become 84 = .ok (.iconst 0, 1) := by decide +kernel
theorem dX0_become_85 : decode cX0_become 85 = .ok (.bipush 6, 2) := by decide +kernel
theorem dX0_become_87 : decode cX0_become 87 = .ok (.invokestatic 75, 3) := by decide +kernel
theorem dX0_become_90 : decode cX0_become 90 = .ok (.aload_n 1, 1) := by decide +kernel
theorem dX0_become_91 : decode cX0_become 91 = .ok (.getfield 30, 3) := by decide +kernel
theorem dX0_become_94 : decode cX0_become 94 = .ok (.iconst 0, 1) := by decide +kernel
theorem dX0_become_95 : decode cX0_become 95 = .ok (.aload_n 0, 1) := by decide +kernel
theorem dX0_become_96 : decode cX0_become 96 = .ok (.getfield 30, 3) := by decide +kernel
theorem dX0_become_99 : decode cX0_become 99 = .ok (.iconst 0, 1) := by decide +kernel
theorem dX0_become_100 : decode cX0_become 100 = .ok (.bipush 6, 2) := by decide +kernel
theorem dX0_become_102 : decode cX0_become 102 = .ok (.invokestatic 75, 3) := by decide +kernel
theorem dX0_become_105 : decode cX0_become 105 = .ok (.aload_n 1, 1) := by decide +kernel
theorem dX0_become_106 : decode cX0_become 106 = .ok (.getfield 33, 3) := by decide +kernel
theorem dX0_become_109 : decode cX0_become 109 = .ok (.iconst 0, 1) := by decide +kernel
theorem dX0_become_110 : decode cX0_become 110 = .ok (.aload_n 0, 1) := by decide +kernel
theorem dX0_become_111 : decode cX0_become 111 = .ok (.getfield 33, 3) := by decide +kernel
theorem dX0_become_114 : decode cX0_become 114 = .ok (.iconst 0, 1) := by decide +kernel
theorem dX0_become_115 : decode cX0_become 115 = .ok (.bipush 6, 2) := by decide +kernel
theorem dX0_become_117 : decode cX0_become 117 = .ok (.invokestatic 75, 3) := by decide +kernel
theorem dX0_become_120 : decode cX0_become 120 = .ok (.aload_n 1, 1) := by decide +kernel
theorem dX0_become_121 : decode cX0_become 121 = .ok (.getfield 36, 3) := by decide +kernel
theorem dX0_become_124 : decode cX0_become 124 = .ok (.iconst 0, 1) := by decide +kernel
theorem dX0_become_125 : decode cX0_become 125 = .ok (.aload_n 0, 1) := by decide +kernel
theorem dX0_become_126 : decode cX0_become 126 = .ok (.getfield 36, 3) := by decide +kernel
theorem dX0_become_129 : decode cX0_become 129 = .ok (.iconst 0, 1) := by decide +kernel
theorem dX0_become_130 : decode cX0_become 130 = .ok (.bipush 6, 2) := by decide +kernel
theorem dX0_become_132 : decode cX0_become 132 = .ok (.invokestatic 75, 3) := by decide +kernel
theorem dX0_become_135 : decode cX0_become 135 = .ok (.aload_n 0, 1) := by decide +kernel
theorem dX0_become_136 : decode cX0_become 136 = .ok (.aload_n 1, 1) := by decide +kernel
theorem dX0_become_137 : decode cX0_become 137 = .ok (.getfield 61, 3) := by decide +kernel
theorem dX0_become_140 : decode cX0_become 140 = .ok (.putfield 61, 3) := by decide +kernel
theorem dX0_become_143 : decode cX0_become 143 = .ok (.aload_n 0, 1) := by decide +kernel
theorem dX0_become_144 : decode cX0_become 144 = .ok (.aload_n 1, 1) := by decide +kernel
theorem dX0_become_145 : decode cX0_become 145 = .ok (.getfield 65, 3) := by decide +kernel
theorem dX0_become_148 : decode cX0_become 148 = .ok (.putfield 65, 3) := by decide +kernel
theorem dX0_become_151 : decode cX0_become 151 = .ok (.aload_n 0, 1) := by decide +kernel
theorem dX0_become_152 : decode cX0_become 152 = .ok (.aload_n 1, 1) := by decide +kernel
theorem dX0_become_153 : decode cX0_become 153 = .ok (.getfield 71, 3) := by decide +kernel
theorem dX0_become_156 : decode cX0_become 156 = .ok (.putfield 71, 3) := by decide +kernel
theorem dX0_become_159 : decode cX0_become 159 = .ok (.return_, 1) := by decide +kernel
theorem dX0_hasRoom_0 : decode cX0_hasRoom 0 = .ok (.iload_n 1, 1) := by decide +kernel
theorem dX0_hasRoom_1 : decode cX0_hasRoom 1 = .ok (.invokestatic 81, 3) := by decide +kernel
theorem dX0_hasRoom_4 : decode cX0_hasRoom 4 = .ok (.ifCond .eq 21, 3) := by decide +kernel
theorem dX0_hasRoom_7 : decode cX0_hasRoom 7 = .ok (.aload_n 0, 1) := by decide +kernel
theorem dX0_hasRoom_8 : decode cX0_hasRoom 8 = .ok (.getfield 9, 3) := by decide +kernel
theorem dX0_hasRoom_11 : decode cX0_hasRoom 11 = .ok (.iload_n 1, 1) := by decide +kernel
theorem dX0_hasRoom_12 : decode cX0_hasRoom 12 = .ok (.iaload, 1) := by decide +kernel
theorem dX0_hasRoom_13 : decode cX0_hasRoom 13 = .ok (.iload_n 2, 1) := by decide +kernel
theorem dX0_hasRoom_14 : decode cX0_hasRoom 14 = .ok (.iadd, 1) := by decide +kernel
theorem dX0_hasRoom_15 : decode cX0_hasRoom 15 = .ok (.sipush 999, 3) := by decide +kernel
theorem dX0_hasRoom_18 : decode cX0_hasRoom 18 = .ok (.if_icmp .gt 7, 3) := by decide +kernel
theorem dX0_hasRoom_21 : decode cX0_hasRoom 21 = .ok (.iconst 1, 1) := by decide +kernel
theorem dX0_hasRoom_22 : decode cX0_hasRoom 22 = .ok (.goto 4, 3) := by decide +kernel
theorem dX0_hasRoom_25 : decode cX0_hasRoom 25 = .ok (.iconst 0, 1) := by decide +kernel
theorem dX0_hasRoom_26 : decode cX0_hasRoom 26 = .ok (.ireturn, 1) := by decide +kernel
theorem dX0_isTub_0 : decode cX0_isTub 0 = .ok (.iload_n 0, 1) := by decide +kernel
theorem dX0_isTub_1 : decode cX0_isTub 1 = .ok (.ifCond .lt 13, 3) := by decide +kernel
theorem dX0_isTub_4 : decode cX0_isTub 4 = .ok (.iload_n 0, 1) := by decide +kernel
theorem dX0_isTub_5 : decode cX0_isTub 5 = .ok (.bipush 6, 2) := by decide +kernel
theorem dX0_isTub_7 : decode cX0_isTub 7 = .ok (.if_icmp .ge 7, 3) := by decide +kernel
theorem dX0_isTub_10 : decode cX0_isTub 10 = .ok (.iconst 1, 1) := by decide +kernel
theorem dX0_isTub_11 : decode cX0_isTub 11 = .ok (.goto 4, 3) := by decide +kernel
theorem dX0_isTub_14 : decode cX0_isTub 14 = .ok (.iconst 0, 1) := by decide +kernel
theorem dX0_isTub_15 : decode cX0_isTub 15 = .ok (.ireturn, 1) := by decide +kernel
theorem dX0_isKnight_0 : decode cX0_isKnight 0 = .ok (.iload_n 0, 1) := by decide +kernel
theorem dX0_isKnight_1 : decode cX0_isKnight 1 = .ok (.ifCond .lt 13, 3) := by decide +kernel
theorem dX0_isKnight_4 : decode cX0_isKnight 4 = .ok (.iload_n 0, 1) := by decide +kernel
theorem dX0_isKnight_5 : decode cX0_isKnight 5 = .ok (.bipush 6, 2) := by decide +kernel
theorem dX0_isKnight_7 : decode cX0_isKnight 7 = .ok (.if_icmp .ge 7, 3) := by decide +kernel
theorem dX0_isKnight_10 : decode cX0_isKnight 10 = .ok (.iconst 1, 1) := by decide +kernel
theorem dX0_isKnight_11 : decode cX0_isKnight 11 = .ok (.goto 4, 3) := by decide +kernel
theorem dX0_isKnight_14 : decode cX0_isKnight 14 = .ok (.iconst 0, 1) := by decide +kernel
theorem dX0_isKnight_15 : decode cX0_isKnight 15 = .ok (.ireturn, 1) := by decide +kernel
theorem dX0_mixedHeat_0 : decode cX0_mixedHeat 0 = .ok (.iload_n 1, 1) := by decide +kernel
theorem dX0_mixedHeat_1 : decode cX0_mixedHeat 1 = .ok (.invokestatic 81, 3) := by decide +kernel
theorem dX0_mixedHeat_4 : decode cX0_mixedHeat 4 = .ok (.ifCond .eq 14, 3) := by decide +kernel
theorem dX0_mixedHeat_7 : decode cX0_mixedHeat 7 = .ok (.aload_n 0, 1) := by decide +kernel
theorem dX0_mixedHeat_8 : decode cX0_mixedHeat 8 = .ok (.getfield 9, 3) := by decide +kernel
theorem dX0_mixedHeat_11 : decode cX0_mixedHeat 11 = .ok (.iload_n 1, 1) := by decide +kernel
theorem dX0_mixedHeat_12 : decode cX0_mixedHeat 12 = .ok (.iaload, 1) := by decide +kernel
theorem dX0_mixedHeat_13 : decode cX0_mixedHeat 13 = .ok (.iload_n 2, 1) := by decide +kernel
theorem dX0_mixedHeat_14 : decode cX0_mixedHeat 14 = .ok (.iadd, 1) := by decide +kernel
theorem dX0_mixedHeat_15 : decode cX0_mixedHeat 15 = .ok (.ifCond .gt 5, 3) := by decide +kernel
theorem dX0_mixedHeat_18 : decode cX0_mixedHeat 18 = .ok (.iconst 0, 1) := by decide +kernel
theorem dX0_mixedHeat_19 : decode cX0_mixedHeat 19 = .ok (.ireturn, 1) := by decide +kernel
theorem dX0_mixedHeat_20 : decode cX0_mixedHeat 20 = .ok (.aload_n 0, 1) := by decide +kernel
theorem dX0_mixedHeat_21 : decode cX0_mixedHeat 21 = .ok (.getfield 9, 3) := by decide +kernel
theorem dX0_mixedHeat_24 : decode cX0_mixedHeat 24 = .ok (.iload_n 1, 1) := by decide +kernel
theorem dX0_mixedHeat_25 : decode cX0_mixedHeat 25 = .ok (.iaload, 1) := by decide +kernel
theorem dX0_mixedHeat_26 : decode cX0_mixedHeat 26 = .ok (.aload_n 0, 1) := by decide +kernel
theorem dX0_mixedHeat_27 : decode cX0_mixedHeat 27 = .ok (.getfield 15, 3) := by decide +kernel
theorem dX0_mixedHeat_30 : decode cX0_mixedHeat 30 = .ok (.iload_n 1, 1) := by decide +kernel
theorem dX0_mixedHeat_31 : decode cX0_mixedHeat 31 = .ok (.iaload, 1) := by decide +kernel
theorem dX0_mixedHeat_32 : decode cX0_mixedHeat 32 = .ok (.imul, 1) := by decide +kernel
theorem dX0_mixedHeat_33 : decode cX0_mixedHeat 33 = .ok (.iload_n 2, 1) := by decide +kernel
theorem dX0_mixedHeat_34 : decode cX0_mixedHeat 34 = .ok (.iload_n 3, 1) := by decide +kernel
theorem dX0_mixedHeat_35 : decode cX0_mixedHeat 35 = .ok (.imul, 1) := by decide +kernel
theorem dX0_mixedHeat_36 : decode cX0_mixedHeat 36 = .ok (.iadd, 1) := by decide +kernel
theorem dX0_mixedHeat_37 : decode cX0_mixedHeat 37 = .ok (.aload_n 0, 1) := by decide +kernel
theorem dX0_mixedHeat_38 : decode cX0_mixedHeat 38 = .ok (.getfield 9, 3) := by decide +kernel
theorem dX0_mixedHeat_41 : decode cX0_mixedHeat 41 = .ok (.iload_n 1, 1) := by decide +kernel
theorem dX0_mixedHeat_42 : decode cX0_mixedHeat 42 = .ok (.iaload, 1) := by decide +kernel
theorem dX0_mixedHeat_43 : decode cX0_mixedHeat 43 = .ok (.iload_n 2, 1) := by decide +kernel
theorem dX0_mixedHeat_44 : decode cX0_mixedHeat 44 = .ok (.iadd, 1) := by decide +kernel
theorem dX0_mixedHeat_45 : decode cX0_mixedHeat 45 = .ok (.idiv, 1) := by decide +kernel
theorem dX0_mixedHeat_46 : decode cX0_mixedHeat 46 = .ok (.ireturn, 1) := by decide +kernel
theorem dX0_pourIn_0 : decode cX0_pourIn 0 = .ok (.iload_n 1, 1) := by decide +kernel
theorem dX0_pourIn_1 : decode cX0_pourIn 1 = .ok (.invokestatic 81, 3) := by decide +kernel
theorem dX0_pourIn_4 : decode cX0_pourIn 4 = .ok (.ifCond .eq 26, 3) := by decide +kernel
theorem dX0_pourIn_7 : decode cX0_pourIn 7 = .ok (.aload_n 0, 1) := by decide +kernel
theorem dX0_pourIn_8 : decode cX0_pourIn 8 = .ok (.getfield 15, 3) := by decide +kernel
theorem dX0_pourIn_11 : decode cX0_pourIn 11 = .ok (.iload_n 1, 1) := by decide +kernel
theorem dX0_pourIn_12 : decode cX0_pourIn 12 = .ok (.aload_n 0, 1) := by decide +kernel
theorem dX0_pourIn_13 : decode cX0_pourIn 13 = .ok (.iload_n 1, 1) := by decide +kernel
theorem dX0_pourIn_14 : decode cX0_pourIn 14 = .ok (.iload_n 2, 1) := by decide +kernel
theorem dX0_pourIn_15 : decode cX0_pourIn 15 = .ok (.iload_n 3, 1) := by decide +kernel
theorem dX0_pourIn_16 : decode cX0_pourIn 16 = .ok (.invokevirtual 84, 3) := by decide +kernel
theorem dX0_pourIn_19 : decode cX0_pourIn 19 = .ok (.iastore, 1) := by decide +kernel
theorem dX0_pourIn_20 : decode cX0_pourIn 20 = .ok (.aload_n 0, 1) := by decide +kernel
theorem dX0_pourIn_21 : decode cX0_pourIn 21 = .ok (.getfield 9, 3) := by decide +kernel
theorem dX0_pourIn_24 : decode cX0_pourIn 24 = .ok (.iload_n 1, 1) := by decide +kernel
theorem dX0_pourIn_25 : decode cX0_pourIn 25 = .ok (.dup2, 1) := by decide +kernel
theorem dX0_pourIn_26 : decode cX0_pourIn 26 = .ok (.iaload, 1) := by decide +kernel
theorem dX0_pourIn_27 : decode cX0_pourIn 27 = .ok (.iload_n 2, 1) := by decide +kernel
theorem dX0_pourIn_28 : decode cX0_pourIn 28 = .ok (.iadd, 1) := by decide +kernel
theorem dX0_pourIn_29 : decode cX0_pourIn 29 = .ok (.iastore, 1) := by decide +kernel
theorem dX0_pourIn_30 : decode cX0_pourIn 30 = .ok (.return_, 1) := by decide +kernel
theorem dX0_enter_0 : decode cX0_enter 0 = .ok (.iload_n 1, 1) := by decide +kernel
theorem dX0_enter_1 : decode cX0_enter 1 = .ok (.invokestatic 88, 3) := by decide +kernel
theorem dX0_enter_4 : decode cX0_enter 4 = .ok (.ifCond .eq 19, 3) := by decide +kernel
theorem dX0_enter_7 : decode cX0_enter 7 = .ok (.iload_n 2, 1) := by decide +kernel
theorem dX0_enter_8 : decode cX0_enter 8 = .ok (.invokestatic 81, 3) := by decide +kernel
theorem dX0_enter_11 : decode cX0_enter 11 = .ok (.ifCond .eq 12, 3) := by decide +kernel
theorem dX0_enter_14 : decode cX0_enter 14 = .ok (.aload_n 0, 1) := by decide +kernel
theorem dX0_enter_15 : decode cX0_enter 15 = .ok (.getfield 18, 3) := by decide +kernel
theorem dX0_enter_18 : decode cX0_enter 18 = .ok (.iload_n 2, 1) := by decide +kernel
theorem dX0_enter_19 : decode cX0_enter 19 = .ok (.iaload, 1) := by decide +kernel
theorem dX0_enter_20 : decode cX0_enter 20 = .ok (.ifCond .lt 5, 3) := by decide +kernel
theorem dX0_enter_23 : decode cX0_enter 23 = .ok (.iconst 0, 1) := by decide +kernel
theorem dX0_enter_24 : decode cX0_enter 24 = .ok (.ireturn, 1) := by decide +kernel
theorem dX0_enter_25 : decode cX0_enter 25 = .ok (.aload_n 0, 1) := by decide +kernel
theorem dX0_enter_26 : decode cX0_enter 26 = .ok (.iload_n 1, 1) := by decide +kernel
theorem dX0_enter_27 : decode cX0_enter 27 = .ok (.invokevirtual 91, 3) := by decide +kernel
theorem dX0_enter_30 : decode cX0_enter 30 = .ok (.aload_n 0, 1) := by decide +kernel
theorem dX0_enter_31 : decode cX0_enter 31 = .ok (.getfield 18, 3) := by decide +kernel
theorem dX0_enter_34 : decode cX0_enter 34 = .ok (.iload_n 2, 1) := by decide +kernel
theorem dX0_enter_35 : decode cX0_enter 35 = .ok (.iload_n 1, 1) := by decide +kernel
theorem dX0_enter_36 : decode cX0_enter 36 = .ok (.iastore, 1) := by decide +kernel
theorem dX0_enter_37 : decode cX0_enter 37 = .ok (.aload_n 0, 1) := by decide +kernel
theorem dX0_enter_38 : decode cX0_enter 38 = .ok (.getfield 24, 3) := by decide +kernel
theorem dX0_enter_41 : decode cX0_enter 41 = .ok (.iload_n 1, 1) := by decide +kernel
theorem dX0_enter_42 : decode cX0_enter 42 = .ok (.iload_n 2, 1) := by decide +kernel
theorem dX0_enter_43 : decode cX0_enter 43 = .ok (.iastore, 1) := by decide +kernel
theorem dX0_enter_44 : decode cX0_enter 44 = .ok (.iconst 1, 1) := by decide +kernel
theorem dX0_enter_45 : decode cX0_enter 45 = .ok (.ireturn, 1) := by decide +kernel
theorem dX0_leave_0 : decode cX0_leave 0 = .ok (.iload_n 1, 1) := by decide +kernel
theorem dX0_leave_1 : decode cX0_leave 1 = .ok (.invokestatic 88, 3) := by decide +kernel
theorem dX0_leave_4 : decode cX0_leave 4 = .ok (.ifCond .ne 4, 3) := by decide +kernel
theorem dX0_leave_7 : decode cX0_leave 7 = .ok (.return_, 1) := by decide +kernel
theorem dX0_leave_8 : decode cX0_leave 8 = .ok (.aload_n 0, 1) := by decide +kernel
theorem dX0_leave_9 : decode cX0_leave 9 = .ok (.getfield 24, 3) := by decide +kernel
theorem dX0_leave_12 : decode cX0_leave 12 = .ok (.iload_n 1, 1) := by decide +kernel
theorem dX0_leave_13 : decode cX0_leave 13 = .ok (.iaload, 1) := by decide +kernel
theorem dX0_leave_14 : decode cX0_leave 14 = .ok (.istore_n 2, 1) := by decide +kernel
theorem dX0_leave_15 : decode cX0_leave 15 = .ok (.iload_n 2, 1) := by decide +kernel
theorem dX0_leave_16 : decode cX0_leave 16 = .ok (.invokestatic 81, 3) := by decide +kernel
theorem dX0_leave_19 : decode cX0_leave 19 = .ok (.ifCond .eq 11, 3) := by decide +kernel
theorem dX0_leave_22 : decode cX0_leave 22 = .ok (.aload_n 0, 1) := by decide +kernel
theorem dX0_leave_23 : decode cX0_leave 23 = .ok (.getfield 18, 3) := by decide +kernel
theorem dX0_leave_26 : decode cX0_leave 26 = .ok (.iload_n 2, 1) := by decide +kernel
theorem dX0_leave_27 : decode cX0_leave 27 = .ok (.bipush (-2), 2) := by decide +kernel
theorem dX0_leave_29 : decode cX0_leave 29 = .ok (.iastore, 1) := by decide +kernel
theorem dX0_leave_30 : decode cX0_leave 30 = .ok (.aload_n 0, 1) := by decide +kernel
theorem dX0_leave_31 : decode cX0_leave 31 = .ok (.getfield 24, 3) := by decide +kernel
theorem dX0_leave_34 : decode cX0_leave 34 = .ok (.iload_n 1, 1) := by decide +kernel
theorem dX0_leave_35 : decode cX0_leave 35 = .ok (.bipush (-2), 2) := by decide +kernel
theorem dX0_leave_37 : decode cX0_leave 37 = .ok (.iastore, 1) := by decide +kernel
theorem dX0_leave_38 : decode cX0_leave 38 = .ok (.aload_n 0, 1) := by decide +kernel
theorem dX0_leave_39 : decode cX0_leave 39 = .ok (.getfield 33, 3) := by decide +kernel
theorem dX0_leave_42 : decode cX0_leave 42 = .ok (.iload_n 1, 1) := by decide +kernel
theorem dX0_leave_43 : decode cX0_leave 43 = .ok (.iconst 0, 1) := by decide +kernel
theorem dX0_leave_44 : decode cX0_leave 44 = .ok (.iastore, 1) := by decide +kernel
theorem dX0_leave_45 : decode cX0_leave 45 = .ok (.return_, 1) := by decide +kernel
theorem dX0_bathers_0 : decode cX0_bathers 0 = .ok (.iconst 0, 1) := by decide +kernel
theorem dX0_bathers_1 : decode cX0_bathers 1 = .ok (.istore_n 1, 1) := by decide +kernel
theorem dX0_bathers_2 : decode cX0_bathers 2 = .ok (.iconst 0, 1) := by decide +kernel
theorem dX0_bathers_3 : decode cX0_bathers 3 = .ok (.istore_n 2, 1) := by decide +kernel
theorem dX0_bathers_4 : decode cX0_bathers 4 = .ok (.iload_n 2, 1) := by decide +kernel
theorem dX0_bathers_5 : decode cX0_bathers 5 = .ok (.bipush 6, 2) := by decide +kernel
theorem dX0_bathers_7 : decode cX0_bathers 7 = .ok (.if_icmp .ge 21, 3) := by decide +kernel
theorem dX0_bathers_10 : decode cX0_bathers 10 = .ok (.aload_n 0, 1) := by decide +kernel
theorem dX0_bathers_11 : decode cX0_bathers 11 = .ok (.getfield 24, 3) := by decide +kernel
theorem dX0_bathers_14 : decode cX0_bathers 14 = .ok (.iload_n 2, 1) := by decide +kernel
theorem dX0_bathers_15 : decode cX0_bathers 15 = .ok (.iaload, 1) := by decide +kernel
theorem dX0_bathers_16 : decode cX0_bathers 16 = .ok (.ifCond .lt 6, 3) := by decide +kernel
theorem dX0_bathers_19 : decode cX0_bathers 19 = .ok (.iinc 1 1, 3) := by decide +kernel
theorem dX0_bathers_22 : decode cX0_bathers 22 = .ok (.iinc 2 1, 3) := by decide +kernel
theorem dX0_bathers_25 : decode cX0_bathers 25 = .ok (.goto (-21), 3) := by decide +kernel
theorem dX0_bathers_28 : decode cX0_bathers 28 = .ok (.iload_n 1, 1) := by decide +kernel
theorem dX0_bathers_29 : decode cX0_bathers 29 = .ok (.ireturn, 1) := by decide +kernel
theorem dX0_draw_0 : decode cX0_draw 0 = .ok (.aload_n 0, 1) := by decide +kernel
theorem dX0_draw_1 : decode cX0_draw 1 = .ok (.aload_n 0, 1) := by decide +kernel
theorem dX0_draw_2 : decode cX0_draw 2 = .ok (.getfield 71, 3) := by decide +kernel
theorem dX0_draw_5 : decode cX0_draw 5 = .ok (.ldc2_w 95, 3) := by decide +kernel
theorem dX0_draw_8 : decode cX0_draw 8 = .ok (.lmul, 1) := by decide +kernel
theorem dX0_draw_9 : decode cX0_draw 9 = .ok (.ldc2_w 97, 3) := by decide +kernel
theorem dX0_draw_12 : decode cX0_draw 12 = .ok (.ladd, 1) := by decide +kernel
theorem dX0_draw_13 : decode cX0_draw 13 = .ok (.ldc2_w 99, 3) := by decide +kernel
theorem dX0_draw_16 : decode cX0_draw 16 = .ok (.land, 1) := by decide +kernel
theorem dX0_draw_17 : decode cX0_draw 17 = .ok (.putfield 71, 3) := by decide +kernel
theorem dX0_draw_20 : decode cX0_draw 20 = .ok (.aload_n 0, 1) := by decide +kernel
theorem dX0_draw_21 : decode cX0_draw 21 = .ok (.getfield 71, 3) := by decide +kernel
theorem dX0_draw_24 : decode cX0_draw 24 = .ok (.ldc2_w 101, 3) := by decide +kernel
theorem dX0_draw_27 : decode cX0_draw 27 = .ok (.ldiv, 1) := by decide +kernel
theorem dX0_draw_28 : decode cX0_draw 28 = .ok (.l2i, 1) := by decide +kernel
theorem dX0_draw_29 : decode cX0_draw 29 = .ok (.ireturn, 1) := by decide +kernel
theorem dX1_init_0 : decode cX1_init 0 = .ok (.aload_n 0, 1) := by decide +kernel
theorem dX1_init_1 : decode cX1_init 1 = .ok (.invokespecial 3, 3) := by decide +kernel
theorem dX1_init_4 : decode cX1_init 4 = .ok (.aload_n 0, 1) := by decide +kernel
theorem dX1_init_5 : decode cX1_init 5 = .ok (.bipush 24, 2) := by decide +kernel
theorem dX1_init_7 : decode cX1_init 7 = .ok (.newarray .int, 2) := by decide +kernel
theorem dX1_init_9 : decode cX1_init 9 = .ok (.putfield 9, 3) := by decide +kernel
theorem dX1_init_12 : decode cX1_init 12 = .ok (.aload_n 0, 1) := by decide +kernel
theorem dX1_init_13 : decode cX1_init 13 = .ok (.bipush 24, 2) := by decide +kernel
theorem dX1_init_15 : decode cX1_init 15 = .ok (.newarray .int, 2) := by decide +kernel
theorem dX1_init_17 : decode cX1_init 17 = .ok (.putfield 15, 3) := by decide +kernel
theorem dX1_init_20 : decode cX1_init 20 = .ok (.aload_n 0, 1) := by decide +kernel
theorem dX1_init_21 : decode cX1_init 21 = .ok (.bipush 24, 2) := by decide +kernel
theorem dX1_init_23 : decode cX1_init 23 = .ok (.newarray .int, 2) := by decide +kernel
theorem dX1_init_25 : decode cX1_init 25 = .ok (.putfield 18, 3) := by decide +kernel
theorem dX1_init_28 : decode cX1_init 28 = .ok (.aload_n 0, 1) := by decide +kernel
theorem dX1_init_29 : decode cX1_init 29 = .ok (.bipush 24, 2) := by decide +kernel
theorem dX1_init_31 : decode cX1_init 31 = .ok (.newarray .boolean, 2) := by decide +kernel
theorem dX1_init_33 : decode cX1_init 33 = .ok (.putfield 21, 3) := by decide +kernel
theorem dX1_init_36 : decode cX1_init 36 = .ok (.aload_n 0, 1) := by decide +kernel
theorem dX1_init_37 : decode cX1_init 37 = .ok (.bipush 24, 2) := by decide +kernel
theorem dX1_init_39 : decode cX1_init 39 = .ok (.newarray .int, 2) := by decide +kernel
theorem dX1_init_41 : decode cX1_init 41 = .ok (.putfield 25, 3) := by decide +kernel
theorem dX1_init_44 : decode cX1_init 44 = .ok (.aload_n 0, 1) := by decide +kernel
theorem dX1_init_45 : decode cX1_init 45 = .ok (.bipush 24, 2) := by decide +kernel
theorem dX1_init_47 : decode cX1_init 47 = .ok (.newarray .boolean, 2) := by decide +kernel
theorem dX1_init_49 : decode cX1_init 49 = .ok (.putfield 28, 3) := by decide +kernel
theorem dX1_init_52 : decode cX1_init 52 = .ok (.aload_n 0, 1) := by decide +kernel
theorem dX1_init_53 : decode cX1_init 53 = .ok (.iconst (-1), 1) := by decide +kernel
theorem dX1_init_54 : decode cX1_init 54 = .ok (.putfield 31, 3) := by decide +kernel
theorem dX1_init_57 : decode cX1_init 57 = .ok (.return_, 1) := by decide +kernel
theorem dX1_forget_0 : decode cX1_forget 0 = .ok (.aload_n 0, 1) := by decide +kernel
theorem dX1_forget_1 : decode cX1_forget 1 = .ok (.iconst 0, 1) := by decide +kernel
theorem dX1_forget_2 : decode cX1_forget 2 = .ok (.putfield 35, 3) := by decide +kernel
theorem dX1_forget_5 : decode cX1_forget 5 = .ok (.aload_n 0, 1) := by decide +kernel
theorem dX1_forget_6 : decode cX1_forget 6 = .ok (.iconst (-1), 1) := by decide +kernel
theorem dX1_forget_7 : decode cX1_forget 7 = .ok (.putfield 31, 3) := by decide +kernel
theorem dX1_forget_10 : decode cX1_forget 10 = .ok (.return_, 1) := by decide +kernel
theorem dX1_record_0 : decode cX1_record 0 = .ok (.aload_n 0, 1) := by decide +kernel
theorem dX1_record_1 : decode cX1_record 1 = .ok (.getfield 35, 3) := by decide +kernel
theorem dX1_record_4 : decode cX1_record 4 = .ok (.ifCond .lt 12, 3) := by decide +kernel
theorem dX1_record_7 : decode cX1_record 7 = .ok (.aload_n 0, 1) := by decide +kernel
theorem dX1_record_8 : decode cX1_record 8 = .ok (.getfield 35, 3) := by decide +kernel
theorem dX1_record_11 : decode cX1_record 11 = .ok (.bipush 24, 2) := by decide +kernel
theorem dX1_record_13 : decode cX1_record 13 = .ok (.if_icmp .lt 5, 3) := by decide +kernel
theorem dX1_record_16 : decode cX1_record 16 = .ok (.iconst (-1), 1) := by decide +kernel
theorem dX1_record_17 : decode cX1_record 17 = .ok (.ireturn, 1) := by decide +kernel
theorem dX1_record_18 : decode cX1_record 18 = .ok (.aload_n 0, 1) := by decide +kernel
theorem dX1_record_19 : decode cX1_record 19 = .ok (.getfield 9, 3) := by decide +kernel
theorem dX1_record_22 : decode cX1_record 22 = .ok (.aload_n 0, 1) := by decide +kernel
theorem dX1_record_23 : decode cX1_record 23 = .ok (.getfield 35, 3) := by decide +kernel
theorem dX1_record_26 : decode cX1_record 26 = .ok (.iload_n 1, 1) := by decide +kernel
theorem dX1_record_27 : decode cX1_record 27 = .ok (.iastore, 1) := by decide +kernel
theorem dX1_record_28 : decode cX1_record 28 = .ok (.aload_n 0, 1) := by decide +kernel
theorem dX1_record_29 : decode cX1_record 29 = .ok (.getfield 15, 3) := by decide +kernel
theorem dX1_record_32 : decode cX1_record 32 = .ok (.aload_n 0, 1) := by decide +kernel
theorem dX1_record_33 : decode cX1_record 33 = .ok (.getfield 35, 3) := by decide +kernel
theorem dX1_record_36 : decode cX1_record 36 = .ok (.iload_n 2, 1) := by decide +kernel
theorem dX1_record_37 : decode cX1_record 37 = .ok (.iastore, 1) := by decide +kernel
theorem dX1_record_38 : decode cX1_record 38 = .ok (.aload_n 0, 1) := by decide +kernel
theorem dX1_record_39 : decode cX1_record 39 = .ok (.getfield 18, 3) := by decide +kernel
theorem dX1_record_42 : decode cX1_record 42 = .ok (.aload_n 0, 1) := by decide +kernel
theorem dX1_record_43 : decode cX1_record 43 = .ok (.getfield 35, 3) := by decide +kernel
theorem dX1_record_46 : decode cX1_record 46 = .ok (.iload_n 3, 1) := by decide +kernel
theorem dX1_record_47 : decode cX1_record 47 = .ok (.iastore, 1) := by decide +kernel
theorem dX1_record_48 : decode cX1_record 48 = .ok (.aload_n 0, 1) := by decide +kernel
theorem dX1_record_49 : decode cX1_record 49 = .ok (.getfield 21, 3) := by decide +kernel
theorem dX1_record_52 : decode cX1_record 52 = .ok (.aload_n 0, 1) := by decide +kernel
theorem dX1_record_53 : decode cX1_record 53 = .ok (.getfield 35, 3) := by decide +kernel
theorem dX1_record_56 : decode cX1_record 56 = .ok (.iload 4, 2) := by decide +kernel
theorem dX1_record_58 : decode cX1_record 58 = .ok (.bastore, 1) := by decide +kernel
theorem dX1_record_59 : decode cX1_record 59 = .ok (.aload_n 0, 1) := by decide +kernel
theorem dX1_record_60 : decode cX1_record 60 = .ok (.getfield 25, 3) := by decide +kernel
theorem dX1_record_63 : decode cX1_record 63 = .ok (.aload_n 0, 1) := by decide +kernel
theorem dX1_record_64 : decode cX1_record 64 = .ok (.getfield 35, 3) := by decide +kernel
theorem dX1_record_67 : decode cX1_record 67 = .ok (.iconst (-1), 1) := by decide +kernel
theorem dX1_record_68 : decode cX1_record 68 = .ok (.iastore, 1) := by decide +kernel
theorem dX1_record_69 : decode cX1_record 69 = .ok (.aload_n 0, 1) := by decide +kernel
theorem dX1_record_70 : decode cX1_record 70 = .ok (.dup, 1) := by decide +kernel
theorem dX1_record_71 : decode cX1_record 71 = .ok (.getfield 35, 3) := by decide +kernel
theorem dX1_record_74 : decode cX1_record 74 = .ok (.iconst 1, 1) := by decide +kernel
theorem dX1_record_75 : decode cX1_record 75 = .ok (.iadd, 1) := by decide +kernel
theorem dX1_record_76 : decode cX1_record 76 = .ok (.putfield 35, 3) := by decide +kernel
theorem dX1_record_79 : decode cX1_record 79 = .ok (.aload_n 0, 1) := by decide +kernel
theorem dX1_record_80 : decode cX1_record 80 = .ok (.getfield 35, 3) := by decide +kernel
theorem dX1_record_83 : decode cX1_record 83 = .ok (.iconst 1, 1) := by decide +kernel
theorem dX1_record_84 : decode cX1_record 84 = .ok (.isub, 1) := by decide +kernel
theorem dX1_record_85 : decode cX1_record 85 = .ok (.ireturn, 1) := by decide +kernel
theorem dX1_recordStrike_0 : decode cX1_recordStrike 0 = .ok (.iload_n 1, 1) := by decide +kernel
theorem dX1_recordStrike_1 : decode cX1_recordStrike 1 = .ok (.ifCond .lt 11, 3) := by decide +kernel
theorem dX1_recordStrike_4 : decode cX1_recordStrike 4 = .ok (.iload_n 1, 1) := by decide +kernel
theorem dX1_recordStrike_5 : decode cX1_recordStrike 5 = .ok (.aload_n 0, 1) := by decide +kernel
theorem dX1_recordStrike_6 : decode cX1_recordStrike 6 = .ok (.getfield 35, 3) := by decide +kernel
theorem dX1_recordStrike_9 : decode cX1_recordStrike 9 = .ok (.if_icmp .lt 5, 3) := by decide +kernel
theorem dX1_recordStrike_12 : decode cX1_recordStrike 12 = .ok (.iconst (-1), 1) := by decide +kernel
theorem dX1_recordStrike_13 : decode cX1_recordStrike 13 = .ok (.ireturn, 1) := by decide +kernel
theorem dX1_recordStrike_14 : decode cX1_recordStrike 14 = .ok (.aload_n 0, 1) := by decide +kernel
theorem dX1_recordStrike_15 : decode cX1_recordStrike 15 = .ok (.iconst 0, 1) := by decide +kernel
theorem dX1_recordStrike_16 : decode cX1_recordStrike 16 = .ok (.iconst 0, 1) := by decide +kernel
theorem dX1_recordStrike_17 : decode cX1_recordStrike 17 = .ok (.iconst 0, 1) := by decide +kernel
theorem dX1_recordStrike_18 : decode cX1_recordStrike 18 = .ok (.iconst 1, 1) := by decide +kernel
theorem dX1_recordStrike_19 : decode cX1_recordStrike 19 = .ok (.invokevirtual 38, 3) := by decide +kernel
theorem dX1_recordStrike_22 : decode cX1_recordStrike 22 = .ok (.istore_n 2, 1) := by decide +kernel
theorem dX1_recordStrike_23 : decode cX1_recordStrike 23 = .ok (.iload_n 2, 1) := by decide +kernel
theorem dX1_recordStrike_24 : decode cX1_recordStrike 24 = .ok (.ifCond .lt 16, 3) := by decide +kernel
theorem dX1_recordStrike_27 : decode cX1_recordStrike 27 = .ok (.iload_n 2, 1) := by decide +kernel
theorem dX1_recordStrike_28 : decode cX1_recordStrike 28 = .ok (.bipush 24, 2) := by decide +kernel
theorem dX1_recordStrike_30 : decode cX1_recordStrike 30 = .ok (.if_icmp .ge 10, 3) := by decide +kernel
theorem dX1_recordStrike_33 : decode cX1_recordStrike 33 = .ok (.aload_n 0, 1) := by decide +kernel
theorem dX1_recordStrike_34 : decode cX1_recordStrike 34 = .ok (.getfield 25, 3) := by decide +kernel
theorem dX1_recordStrike_37 : decode cX1_recordStrike 37 = .ok (.iload_n 2, 1) := by decide +kernel
theorem dX1_recordStrike_38 : decode cX1_recordStrike 38 = .ok (.iload_n 1, 1) := by decide +kernel
theorem dX1_recordStrike_39 : decode cX1_recordStrike 39 = .ok (.iastore, 1) := by decide +kernel
theorem dX1_recordStrike_40 : decode cX1_recordStrike 40 = .ok (.iload_n 2, 1) := by decide +kernel
theorem dX1_recordStrike_41 : decode cX1_recordStrike 41 = .ok (.ireturn, 1) := by decide +kernel
theorem dX1_countKnown_0 : decode cX1_countKnown 0 = .ok (.aload_n 0, 1) := by decide +kernel
theorem dX1_countKnown_1 : decode cX1_countKnown 1 = .ok (.getfield 31, 3) := by decide +kernel
theorem dX1_countKnown_4 : decode cX1_countKnown 4 = .ok (.ifCond .ge 10, 3) := by decide +kernel
theorem dX1_countKnown_7 : decode cX1_countKnown 7 = .ok (.aload_n 0, 1) := by decide +kernel
theorem dX1_countKnown_8 : decode cX1_countKnown 8 = .ok (.getfield 35, 3) := by decide +kernel
theorem dX1_countKnown_11 : decode cX1_countKnown 11 = .ok (.goto 7, 3) := by decide +kernel
theorem dX1_countKnown_14 : decode cX1_countKnown 14 = .ok (.aload_n 0, 1) := by decide +kernel
theorem dX1_countKnown_15 : decode cX1_countKnown 15 = .ok (.getfield 31, 3) := by decide +kernel
theorem dX1_countKnown_18 : decode cX1_countKnown 18 = .ok (.ireturn, 1) := by decide +kernel
theorem dX1_sift_0 : decode cX1_sift 0 = .ok (.aload_n 0, 1) := by decide +kernel
theorem dX1_sift_1 : decode cX1_sift 1 = .ok (.invokevirtual 42, 3) := by decide +kernel
theorem dX1_sift_4 : decode cX1_sift 4 = .ok (.istore_n 1, 1) := by decide +kernel
theorem dX1_sift_5 : decode cX1_sift 5 = .ok (.iconst 0, 1) := by decide +kernel
theorem dX1_sift_6 : decode cX1_sift 6 = .ok (.istore_n 2, 1) := by decide +kernel
theorem dX1_sift_7 : decode cX1_sift 7 = .ok (.iload_n 2, 1) := by decide +kernel
theorem dX1_sift_8 : decode cX1_sift 8 = .ok (.bipush 24, 2) := by decide +kernel
theorem dX1_sift_10 : decode cX1_sift 10 = .ok (.if_icmp .ge 25, 3) := by decide +kernel
theorem dX1_sift_13 : decode cX1_sift 13 = .ok (.aload_n 0, 1) := by decide +kernel
theorem dX1_sift_14 : decode cX1_sift 14 = .ok (.getfield 28, 3) := by decide +kernel
theorem dX1_sift_17 : decode cX1_sift 17 = .ok (.iload_n 2, 1) := by decide +kernel
theorem dX1_sift_18 : decode cX1_sift 18 = .ok (.iload_n 2, 1) := by decide +kernel
theorem dX1_sift_19 : decode cX1_sift 19 = .ok (.iload_n 1, 1) := by decide +kernel
theorem dX1_sift_20 : decode cX1_sift 20 = .ok (.if_icmp .ge 7, 3) := by decide +kernel
theorem dX1_sift_23 : decode cX1_sift 23 = .ok (.iconst 1, 1) := by decide +kernel
theorem dX1_sift_24 : decode cX1_sift 24 = .ok (.goto 4, 3) := by decide +kernel
theorem dX1_sift_27 : decode cX1_sift 27 = .ok (.iconst 0, 1) := by decide +kernel
theorem dX1_sift_28 : decode cX1_sift 28 = .ok (.bastore, 1) := by decide +kernel
theorem dX1_sift_29 : decode cX1_sift 29 = .ok (.iinc 2 1, 3) := by decide +kernel
theorem dX1_sift_32 : decode cX1_sift 32 = .ok (.goto (-25), 3) := by decide +kernel
theorem dX1_sift_35 : decode cX1_sift 35 = .ok (.bipush 23, 2) := by decide +kernel
theorem dX1_sift_37 : decode cX1_sift 37 = .ok (.istore_n 2, 1) := by decide +kernel
theorem dX1_sift_38 : decode cX1_sift 38 = .ok (.iload_n 2, 1) := by decide +kernel
theorem dX1_sift_39 : decode cX1_sift 39 = .ok (.ifCond .lt 41, 3) := by decide +kernel
theorem dX1_sift_42 : decode cX1_sift 42 = .ok (.aload_n 0, 1) := by decide +kernel
theorem dX1_sift_43 : decode cX1_sift 43 = .ok (.getfield 25, 3) := by decide +kernel
theorem dX1_sift_46 : decode cX1_sift 46 = .ok (.iload_n 2, 1) := by decide +kernel
theorem dX1_sift_47 : decode cX1_sift 47 = .ok (.iaload, 1) := by decide +kernel
theorem dX1_sift_48 : decode cX1_sift 48 = .ok (.istore_n 3, 1) := by decide +kernel
theorem dX1_sift_49 : decode cX1_sift 49 = .ok (.aload_n 0, 1) := by decide +kernel
theorem dX1_sift_50 : decode cX1_sift 50 = .ok (.getfield 28, 3) := by decide +kernel
theorem dX1_sift_53 : decode cX1_sift 53 = .ok (.iload_n 2, 1) := by decide +kernel
theorem dX1_sift_54 : decode cX1_sift 54 = .ok (.baload, 1) := by decide +kernel
theorem dX1_sift_55 : decode cX1_sift 55 = .ok (.ifCond .eq 19, 3) := by decide +kernel
theorem dX1_sift_58 : decode cX1_sift 58 = .ok (.iload_n 3, 1) := by decide +kernel
theorem dX1_sift_59 : decode cX1_sift 59 = .ok (.ifCond .lt 15, 3) := by decide +kernel
theorem dX1_sift_62 : decode cX1_sift 62 = .ok (.iload_n 3, 1) := by decide +kernel
theorem dX1_sift_63 : decode cX1_sift 63 = .ok (.iload_n 2, 1) := by decide +kernel
theorem dX1_sift_64 : decode cX1_sift 64 = .ok (.if_icmp .ge 10, 3) := by decide +kernel
theorem dX1_sift_67 : decode cX1_sift 67 = .ok (.aload_n 0, 1) := by decide +kernel
theorem dX1_sift_68 : decode cX1_sift 68 = .ok (.getfield 28, 3) := by decide +kernel
theorem dX1_sift_71 : decode cX1_sift 71 = .ok (.iload_n 3, 1) := by decide +kernel
theorem dX1_sift_72 : decode cX1_sift 72 = .ok (.iconst 0, 1) := by decide +kernel
theorem dX1_sift_73 : decode cX1_sift 73 = .ok (.bastore, 1) := by decide +kernel
theorem dX1_sift_74 : decode cX1_sift 74 = .ok (.iinc 2 (-1), 3) := by decide +kernel
theorem dX1_sift_77 : decode cX1_sift 77 = .ok (.goto (-39), 3) := by decide +kernel
theorem dX1_sift_80 : decode cX1_sift 80 = .ok (.return_, 1) := by decide +kernel
theorem dX1_lastMinute_0 : decode cX1_lastMinute 0 = .ok (.iconst 0, 1) := by decide +kernel
theorem dX1_lastMinute_1 : decode cX1_lastMinute 1 = .ok (.istore_n 1, 1) := by decide +kernel
theorem dX1_lastMinute_2 : decode cX1_lastMinute 2 = .ok (.iconst 0, 1) := by decide +kernel
theorem dX1_lastMinute_3 : decode cX1_lastMinute 3 = .ok (.istore_n 2, 1) := by decide +kernel
theorem dX1_lastMinute_4 : decode cX1_lastMinute 4 = .ok (.iload_n 2, 1) := by decide +kernel
theorem dX1_lastMinute_5 : decode cX1_lastMinute 5 = .ok (.bipush 24, 2) := by decide +kernel
theorem dX1_lastMinute_7 : decode cX1_lastMinute 7 = .ok (.if_icmp .ge 29, 3) := by decide +kernel
theorem dX1_lastMinute_10 : decode cX1_lastMinute 10 = .ok (.aload_n 0, 1) := by decide +kernel
theorem dX1_lastMinute_11 : decode cX1_lastMinute 11 = .ok (.getfield 28, 3) := by decide +kernel
theorem dX1_lastMinute_14 : decode cX1_lastMinute 14 = .ok (.iload_n 2, 1) := by decide +kernel
theorem dX1_lastMinute_15 : decode cX1_lastMinute 15 = .ok (.baload, 1) := by decide +kernel
theorem dX1_lastMinute_16 : decode cX1_lastMinute 16 = .ok (.ifCond .eq 14, 3) := by decide +kernel
theorem dX1_lastMinute_19 : decode cX1_lastMinute 19 = .ok (.iload_n 1, 1) := by decide +kernel
theorem dX1_lastMinute_20 : decode cX1_lastMinute 20 = .ok (.aload_n 0, 1) := by decide +kernel
theorem dX1_lastMinute_21 : decode cX1_lastMinute 21 = .ok (.getfield 9, 3) := by decide +kernel
theorem dX1_lastMinute_24 : decode cX1_lastMinute 24 = .ok (.iload_n 2, 1) := by decide +kernel
theorem dX1_lastMinute_25 : decode cX1_lastMinute 25 = .ok (.iaload, 1) := by decide +kernel
theorem dX1_lastMinute_26 : decode cX1_lastMinute 26 = .ok (.invokestatic 46, 3) := by decide +kernel
theorem dX1_lastMinute_29 : decode cX1_lastMinute 29 = .ok (.istore_n 1, 1) := by decide +kernel
theorem dX1_lastMinute_30 : decode cX1_lastMinute 30 = .ok (.iinc 2 1, 3) := by decide +kernel
theorem dX1_lastMinute_33 : decode cX1_lastMinute 33 = .ok (.goto (-29), 3) := by decide +kernel
theorem dX1_lastMinute_36 : decode cX1_lastMinute 36 = .ok (.iload_n 1, 1) := by decide +kernel
theorem dX1_lastMinute_37 : decode cX1_lastMinute 37 = .ok (.ireturn, 1) := by decide +kernel
theorem dX1_agreeWith_0 : decode cX1_agreeWith 0 = .ok (.iconst 0, 1) := by decide +kernel
theorem dX1_agreeWith_1 : decode cX1_agreeWith 1 = .ok (.istore_n 2, 1) := by decide +kernel
theorem dX1_agreeWith_2 : decode cX1_agreeWith 2 = .ok (.iload_n 2, 1) := by decide +kernel
theorem dX1_agreeWith_3 : decode cX1_agreeWith 3 = .ok (.bipush 24, 2) := by decide +kernel
theorem dX1_agreeWith_5 : decode cX1_agreeWith 5 = .ok (.if_icmp .ge 88, 3) := by decide +kernel
theorem dX1_agreeWith_8 : decode cX1_agreeWith 8 = .ok (.aload_n 0, 1) := by decide +kernel
theorem dX1_agreeWith_9 : decode cX1_agreeWith 9 = .ok (.getfield 15, 3) := by decide +kernel
theorem dX1_agreeWith_12 : decode cX1_agreeWith 12 = .ok (.iload_n 2, 1) := by decide +kernel
theorem dX1_agreeWith_13 : decode cX1_agreeWith 13 = .ok (.iaload, 1) := by decide +kernel
theorem dX1_agreeWith_14 : decode cX1_agreeWith 14 = .ok (.istore_n 3, 1) := by decide +kernel
theorem dX1_agreeWith_15 : decode cX1_agreeWith 15 = .ok (.aload_n 0, 1) := by decide +kernel
theorem dX1_agreeWith_16 : decode cX1_agreeWith 16 = .ok (.getfield 28, 3) := by decide +kernel
theorem dX1_agreeWith_19 : decode cX1_agreeWith 19 = .ok (.iload_n 2, 1) := by decide +kernel
theorem dX1_agreeWith_20 : decode cX1_agreeWith 20 = .ok (.baload, 1) := by decide +kernel
theorem dX1_agreeWith_21 : decode cX1_agreeWith 21 = .ok (.ifCond .eq 66, 3) := by decide +kernel
theorem dX1_agreeWith_24 : decode cX1_agreeWith 24 = .ok (.aload_n 0, 1) := by decide +kernel
theorem dX1_agreeWith_25 : decode cX1_agreeWith 25 = .ok (.getfield 25, 3) := by decide +kernel
theorem dX1_agreeWith_28 : decode cX1_agreeWith 28 = .ok (.iload_n 2, 1) := by decide +kernel
theorem dX1_agreeWith_29 : decode cX1_agreeWith 29 = .ok (.iaload, 1) := by decide +kernel
theorem dX1_agreeWith_30 : decode cX1_agreeWith 30 = .ok (.ifCond .ge 57, 3) := by decide +kernel
theorem dX1_agreeWith_33 : decode cX1_agreeWith 33 = .ok (.aload_n 0, 1) := by decide +kernel
theorem dX1_agreeWith_34 : decode cX1_agreeWith 34 = .ok (.getfield 9, 3) := by decide +kernel
theorem dX1_agreeWith_37 : decode cX1_agreeWith 37 = .ok (.iload_n 2, 1) := by decide +kernel
theorem dX1_agreeWith_38 : decode cX1_agreeWith 38 = .ok (.iaload, 1) := by decide +kernel
theorem dX1_agreeWith_39 : decode cX1_agreeWith 39 = .ok (.aload_n 1, 1) := by decide +kernel
theorem dX1_agreeWith_40 : decode cX1_agreeWith 40 = .ok (.getfield 52, 3) := by decide +kernel
theorem dX1_agreeWith_43 : decode cX1_agreeWith 43 = .ok (.if_icmp .ne 44, 3) := by decide +kernel
theorem dX1_agreeWith_46 : decode cX1_agreeWith 46 = .ok (.iload_n 3, 1) := by decide +kernel
theorem dX1_agreeWith_47 : decode cX1_agreeWith 47 = .ok (.ifCond .lt 40, 3) := by decide +kernel
theorem dX1_agreeWith_50 : decode cX1_agreeWith 50 = .ok (.iload_n 3, 1) := by decide +kernel
theorem dX1_agreeWith_51 : decode cX1_agreeWith 51 = .ok (.bipush 6, 2) := by decide +kernel
theorem dX1_agreeWith_53 : decode cX1_agreeWith 53 = .ok (.if_icmp .ge 34, 3) := by decide +kernel
theorem dX1_agreeWith_56 : decode cX1_agreeWith 56 = .ok (.aload_n 1, 1) := by decide +kernel
theorem dX1_agreeWith_57 : decode cX1_agreeWith 57 = .ok (.getfield 57, 3) := by decide +kernel
theorem dX1_agreeWith_60 : decode cX1_agreeWith 60 = .ok (.iload_n 3, 1) := by decide +kernel
theorem dX1_agreeWith_61 : decode cX1_agreeWith 61 = .ok (.iaload, 1) := by decide +kernel
theorem dX1_agreeWith_62 : decode cX1_agreeWith 62 = .ok (.aload_n 0, 1) := by decide +kernel
theorem dX1_agreeWith_63 : decode cX1_agreeWith 63 = .ok (.getfield 18, 3) := by decide +kernel
theorem dX1_agreeWith_66 : decode cX1_agreeWith 66 = .ok (.iload_n 2, 1) := by decide +kernel
theorem dX1_agreeWith_67 : decode cX1_agreeWith 67 = .ok (.iaload, 1) := by decide +kernel
theorem dX1_agreeWith_68 : decode cX1_agreeWith 68 = .ok (.if_icmp .lt 7, 3) := by decide +kernel
theorem dX1_agreeWith_71 : decode cX1_agreeWith 71 = .ok (.iconst 1, 1) := by decide +kernel
theorem dX1_agreeWith_72 : decode cX1_agreeWith 72 = .ok (.goto 4, 3) := by decide +kernel
theorem dX1_agreeWith_75 : decode cX1_agreeWith 75 = .ok (.iconst 0, 1) := by decide +kernel
theorem dX1_agreeWith_76 : decode cX1_agreeWith 76 = .ok (.aload_n 0, 1) := by decide +kernel
theorem dX1_agreeWith_77 : decode cX1_agreeWith 77 = .ok (.getfield 21, 3) := by decide +kernel
theorem dX1_agreeWith_80 : decode cX1_agreeWith 80 = .ok (.iload_n 2, 1) := by decide +kernel
theorem dX1_agreeWith_81 : decode cX1_agreeWith 81 = .ok (.baload, 1) := by decide +kernel
theorem dX1_agreeWith_82 : decode cX1_agreeWith 82 = .ok (.if_icmp .eq 5, 3) := by decide +kernel
theorem dX1_agreeWith_85 : decode cX1_agreeWith 85 = .ok (.iconst 0, 1) := by decide +kernel
theorem dX1_agreeWith_86 : decode cX1_agreeWith 86 = .ok (.ireturn, 1) := by decide +kernel
theorem dX1_agreeWith_87 : decode cX1_agreeWith 87 = .ok (.iinc 2 1, 3) := by decide +kernel
theorem dX1_agreeWith_90 : decode cX1_agreeWith 90 = .ok (.goto (-88), 3) := by decide +kernel
theorem dX1_agreeWith_93 : decode cX1_agreeWith 93 = .ok (.iconst 1, 1) := by decide +kernel
theorem dX1_agreeWith_94 : decode cX1_agreeWith 94 = .ok (.ireturn, 1) := by decide +kernel
theorem dX2_init_0 : decode cX2_init 0 = .ok (.aload_n 0, 1) := by decide +kernel
theorem dX2_init_1 : decode cX2_init 1 = .ok (.invokespecial 3, 3) := by decide +kernel
theorem dX2_init_4 : decode cX2_init 4 = .ok (.aload_n 0, 1) := by decide +kernel
theorem dX2_init_5 : decode cX2_init 5 = .ok (.new 9, 3) := by decide +kernel
theorem dX2_init_8 : decode cX2_init 8 = .ok (.dup, 1) := by decide +kernel
theorem dX2_init_9 : decode cX2_init 9 = .ok (.invokespecial 11, 3) := by decide +kernel
theorem dX2_init_12 : decode cX2_init 12 = .ok (.putfield 12, 3) := by decide +kernel
theorem dX2_init_15 : decode cX2_init 15 = .ok (.aload_n 0, 1) := by decide +kernel
theorem dX2_init_16 : decode cX2_init 16 = .ok (.bipush 10, 2) := by decide +kernel
theorem dX2_init_18 : decode cX2_init 18 = .ok (.newarray .long, 2) := by decide +kernel
theorem dX2_init_20 : decode cX2_init 20 = .ok (.putfield 18, 3) := by decide +kernel
theorem dX2_init_23 : decode cX2_init 23 = .ok (.return_, 1) := by decide +kernel
theorem dX2_find_0 : decode cX2_find 0 = .ok (.aload_n 0, 1) := by decide +kernel
theorem dX2_find_1 : decode cX2_find 1 = .ok (.iconst 0, 1) := by decide +kernel
theorem dX2_find_2 : decode cX2_find 2 = .ok (.putfield 22, 3) := by decide +kernel
theorem dX2_find_5 : decode cX2_find 5 = .ok (.aload_n 1, 1) := by decide +kernel
theorem dX2_find_6 : decode cX2_find 6 = .ok (.iload 4, 2) := by decide +kernel
theorem dX2_find_8 : decode cX2_find 8 = .ok (.invokevirtual 26, 3) := by decide +kernel
theorem dX2_find_11 : decode cX2_find 11 = .ok (.ifCond .ne 8, 3) := by decide +kernel
theorem dX2_find_14 : decode cX2_find 14 = .ok (.aload_n 0, 1) := by decide +kernel
theorem dX2_find_15 : decode cX2_find 15 = .ok (.getfield 22, 3) := by decide +kernel
theorem dX2_find_18 : decode cX2_find 18 = .ok (.ireturn, 1) := by decide +kernel
theorem dX2_find_19 : decode cX2_find 19 = .ok (.iconst 0, 1) := by decide +kernel
theorem dX2_find_20 : decode cX2_find 20 = .ok (.istore 6, 2) := by decide +kernel
theorem dX2_find_22 : decode cX2_find 22 = .ok (.iload 6, 2) := by decide +kernel
theorem dX2_find_24 : decode cX2_find 24 = .ok (.bipush 10, 2) := by decide +kernel
theorem dX2_find_26 : decode cX2_find 26 = .ok (.if_icmp .ge 133, 3) := by decide +kernel
theorem dX2_find_29 : decode cX2_find 29 = .ok (.aload_n 0, 1) := by decide +kernel
theorem dX2_find_30 : decode cX2_find 30 = .ok (.getfield 12, 3) := by decide +kernel
theorem dX2_find_33 : decode cX2_find 33 = .ok (.aload_n 1, 1) := by decide +kernel
theorem dX2_find_34 : decode cX2_find 34 = .ok (.invokevirtual 32, 3) := by decide +kernel
theorem dX2_find_37 : decode cX2_find 37 = .ok (.aload_n 0, 1) := by decide +kernel
theorem dX2_find_38 : decode cX2_find 38 = .ok (.getfield 12, 3) := by decide +kernel
theorem dX2_find_41 : decode cX2_find 41 = .ok (.getfield 36, 3) := by decide +kernel
theorem dX2_find_44 : decode cX2_find 44 = .ok (.iload 4, 2) := by decide +kernel
theorem dX2_find_46 : decode cX2_find 46 = .ok (.bipush 10, 2) := by decide +kernel
theorem dX2_find_48 : decode cX2_find 48 = .ok (.iload 6, 2) := by decide +kernel
theorem dX2_find_50 : decode cX2_find 50 = .ok (.imul, 1) := by decide +kernel
theorem dX2_find_51 : decode cX2_find 51 = .ok (.iastore, 1) := by decide +kernel
theorem dX2_find_52 : decode cX2_find 52 = .ok (.aload_n 0, 1) := by decide +kernel
theorem dX2_find_53 : decode cX2_find 53 = .ok (.getfield 18, 3) := by decide +kernel
theorem dX2_find_56 : decode cX2_find 56 = .ok (.iload 6, 2) := by decide +kernel
theorem dX2_find_58 : decode cX2_find 58 = .ok (.lconst 0, 1) := by decide +kernel
theorem dX2_find_59 : decode cX2_find 59 = .ok (.lastore, 1) := by decide +kernel
theorem dX2_find_60 : decode cX2_find 60 = .ok (.iconst 1, 1) := by decide +kernel
theorem dX2_find_61 : decode cX2_find 61 = .ok (.istore 7, 2) := by decide +kernel
theorem dX2_find_63 : decode cX2_find 63 = .ok (.iconst 0, 1) := by decide +kernel
theorem dX2_find_64 : decode cX2_find 64 = .ok (.istore 8, 2) := by decide +kernel
theorem dX2_find_66 : decode cX2_find 66 = .ok (.iload 8, 2) := by decide +kernel
theorem dX2_find_68 : decode cX2_find 68 = .ok (.iload 5, 2) := by decide +kernel
theorem dX2_find_70 : decode cX2_find 70 = .ok (.if_icmp .ge 65, 3) := by decide +kernel
theorem dX2_find_73 : decode cX2_find 73 = .ok (.iload 7, 2) := by decide +kernel
theorem dX2_find_75 : decode cX2_find 75 = .ok (.ifCond .eq 60, 3) := by decide +kernel
theorem dX2_find_78 : decode cX2_find 78 = .ok (.aload_n 2, 1) := by decide +kernel
theorem dX2_find_79 : decode cX2_find 79 = .ok (.aload_n 1, 1) := by decide +kernel
theorem dX2_find_80 : decode cX2_find 80 = .ok (.aload_n 0, 1) := by decide +kernel
theorem dX2_find_81 : decode cX2_find 81 = .ok (.getfield 12, 3) := by decide +kernel
theorem dX2_find_84 : decode cX2_find 84 = .ok (.invokevirtual 40, 3) := by decide +kernel
theorem dX2_find_87 : decode cX2_find 87 = .ok (.aload_n 3, 1) := by decide +kernel
theorem dX2_find_88 : decode cX2_find 88 = .ok (.aload_n 0, 1) := by decide +kernel
theorem dX2_find_89 : decode cX2_find 89 = .ok (.getfield 12, 3) := by decide +kernel
theorem dX2_find_92 : decode cX2_find 92 = .ok (.invokevirtual 46, 3) := by decide +kernel
theorem dX2_find_95 : decode cX2_find 95 = .ok (.istore 7, 2) := by decide +kernel
theorem dX2_find_97 : decode cX2_find 97 = .ok (.aload_n 0, 1) := by decide +kernel
theorem dX2_find_98 : decode cX2_find 98 = .ok (.getfield 12, 3) := by decide +kernel
theorem dX2_find_101 : decode cX2_find 101 = .ok (.getfield 52, 3) := by decide +kernel
theorem dX2_find_104 : decode cX2_find 104 = .ok (.iload 4, 2) := by decide +kernel
theorem dX2_find_106 : decode cX2_find 106 = .ok (.iaload, 1) := by decide +kernel
theorem dX2_find_107 : decode cX2_find 107 = .ok (.ifCond .lt 22, 3) := by decide +kernel
theorem dX2_find_110 : decode cX2_find 110 = .ok (.aload_n 0, 1) := by decide +kernel
theorem dX2_find_111 : decode cX2_find 111 = .ok (.getfield 18, 3) := by decide +kernel
theorem dX2_find_114 : decode cX2_find 114 = .ok (.iload 6, 2) := by decide +kernel
theorem dX2_find_116 : decode cX2_find 116 = .ok (.dup2, 1) := by decide +kernel
theorem dX2_find_117 : decode cX2_find 117 = .ok (.laload, 1) := by decide +kernel
theorem dX2_find_118 : decode cX2_find 118 = .ok (.lconst 1, 1) := by decide +kernel
theorem dX2_find_119 : decode cX2_find 119 = .ok (.aload_n 0, 1) := by decide +kernel
theorem dX2_find_120 : decode cX2_find 120 = .ok (.getfield 12, 3) := by decide +kernel
theorem dX2_find_123 : decode cX2_find 123 = .ok (.getfield 55, 3) := by decide +kernel
theorem dX2_find_126 : decode cX2_find 126 = .ok (.lshl, 1) := by decide +kernel
theorem dX2_find_127 : decode cX2_find 127 = .ok (.lor, 1) := by decide +kernel
theorem dX2_find_128 : decode cX2_find 128 = .ok (.lastore, 1) := by decide +kernel
theorem dX2_find_129 : decode cX2_find 129 = .ok (.iinc 8 1, 3) := by decide +kernel
theorem dX2_find_132 : decode cX2_find 132 = .ok (.goto (-66), 3) := by decide +kernel
theorem dX2_find_135 : decode cX2_find 135 = .ok (.iload 7, 2) := by decide +kernel
theorem dX2_find_137 : decode cX2_find 137 = .ok (.ifCond .eq 16, 3) := by decide +kernel
theorem dX2_find_140 : decode cX2_find 140 = .ok (.aload_n 0, 1) := by decide +kernel
theorem dX2_find_141 : decode cX2_find 141 = .ok (.dup, 1) := by decide +kernel
theorem dX2_find_142 : decode cX2_find 142 = .ok (.getfield 22, 3) := by decide +kernel
theorem dX2_find_145 : decode cX2_find 145 = .ok (.iconst 1, 1) := by decide +kernel
theorem dX2_find_146 : decode cX2_find 146 = .ok (.iload 6, 2) := by decide +kernel
theorem dX2_find_148 : decode cX2_find 148 = .ok (.ishl, 1) := by decide +kernel
theorem dX2_find_149 : decode cX2_find 149 = .ok (.ior, 1) := by decide +kernel
theorem dX2_find_150 : decode cX2_find 150 = .ok (.putfield 22, 3) := by decide +kernel
theorem dX2_find_153 : decode cX2_find 153 = .ok (.iinc 6 1, 3) := by decide +kernel
theorem dX2_find_156 : decode cX2_find 156 = .ok (.goto (-134), 3) := by decide +kernel
theorem dX2_find_159 : decode cX2_find 159 = .ok (.aload_n 0, 1) := by decide +kernel
theorem dX2_find_160 : decode cX2_find 160 = .ok (.getfield 22, 3) := by decide +kernel
theorem dX2_find_163 : decode cX2_find 163 = .ok (.ireturn, 1) := by decide +kernel
theorem dX2_findQuestion_0 : decode cX2_findQuestion 0 = .ok (.aload_n 0, 1) := by decide +kernel
theorem dX2_findQuestion_1 : decode cX2_findQuestion 1 = .ok (.getfield 22, 3) := by decide +kernel
theorem dX2_findQuestion_4 : decode cX2_findQuestion 4 = .ok (.invokestatic 58, 3) := by decide +kernel
theorem dX2_findQuestion_7 : decode cX2_findQuestion 7 = .ok (.istore_n 1, 1) := by decide +kernel
theorem dX2_findQuestion_8 : decode cX2_findQuestion 8 = .ok (.aload_n 0, 1) := by decide +kernel
theorem dX2_findQuestion_9 : decode cX2_findQuestion 9 = .ok (.iconst 1, 1) := by decide +kernel
theorem dX2_findQuestion_10 : decode cX2_findQuestion 10 = .ok (.putfield 64, 3) := by decide +kernel
theorem dX2_findQuestion_13 : decode cX2_findQuestion 13 = .ok (.aload_n 0, 1) := by decide +kernel
theorem dX2_findQuestion_14 : decode cX2_findQuestion 14 = .ok (.iload_n 1, 1) := by decide +kernel
theorem dX2_findQuestion_15 : decode cX2_findQuestion 15 = .ok (.putfield 67, 3) := by decide +kernel
theorem dX2_findQuestion_18 : decode cX2_findQuestion 18 = .ok (.iconst 1, 1) := by decide +kernel
theorem dX2_findQuestion_19 : decode cX2_findQuestion 19 = .ok (.istore_n 2, 1) := by decide +kernel
theorem dX2_findQuestion_20 : decode cX2_findQuestion 20 = .ok (.iload_n 2, 1) := by decide +kernel
theorem dX2_findQuestion_21 : decode cX2_findQuestion 21 = .ok (.bipush 60, 2) := by decide +kernel
theorem dX2_findQuestion_23 : decode cX2_findQuestion 23 = .ok (.if_icmp .gt 88, 3) := by decide +kernel
theorem dX2_findQuestion_26 : decode cX2_findQuestion 26 = .ok (.iconst 0, 1) := by decide +kernel
theorem dX2_findQuestion_27 : decode cX2_findQuestion 27 = .ok (.istore_n 3, 1) := by decide +kernel
theorem dX2_findQuestion_28 : decode cX2_findQuestion 28 = .ok (.iconst 0, 1) := by decide +kernel
theorem dX2_findQuestion_29 : decode cX2_findQuestion 29 = .ok (.istore 4, 2) := by decide +kernel
theorem dX2_findQuestion_31 : decode cX2_findQuestion 31 = .ok (.iload 4, 2) := by decide +kernel
theorem dX2_findQuestion_33 : decode cX2_findQuestion 33 = .ok (.bipush 10, 2) := by decide +kernel
theorem dX2_findQuestion_35 : decode cX2_findQuestion 35 = .ok (.if_icmp .ge 41, 3) := by decide +kernel
theorem dX2_findQuestion_38 : decode cX2_findQuestion 38 = .ok (.aload_n 0, 1) := by decide +kernel
theorem dX2_findQuestion_39 : decode cX2_findQuestion 39 = .ok (.getfield 22, 3) := by decide +kernel
theorem dX2_findQuestion_42 : decode cX2_findQuestion 42 = .ok (.iload 4, 2) := by decide +kernel
theorem dX2_findQuestion_44 : decode cX2_findQuestion 44 = .ok (.ishr, 1) := by decide +kernel
theorem dX2_findQuestion_45 : decode cX2_findQuestion 45 = .ok (.iconst 1, 1) := by decide +kernel
theorem dX2_findQuestion_46 : decode cX2_findQuestion 46 = .ok (.iand, 1) := by decide +kernel
theorem dX2_findQuestion_47 : decode cX2_findQuestion 47 = .ok (.iconst 1, 1) := by decide +kernel
theorem dX2_findQuestion_48 : decode cX2_findQuestion 48 = .ok (.if_icmp .ne 22, 3) := by decide +kernel
theorem dX2_findQuestion_51 : decode cX2_findQuestion 51 = .ok (.aload_n 0, 1) := by decide +kernel
theorem dX2_findQuestion_52 : decode cX2_findQuestion 52 = .ok (.getfield 18, 3) := by decide +kernel
theorem dX2_findQuestion_55 : decode cX2_findQuestion 55 = .ok (.iload 4, 2) := by decide +kernel
theorem dX2_findQuestion_57 : decode cX2_findQuestion 57 = .ok (.laload, 1) := by decide +kernel
theorem dX2_findQuestion_58 : decode cX2_findQuestion 58 = .ok (.iload_n 2, 1) := by decide +kernel
theorem dX2_findQuestion_59 : decode cX2_findQuestion 59 = .ok (.lshr, 1) := by decide +kernel
theorem dX2_findQuestion_60 : decode cX2_findQuestion 60 = .ok (.lconst 1, 1) := by decide +kernel
theorem dX2_findQuestion_61 : decode cX2_findQuestion 61 = .ok (.land, 1) := by decide +kernel
theorem dX2_findQuestion_62 : decode cX2_findQuestion 62 = .ok (.lconst 1, 1) := by decide +kernel
theorem dX2_findQuestion_63 : decode cX2_findQuestion 63 = .ok (.lcmp, 1) := by decide +kernel
theorem dX2_findQuestion_64 : decode cX2_findQuestion 64 = .ok (.ifCond .ne 6, 3) := by decide +kernel
theorem dX2_findQuestion_67 : decode cX2_findQuestion 67 = .ok (.iinc 3 1, 3) := by decide +kernel
theorem dX2_findQuestion_70 : decode cX2_findQuestion 70 = .ok (.iinc 4 1, 3) := by decide +kernel
theorem dX2_findQuestion_73 : decode cX2_findQuestion 73 = .ok (.goto (-42), 3) := by decide +kernel
theorem dX2_findQuestion_76 : decode cX2_findQuestion 76 = .ok (.iload_n 3, 1) := by decide +kernel
theorem dX2_findQuestion_77 : decode cX2_findQuestion 77 = .ok (.iload_n 1, 1) := by decide +kernel
theorem dX2_findQuestion_78 : decode cX2_findQuestion 78 = .ok (.iload_n 3, 1) := by decide +kernel
theorem dX2_findQuestion_79 : decode cX2_findQuestion 79 = .ok (.isub, 1) := by decide +kernel
theorem dX2_findQuestion_80 : decode cX2_findQuestion 80 = .ok (.invokestatic 70, 3) := by decide +kernel
theorem dX2_findQuestion_83 : decode cX2_findQuestion 83 = .ok (.istore 4, 2) := by decide +kernel
theorem dX2_findQuestion_85 : decode cX2_findQuestion 85 = .ok (.iload 4, 2) := by decide +kernel
theorem dX2_findQuestion_87 : decode cX2_findQuestion 87 = .ok (.aload_n 0, 1) := by decide +kernel
theorem dX2_findQuestion_88 : decode cX2_findQuestion 88 = .ok (.getfield 67, 3) := by decide +kernel
theorem dX2_findQuestion_91 : decode cX2_findQuestion 91 = .ok (.if_icmp .ge 14, 3) := by decide +kernel
theorem dX2_findQuestion_94 : decode cX2_findQuestion 94 = .ok (.aload_n 0, 1) := by decide +kernel
theorem dX2_findQuestion_95 : decode cX2_findQuestion 95 = .ok (.iload 4, 2) := by decide +kernel
theorem dX2_findQuestion_97 : decode cX2_findQuestion 97 = .ok (.putfield 67, 3) := by decide +kernel
theorem dX2_findQuestion_100 : decode cX2_findQuestion 100 = .ok (.aload_n 0, 1) := by decide +kernel
theorem dX2_findQuestion_101 : decode cX2_findQuestion 101 = .ok (.iload_n 2, 1) := by decide +kernel
theorem dX2_findQuestion_102 : decode cX2_findQuestion 102 = .ok (.putfield 64, 3) := by decide +kernel
theorem dX2_findQuestion_105 : decode cX2_findQuestion 105 = .ok (.iinc 2 1, 3) := by decide +kernel
theorem dX2_findQuestion_108 : decode cX2_findQuestion 108 = .ok (.goto (-88), 3) := by decide +kernel
theorem dX2_findQuestion_111 : decode cX2_findQuestion 111 = .ok (.return_, 1) := by decide +kernel
theorem dX3_init_0 : decode cX3_init 0 = .ok (.aload_n 0, 1) := by decide +kernel
theorem dX3_init_1 : decode cX3_init 1 = .ok (.invokespecial 3, 3) := by decide +kernel
theorem dX3_init_4 : decode cX3_init 4 = .ok (.aload_n 0, 1) := by decide +kernel
theorem dX3_init_5 : decode cX3_init 5 = .ok (.bipush 64, 2) := by decide +kernel
theorem dX3_init_7 : decode cX3_init 7 = .ok (.newarray .int, 2) := by decide +kernel
theorem dX3_init_9 : decode cX3_init 9 = .ok (.putfield 11, 3) := by decide +kernel
theorem dX3_init_12 : decode cX3_init 12 = .ok (.aload_n 0, 1) := by decide +kernel
theorem dX3_init_13 : decode cX3_init 13 = .ok (.bipush 64, 2) := by decide +kernel
theorem dX3_init_15 : decode cX3_init 15 = .ok (.newarray .int, 2) := by decide +kernel
theorem dX3_init_17 : decode cX3_init 17 = .ok (.putfield 15, 3) := by decide +kernel
theorem dX3_init_20 : decode cX3_init 20 = .ok (.aload_n 0, 1) := by decide +kernel
theorem dX3_init_21 : decode cX3_init 21 = .ok (.iconst 3, 1) := by decide +kernel
theorem dX3_init_22 : decode cX3_init 22 = .ok (.newarray .int, 2) := by decide +kernel
theorem dX3_init_24 : decode cX3_init 24 = .ok (.putfield 18, 3) := by decide +kernel
theorem dX3_init_27 : decode cX3_init 27 = .ok (.aload_n 0, 1) := by decide +kernel
theorem dX3_init_28 : decode cX3_init 28 = .ok (.iconst 3, 1) := by decide +kernel
theorem dX3_init_29 : decode cX3_init 29 = .ok (.newarray .int, 2) := by decide +kernel
theorem dX3_init_31 : decode cX3_init 31 = .ok (.putfield 21, 3) := by decide +kernel
theorem dX3_init_34 : decode cX3_init 34 = .ok (.aload_n 0, 1) := by decide +kernel
theorem dX3_init_35 : decode cX3_init 35 = .ok (.bipush 7, 2) := by decide +kernel
theorem dX3_init_37 : decode cX3_init 37 = .ok (.newarray .long, 2) := by decide +kernel
theorem dX3_init_39 : decode cX3_init 39 = .ok (.putfield 24, 3) := by decide +kernel
theorem dX3_init_42 : decode cX3_init 42 = .ok (.aload_n 0, 1) := by decide +kernel
theorem dX3_init_43 : decode cX3_init 43 = .ok (.bipush 64, 2) := by decide +kernel
theorem dX3_init_45 : decode cX3_init 45 = .ok (.newarray .long, 2) := by decide +kernel
theorem dX3_init_47 : decode cX3_init 47 = .ok (.putfield 28, 3) := by decide +kernel
theorem dX3_init_50 : decode cX3_init 50 = .ok (.return_, 1) := by decide +kernel
theorem dX3_forget_0 : decode cX3_forget 0 = .ok (.aload_n 0, 1) := by decide +kernel
theorem dX3_forget_1 : decode cX3_forget 1 = .ok (.iconst 0, 1) := by decide +kernel
theorem dX3_forget_2 : decode cX3_forget 2 = .ok (.putfield 31, 3) := by decide +kernel
theorem dX3_forget_5 : decode cX3_forget 5 = .ok (.aload_n 0, 1) := by decide +kernel
theorem dX3_forget_6 : decode cX3_forget 6 = .ok (.iconst 0, 1) := by decide +kernel
theorem dX3_forget_7 : decode cX3_forget 7 = .ok (.putfield 35, 3) := by decide +kernel
theorem dX3_forget_10 : decode cX3_forget 10 = .ok (.iconst 0, 1) := by decide +kernel
theorem dX3_forget_11 : decode cX3_forget 11 = .ok (.istore_n 1, 1) := by decide +kernel
theorem dX3_forget_12 : decode cX3_forget 12 = .ok (.iload_n 1, 1) := by decide +kernel
theorem dX3_forget_13 : decode cX3_forget 13 = .ok (.iconst 2, 1) := by decide +kernel
theorem dX3_forget_14 : decode cX3_forget 14 = .ok (.if_icmp .gt 23, 3) := by decide +kernel
theorem dX3_forget_17 : decode cX3_forget 17 = .ok (.aload_n 0, 1) := by decide +kernel
theorem dX3_forget_18 : decode cX3_forget 18 = .ok (.getfield 18, 3) := by decide +kernel
theorem dX3_forget_21 : decode cX3_forget 21 = .ok (.iload_n 1, 1) := by decide +kernel
theorem dX3_forget_22 : decode cX3_forget 22 = .ok (.iconst 0, 1) := by decide +kernel
theorem dX3_forget_23 : decode cX3_forget 23 = .ok (.iastore, 1) := by decide +kernel
theorem dX3_forget_24 : decode cX3_forget 24 = .ok (.aload_n 0, 1) := by decide +kernel
theorem dX3_forget_25 : decode cX3_forget 25 = .ok (.getfield 21, 3) := by decide +kernel
theorem dX3_forget_28 : decode cX3_forget 28 = .ok (.iload_n 1, 1) := by decide +kernel
theorem dX3_forget_29 : decode cX3_forget 29 = .ok (.iconst 0, 1) := by decide +kernel
theorem dX3_forget_30 : decode cX3_forget 30 = .ok (.iastore, 1) := by decide +kernel
theorem dX3_forget_31 : decode cX3_forget 31 = .ok (.iinc 1 1, 3) := by decide +kernel
theorem dX3_forget_34 : decode cX3_forget 34 = .ok (.goto (-22), 3) := by decide +kernel
theorem dX3_forget_37 : decode cX3_forget 37 = .ok (.return_, 1) := by decide +kernel
theorem dX3_isTold_0 : decode cX3_isTold 0 = .ok (.iload_n 1, 1) := by decide +kernel
theorem dX3_isTold_1 : decode cX3_isTold 1 = .ok (.ifCond .lt 27, 3) := by decide +kernel
theorem dX3_isTold_4 : decode cX3_isTold 4 = .ok (.iload_n 1, 1) := by decide +kernel
theorem dX3_isTold_5 : decode cX3_isTold 5 = .ok (.iconst 2, 1) := by decide +kernel
theorem dX3_isTold_6 : decode cX3_isTold 6 = .ok (.if_icmp .gt 22, 3) := by decide +kernel
theorem dX3_isTold_9 : decode cX3_isTold 9 = .ok (.aload_n 0, 1) := by decide +kernel
theorem dX3_isTold_10 : decode cX3_isTold 10 = .ok (.getfield 21, 3) := by decide +kernel
theorem dX3_isTold_13 : decode cX3_isTold 13 = .ok (.iload_n 1, 1) := by decide +kernel
theorem dX3_isTold_14 : decode cX3_isTold 14 = .ok (.iaload, 1) := by decide +kernel
theorem dX3_isTold_15 : decode cX3_isTold 15 = .ok (.aload_n 0, 1) := by decide +kernel
theorem dX3_isTold_16 : decode cX3_isTold 16 = .ok (.getfield 18, 3) := by decide +kernel
theorem dX3_isTold_19 : decode cX3_isTold 19 = .ok (.iload_n 1, 1) := by decide +kernel
theorem dX3_isTold_20 : decode cX3_isTold 20 = .ok (.iaload, 1) := by decide +kernel
theorem dX3_isTold_21 : decode cX3_isTold 21 = .ok (.if_icmp .le 7, 3) := by decide +kernel
theorem dX3_isTold_24 : decode cX3_isTold 24 = .ok (.iconst 1, 1) := by decide +kernel
theorem dX3_isTold_25 : decode cX3_isTold 25 = .ok (.goto 4, 3) := by decide +kernel
theorem dX3_isTold_28 : decode cX3_isTold 28 = .ok (.iconst 0, 1) := by decide +kernel
theorem dX3_isTold_29 : decode cX3_isTold 29 = .ok (.ireturn, 1) := by decide +kernel
theorem dX3_put_0 : decode cX3_put 0 = .ok (.aload_n 0, 1) := by decide +kernel
theorem dX3_put_1 : decode cX3_put 1 = .ok (.getfield 35, 3) := by decide +kernel
theorem dX3_put_4 : decode cX3_put 4 = .ok (.ifCond .lt 42, 3) := by decide +kernel
theorem dX3_put_7 : decode cX3_put 7 = .ok (.aload_n 0, 1) := by decide +kernel
theorem dX3_put_8 : decode cX3_put 8 = .ok (.getfield 35, 3) := by decide +kernel
theorem dX3_put_11 : decode cX3_put 11 = .ok (.bipush 64, 2) := by decide +kernel
theorem dX3_put_13 : decode cX3_put 13 = .ok (.if_icmp .ge 33, 3) := by decide +kernel
theorem dX3_put_16 : decode cX3_put 16 = .ok (.aload_n 0, 1) := by decide +kernel
theorem dX3_put_17 : decode cX3_put 17 = .ok (.getfield 11, 3) := by decide +kernel
theorem dX3_put_20 : decode cX3_put 20 = .ok (.aload_n 0, 1) := by decide +kernel
theorem dX3_put_21 : decode cX3_put 21 = .ok (.getfield 35, 3) := by decide +kernel
theorem dX3_put_24 : decode cX3_put 24 = .ok (.iload_n 1, 1) := by decide +kernel
theorem dX3_put_25 : decode cX3_put 25 = .ok (.iastore, 1) := by decide +kernel
theorem dX3_put_26 : decode cX3_put 26 = .ok (.aload_n 0, 1) := by decide +kernel
theorem dX3_put_27 : decode cX3_put 27 = .ok (.getfield 15, 3) := by decide +kernel
theorem dX3_put_30 : decode cX3_put 30 = .ok (.aload_n 0, 1) := by decide +kernel
theorem dX3_put_31 : decode cX3_put 31 = .ok (.getfield 35, 3) := by decide +kernel
theorem dX3_put_34 : decode cX3_put 34 = .ok (.iload_n 2, 1) := by decide +kernel
theorem dX3_put_35 : decode cX3_put 35 = .ok (.iastore, 1) := by decide +kernel
theorem dX3_put_36 : decode cX3_put 36 = .ok (.aload_n 0, 1) := by decide +kernel
theorem dX3_put_37 : decode cX3_put 37 = .ok (.dup, 1) := by decide +kernel
theorem dX3_put_38 : decode cX3_put 38 = .ok (.getfield 35, 3) := by decide +kernel
theorem dX3_put_41 : decode cX3_put 41 = .ok (.iconst 1, 1) := by decide +kernel
theorem dX3_put_42 : decode cX3_put 42 = .ok (.iadd, 1) := by decide +kernel
theorem dX3_put_43 : decode cX3_put 43 = .ok (.putfield 35, 3) := by decide +kernel
theorem dX3_put_46 : decode cX3_put 46 = .ok (.return_, 1) := by decide +kernel
theorem dX3_close_0 : decode cX3_close 0 = .ok (.iload_n 1, 1) := by decide +kernel
theorem dX3_close_1 : decode cX3_close 1 = .ok (.ifCond .lt 25, 3) := by decide +kernel
theorem dX3_close_4 : decode cX3_close 4 = .ok (.iload_n 1, 1) := by decide +kernel
theorem dX3_close_5 : decode cX3_close 5 = .ok (.iconst 2, 1) := by decide +kernel
theorem dX3_close_6 : decode cX3_close 6 = .ok (.if_icmp .gt 20, 3) := by decide +kernel
theorem dX3_close_9 : decode cX3_close 9 = .ok (.aload_n 0, 1) := by decide +kernel
theorem dX3_close_10 : decode cX3_close 10 = .ok (.getfield 18, 3) := by decide +kernel
theorem dX3_close_13 : decode cX3_close 13 = .ok (.iload_n 1, 1) := by decide +kernel
theorem dX3_close_14 : decode cX3_close 14 = .ok (.iload_n 2, 1) := by decide +kernel
theorem dX3_close_15 : decode cX3_close 15 = .ok (.iastore, 1) := by decide +kernel
theorem dX3_close_16 : decode cX3_close 16 = .ok (.aload_n 0, 1) := by decide +kernel
theorem dX3_close_17 : decode cX3_close 17 = .ok (.getfield 21, 3) := by decide +kernel
theorem dX3_close_20 : decode cX3_close 20 = .ok (.iload_n 1, 1) := by decide +kernel
theorem dX3_close_21 : decode cX3_close 21 = .ok (.aload_n 0, 1) := by decide +kernel
theorem dX3_close_22 : decode cX3_close 22 = .ok (.getfield 35, 3) := by decide +kernel
theorem dX3_close_25 : decode cX3_close 25 = .ok (.iastore, 1) := by decide +kernel
theorem dX3_close_26 : decode cX3_close 26 = .ok (.return_, 1) := by decide +kernel
theorem dX3_worth_0 : decode cX3_worth 0 = .ok (.aload_n 0, 1) := by decide +kernel
theorem dX3_worth_1 : decode cX3_worth 1 = .ok (.iload_n 1, 1) := by decide +kernel
theorem dX3_worth_2 : decode cX3_worth 2 = .ok (.invokevirtual 38, 3) := by decide +kernel
theorem dX3_worth_5 : decode cX3_worth 5 = .ok (.ifCond .ne 7, 3) := by decide +kernel
theorem dX3_worth_8 : decode cX3_worth 8 = .ok (.ldc2_w 42, 3) := by decide +kernel
theorem dX3_worth_11 : decode cX3_worth 11 = .ok (.lreturn, 1) := by decide +kernel
theorem dX3_worth_12 : decode cX3_worth 12 = .ok (.iconst 0, 1) := by decide +kernel
theorem dX3_worth_13 : decode cX3_worth 13 = .ok (.istore_n 2, 1) := by decide +kernel
theorem dX3_worth_14 : decode cX3_worth 14 = .ok (.aload_n 0, 1) := by decide +kernel
theorem dX3_worth_15 : decode cX3_worth 15 = .ok (.getfield 18, 3) := by decide +kernel
theorem dX3_worth_18 : decode cX3_worth 18 = .ok (.iload_n 1, 1) := by decide +kernel
theorem dX3_worth_19 : decode cX3_worth 19 = .ok (.iaload, 1) := by decide +kernel
theorem dX3_worth_20 : decode cX3_worth 20 = .ok (.istore_n 3, 1) := by decide +kernel
theorem dX3_worth_21 : decode cX3_worth 21 = .ok (.iload_n 3, 1) := by decide +kernel
theorem dX3_worth_22 : decode cX3_worth 22 = .ok (.aload_n 0, 1) := by decide +kernel
theorem dX3_worth_23 : decode cX3_worth 23 = .ok (.getfield 21, 3) := by decide +kernel
theorem dX3_worth_26 : decode cX3_worth 26 = .ok (.iload_n 1, 1) := by decide +kernel
theorem dX3_worth_27 : decode cX3_worth 27 = .ok (.iaload, 1) := by decide +kernel
theorem dX3_worth_28 : decode cX3_worth 28 = .ok (.if_icmp .ge 193, 3) := by decide +kernel
theorem dX3_worth_31 : decode cX3_worth 31 = .ok (.iload_n 3, 1) := by decide +kernel
theorem dX3_worth_32 : decode cX3_worth 32 = .ok (.bipush 64, 2) := by decide +kernel
theorem dX3_worth_34 : decode cX3_worth 34 = .ok (.if_icmp .ge 187, 3) := by decide +kernel
theorem dX3_worth_37 : decode cX3_worth 37 = .ok (.aload_n 0, 1) := by decide +kernel
theorem dX3_worth_38 : decode cX3_worth 38 = .ok (.getfield 11, 3) := by decide +kernel
theorem dX3_worth_41 : decode cX3_worth 41 = .ok (.iload_n 3, 1) := by decide +kernel
theorem dX3_worth_42 : decode cX3_worth 42 = .ok (.iaload, 1) := by decide +kernel
theorem dX3_worth_43 : decode cX3_worth 43 = .ok (.istore 4, 2) := by decide +kernel
theorem dX3_worth_45 : decode cX3_worth 45 = .ok (.iload 4, 2) := by decide +kernel
theorem dX3_worth_47 : decode cX3_worth 47 = .ok (.bipush 14, 2) := by decide +kernel
theorem dX3_worth_49 : decode cX3_worth 49 = .ok (.if_icmp .lt 55, 3) := by decide +kernel
theorem dX3_worth_52 : decode cX3_worth 52 = .ok (.iload 4, 2) := by decide +kernel
theorem dX3_worth_54 : decode cX3_worth 54 = .ok (.bipush 21, 2) := by decide +kernel
theorem dX3_worth_56 : decode cX3_worth 56 = .ok (.if_icmp .gt 48, 3) := by decide +kernel
theorem dX3_worth_59 : decode cX3_worth 59 = .ok (.iload_n 2, 1) := by decide +kernel
theorem dX3_worth_60 : decode cX3_worth 60 = .ok (.bipush 64, 2) := by decide +kernel
theorem dX3_worth_62 : decode cX3_worth 62 = .ok (.if_icmp .ge 42, 3) := by decide +kernel
theorem dX3_worth_65 : decode cX3_worth 65 = .ok (.aload_n 0, 1) := by decide +kernel
theorem dX3_worth_66 : decode cX3_worth 66 = .ok (.getfield 28, 3) := by decide +kernel
theorem dX3_worth_69 : decode cX3_worth 69 = .ok (.iload_n 2, 1) := by decide +kernel
theorem dX3_worth_70 : decode cX3_worth 70 = .ok (.iload 4, 2) := by decide +kernel
theorem dX3_worth_72 : decode cX3_worth 72 = .ok (.bipush 21, 2) := by decide +kernel
theorem dX3_worth_74 : decode cX3_worth 74 = .ok (.if_icmp .ne 13, 3) := by decide +kernel
theorem dX3_worth_77 : decode cX3_worth 77 = .ok (.aload_n 0, 1) := by decide +kernel
theorem dX3_worth_78 : decode cX3_worth 78 = .ok (.getfield 15, 3) := by decide +kernel
theorem dX3_worth_81 : decode cX3_worth 81 = .ok (.iload_n 3, 1) := by decide +kernel
theorem dX3_worth_82 : decode cX3_worth 82 = .ok (.iaload, 1) := by decide +kernel
theorem dX3_worth_83 : decode cX3_worth 83 = .ok (.i2l, 1) := by decide +kernel
theorem dX3_worth_84 : decode cX3_worth 84 = .ok (.goto 13, 3) := by decide +kernel
theorem dX3_worth_87 : decode cX3_worth 87 = .ok (.aload_n 0, 1) := by decide +kernel
theorem dX3_worth_88 : decode cX3_worth 88 = .ok (.getfield 24, 3) := by decide +kernel
theorem dX3_worth_91 : decode cX3_worth 91 = .ok (.iload 4, 2) := by decide +kernel
theorem dX3_worth_93 : decode cX3_worth 93 = .ok (.bipush 14, 2) := by decide +kernel
theorem dX3_worth_95 : decode cX3_worth 95 = .ok (.isub, 1) := by decide +kernel
theorem dX3_worth_96 : decode cX3_worth 96 = .ok (.laload, 1) := by decide +kernel
theorem dX3_worth_97 : decode cX3_worth 97 = .ok (.lastore, 1) := by decide +kernel
theorem dX3_worth_98 : decode cX3_worth 98 = .ok (.iinc 2 1, 3) := by decide +kernel
theorem dX3_worth_101 : decode cX3_worth 101 = .ok (.goto 114, 3) := by decide +kernel
theorem dX3_worth_104 : decode cX3_worth 104 = .ok (.iload 4, 2) := by decide +kernel
theorem dX3_worth_106 : decode cX3_worth 106 = .ok (.bipush 13, 2) := by decide +kernel
theorem dX3_worth_108 : decode cX3_worth 108 = .ok (.if_icmp .ne 37, 3) := by decide +kernel
theorem dX3_worth_111 : decode cX3_worth 111 = .ok (.iload_n 2, 1) := by decide +kernel
theorem dX3_worth_112 : decode cX3_worth 112 = .ok (.iconst 1, 1) := by decide +kernel
theorem dX3_worth_113 : decode cX3_worth 113 = .ok (.if_icmp .lt 32, 3) := by decide +kernel
theorem dX3_worth_116 : decode cX3_worth 116 = .ok (.aload_n 0, 1) := by decide +kernel
theorem dX3_worth_117 : decode cX3_worth 117 = .ok (.getfield 28, 3) := by decide +kernel
theorem dX3_worth_120 : decode cX3_worth 120 = .ok (.iload_n 2, 1) := by decide +kernel
theorem dX3_worth_121 : decode cX3_worth 121 = .ok (.iconst 1, 1) := by decide +kernel
theorem dX3_worth_122 : decode cX3_worth 122 = .ok (.isub, 1) := by decide +kernel
theorem dX3_worth_123 : decode cX3_worth 123 = .ok (.aload_n 0, 1) := by decide +kernel
theorem dX3_worth_124 : decode cX3_worth 124 = .ok (.getfield 28, 3) := by decide +kernel
theorem dX3_worth_127 : decode cX3_worth 127 = .ok (.iload_n 2, 1) := by decide +kernel
theorem dX3_worth_128 : decode cX3_worth 128 = .ok (.iconst 1, 1) := by decide +kernel
theorem dX3_worth_129 : decode cX3_worth 129 = .ok (.isub, 1) := by decide +kernel
theorem dX3_worth_130 : decode cX3_worth 130 = .ok (.laload, 1) := by decide +kernel
theorem dX3_worth_131 : decode cX3_worth 131 = .ok (.lconst 0, 1) := by decide +kernel
theorem dX3_worth_132 : decode cX3_worth 132 = .ok (.lcmp, 1) := by decide +kernel
theorem dX3_worth_133 : decode cX3_worth 133 = .ok (.ifCond .ne 7, 3) := by decide +kernel
theorem dX3_worth_136 : decode cX3_worth 136 = .ok (.lconst 1, 1) := by decide +kernel
theorem dX3_worth_137 : decode cX3_worth 137 = .ok (.goto 4, 3) := by decide +kernel
theorem dX3_worth_140 : decode cX3_worth 140 = .ok (.lconst 0, 1) := by decide +kernel
theorem dX3_worth_141 : decode cX3_worth 141 = .ok (.lastore, 1) := by decide +kernel
theorem dX3_worth_142 : decode cX3_worth 142 = .ok (.goto 73, 3) := by decide +kernel
theorem dX3_worth_145 : decode cX3_worth 145 = .ok (.iload_n 2, 1) := by decide +kernel
theorem dX3_worth_146 : decode cX3_worth 146 = .ok (.iconst 2, 1) := by decide +kernel
theorem dX3_worth_147 : decode cX3_worth 147 = .ok (.if_icmp .lt 64, 3) := by decide +kernel
theorem dX3_worth_150 : decode cX3_worth 150 = .ok (.iload 4, 2) := by decide +kernel
theorem dX3_worth_152 : decode cX3_worth 152 = .ok (.aload_n 0, 1) := by decide +kernel
theorem dX3_worth_153 : decode cX3_worth 153 = .ok (.getfield 28, 3) := by decide +kernel
theorem dX3_worth_156 : decode cX3_worth 156 = .ok (.iload_n 2, 1) := by decide +kernel
theorem dX3_worth_157 : decode cX3_worth 157 = .ok (.iconst 2, 1) := by decide +kernel
theorem dX3_worth_158 : decode cX3_worth 158 = .ok (.isub, 1) := by decide +kernel
theorem dX3_worth_159 : decode cX3_worth 159 = .ok (.laload, 1) := by decide +kernel
theorem dX3_worth_160 : decode cX3_worth 160 = .ok (.aload_n 0, 1) := by decide +kernel
theorem dX3_worth_161 : decode cX3_worth 161 = .ok (.getfield 28, 3) := by decide +kernel
theorem dX3_worth_164 : decode cX3_worth 164 = .ok (.iload_n 2, 1) := by decide +kernel
theorem dX3_worth_165 : decode cX3_worth 165 = .ok (.iconst 1, 1) := by decide +kernel
theorem dX3_worth_166 : decode cX3_worth 166 = .ok (.isub, 1) := by decide +kernel
theorem dX3_worth_167 : decode cX3_worth 167 = .ok (.laload, 1) := by decide +kernel
theorem dX3_worth_168 : decode cX3_worth 168 = .ok (.invokestatic 46, 3) := by decide +kernel
theorem dX3_worth_171 : decode cX3_worth 171 = .ok (.lstore 5, 2) := by decide +kernel
theorem dX3_worth_173 : decode cX3_worth 173 = .ok (.lload 5, 2) := by decide +kernel
theorem dX3_worth_175 : decode cX3_worth 175 = .ok (.ldc2_w 50, 3) := by decide +kernel
theorem dX3_worth_178 : decode cX3_worth 178 = .ok (.lcmp, 1) := by decide +kernel
theorem dX3_worth_179 : decode cX3_worth 179 = .ok (.ifCond .gt 12, 3) := by decide +kernel
theorem dX3_worth_182 : decode cX3_worth 182 = .ok (.lload 5, 2) := by decide +kernel
theorem dX3_worth_184 : decode cX3_worth 184 = .ok (.ldc2_w 52, 3) := by decide +kernel
theorem dX3_worth_187 : decode cX3_worth 187 = .ok (.lcmp, 1) := by decide +kernel
theorem dX3_worth_188 : decode cX3_worth 188 = .ok (.ifCond .ge 7, 3) := by decide +kernel
theorem dX3_worth_191 : decode cX3_worth 191 = .ok (.ldc2_w 42, 3) := by decide +kernel
theorem dX3_worth_194 : decode cX3_worth 194 = .ok (.lreturn, 1) := by decide +kernel
theorem dX3_worth_195 : decode cX3_worth 195 = .ok (.iinc 2 (-1), 3) := by decide +kernel
theorem dX3_worth_198 : decode cX3_worth 198 = .ok (.aload_n 0, 1) := by decide +kernel
theorem dX3_worth_199 : decode cX3_worth 199 = .ok (.getfield 28, 3) := by decide +kernel
theorem dX3_worth_202 : decode cX3_worth 202 = .ok (.iload_n 2, 1) := by decide +kernel
theorem dX3_worth_203 : decode cX3_worth 203 = .ok (.iconst 1, 1) := by decide +kernel
theorem dX3_worth_204 : decode cX3_worth 204 = .ok (.isub, 1) := by decide +kernel
theorem dX3_worth_205 : decode cX3_worth 205 = .ok (.lload 5, 2) := by decide +kernel
theorem dX3_worth_207 : decode cX3_worth 207 = .ok (.lastore, 1) := by decide +kernel
theorem dX3_worth_208 : decode cX3_worth 208 = .ok (.goto 7, 3) := by decide +kernel
theorem dX3_worth_211 : decode cX3_worth 211 = .ok (.ldc2_w 42, 3) := by decide +kernel
theorem dX3_worth_214 : decode cX3_worth 214 = .ok (.lreturn, 1) := by decide +kernel
theorem dX3_worth_215 : decode cX3_worth 215 = .ok (.iinc 3 1, 3) := by decide +kernel
theorem dX3_worth_218 : decode cX3_worth 218 = .ok (.goto (-197), 3) := by decide +kernel
theorem dX3_worth_221 : decode cX3_worth 221 = .ok (.iload_n 2, 1) := by decide +kernel
theorem dX3_worth_222 : decode cX3_worth 222 = .ok (.iconst 1, 1) := by decide +kernel
theorem dX3_worth_223 : decode cX3_worth 223 = .ok (.if_icmp .ne 12, 3) := by decide +kernel
theorem dX3_worth_226 : decode cX3_worth 226 = .ok (.aload_n 0, 1) := by decide +kernel
theorem dX3_worth_227 : decode cX3_worth 227 = .ok (.getfield 28, 3) := by decide +kernel
theorem dX3_worth_230 : decode cX3_worth 230 = .ok (.iconst 0, 1) := by decide +kernel
theorem dX3_worth_231 : decode cX3_worth 231 = .ok (.laload, 1) := by decide +kernel
theorem dX3_worth_232 : decode cX3_worth 232 = .ok (.goto 6, 3) := by decide +kernel
theorem dX3_worth_235 : decode cX3_worth 235 = .ok (.ldc2_w 42, 3) := by decide +kernel
theorem dX3_worth_238 : decode cX3_worth 238 = .ok (.lreturn, 1) := by decide +kernel
theorem dX3_joined_0 : decode cX3_joined 0 = .ok (.iload_n 0, 1) := by decide +kernel
theorem dX3_joined_1 : decode cX3_joined 1 = .ok (.tableswitch 294 11 34 #[111, 129, 294, 294, 294, 294, 294, 294, 294, 294, 294, 294, 294, 294, 147, 159, 171, 183, 195, 207, 219, 223, 227, 278], 111) := by decide +kernel
theorem dX3_joined_112 : decode cX3_joined 112 = .ok (.lload_n 1, 1) := by decide +kernel
theorem dX3_joined_113 : decode cX3_joined 113 = .ok (.lconst 0, 1) := by decide +kernel
theorem dX3_joined_114 : decode cX3_joined 114 = .ok (.lcmp, 1) := by decide +kernel
theorem dX3_joined_115 : decode cX3_joined 115 = .ok (.ifCond .ne 9, 3) := by decide +kernel
theorem dX3_joined_118 : decode cX3_joined 118 = .ok (.lload_n 3, 1) := by decide +kernel
theorem dX3_joined_119 : decode cX3_joined 119 = .ok (.lconst 0, 1) := by decide +kernel
theorem dX3_joined_120 : decode cX3_joined 120 = .ok (.lcmp, 1) := by decide +kernel
theorem dX3_joined_121 : decode cX3_joined 121 = .ok (.ifCond .eq 7, 3) := by decide +kernel
theorem dX3_joined_124 : decode cX3_joined 124 = .ok (.lconst 1, 1) := by decide +kernel
theorem dX3_joined_125 : decode cX3_joined 125 = .ok (.goto 4, 3) := by decide +kernel
theorem dX3_joined_128 : decode cX3_joined 128 = .ok (.lconst 0, 1) := by decide +kernel
theorem dX3_joined_129 : decode cX3_joined 129 = .ok (.lreturn, 1) := by decide +kernel
theorem dX3_joined_130 : decode cX3_joined 130 = .ok (.lload_n 1, 1) := by decide +kernel
theorem dX3_joined_131 : decode cX3_joined 131 = .ok (.lconst 0, 1) := by decide +kernel
theorem dX3_joined_132 : decode cX3_joined 132 = .ok (.lcmp, 1) := by decide +kernel
theorem dX3_joined_133 : decode cX3_joined 133 = .ok (.ifCond .eq 13, 3) := by decide +kernel
theorem dX3_joined_136 : decode cX3_joined 136 = .ok (.lload_n 3, 1) := by decide +kernel
theorem dX3_joined_137 : decode cX3_joined 137 = .ok (.lconst 0, 1) := by decide +kernel
theorem dX3_joined_138 : decode cX3_joined 138 = .ok (.lcmp, 1) := by decide +kernel
theorem dX3_joined_139 : decode cX3_joined 139 = .ok (.ifCond .eq 7, 3) := by decide +kernel
theorem dX3_joined_142 : decode cX3_joined 142 = .ok (.lconst 1, 1) := by decide +kernel
theorem dX3_joined_143 : decode cX3_joined 143 = .ok (.goto 4, 3) := by decide +kernel
theorem dX3_joined_146 : decode cX3_joined 146 = .ok (.lconst 0, 1) := by decide +kernel
theorem dX3_joined_147 : decode cX3_joined 147 = .ok (.lreturn, 1) := by decide +kernel
theorem dX3_joined_148 : decode cX3_joined 148 = .ok (.lload_n 1, 1) := by decide +kernel
theorem dX3_joined_149 : decode cX3_joined 149 = .ok (.lload_n 3, 1) := by decide +kernel
theorem dX3_joined_150 : decode cX3_joined 150 = .ok (.lcmp, 1) := by decide +kernel
theorem dX3_joined_151 : decode cX3_joined 151 = .ok (.ifCond .ge 7, 3) := by decide +kernel
theorem dX3_joined_154 : decode cX3_joined 154 = .ok (.lconst 1, 1) := by decide +kernel
theorem dX3_joined_155 : decode cX3_joined 155 = .ok (.goto 4, 3) := by decide +kernel
theorem dX3_joined_158 : decode cX3_joined 158 = .ok (.lconst 0, 1) := by decide +kernel
theorem dX3_joined_159 : decode cX3_joined 159 = .ok (.lreturn, 1) := by decide +kernel
theorem dX3_joined_160 : decode cX3_joined 160 = .ok (.lload_n 1, 1) := by decide +kernel
theorem dX3_joined_161 : decode cX3_joined 161 = .ok (.lload_n 3, 1) := by decide +kernel
theorem dX3_joined_162 : decode cX3_joined 162 = .ok (.lcmp, 1) := by decide +kernel
theorem dX3_joined_163 : decode cX3_joined 163 = .ok (.ifCond .gt 7, 3) := by decide +kernel
theorem dX3_joined_166 : decode cX3_joined 166 = .ok (.lconst 1, 1) := by decide +kernel
theorem dX3_joined_167 : decode cX3_joined 167 = .ok (.goto 4, 3) := by decide +kernel
theorem dX3_joined_170 : decode cX3_joined 170 = .ok (.lconst 0, 1) := by decide +kernel
theorem dX3_joined_171 : decode cX3_joined 171 = .ok (.lreturn, 1) := by decide +kernel
theorem dX3_joined_172 : decode cX3_joined 172 = .ok (.lload_n 1, 1) := by decide +kernel
theorem dX3_joined_173 : decode cX3_joined 173 = .ok (.lload_n 3, 1) := by decide +kernel
theorem dX3_joined_174 : decode cX3_joined 174 = .ok (.lcmp, 1) := by decide +kernel
theorem dX3_joined_175 : decode cX3_joined 175 = .ok (.ifCond .ne 7, 3) := by decide +kernel
theorem dX3_joined_178 : decode cX3_joined 178 = .ok (.lconst 1, 1) := by decide +kernel
theorem dX3_joined_179 : decode cX3_joined 179 = .ok (.goto 4, 3) := by decide +kernel
theorem dX3_joined_182 : decode cX3_joined 182 = .ok (.lconst 0, 1) := by decide +kernel
theorem dX3_joined_183 : decode cX3_joined 183 = .ok (.lreturn, 1) := by decide +kernel
theorem dX3_joined_184 : decode cX3_joined 184 = .ok (.lload_n 1, 1) := by decide +kernel
theorem dX3_joined_185 : decode cX3_joined 185 = .ok (.lload_n 3, 1) := by decide +kernel
theorem dX3_joined_186 : decode cX3_joined 186 = .ok (.lcmp, 1) := by decide +kernel
theorem dX3_joined_187 : decode cX3_joined 187 = .ok (.ifCond .eq 7, 3) := by decide +kernel
theorem dX3_joined_190 : decode cX3_joined 190 = .ok (.lconst 1, 1) := by decide +kernel
theorem dX3_joined_191 : decode cX3_joined 191 = .ok (.goto 4, 3) := by decide +kernel
theorem dX3_joined_194 : decode cX3_joined 194 = .ok (.lconst 0, 1) := by decide +kernel
theorem dX3_joined_195 : decode cX3_joined 195 = .ok (.lreturn, 1) := by decide +kernel
theorem dX3_joined_196 : decode cX3_joined 196 = .ok (.lload_n 1, 1) := by decide +kernel
theorem dX3_joined_197 : decode cX3_joined 197 = .ok (.lload_n 3, 1) := by decide +kernel
theorem dX3_joined_198 : decode cX3_joined 198 = .ok (.lcmp, 1) := by decide +kernel
theorem dX3_joined_199 : decode cX3_joined 199 = .ok (.ifCond .lt 7, 3) := by decide +kernel
theorem dX3_joined_202 : decode cX3_joined 202 = .ok (.lconst 1, 1) := by decide +kernel
theorem dX3_joined_203 : decode cX3_joined 203 = .ok (.goto 4, 3) := by decide +kernel
theorem dX3_joined_206 : decode cX3_joined 206 = .ok (.lconst 0, 1) := by decide +kernel
theorem dX3_joined_207 : decode cX3_joined 207 = .ok (.lreturn, 1) := by decide +kernel
theorem dX3_joined_208 : decode cX3_joined 208 = .ok (.lload_n 1, 1) := by decide +kernel
theorem dX3_joined_209 : decode cX3_joined 209 = .ok (.lload_n 3, 1) := by decide +kernel
theorem dX3_joined_210 : decode cX3_joined 210 = .ok (.lcmp, 1) := by decide +kernel
theorem dX3_joined_211 : decode cX3_joined 211 = .ok (.ifCond .le 7, 3) := by decide +kernel
theorem dX3_joined_214 : decode cX3_joined 214 = .ok (.lconst 1, 1) := by decide +kernel
theorem dX3_joined_215 : decode cX3_joined 215 = .ok (.goto 4, 3) := by decide +kernel
theorem dX3_joined_218 : decode cX3_joined 218 = .ok (.lconst 0, 1) := by decide +kernel
theorem dX3_joined_219 : decode cX3_joined 219 = .ok (.lreturn, 1) := by decide +kernel
theorem dX3_joined_220 : decode cX3_joined 220 = .ok (.lload_n 1, 1) := by decide +kernel
theorem dX3_joined_221 : decode cX3_joined 221 = .ok (.lload_n 3, 1) := by decide +kernel
theorem dX3_joined_222 : decode cX3_joined 222 = .ok (.ladd, 1) := by decide +kernel
theorem dX3_joined_223 : decode cX3_joined 223 = .ok (.lreturn, 1) := by decide +kernel
theorem dX3_joined_224 : decode cX3_joined 224 = .ok (.lload_n 1, 1) := by decide +kernel
theorem dX3_joined_225 : decode cX3_joined 225 = .ok (.lload_n 3, 1) := by decide +kernel
theorem dX3_joined_226 : decode cX3_joined 226 = .ok (.lsub, 1) := by decide +kernel
theorem dX3_joined_227 : decode cX3_joined 227 = .ok (.lreturn, 1) := by decide +kernel
theorem dX3_joined_228 : decode cX3_joined 228 = .ok (.lload_n 1, 1) := by decide +kernel
theorem dX3_joined_229 : decode cX3_joined 229 = .ok (.lconst 0, 1) := by decide +kernel
theorem dX3_joined_230 : decode cX3_joined 230 = .ok (.lcmp, 1) := by decide +kernel
theorem dX3_joined_231 : decode cX3_joined 231 = .ok (.ifCond .ne 5, 3) := by decide +kernel
theorem dX3_joined_234 : decode cX3_joined 234 = .ok (.lconst 0, 1) := by decide +kernel
theorem dX3_joined_235 : decode cX3_joined 235 = .ok (.lreturn, 1) := by decide +kernel
theorem dX3_joined_236 : decode cX3_joined 236 = .ok (.ldc2_w 50, 3) := by decide +kernel
theorem dX3_joined_239 : decode cX3_joined 239 = .ok (.lload_n 1, 1) := by decide +kernel
theorem dX3_joined_240 : decode cX3_joined 240 = .ok (.lconst 0, 1) := by decide +kernel
theorem dX3_joined_241 : decode cX3_joined 241 = .ok (.lcmp, 1) := by decide +kernel
theorem dX3_joined_242 : decode cX3_joined 242 = .ok (.ifCond .ge 8, 3) := by decide +kernel
theorem dX3_joined_245 : decode cX3_joined 245 = .ok (.lload_n 1, 1) := by decide +kernel
theorem dX3_joined_246 : decode cX3_joined 246 = .ok (.lneg, 1) := by decide +kernel
theorem dX3_joined_247 : decode cX3_joined 247 = .ok (.goto 4, 3) := by decide +kernel
theorem dX3_joined_250 : decode cX3_joined 250 = .ok (.lload_n 1, 1) := by decide +kernel
theorem dX3_joined_251 : decode cX3_joined 251 = .ok (.ldiv, 1) := by decide +kernel
theorem dX3_joined_252 : decode cX3_joined 252 = .ok (.lstore 5, 2) := by decide +kernel
theorem dX3_joined_254 : decode cX3_joined 254 = .ok (.lload_n 3, 1) := by decide +kernel
theorem dX3_joined_255 : decode cX3_joined 255 = .ok (.lload 5, 2) := by decide +kernel
theorem dX3_joined_257 : decode cX3_joined 257 = .ok (.lcmp, 1) := by decide +kernel
theorem dX3_joined_258 : decode cX3_joined 258 = .ok (.ifCond .gt 11, 3) := by decide +kernel
theorem dX3_joined_261 : decode cX3_joined 261 = .ok (.lload_n 3, 1) := by decide +kernel
theorem dX3_joined_262 : decode cX3_joined 262 = .ok (.lload 5, 2) := by decide +kernel
theorem dX3_joined_264 : decode cX3_joined 264 = .ok (.lneg, 1) := by decide +kernel
theorem dX3_joined_265 : decode cX3_joined 265 = .ok (.lcmp, 1) := by decide +kernel
theorem dX3_joined_266 : decode cX3_joined 266 = .ok (.ifCond .ge 9, 3) := by decide +kernel
theorem dX3_joined_269 : decode cX3_joined 269 = .ok (.ldc2_w 42, 3) := by decide +kernel
theorem dX3_joined_272 : decode cX3_joined 272 = .ok (.goto 6, 3) := by decide +kernel
theorem dX3_joined_275 : decode cX3_joined 275 = .ok (.lload_n 1, 1) := by decide +kernel
theorem dX3_joined_276 : decode cX3_joined 276 = .ok (.lload_n 3, 1) := by decide +kernel
theorem dX3_joined_277 : decode cX3_joined 277 = .ok (.lmul, 1) := by decide +kernel
theorem dX3_joined_278 : decode cX3_joined 278 = .ok (.lreturn, 1) := by decide +kernel
theorem dX3_joined_279 : decode cX3_joined 279 = .ok (.lload_n 3, 1) := by decide +kernel
theorem dX3_joined_280 : decode cX3_joined 280 = .ok (.lconst 0, 1) := by decide +kernel
theorem dX3_joined_281 : decode cX3_joined 281 = .ok (.lcmp, 1) := by decide +kernel
theorem dX3_joined_282 : decode cX3_joined 282 = .ok (.ifCond .ne 9, 3) := by decide +kernel
theorem dX3_joined_285 : decode cX3_joined 285 = .ok (.ldc2_w 42, 3) := by decide +kernel
theorem dX3_joined_288 : decode cX3_joined 288 = .ok (.goto 6, 3) := by decide +kernel
theorem dX3_joined_291 : decode cX3_joined 291 = .ok (.lload_n 1, 1) := by decide +kernel
theorem dX3_joined_292 : decode cX3_joined 292 = .ok (.lload_n 3, 1) := by decide +kernel
theorem dX3_joined_293 : decode cX3_joined 293 = .ok (.ldiv, 1) := by decide +kernel
theorem dX3_joined_294 : decode cX3_joined 294 = .ok (.lreturn, 1) := by decide +kernel
theorem dX3_joined_295 : decode cX3_joined 295 = .ok (.ldc2_w 42, 3) := by decide +kernel
theorem dX3_joined_298 : decode cX3_joined 298 = .ok (.lreturn, 1) := by decide +kernel
theorem dX4_init_0 : decode cX4_init 0 = .ok (.aload_n 0, 1) := by decide +kernel
theorem dX4_init_1 : decode cX4_init 1 = .ok (.invokespecial 3, 3) := by decide +kernel
theorem dX4_init_4 : decode cX4_init 4 = .ok (.aload_n 0, 1) := by decide +kernel
theorem dX4_init_5 : decode cX4_init 5 = .ok (.sipush 448, 3) := by decide +kernel
theorem dX4_init_8 : decode cX4_init 8 = .ok (.newarray .int, 2) := by decide +kernel
theorem dX4_init_10 : decode cX4_init 10 = .ok (.putfield 11, 3) := by decide +kernel
theorem dX4_init_13 : decode cX4_init 13 = .ok (.aload_n 0, 1) := by decide +kernel
theorem dX4_init_14 : decode cX4_init 14 = .ok (.bipush 36, 2) := by decide +kernel
theorem dX4_init_16 : decode cX4_init 16 = .ok (.newarray .boolean, 2) := by decide +kernel
theorem dX4_init_18 : decode cX4_init 18 = .ok (.putfield 15, 3) := by decide +kernel
theorem dX4_init_21 : decode cX4_init 21 = .ok (.aload_n 0, 1) := by decide +kernel
theorem dX4_init_22 : decode cX4_init 22 = .ok (.bipush 6, 2) := by decide +kernel
theorem dX4_init_24 : decode cX4_init 24 = .ok (.newarray .int, 2) := by decide +kernel
theorem dX4_init_26 : decode cX4_init 26 = .ok (.putfield 19, 3) := by decide +kernel
theorem dX4_init_29 : decode cX4_init 29 = .ok (.return_, 1) := by decide +kernel
theorem dX4_find_0 : decode cX4_find 0 = .ok (.aload_n 1, 1) := by decide +kernel
theorem dX4_find_1 : decode cX4_find 1 = .ok (.getfield 22, 3) := by decide +kernel
theorem dX4_find_4 : decode cX4_find 4 = .ok (.getfield 28, 3) := by decide +kernel
theorem dX4_find_7 : decode cX4_find 7 = .ok (.bipush 6, 2) := by decide +kernel
theorem dX4_find_9 : decode cX4_find 9 = .ok (.invokestatic 34, 3) := by decide +kernel
theorem dX4_find_12 : decode cX4_find 12 = .ok (.istore_n 3, 1) := by decide +kernel
theorem dX4_find_13 : decode cX4_find 13 = .ok (.aload_n 1, 1) := by decide +kernel
theorem dX4_find_14 : decode cX4_find 14 = .ok (.getfield 40, 3) := by decide +kernel
theorem dX4_find_17 : decode cX4_find 17 = .ok (.getfield 28, 3) := by decide +kernel
theorem dX4_find_20 : decode cX4_find 20 = .ok (.bipush 6, 2) := by decide +kernel
theorem dX4_find_22 : decode cX4_find 22 = .ok (.invokestatic 34, 3) := by decide +kernel
theorem dX4_find_25 : decode cX4_find 25 = .ok (.istore 4, 2) := by decide +kernel
theorem dX4_find_27 : decode cX4_find 27 = .ok (.iconst 0, 1) := by decide +kernel
theorem dX4_find_28 : decode cX4_find 28 = .ok (.istore 5, 2) := by decide +kernel
theorem dX4_find_30 : decode cX4_find 30 = .ok (.iload 5, 2) := by decide +kernel
theorem dX4_find_32 : decode cX4_find 32 = .ok (.aload_n 0, 1) := by decide +kernel
theorem dX4_find_33 : decode cX4_find 33 = .ok (.getfield 15, 3) := by decide +kernel
theorem dX4_find_36 : decode cX4_find 36 = .ok (.arraylength, 1) := by decide +kernel
theorem dX4_find_37 : decode cX4_find 37 = .ok (.if_icmp .ge 51, 3) := by decide +kernel
theorem dX4_find_40 : decode cX4_find 40 = .ok (.iload 5, 2) := by decide +kernel
theorem dX4_find_42 : decode cX4_find 42 = .ok (.bipush 6, 2) := by decide +kernel
theorem dX4_find_44 : decode cX4_find 44 = .ok (.irem, 1) := by decide +kernel
theorem dX4_find_45 : decode cX4_find 45 = .ok (.istore 6, 2) := by decide +kernel
theorem dX4_find_47 : decode cX4_find 47 = .ok (.aload_n 0, 1) := by decide +kernel
theorem dX4_find_48 : decode cX4_find 48 = .ok (.getfield 15, 3) := by decide +kernel
theorem dX4_find_51 : decode cX4_find 51 = .ok (.iload 5, 2) := by decide +kernel
theorem dX4_find_53 : decode cX4_find 53 = .ok (.iload 6, 2) := by decide +kernel
theorem dX4_find_55 : decode cX4_find 55 = .ok (.iload 4, 2) := by decide +kernel
theorem dX4_find_57 : decode cX4_find 57 = .ok (.if_icmp .ge 23, 3) := by decide +kernel
theorem dX4_find_60 : decode cX4_find 60 = .ok (.aload_n 1, 1) := by decide +kernel
theorem dX4_find_61 : decode cX4_find 61 = .ok (.aload_n 2, 1) := by decide +kernel
theorem dX4_find_62 : decode cX4_find 62 = .ok (.iload 5, 2) := by decide +kernel
theorem dX4_find_64 : decode cX4_find 64 = .ok (.bipush 6, 2) := by decide +kernel
theorem dX4_find_66 : decode cX4_find 66 = .ok (.idiv, 1) := by decide +kernel
theorem dX4_find_67 : decode cX4_find 67 = .ok (.iload 6, 2) := by decide +kernel
theorem dX4_find_69 : decode cX4_find 69 = .ok (.iconst 0, 1) := by decide +kernel
theorem dX4_find_70 : decode cX4_find 70 = .ok (.invokevirtual 43, 3) := by decide +kernel
theorem dX4_find_73 : decode cX4_find 73 = .ok (.ifCond .eq 7, 3) := by decide +kernel
theorem dX4_find_76 : decode cX4_find 76 = .ok (.iconst 1, 1) := by decide +kernel
theorem dX4_find_77 : decode cX4_find 77 = .ok (.goto 4, 3) := by decide +kernel
theorem dX4_find_80 : decode cX4_find 80 = .ok (.iconst 0, 1) := by decide +kernel
theorem dX4_find_81 : decode cX4_find 81 = .ok (.bastore, 1) := by decide +kernel
theorem dX4_find_82 : decode cX4_find 82 = .ok (.iinc 5 1, 3) := by decide +kernel
theorem dX4_find_85 : decode cX4_find 85 = .ok (.goto (-55), 3) := by decide +kernel
theorem dX4_find_88 : decode cX4_find 88 = .ok (.iconst 0, 1) := by decide +kernel
theorem dX4_find_89 : decode cX4_find 89 = .ok (.istore 5, 2) := by decide +kernel
theorem dX4_find_91 : decode cX4_find 91 = .ok (.iload 5, 2) := by decide +kernel
theorem dX4_find_93 : decode cX4_find 93 = .ok (.bipush 64, 2) := by decide +kernel
theorem dX4_find_95 : decode cX4_find 95 = .ok (.if_icmp .ge 22, 3) := by decide +kernel
theorem dX4_find_98 : decode cX4_find 98 = .ok (.aload_n 0, 1) := by decide +kernel
theorem dX4_find_99 : decode cX4_find 99 = .ok (.getfield 11, 3) := by decide +kernel
theorem dX4_find_102 : decode cX4_find 102 = .ok (.iload_n 3, 1) := by decide +kernel
theorem dX4_find_103 : decode cX4_find 103 = .ok (.bipush 64, 2) := by decide +kernel
theorem dX4_find_105 : decode cX4_find 105 = .ok (.imul, 1) := by decide +kernel
theorem dX4_find_106 : decode cX4_find 106 = .ok (.iload 5, 2) := by decide +kernel
theorem dX4_find_108 : decode cX4_find 108 = .ok (.iadd, 1) := by decide +kernel
theorem dX4_find_109 : decode cX4_find 109 = .ok (.iconst 0, 1) := by decide +kernel
theorem dX4_find_110 : decode cX4_find 110 = .ok (.iastore, 1) := by decide +kernel
theorem dX4_find_111 : decode cX4_find 111 = .ok (.iinc 5 1, 3) := by decide +kernel
theorem dX4_find_114 : decode cX4_find 114 = .ok (.goto (-23), 3) := by decide +kernel
theorem dX4_find_117 : decode cX4_find 117 = .ok (.iload_n 3, 1) := by decide +kernel
theorem dX4_find_118 : decode cX4_find 118 = .ok (.iconst 1, 1) := by decide +kernel
theorem dX4_find_119 : decode cX4_find 119 = .ok (.isub, 1) := by decide +kernel
theorem dX4_find_120 : decode cX4_find 120 = .ok (.istore 5, 2) := by decide +kernel
theorem dX4_find_122 : decode cX4_find 122 = .ok (.iload 5, 2) := by decide +kernel
theorem dX4_find_124 : decode cX4_find 124 = .ok (.ifCond .lt 47, 3) := by decide +kernel
theorem dX4_find_127 : decode cX4_find 127 = .ok (.iconst 0, 1) := by decide +kernel
theorem dX4_find_128 : decode cX4_find 128 = .ok (.istore 6, 2) := by decide +kernel
theorem dX4_find_130 : decode cX4_find 130 = .ok (.iload 6, 2) := by decide +kernel
theorem dX4_find_132 : decode cX4_find 132 = .ok (.bipush 64, 2) := by decide +kernel
theorem dX4_find_134 : decode cX4_find 134 = .ok (.if_icmp .ge 31, 3) := by decide +kernel
theorem dX4_find_137 : decode cX4_find 137 = .ok (.aload_n 0, 1) := by decide +kernel
theorem dX4_find_138 : decode cX4_find 138 = .ok (.getfield 11, 3) := by decide +kernel
theorem dX4_find_141 : decode cX4_find 141 = .ok (.iload 5, 2) := by decide +kernel
theorem dX4_find_143 : decode cX4_find 143 = .ok (.bipush 64, 2) := by decide +kernel
theorem dX4_find_145 : decode cX4_find 145 = .ok (.imul, 1) := by decide +kernel
theorem dX4_find_146 : decode cX4_find 146 = .ok (.iload 6, 2) := by decide +kernel
theorem dX4_find_148 : decode cX4_find 148 = .ok (.iadd, 1) := by decide +kernel
theorem dX4_find_149 : decode cX4_find 149 = .ok (.aload_n 0, 1) := by decide +kernel
theorem dX4_find_150 : decode cX4_find 150 = .ok (.aload_n 2, 1) := by decide +kernel
theorem dX4_find_151 : decode cX4_find 151 = .ok (.iload 5, 2) := by decide +kernel
theorem dX4_find_153 : decode cX4_find 153 = .ok (.iload 6, 2) := by decide +kernel
theorem dX4_find_155 : decode cX4_find 155 = .ok (.invokevirtual 47, 3) := by decide +kernel
theorem dX4_find_158 : decode cX4_find 158 = .ok (.iastore, 1) := by decide +kernel
theorem dX4_find_159 : decode cX4_find 159 = .ok (.iinc 6 1, 3) := by decide +kernel
theorem dX4_find_162 : decode cX4_find 162 = .ok (.goto (-32), 3) := by decide +kernel
theorem dX4_find_165 : decode cX4_find 165 = .ok (.iinc 5 (-1), 3) := by decide +kernel
theorem dX4_find_168 : decode cX4_find 168 = .ok (.goto (-46), 3) := by decide +kernel
theorem dX4_find_171 : decode cX4_find 171 = .ok (.aload_n 0, 1) := by decide +kernel
theorem dX4_find_172 : decode cX4_find 172 = .ok (.aload_n 2, 1) := by decide +kernel
theorem dX4_find_173 : decode cX4_find 173 = .ok (.iload_n 3, 1) := by decide +kernel
theorem dX4_find_174 : decode cX4_find 174 = .ok (.invokevirtual 51, 3) := by decide +kernel
theorem dX4_find_177 : decode cX4_find 177 = .ok (.return_, 1) := by decide +kernel
theorem dX4_bestOf_0 : decode cX4_bestOf 0 = .ok (.aload_n 0, 1) := by decide +kernel
theorem dX4_bestOf_1 : decode cX4_bestOf 1 = .ok (.getfield 11, 3) := by decide +kernel
theorem dX4_bestOf_4 : decode cX4_bestOf 4 = .ok (.iload_n 2, 1) := by decide +kernel
theorem dX4_bestOf_5 : decode cX4_bestOf 5 = .ok (.iconst 1, 1) := by decide +kernel
theorem dX4_bestOf_6 : decode cX4_bestOf 6 = .ok (.iadd, 1) := by decide +kernel
theorem dX4_bestOf_7 : decode cX4_bestOf 7 = .ok (.bipush 64, 2) := by decide +kernel
theorem dX4_bestOf_9 : decode cX4_bestOf 9 = .ok (.imul, 1) := by decide +kernel
theorem dX4_bestOf_10 : decode cX4_bestOf 10 = .ok (.iload_n 3, 1) := by decide +kernel
theorem dX4_bestOf_11 : decode cX4_bestOf 11 = .ok (.iadd, 1) := by decide +kernel
theorem dX4_bestOf_12 : decode cX4_bestOf 12 = .ok (.iaload, 1) := by decide +kernel
theorem dX4_bestOf_13 : decode cX4_bestOf 13 = .ok (.istore 4, 2) := by decide +kernel
theorem dX4_bestOf_15 : decode cX4_bestOf 15 = .ok (.iconst 0, 1) := by decide +kernel
theorem dX4_bestOf_16 : decode cX4_bestOf 16 = .ok (.istore 5, 2) := by decide +kernel
theorem dX4_bestOf_18 : decode cX4_bestOf 18 = .ok (.iload 5, 2) := by decide +kernel
theorem dX4_bestOf_20 : decode cX4_bestOf 20 = .ok (.bipush 6, 2) := by decide +kernel
theorem dX4_bestOf_22 : decode cX4_bestOf 22 = .ok (.if_icmp .ge 25, 3) := by decide +kernel
theorem dX4_bestOf_25 : decode cX4_bestOf 25 = .ok (.iload 4, 2) := by decide +kernel
theorem dX4_bestOf_27 : decode cX4_bestOf 27 = .ok (.aload_n 0, 1) := by decide +kernel
theorem dX4_bestOf_28 : decode cX4_bestOf 28 = .ok (.aload_n 1, 1) := by decide +kernel
theorem dX4_bestOf_29 : decode cX4_bestOf 29 = .ok (.iload_n 2, 1) := by decide +kernel
theorem dX4_bestOf_30 : decode cX4_bestOf 30 = .ok (.iload_n 3, 1) := by decide +kernel
theorem dX4_bestOf_31 : decode cX4_bestOf 31 = .ok (.iload 5, 2) := by decide +kernel
theorem dX4_bestOf_33 : decode cX4_bestOf 33 = .ok (.invokevirtual 55, 3) := by decide +kernel
theorem dX4_bestOf_36 : decode cX4_bestOf 36 = .ok (.invokestatic 59, 3) := by decide +kernel
theorem dX4_bestOf_39 : decode cX4_bestOf 39 = .ok (.istore 4, 2) := by decide +kernel
theorem dX4_bestOf_41 : decode cX4_bestOf 41 = .ok (.iinc 5 1, 3) := by decide +kernel
theorem dX4_bestOf_44 : decode cX4_bestOf 44 = .ok (.goto (-26), 3) := by decide +kernel
theorem dX4_bestOf_47 : decode cX4_bestOf 47 = .ok (.iload 4, 2) := by decide +kernel
theorem dX4_bestOf_49 : decode cX4_bestOf 49 = .ok (.ireturn, 1) := by decide +kernel
theorem dX4_gainWith_0 : decode cX4_gainWith 0 = .ok (.aload_n 0, 1) := by decide +kernel
theorem dX4_gainWith_1 : decode cX4_gainWith 1 = .ok (.getfield 15, 3) := by decide +kernel
theorem dX4_gainWith_4 : decode cX4_gainWith 4 = .ok (.iload_n 2, 1) := by decide +kernel
theorem dX4_gainWith_5 : decode cX4_gainWith 5 = .ok (.bipush 6, 2) := by decide +kernel
theorem dX4_gainWith_7 : decode cX4_gainWith 7 = .ok (.imul, 1) := by decide +kernel
theorem dX4_gainWith_8 : decode cX4_gainWith 8 = .ok (.iload 4, 2) := by decide +kernel
theorem dX4_gainWith_10 : decode cX4_gainWith 10 = .ok (.iadd, 1) := by decide +kernel
theorem dX4_gainWith_11 : decode cX4_gainWith 11 = .ok (.baload, 1) := by decide +kernel
theorem dX4_gainWith_12 : decode cX4_gainWith 12 = .ok (.ifCond .eq 13, 3) := by decide +kernel
theorem dX4_gainWith_15 : decode cX4_gainWith 15 = .ok (.iload_n 3, 1) := by decide +kernel
theorem dX4_gainWith_16 : decode cX4_gainWith 16 = .ok (.iload 4, 2) := by decide +kernel
theorem dX4_gainWith_18 : decode cX4_gainWith 18 = .ok (.ishr, 1) := by decide +kernel
theorem dX4_gainWith_19 : decode cX4_gainWith 19 = .ok (.iconst 1, 1) := by decide +kernel
theorem dX4_gainWith_20 : decode cX4_gainWith 20 = .ok (.iand, 1) := by decide +kernel
theorem dX4_gainWith_21 : decode cX4_gainWith 21 = .ok (.iconst 1, 1) := by decide +kernel
theorem dX4_gainWith_22 : decode cX4_gainWith 22 = .ok (.if_icmp .ne 5, 3) := by decide +kernel
theorem dX4_gainWith_25 : decode cX4_gainWith 25 = .ok (.iconst (-1), 1) := by decide +kernel
theorem dX4_gainWith_26 : decode cX4_gainWith 26 = .ok (.ireturn, 1) := by decide +kernel
theorem dX4_gainWith_27 : decode cX4_gainWith 27 = .ok (.sipush 10000, 3) := by decide +kernel
theorem dX4_gainWith_30 : decode cX4_gainWith 30 = .ok (.aload_n 1, 1) := by decide +kernel
theorem dX4_gainWith_31 : decode cX4_gainWith 31 = .ok (.getfield 62, 3) := by decide +kernel
theorem dX4_gainWith_34 : decode cX4_gainWith 34 = .ok (.iload 4, 2) := by decide +kernel
theorem dX4_gainWith_36 : decode cX4_gainWith 36 = .ok (.iaload, 1) := by decide +kernel
theorem dX4_gainWith_37 : decode cX4_gainWith 37 = .ok (.iadd, 1) := by decide +kernel
theorem dX4_gainWith_38 : decode cX4_gainWith 38 = .ok (.aload_n 0, 1) := by decide +kernel
theorem dX4_gainWith_39 : decode cX4_gainWith 39 = .ok (.getfield 11, 3) := by decide +kernel
theorem dX4_gainWith_42 : decode cX4_gainWith 42 = .ok (.iload_n 2, 1) := by decide +kernel
theorem dX4_gainWith_43 : decode cX4_gainWith 43 = .ok (.iconst 1, 1) := by decide +kernel
theorem dX4_gainWith_44 : decode cX4_gainWith 44 = .ok (.iadd, 1) := by decide +kernel
theorem dX4_gainWith_45 : decode cX4_gainWith 45 = .ok (.bipush 64, 2) := by decide +kernel
theorem dX4_gainWith_47 : decode cX4_gainWith 47 = .ok (.imul, 1) := by decide +kernel
theorem dX4_gainWith_48 : decode cX4_gainWith 48 = .ok (.iload_n 3, 1) := by decide +kernel
theorem dX4_gainWith_49 : decode cX4_gainWith 49 = .ok (.iconst 1, 1) := by decide +kernel
theorem dX4_gainWith_50 : decode cX4_gainWith 50 = .ok (.iload 4, 2) := by decide +kernel
theorem dX4_gainWith_52 : decode cX4_gainWith 52 = .ok (.ishl, 1) := by decide +kernel
theorem dX4_gainWith_53 : decode cX4_gainWith 53 = .ok (.ior, 1) := by decide +kernel
theorem dX4_gainWith_54 : decode cX4_gainWith 54 = .ok (.iadd, 1) := by decide +kernel
theorem dX4_gainWith_55 : decode cX4_gainWith 55 = .ok (.iaload, 1) := by decide +kernel
theorem dX4_gainWith_56 : decode cX4_gainWith 56 = .ok (.iadd, 1) := by decide +kernel
theorem dX4_gainWith_57 : decode cX4_gainWith 57 = .ok (.ireturn, 1) := by decide +kernel
theorem dX4_choose_0 : decode cX4_choose 0 = .ok (.iconst 0, 1) := by decide +kernel
theorem dX4_choose_1 : decode cX4_choose 1 = .ok (.istore_n 3, 1) := by decide +kernel
theorem dX4_choose_2 : decode cX4_choose 2 = .ok (.aload_n 0, 1) := by decide +kernel
theorem dX4_choose_3 : decode cX4_choose 3 = .ok (.aload_n 0, 1) := by decide +kernel
theorem dX4_choose_4 : decode cX4_choose 4 = .ok (.getfield 11, 3) := by decide +kernel
theorem dX4_choose_7 : decode cX4_choose 7 = .ok (.iconst 0, 1) := by decide +kernel
theorem dX4_choose_8 : decode cX4_choose 8 = .ok (.iaload, 1) := by decide +kernel
theorem dX4_choose_9 : decode cX4_choose 9 = .ok (.sipush 10000, 3) := by decide +kernel
theorem dX4_choose_12 : decode cX4_choose 12 = .ok (.idiv, 1) := by decide +kernel
theorem dX4_choose_13 : decode cX4_choose 13 = .ok (.putfield 67, 3) := by decide +kernel
theorem dX4_choose_16 : decode cX4_choose 16 = .ok (.aload_n 0, 1) := by decide +kernel
theorem dX4_choose_17 : decode cX4_choose 17 = .ok (.aload_n 0, 1) := by decide +kernel
theorem dX4_choose_18 : decode cX4_choose 18 = .ok (.getfield 11, 3) := by decide +kernel
theorem dX4_choose_21 : decode cX4_choose 21 = .ok (.iconst 0, 1) := by decide +kernel
theorem dX4_choose_22 : decode cX4_choose 22 = .ok (.iaload, 1) := by decide +kernel
theorem dX4_choose_23 : decode cX4_choose 23 = .ok (.sipush 10000, 3) := by decide +kernel
theorem dX4_choose_26 : decode cX4_choose 26 = .ok (.irem, 1) := by decide +kernel
theorem dX4_choose_27 : decode cX4_choose 27 = .ok (.putfield 70, 3) := by decide +kernel
theorem dX4_choose_30 : decode cX4_choose 30 = .ok (.iconst 0, 1) := by decide +kernel
theorem dX4_choose_31 : decode cX4_choose 31 = .ok (.istore 4, 2) := by decide +kernel
theorem dX4_choose_33 : decode cX4_choose 33 = .ok (.iload 4, 2) := by decide +kernel
theorem dX4_choose_35 : decode cX4_choose 35 = .ok (.bipush 6, 2) := by decide +kernel
theorem dX4_choose_37 : decode cX4_choose 37 = .ok (.if_icmp .ge 106, 3) := by decide +kernel
theorem dX4_choose_40 : decode cX4_choose 40 = .ok (.aload_n 0, 1) := by decide +kernel
theorem dX4_choose_41 : decode cX4_choose 41 = .ok (.getfield 19, 3) := by decide +kernel
theorem dX4_choose_44 : decode cX4_choose 44 = .ok (.iload 4, 2) := by decide +kernel
theorem dX4_choose_46 : decode cX4_choose 46 = .ok (.bipush (-2), 2) := by decide +kernel
theorem dX4_choose_48 : decode cX4_choose 48 = .ok (.iastore, 1) := by decide +kernel
theorem dX4_choose_49 : decode cX4_choose 49 = .ok (.iconst 0, 1) := by decide +kernel
theorem dX4_choose_50 : decode cX4_choose 50 = .ok (.istore 5, 2) := by decide +kernel
theorem dX4_choose_52 : decode cX4_choose 52 = .ok (.iload 5, 2) := by decide +kernel
theorem dX4_choose_54 : decode cX4_choose 54 = .ok (.bipush 6, 2) := by decide +kernel
theorem dX4_choose_56 : decode cX4_choose 56 = .ok (.if_icmp .ge 59, 3) := by decide +kernel
theorem dX4_choose_59 : decode cX4_choose 59 = .ok (.iload 4, 2) := by decide +kernel
theorem dX4_choose_61 : decode cX4_choose 61 = .ok (.iload_n 2, 1) := by decide +kernel
theorem dX4_choose_62 : decode cX4_choose 62 = .ok (.if_icmp .ge 53, 3) := by decide +kernel
theorem dX4_choose_65 : decode cX4_choose 65 = .ok (.aload_n 0, 1) := by decide +kernel
theorem dX4_choose_66 : decode cX4_choose 66 = .ok (.getfield 19, 3) := by decide +kernel
theorem dX4_choose_69 : decode cX4_choose 69 = .ok (.iload 4, 2) := by decide +kernel
theorem dX4_choose_71 : decode cX4_choose 71 = .ok (.iaload, 1) := by decide +kernel
theorem dX4_choose_72 : decode cX4_choose 72 = .ok (.ifCond .ge 43, 3) := by decide +kernel
theorem dX4_choose_75 : decode cX4_choose 75 = .ok (.aload_n 0, 1) := by decide +kernel
theorem dX4_choose_76 : decode cX4_choose 76 = .ok (.aload_n 1, 1) := by decide +kernel
theorem dX4_choose_77 : decode cX4_choose 77 = .ok (.iload 4, 2) := by decide +kernel
theorem dX4_choose_79 : decode cX4_choose 79 = .ok (.iload_n 3, 1) := by decide +kernel
theorem dX4_choose_80 : decode cX4_choose 80 = .ok (.iload 5, 2) := by decide +kernel
theorem dX4_choose_82 : decode cX4_choose 82 = .ok (.invokevirtual 55, 3) := by decide +kernel
theorem dX4_choose_85 : decode cX4_choose 85 = .ok (.aload_n 0, 1) := by decide +kernel
theorem dX4_choose_86 : decode cX4_choose 86 = .ok (.getfield 11, 3) := by decide +kernel
theorem dX4_choose_89 : decode cX4_choose 89 = .ok (.iload 4, 2) := by decide +kernel
theorem dX4_choose_91 : decode cX4_choose 91 = .ok (.bipush 64, 2) := by decide +kernel
theorem dX4_choose_93 : decode cX4_choose 93 = .ok (.imul, 1) := by decide +kernel
theorem dX4_choose_94 : decode cX4_choose 94 = .ok (.iload_n 3, 1) := by decide +kernel
theorem dX4_choose_95 : decode cX4_choose 95 = .ok (.iadd, 1) := by decide +kernel
theorem dX4_choose_96 : decode cX4_choose 96 = .ok (.iaload, 1) := by decide +kernel
theorem dX4_choose_97 : decode cX4_choose 97 = .ok (.if_icmp .ne 12, 3) := by decide +kernel
theorem dX4_choose_100 : decode cX4_choose 100 = .ok (.aload_n 0, 1) := by decide +kernel
theorem dX4_choose_101 : decode cX4_choose 101 = .ok (.getfield 19, 3) := by decide +kernel
theorem dX4_choose_104 : decode cX4_choose 104 = .ok (.iload 4, 2) := by decide +kernel
theorem dX4_choose_106 : decode cX4_choose 106 = .ok (.iload 5, 2) := by decide +kernel
theorem dX4_choose_108 : decode cX4_choose 108 = .ok (.iastore, 1) := by decide +kernel
theorem dX4_choose_109 : decode cX4_choose 109 = .ok (.iinc 5 1, 3) := by decide +kernel
theorem dX4_choose_112 : decode cX4_choose 112 = .ok (.goto (-60), 3) := by decide +kernel
theorem dX4_choose_115 : decode cX4_choose 115 = .ok (.aload_n 0, 1) := by decide +kernel
theorem dX4_choose_116 : decode cX4_choose 116 = .ok (.getfield 19, 3) := by decide +kernel
theorem dX4_choose_119 : decode cX4_choose 119 = .ok (.iload 4, 2) := by decide +kernel
theorem dX4_choose_121 : decode cX4_choose 121 = .ok (.iaload, 1) := by decide +kernel
theorem dX4_choose_122 : decode cX4_choose 122 = .ok (.ifCond .lt 15, 3) := by decide +kernel
theorem dX4_choose_125 : decode cX4_choose 125 = .ok (.iload_n 3, 1) := by decide +kernel
theorem dX4_choose_126 : decode cX4_choose 126 = .ok (.iconst 1, 1) := by decide +kernel
theorem dX4_choose_127 : decode cX4_choose 127 = .ok (.aload_n 0, 1) := by decide +kernel
theorem dX4_choose_128 : decode cX4_choose 128 = .ok (.getfield 19, 3) := by decide +kernel
theorem dX4_choose_131 : decode cX4_choose 131 = .ok (.iload 4, 2) := by decide +kernel
theorem dX4_choose_133 : decode cX4_choose 133 = .ok (.iaload, 1) := by decide +kernel
theorem dX4_choose_134 : decode cX4_choose 134 = .ok (.ishl, 1) := by decide +kernel
theorem dX4_choose_135 : decode cX4_choose 135 = .ok (.ior, 1) := by decide +kernel
theorem dX4_choose_136 : decode cX4_choose 136 = .ok (.istore_n 3, 1) := by decide +kernel
theorem dX4_choose_137 : decode cX4_choose 137 = .ok (.iinc 4 1, 3) := by decide +kernel
theorem dX4_choose_140 : decode cX4_choose 140 = .ok (.goto (-107), 3) := by decide +kernel
theorem dX4_choose_143 : decode cX4_choose 143 = .ok (.return_, 1) := by decide +kernel
theorem dX5_init_0 : decode cX5_init 0 = .ok (.aload_n 0, 1) := by decide +kernel
theorem dX5_init_1 : decode cX5_init 1 = .ok (.invokespecial 3, 3) := by decide +kernel
theorem dX5_init_4 : decode cX5_init 4 = .ok (.aload_n 0, 1) := by decide +kernel
theorem dX5_init_5 : decode cX5_init 5 = .ok (.iconst (-1), 1) := by decide +kernel
theorem dX5_init_6 : decode cX5_init 6 = .ok (.putfield 9, 3) := by decide +kernel
theorem dX5_init_9 : decode cX5_init 9 = .ok (.aload_n 0, 1) := by decide +kernel
theorem dX5_init_10 : decode cX5_init 10 = .ok (.iconst 1, 1) := by decide +kernel
theorem dX5_init_11 : decode cX5_init 11 = .ok (.putfield 15, 3) := by decide +kernel
theorem dX5_init_14 : decode cX5_init 14 = .ok (.aload_n 0, 1) := by decide +kernel
theorem dX5_init_15 : decode cX5_init 15 = .ok (.iconst 1, 1) := by decide +kernel
theorem dX5_init_16 : decode cX5_init 16 = .ok (.putfield 19, 3) := by decide +kernel
theorem dX5_init_19 : decode cX5_init 19 = .ok (.return_, 1) := by decide +kernel
theorem dX5_drawn_0 : decode cX5_drawn 0 = .ok (.aload_n 0, 1) := by decide +kernel
theorem dX5_drawn_1 : decode cX5_drawn 1 = .ok (.iconst 0, 1) := by decide +kernel
theorem dX5_drawn_2 : decode cX5_drawn 2 = .ok (.putfield 22, 3) := by decide +kernel
theorem dX5_drawn_5 : decode cX5_drawn 5 = .ok (.aload_n 0, 1) := by decide +kernel
theorem dX5_drawn_6 : decode cX5_drawn 6 = .ok (.iconst (-1), 1) := by decide +kernel
theorem dX5_drawn_7 : decode cX5_drawn 7 = .ok (.putfield 9, 3) := by decide +kernel
theorem dX5_drawn_10 : decode cX5_drawn 10 = .ok (.aload_n 0, 1) := by decide +kernel
theorem dX5_drawn_11 : decode cX5_drawn 11 = .ok (.iconst 1, 1) := by decide +kernel
theorem dX5_drawn_12 : decode cX5_drawn 12 = .ok (.putfield 15, 3) := by decide +kernel
theorem dX5_drawn_15 : decode cX5_drawn 15 = .ok (.aload_n 0, 1) := by decide +kernel
theorem dX5_drawn_16 : decode cX5_drawn 16 = .ok (.iconst 1, 1) := by decide +kernel
theorem dX5_drawn_17 : decode cX5_drawn 17 = .ok (.putfield 19, 3) := by decide +kernel
theorem dX5_drawn_20 : decode cX5_drawn 20 = .ok (.return_, 1) := by decide +kernel
theorem dX5_asItGoes_0 : decode cX5_asItGoes 0 = .ok (.aload_n 0, 1) := by decide +kernel
theorem dX5_asItGoes_1 : decode cX5_asItGoes 1 = .ok (.invokevirtual 25, 3) := by decide +kernel
theorem dX5_asItGoes_4 : decode cX5_asItGoes 4 = .ok (.aload_n 0, 1) := by decide +kernel
theorem dX5_asItGoes_5 : decode cX5_asItGoes 5 = .ok (.aload_n 1, 1) := by decide +kernel
theorem dX5_asItGoes_6 : decode cX5_asItGoes 6 = .ok (.getfield 28, 3) := by decide +kernel
theorem dX5_asItGoes_9 : decode cX5_asItGoes 9 = .ok (.bipush 50, 2) := by decide +kernel
theorem dX5_asItGoes_11 : decode cX5_asItGoes 11 = .ok (.if_icmp .lt 7, 3) := by decide +kernel
theorem dX5_asItGoes_14 : decode cX5_asItGoes 14 = .ok (.iconst 1, 1) := by decide +kernel
theorem dX5_asItGoes_15 : decode cX5_asItGoes 15 = .ok (.goto 4, 3) := by decide +kernel
theorem dX5_asItGoes_18 : decode cX5_asItGoes 18 = .ok (.iconst 2, 1) := by decide +kernel
theorem dX5_asItGoes_19 : decode cX5_asItGoes 19 = .ok (.putfield 22, 3) := by decide +kernel
theorem dX5_asItGoes_22 : decode cX5_asItGoes 22 = .ok (.return_, 1) := by decide +kernel
theorem dX5_otherwise_0 : decode cX5_otherwise 0 = .ok (.iload_n 1, 1) := by decide +kernel
theorem dX5_otherwise_1 : decode cX5_otherwise 1 = .ok (.ifCond .ne 11, 3) := by decide +kernel
theorem dX5_otherwise_4 : decode cX5_otherwise 4 = .ok (.aload_n 0, 1) := by decide +kernel
theorem dX5_otherwise_5 : decode cX5_otherwise 5 = .ok (.iconst 1, 1) := by decide +kernel
theorem dX5_otherwise_6 : decode cX5_otherwise 6 = .ok (.putfield 22, 3) := by decide +kernel
theorem dX5_otherwise_9 : decode cX5_otherwise 9 = .ok (.goto 47, 3) := by decide +kernel
theorem dX5_otherwise_12 : decode cX5_otherwise 12 = .ok (.iload_n 1, 1) := by decide +kernel
theorem dX5_otherwise_13 : decode cX5_otherwise 13 = .ok (.iconst 1, 1) := by decide +kernel
theorem dX5_otherwise_14 : decode cX5_otherwise 14 = .ok (.if_icmp .ne 11, 3) := by decide +kernel
theorem dX5_otherwise_17 : decode cX5_otherwise 17 = .ok (.aload_n 0, 1) := by decide +kernel
theorem dX5_otherwise_18 : decode cX5_otherwise 18 = .ok (.iconst 2, 1) := by decide +kernel
theorem dX5_otherwise_19 : decode cX5_otherwise 19 = .ok (.putfield 22, 3) := by decide +kernel
theorem dX5_otherwise_22 : decode cX5_otherwise 22 = .ok (.goto 34, 3) := by decide +kernel
theorem dX5_otherwise_25 : decode cX5_otherwise 25 = .ok (.iload_n 1, 1) := by decide +kernel
theorem dX5_otherwise_26 : decode cX5_otherwise 26 = .ok (.iconst 2, 1) := by decide +kernel
theorem dX5_otherwise_27 : decode cX5_otherwise 27 = .ok (.if_icmp .ne 11, 3) := by decide +kernel
theorem dX5_otherwise_30 : decode cX5_otherwise 30 = .ok (.aload_n 0, 1) := by decide +kernel
theorem dX5_otherwise_31 : decode cX5_otherwise 31 = .ok (.iload_n 2, 1) := by decide +kernel
theorem dX5_otherwise_32 : decode cX5_otherwise 32 = .ok (.putfield 9, 3) := by decide +kernel
theorem dX5_otherwise_35 : decode cX5_otherwise 35 = .ok (.goto 21, 3) := by decide +kernel
theorem dX5_otherwise_38 : decode cX5_otherwise 38 = .ok (.iload_n 1, 1) := by decide +kernel
theorem dX5_otherwise_39 : decode cX5_otherwise 39 = .ok (.iconst 3, 1) := by decide +kernel
theorem dX5_otherwise_40 : decode cX5_otherwise 40 = .ok (.if_icmp .ne 11, 3) := by decide +kernel
theorem dX5_otherwise_43 : decode cX5_otherwise 43 = .ok (.aload_n 0, 1) := by decide +kernel
theorem dX5_otherwise_44 : decode cX5_otherwise 44 = .ok (.iconst 0, 1) := by decide +kernel
theorem dX5_otherwise_45 : decode cX5_otherwise 45 = .ok (.putfield 15, 3) := by decide +kernel
theorem dX5_otherwise_48 : decode cX5_otherwise 48 = .ok (.goto 8, 3) := by decide +kernel
theorem dX5_otherwise_51 : decode cX5_otherwise 51 = .ok (.aload_n 0, 1) := by decide +kernel
theorem dX5_otherwise_52 : decode cX5_otherwise 52 = .ok (.iconst 0, 1) := by decide +kernel
theorem dX5_otherwise_53 : decode cX5_otherwise 53 = .ok (.putfield 19, 3) := by decide +kernel
theorem dX5_otherwise_56 : decode cX5_otherwise 56 = .ok (.return_, 1) := by decide +kernel
theorem dX5_passMany_0 : decode cX5_passMany 0 = .ok (.iconst 0, 1) := by decide +kernel
theorem dX5_passMany_1 : decode cX5_passMany 1 = .ok (.istore 4, 2) := by decide +kernel
theorem dX5_passMany_3 : decode cX5_passMany 3 = .ok (.iload 4, 2) := by decide +kernel
theorem dX5_passMany_5 : decode cX5_passMany 5 = .ok (.iload_n 3, 1) := by decide +kernel
theorem dX5_passMany_6 : decode cX5_passMany 6 = .ok (.if_icmp .ge 15, 3) := by decide +kernel
theorem dX5_passMany_9 : decode cX5_passMany 9 = .ok (.aload_n 0, 1) := by decide +kernel
theorem dX5_passMany_10 : decode cX5_passMany 10 = .ok (.aload_n 1, 1) := by decide +kernel
theorem dX5_passMany_11 : decode cX5_passMany 11 = .ok (.aload_n 2, 1) := by decide +kernel
theorem dX5_passMany_12 : decode cX5_passMany 12 = .ok (.invokevirtual 33, 3) := by decide +kernel
theorem dX5_passMany_15 : decode cX5_passMany 15 = .ok (.iinc 4 1, 3) := by decide +kernel
theorem dX5_passMany_18 : decode cX5_passMany 18 = .ok (.goto (-15), 3) := by decide +kernel
theorem dX5_passMany_21 : decode cX5_passMany 21 = .ok (.return_, 1) := by decide +kernel
theorem dX5_pass_0 : decode cX5_pass 0 = .ok (.aload_n 0, 1) := by decide +kernel
theorem dX5_pass_1 : decode cX5_pass 1 = .ok (.getfield 15, 3) := by decide +kernel
theorem dX5_pass_4 : decode cX5_pass 4 = .ok (.ifCond .eq 11, 3) := by decide +kernel
theorem dX5_pass_7 : decode cX5_pass 7 = .ok (.aload_n 1, 1) := by decide +kernel
theorem dX5_pass_8 : decode cX5_pass 8 = .ok (.getfield 37, 3) := by decide +kernel
theorem dX5_pass_11 : decode cX5_pass 11 = .ok (.aload_n 2, 1) := by decide +kernel
theorem dX5_pass_12 : decode cX5_pass 12 = .ok (.invokestatic 41, 3) := by decide +kernel
theorem dX5_pass_15 : decode cX5_pass 15 = .ok (.aload_n 1, 1) := by decide +kernel
theorem dX5_pass_16 : decode cX5_pass 16 = .ok (.getfield 45, 3) := by decide +kernel
theorem dX5_pass_19 : decode cX5_pass 19 = .ok (.aload_n 2, 1) := by decide +kernel
theorem dX5_pass_20 : decode cX5_pass 20 = .ok (.invokestatic 48, 3) := by decide +kernel
theorem dX5_pass_23 : decode cX5_pass 23 = .ok (.aload_n 0, 1) := by decide +kernel
theorem dX5_pass_24 : decode cX5_pass 24 = .ok (.getfield 19, 3) := by decide +kernel
theorem dX5_pass_27 : decode cX5_pass 27 = .ok (.ifCond .eq 8, 3) := by decide +kernel
theorem dX5_pass_30 : decode cX5_pass 30 = .ok (.aload_n 1, 1) := by decide +kernel
theorem dX5_pass_31 : decode cX5_pass 31 = .ok (.aload_n 2, 1) := by decide +kernel
theorem dX5_pass_32 : decode cX5_pass 32 = .ok (.invokestatic 51, 3) := by decide +kernel
theorem dX5_pass_35 : decode cX5_pass 35 = .ok (.aload_n 0, 1) := by decide +kernel
theorem dX5_pass_36 : decode cX5_pass 36 = .ok (.aload_n 1, 1) := by decide +kernel
theorem dX5_pass_37 : decode cX5_pass 37 = .ok (.getfield 54, 3) := by decide +kernel
theorem dX5_pass_40 : decode cX5_pass 40 = .ok (.aload_n 2, 1) := by decide +kernel
theorem dX5_pass_41 : decode cX5_pass 41 = .ok (.invokevirtual 57, 3) := by decide +kernel
theorem dX5_pass_44 : decode cX5_pass 44 = .ok (.iconst 0, 1) := by decide +kernel
theorem dX5_pass_45 : decode cX5_pass 45 = .ok (.istore_n 3, 1) := by decide +kernel
theorem dX5_pass_46 : decode cX5_pass 46 = .ok (.iload_n 3, 1) := by decide +kernel
theorem dX5_pass_47 : decode cX5_pass 47 = .ok (.aload_n 1, 1) := by decide +kernel
theorem dX5_pass_48 : decode cX5_pass 48 = .ok (.getfield 60, 3) := by decide +kernel
theorem dX5_pass_51 : decode cX5_pass 51 = .ok (.getfield 63, 3) := by decide +kernel
theorem dX5_pass_54 : decode cX5_pass 54 = .ok (.if_icmp .ge 31, 3) := by decide +kernel
theorem dX5_pass_57 : decode cX5_pass 57 = .ok (.iload_n 3, 1) := by decide +kernel
theorem dX5_pass_58 : decode cX5_pass 58 = .ok (.bipush 6, 2) := by decide +kernel
theorem dX5_pass_60 : decode cX5_pass 60 = .ok (.if_icmp .ge 25, 3) := by decide +kernel
theorem dX5_pass_63 : decode cX5_pass 63 = .ok (.aload_n 2, 1) := by decide +kernel
theorem dX5_pass_64 : decode cX5_pass 64 = .ok (.getfield 68, 3) := by decide +kernel
theorem dX5_pass_67 : decode cX5_pass 67 = .ok (.iload_n 3, 1) := by decide +kernel
theorem dX5_pass_68 : decode cX5_pass 68 = .ok (.iaload, 1) := by decide +kernel
theorem dX5_pass_69 : decode cX5_pass 69 = .ok (.ifCond .lt 10, 3) := by decide +kernel
theorem dX5_pass_72 : decode cX5_pass 72 = .ok (.aload_n 0, 1) := by decide +kernel
theorem dX5_pass_73 : decode cX5_pass 73 = .ok (.aload_n 1, 1) := by decide +kernel
theorem dX5_pass_74 : decode cX5_pass 74 = .ok (.aload_n 2, 1) := by decide +kernel
theorem dX5_pass_75 : decode cX5_pass 75 = .ok (.iload_n 3, 1) := by decide +kernel
theorem dX5_pass_76 : decode cX5_pass 76 = .ok (.invokevirtual 74, 3) := by decide +kernel
theorem dX5_pass_79 : decode cX5_pass 79 = .ok (.iinc 3 1, 3) := by decide +kernel
theorem dX5_pass_82 : decode cX5_pass 82 = .ok (.goto (-36), 3) := by decide +kernel
theorem dX5_pass_85 : decode cX5_pass 85 = .ok (.aload_n 2, 1) := by decide +kernel
theorem dX5_pass_86 : decode cX5_pass 86 = .ok (.dup, 1) := by decide +kernel
theorem dX5_pass_87 : decode cX5_pass 87 = .ok (.getfield 78, 3) := by decide +kernel
theorem dX5_pass_90 : decode cX5_pass 90 = .ok (.iconst 1, 1) := by decide +kernel
theorem dX5_pass_91 : decode cX5_pass 91 = .ok (.iadd, 1) := by decide +kernel
theorem dX5_pass_92 : decode cX5_pass 92 = .ok (.putfield 78, 3) := by decide +kernel
theorem dX5_pass_95 : decode cX5_pass 95 = .ok (.return_, 1) := by decide +kernel
theorem dX5_bringCans_0 : decode cX5_bringCans 0 = .ok (.iconst 0, 1) := by decide +kernel
theorem dX5_bringCans_1 : decode cX5_bringCans 1 = .ok (.istore_n 2, 1) := by decide +kernel
theorem dX5_bringCans_2 : decode cX5_bringCans 2 = .ok (.iload_n 2, 1) := by decide +kernel
theorem dX5_bringCans_3 : decode cX5_bringCans 3 = .ok (.aload_n 0, 1) := by decide +kernel
theorem dX5_bringCans_4 : decode cX5_bringCans 4 = .ok (.getfield 63, 3) := by decide +kernel
theorem dX5_bringCans_7 : decode cX5_bringCans 7 = .ok (.if_icmp .ge 57, 3) := by decide +kernel
theorem dX5_bringCans_10 : decode cX5_bringCans 10 = .ok (.aload_n 0, 1) := by decide +kernel
theorem dX5_bringCans_11 : decode cX5_bringCans 11 = .ok (.iload_n 2, 1) := by decide +kernel
theorem dX5_bringCans_12 : decode cX5_bringCans 12 = .ok (.iconst 0, 1) := by decide +kernel
theorem dX5_bringCans_13 : decode cX5_bringCans 13 = .ok (.invokevirtual 81, 3) := by decide +kernel
theorem dX5_bringCans_16 : decode cX5_bringCans 16 = .ok (.istore_n 3, 1) := by decide +kernel
theorem dX5_bringCans_17 : decode cX5_bringCans 17 = .ok (.aload_n 0, 1) := by decide +kernel
theorem dX5_bringCans_18 : decode cX5_bringCans 18 = .ok (.iload_n 2, 1) := by decide +kernel
theorem dX5_bringCans_19 : decode cX5_bringCans 19 = .ok (.iconst 1, 1) := by decide +kernel
theorem dX5_bringCans_20 : decode cX5_bringCans 20 = .ok (.invokevirtual 81, 3) := by decide +kernel
theorem dX5_bringCans_23 : decode cX5_bringCans 23 = .ok (.istore 4, 2) := by decide +kernel
theorem dX5_bringCans_25 : decode cX5_bringCans 25 = .ok (.aload_n 0, 1) := by decide +kernel
theorem dX5_bringCans_26 : decode cX5_bringCans 26 = .ok (.iload_n 2, 1) := by decide +kernel
theorem dX5_bringCans_27 : decode cX5_bringCans 27 = .ok (.iconst 2, 1) := by decide +kernel
theorem dX5_bringCans_28 : decode cX5_bringCans 28 = .ok (.invokevirtual 81, 3) := by decide +kernel
theorem dX5_bringCans_31 : decode cX5_bringCans 31 = .ok (.aload_n 1, 1) := by decide +kernel
theorem dX5_bringCans_32 : decode cX5_bringCans 32 = .ok (.getfield 78, 3) := by decide +kernel
theorem dX5_bringCans_35 : decode cX5_bringCans 35 = .ok (.if_icmp .ne 23, 3) := by decide +kernel
theorem dX5_bringCans_38 : decode cX5_bringCans 38 = .ok (.aload_n 1, 1) := by decide +kernel
theorem dX5_bringCans_39 : decode cX5_bringCans 39 = .ok (.iload_n 3, 1) := by decide +kernel
theorem dX5_bringCans_40 : decode cX5_bringCans 40 = .ok (.iload 4, 2) := by decide +kernel
theorem dX5_bringCans_42 : decode cX5_bringCans 42 = .ok (.invokevirtual 85, 3) := by decide +kernel
theorem dX5_bringCans_45 : decode cX5_bringCans 45 = .ok (.ifCond .eq 13, 3) := by decide +kernel
theorem dX5_bringCans_48 : decode cX5_bringCans 48 = .ok (.aload_n 1, 1) := by decide +kernel
theorem dX5_bringCans_49 : decode cX5_bringCans 49 = .ok (.iload_n 3, 1) := by decide +kernel
theorem dX5_bringCans_50 : decode cX5_bringCans 50 = .ok (.iload 4, 2) := by decide +kernel
theorem dX5_bringCans_52 : decode cX5_bringCans 52 = .ok (.sipush 990, 3) := by decide +kernel
theorem dX5_bringCans_55 : decode cX5_bringCans 55 = .ok (.invokevirtual 89, 3) := by decide +kernel
theorem dX5_bringCans_58 : decode cX5_bringCans 58 = .ok (.iinc 2 1, 3) := by decide +kernel
theorem dX5_bringCans_61 : decode cX5_bringCans 61 = .ok (.goto (-59), 3) := by decide +kernel
theorem dX5_bringCans_64 : decode cX5_bringCans 64 = .ok (.return_, 1) := by decide +kernel
theorem dX5_runPipes_0 : decode cX5_runPipes 0 = .ok (.iconst 0, 1) := by decide +kernel
theorem dX5_runPipes_1 : decode cX5_runPipes 1 = .ok (.istore_n 2, 1) := by decide +kernel
theorem dX5_runPipes_2 : decode cX5_runPipes 2 = .ok (.iload_n 2, 1) := by decide +kernel
theorem dX5_runPipes_3 : decode cX5_runPipes 3 = .ok (.aload_n 0, 1) := by decide +kernel
theorem dX5_runPipes_4 : decode cX5_runPipes 4 = .ok (.getfield 63, 3) := by decide +kernel
theorem dX5_runPipes_7 : decode cX5_runPipes 7 = .ok (.if_icmp .ge 97, 3) := by decide +kernel
theorem dX5_runPipes_10 : decode cX5_runPipes 10 = .ok (.aload_n 0, 1) := by decide +kernel
theorem dX5_runPipes_11 : decode cX5_runPipes 11 = .ok (.iload_n 2, 1) := by decide +kernel
theorem dX5_runPipes_12 : decode cX5_runPipes 12 = .ok (.iconst 0, 1) := by decide +kernel
theorem dX5_runPipes_13 : decode cX5_runPipes 13 = .ok (.invokevirtual 81, 3) := by decide +kernel
theorem dX5_runPipes_16 : decode cX5_runPipes 16 = .ok (.istore_n 3, 1) := by decide +kernel
theorem dX5_runPipes_17 : decode cX5_runPipes 17 = .ok (.aload_n 0, 1) := by decide +kernel
theorem dX5_runPipes_18 : decode cX5_runPipes 18 = .ok (.iload_n 2, 1) := by decide +kernel
theorem dX5_runPipes_19 : decode cX5_runPipes 19 = .ok (.iconst 1, 1) := by decide +kernel
theorem dX5_runPipes_20 : decode cX5_runPipes 20 = .ok (.invokevirtual 81, 3) := by decide +kernel
theorem dX5_runPipes_23 : decode cX5_runPipes 23 = .ok (.istore 4, 2) := by decide +kernel
theorem dX5_runPipes_25 : decode cX5_runPipes 25 = .ok (.iload_n 3, 1) := by decide +kernel
theorem dX5_runPipes_26 : decode cX5_runPipes 26 = .ok (.ifCond .lt 72, 3) := by decide +kernel
theorem dX5_runPipes_29 : decode cX5_runPipes 29 = .ok (.iload_n 3, 1) := by decide +kernel
theorem dX5_runPipes_30 : decode cX5_runPipes 30 = .ok (.bipush 6, 2) := by decide +kernel
theorem dX5_runPipes_32 : decode cX5_runPipes 32 = .ok (.if_icmp .lt 6, 3) := by decide +kernel
theorem dX5_runPipes_35 : decode cX5_runPipes 35 = .ok (.goto 63, 3) := by decide +kernel
theorem dX5_runPipes_38 : decode cX5_runPipes 38 = .ok (.aload_n 0, 1) := by decide +kernel
theorem dX5_runPipes_39 : decode cX5_runPipes 39 = .ok (.iload_n 2, 1) := by decide +kernel
theorem dX5_runPipes_40 : decode cX5_runPipes 40 = .ok (.iconst 2, 1) := by decide +kernel
theorem dX5_runPipes_41 : decode cX5_runPipes 41 = .ok (.invokevirtual 81, 3) := by decide +kernel
theorem dX5_runPipes_44 : decode cX5_runPipes 44 = .ok (.aload_n 1, 1) := by decide +kernel
theorem dX5_runPipes_45 : decode cX5_runPipes 45 = .ok (.getfield 93, 3) := by decide +kernel
theorem dX5_runPipes_48 : decode cX5_runPipes 48 = .ok (.iload_n 3, 1) := by decide +kernel
theorem dX5_runPipes_49 : decode cX5_runPipes 49 = .ok (.iaload, 1) := by decide +kernel
theorem dX5_runPipes_50 : decode cX5_runPipes 50 = .ok (.iconst 1, 1) := by decide +kernel
theorem dX5_runPipes_51 : decode cX5_runPipes 51 = .ok (.isub, 1) := by decide +kernel
theorem dX5_runPipes_52 : decode cX5_runPipes 52 = .ok (.invokestatic 96, 3) := by decide +kernel
theorem dX5_runPipes_55 : decode cX5_runPipes 55 = .ok (.istore 5, 2) := by decide +kernel
theorem dX5_runPipes_57 : decode cX5_runPipes 57 = .ok (.iload 5, 2) := by decide +kernel
theorem dX5_runPipes_59 : decode cX5_runPipes 59 = .ok (.ifCond .le 39, 3) := by decide +kernel
theorem dX5_runPipes_62 : decode cX5_runPipes 62 = .ok (.aload_n 1, 1) := by decide +kernel
theorem dX5_runPipes_63 : decode cX5_runPipes 63 = .ok (.iload 4, 2) := by decide +kernel
theorem dX5_runPipes_65 : decode cX5_runPipes 65 = .ok (.iload 5, 2) := by decide +kernel
theorem dX5_runPipes_67 : decode cX5_runPipes 67 = .ok (.invokevirtual 85, 3) := by decide +kernel
theorem dX5_runPipes_70 : decode cX5_runPipes 70 = .ok (.ifCond .eq 28, 3) := by decide +kernel
theorem dX5_runPipes_73 : decode cX5_runPipes 73 = .ok (.aload_n 1, 1) := by decide +kernel
theorem dX5_runPipes_74 : decode cX5_runPipes 74 = .ok (.iload 4, 2) := by decide +kernel
theorem dX5_runPipes_76 : decode cX5_runPipes 76 = .ok (.iload 5, 2) := by decide +kernel
theorem dX5_runPipes_78 : decode cX5_runPipes 78 = .ok (.aload_n 1, 1) := by decide +kernel
theorem dX5_runPipes_79 : decode cX5_runPipes 79 = .ok (.getfield 101, 3) := by decide +kernel
theorem dX5_runPipes_82 : decode cX5_runPipes 82 = .ok (.iload_n 3, 1) := by decide +kernel
theorem dX5_runPipes_83 : decode cX5_runPipes 83 = .ok (.iaload, 1) := by decide +kernel
theorem dX5_runPipes_84 : decode cX5_runPipes 84 = .ok (.invokevirtual 89, 3) := by decide +kernel
theorem dX5_runPipes_87 : decode cX5_runPipes 87 = .ok (.aload_n 1, 1) := by decide +kernel
theorem dX5_runPipes_88 : decode cX5_runPipes 88 = .ok (.getfield 93, 3) := by decide +kernel
theorem dX5_runPipes_91 : decode cX5_runPipes 91 = .ok (.iload_n 3, 1) := by decide +kernel
theorem dX5_runPipes_92 : decode cX5_runPipes 92 = .ok (.dup2, 1) := by decide +kernel
theorem dX5_runPipes_93 : decode cX5_runPipes 93 = .ok (.iaload, 1) := by decide +kernel
theorem dX5_runPipes_94 : decode cX5_runPipes 94 = .ok (.iload 5, 2) := by decide +kernel
theorem dX5_runPipes_96 : decode cX5_runPipes 96 = .ok (.isub, 1) := by decide +kernel
theorem dX5_runPipes_97 : decode cX5_runPipes 97 = .ok (.iastore, 1) := by decide +kernel
theorem dX5_runPipes_98 : decode cX5_runPipes 98 = .ok (.iinc 2 1, 3) := by decide +kernel
theorem dX5_runPipes_101 : decode cX5_runPipes 101 = .ok (.goto (-99), 3) := by decide +kernel
theorem dX5_runPipes_104 : decode cX5_runPipes 104 = .ok (.return_, 1) := by decide +kernel
theorem dX5_coolTubs_0 : decode cX5_coolTubs 0 = .ok (.iconst 0, 1) := by decide +kernel
theorem dX5_coolTubs_1 : decode cX5_coolTubs 1 = .ok (.istore_n 2, 1) := by decide +kernel
theorem dX5_coolTubs_2 : decode cX5_coolTubs 2 = .ok (.iload_n 2, 1) := by decide +kernel
theorem dX5_coolTubs_3 : decode cX5_coolTubs 3 = .ok (.aload_n 0, 1) := by decide +kernel
theorem dX5_coolTubs_4 : decode cX5_coolTubs 4 = .ok (.getfield 104, 3) := by decide +kernel
theorem dX5_coolTubs_7 : decode cX5_coolTubs 7 = .ok (.getfield 63, 3) := by decide +kernel
theorem dX5_coolTubs_10 : decode cX5_coolTubs 10 = .ok (.if_icmp .ge 81, 3) := by decide +kernel
theorem dX5_coolTubs_13 : decode cX5_coolTubs 13 = .ok (.iload_n 2, 1) := by decide +kernel
theorem dX5_coolTubs_14 : decode cX5_coolTubs 14 = .ok (.bipush 6, 2) := by decide +kernel
theorem dX5_coolTubs_16 : decode cX5_coolTubs 16 = .ok (.if_icmp .ge 75, 3) := by decide +kernel
theorem dX5_coolTubs_19 : decode cX5_coolTubs 19 = .ok (.aload_n 0, 1) := by decide +kernel
theorem dX5_coolTubs_20 : decode cX5_coolTubs 20 = .ok (.iconst 0, 1) := by decide +kernel
theorem dX5_coolTubs_21 : decode cX5_coolTubs 21 = .ok (.aload_n 1, 1) := by decide +kernel
theorem dX5_coolTubs_22 : decode cX5_coolTubs 22 = .ok (.iconst (-1), 1) := by decide +kernel
theorem dX5_coolTubs_23 : decode cX5_coolTubs 23 = .ok (.iload_n 2, 1) := by decide +kernel
theorem dX5_coolTubs_24 : decode cX5_coolTubs 24 = .ok (.iconst 0, 1) := by decide +kernel
theorem dX5_coolTubs_25 : decode cX5_coolTubs 25 = .ok (.invokevirtual 107, 3) := by decide +kernel
theorem dX5_coolTubs_28 : decode cX5_coolTubs 28 = .ok (.lstore_n 3, 1) := by decide +kernel
theorem dX5_coolTubs_29 : decode cX5_coolTubs 29 = .ok (.lload_n 3, 1) := by decide +kernel
theorem dX5_coolTubs_30 : decode cX5_coolTubs 30 = .ok (.ldc2_w 111, 3) := by decide +kernel
theorem dX5_coolTubs_33 : decode cX5_coolTubs 33 = .ok (.lcmp, 1) := by decide +kernel
theorem dX5_coolTubs_34 : decode cX5_coolTubs 34 = .ok (.ifCond .ne 23, 3) := by decide +kernel
theorem dX5_coolTubs_37 : decode cX5_coolTubs 37 = .ok (.iconst 0, 1) := by decide +kernel
theorem dX5_coolTubs_38 : decode cX5_coolTubs 38 = .ok (.aload_n 1, 1) := by decide +kernel
theorem dX5_coolTubs_39 : decode cX5_coolTubs 39 = .ok (.getfield 101, 3) := by decide +kernel
theorem dX5_coolTubs_42 : decode cX5_coolTubs 42 = .ok (.iload_n 2, 1) := by decide +kernel
theorem dX5_coolTubs_43 : decode cX5_coolTubs 43 = .ok (.iaload, 1) := by decide +kernel
theorem dX5_coolTubs_44 : decode cX5_coolTubs 44 = .ok (.sipush 200, 3) := by decide +kernel
theorem dX5_coolTubs_47 : decode cX5_coolTubs 47 = .ok (.isub, 1) := by decide +kernel
theorem dX5_coolTubs_48 : decode cX5_coolTubs 48 = .ok (.bipush 50, 2) := by decide +kernel
theorem dX5_coolTubs_50 : decode cX5_coolTubs 50 = .ok (.idiv, 1) := by decide +kernel
theorem dX5_coolTubs_51 : decode cX5_coolTubs 51 = .ok (.invokestatic 113, 3) := by decide +kernel
theorem dX5_coolTubs_54 : decode cX5_coolTubs 54 = .ok (.goto 10, 3) := by decide +kernel
theorem dX5_coolTubs_57 : decode cX5_coolTubs 57 = .ok (.lload_n 3, 1) := by decide +kernel
theorem dX5_coolTubs_58 : decode cX5_coolTubs 58 = .ok (.iconst 0, 1) := by decide +kernel
theorem dX5_coolTubs_59 : decode cX5_coolTubs 59 = .ok (.bipush 99, 2) := by decide +kernel
theorem dX5_coolTubs_61 : decode cX5_coolTubs 61 = .ok (.invokestatic 116, 3) := by decide +kernel
theorem dX5_coolTubs_64 : decode cX5_coolTubs 64 = .ok (.istore 5, 2) := by decide +kernel
theorem dX5_coolTubs_66 : decode cX5_coolTubs 66 = .ok (.aload_n 1, 1) := by decide +kernel
theorem dX5_coolTubs_67 : decode cX5_coolTubs 67 = .ok (.getfield 101, 3) := by decide +kernel
theorem dX5_coolTubs_70 : decode cX5_coolTubs 70 = .ok (.iload_n 2, 1) := by decide +kernel
theorem dX5_coolTubs_71 : decode cX5_coolTubs 71 = .ok (.iconst 0, 1) := by decide +kernel
theorem dX5_coolTubs_72 : decode cX5_coolTubs 72 = .ok (.aload_n 1, 1) := by decide +kernel
theorem dX5_coolTubs_73 : decode cX5_coolTubs 73 = .ok (.getfield 101, 3) := by decide +kernel
theorem dX5_coolTubs_76 : decode cX5_coolTubs 76 = .ok (.iload_n 2, 1) := by decide +kernel
theorem dX5_coolTubs_77 : decode cX5_coolTubs 77 = .ok (.iaload, 1) := by decide +kernel
theorem dX5_coolTubs_78 : decode cX5_coolTubs 78 = .ok (.iload 5, 2) := by decide +kernel
theorem dX5_coolTubs_80 : decode cX5_coolTubs 80 = .ok (.isub, 1) := by decide +kernel
theorem dX5_coolTubs_81 : decode cX5_coolTubs 81 = .ok (.invokestatic 113, 3) := by decide +kernel
theorem dX5_coolTubs_84 : decode cX5_coolTubs 84 = .ok (.iastore, 1) := by decide +kernel
theorem dX5_coolTubs_85 : decode cX5_coolTubs 85 = .ok (.iinc 2 1, 3) := by decide +kernel
theorem dX5_coolTubs_88 : decode cX5_coolTubs 88 = .ok (.goto (-86), 3) := by decide +kernel
theorem dX5_coolTubs_91 : decode cX5_coolTubs 91 = .ok (.return_, 1) := by decide +kernel
theorem dX5_within_0 : decode cX5_within 0 = .ok (.lload_n 0, 1) := by decide +kernel
theorem dX5_within_1 : decode cX5_within 1 = .ok (.iload_n 2, 1) := by decide +kernel
theorem dX5_within_2 : decode cX5_within 2 = .ok (.i2l, 1) := by decide +kernel
theorem dX5_within_3 : decode cX5_within 3 = .ok (.lcmp, 1) := by decide +kernel
theorem dX5_within_4 : decode cX5_within 4 = .ok (.ifCond .ge 7, 3) := by decide +kernel
theorem dX5_within_7 : decode cX5_within 7 = .ok (.iload_n 2, 1) := by decide +kernel
theorem dX5_within_8 : decode cX5_within 8 = .ok (.goto 16, 3) := by decide +kernel
theorem dX5_within_11 : decode cX5_within 11 = .ok (.lload_n 0, 1) := by decide +kernel
theorem dX5_within_12 : decode cX5_within 12 = .ok (.iload_n 3, 1) := by decide +kernel
theorem dX5_within_13 : decode cX5_within 13 = .ok (.i2l, 1) := by decide +kernel
theorem dX5_within_14 : decode cX5_within 14 = .ok (.lcmp, 1) := by decide +kernel
theorem dX5_within_15 : decode cX5_within 15 = .ok (.ifCond .le 7, 3) := by decide +kernel
theorem dX5_within_18 : decode cX5_within 18 = .ok (.iload_n 3, 1) := by decide +kernel
theorem dX5_within_19 : decode cX5_within 19 = .ok (.goto 5, 3) := by decide +kernel
theorem dX5_within_22 : decode cX5_within 22 = .ok (.lload_n 0, 1) := by decide +kernel
theorem dX5_within_23 : decode cX5_within 23 = .ok (.l2i, 1) := by decide +kernel
theorem dX5_within_24 : decode cX5_within 24 = .ok (.ireturn, 1) := by decide +kernel
theorem dX5_seatKnights_0 : decode cX5_seatKnights 0 = .ok (.iconst 0, 1) := by decide +kernel
theorem dX5_seatKnights_1 : decode cX5_seatKnights 1 = .ok (.istore_n 3, 1) := by decide +kernel
theorem dX5_seatKnights_2 : decode cX5_seatKnights 2 = .ok (.iload_n 3, 1) := by decide +kernel
theorem dX5_seatKnights_3 : decode cX5_seatKnights 3 = .ok (.aload_n 1, 1) := by decide +kernel
theorem dX5_seatKnights_4 : decode cX5_seatKnights 4 = .ok (.getfield 63, 3) := by decide +kernel
theorem dX5_seatKnights_7 : decode cX5_seatKnights 7 = .ok (.if_icmp .ge 67, 3) := by decide +kernel
theorem dX5_seatKnights_10 : decode cX5_seatKnights 10 = .ok (.aload_n 1, 1) := by decide +kernel
theorem dX5_seatKnights_11 : decode cX5_seatKnights 11 = .ok (.iload_n 3, 1) := by decide +kernel
theorem dX5_seatKnights_12 : decode cX5_seatKnights 12 = .ok (.iconst 0, 1) := by decide +kernel
theorem dX5_seatKnights_13 : decode cX5_seatKnights 13 = .ok (.invokevirtual 81, 3) := by decide +kernel
theorem dX5_seatKnights_16 : decode cX5_seatKnights 16 = .ok (.istore 4, 2) := by decide +kernel
theorem dX5_seatKnights_18 : decode cX5_seatKnights 18 = .ok (.aload_n 1, 1) := by decide +kernel
theorem dX5_seatKnights_19 : decode cX5_seatKnights 19 = .ok (.iload_n 3, 1) := by decide +kernel
theorem dX5_seatKnights_20 : decode cX5_seatKnights 20 = .ok (.iconst 2, 1) := by decide +kernel
theorem dX5_seatKnights_21 : decode cX5_seatKnights 21 = .ok (.invokevirtual 81, 3) := by decide +kernel
theorem dX5_seatKnights_24 : decode cX5_seatKnights 24 = .ok (.aload_n 2, 1) := by decide +kernel
theorem dX5_seatKnights_25 : decode cX5_seatKnights 25 = .ok (.getfield 78, 3) := by decide +kernel
theorem dX5_seatKnights_28 : decode cX5_seatKnights 28 = .ok (.if_icmp .ne 40, 3) := by decide +kernel
theorem dX5_seatKnights_31 : decode cX5_seatKnights 31 = .ok (.iload 4, 2) := by decide +kernel
theorem dX5_seatKnights_33 : decode cX5_seatKnights 33 = .ok (.aload_n 0, 1) := by decide +kernel
theorem dX5_seatKnights_34 : decode cX5_seatKnights 34 = .ok (.getfield 9, 3) := by decide +kernel
theorem dX5_seatKnights_37 : decode cX5_seatKnights 37 = .ok (.if_icmp .ne 6, 3) := by decide +kernel
theorem dX5_seatKnights_40 : decode cX5_seatKnights 40 = .ok (.goto 28, 3) := by decide +kernel
theorem dX5_seatKnights_43 : decode cX5_seatKnights 43 = .ok (.aload_n 2, 1) := by decide +kernel
theorem dX5_seatKnights_44 : decode cX5_seatKnights 44 = .ok (.iload 4, 2) := by decide +kernel
theorem dX5_seatKnights_46 : decode cX5_seatKnights 46 = .ok (.aload_n 1, 1) := by decide +kernel
theorem dX5_seatKnights_47 : decode cX5_seatKnights 47 = .ok (.iload_n 3, 1) := by decide +kernel
theorem dX5_seatKnights_48 : decode cX5_seatKnights 48 = .ok (.iconst 1, 1) := by decide +kernel
theorem dX5_seatKnights_49 : decode cX5_seatKnights 49 = .ok (.invokevirtual 81, 3) := by decide +kernel
theorem dX5_seatKnights_52 : decode cX5_seatKnights 52 = .ok (.invokevirtual 120, 3) := by decide +kernel
theorem dX5_seatKnights_55 : decode cX5_seatKnights 55 = .ok (.ifCond .ne 13, 3) := by decide +kernel
theorem dX5_seatKnights_58 : decode cX5_seatKnights 58 = .ok (.aload_n 2, 1) := by decide +kernel
theorem dX5_seatKnights_59 : decode cX5_seatKnights 59 = .ok (.dup, 1) := by decide +kernel
theorem dX5_seatKnights_60 : decode cX5_seatKnights 60 = .ok (.getfield 123, 3) := by decide +kernel
theorem dX5_seatKnights_63 : decode cX5_seatKnights 63 = .ok (.iconst 1, 1) := by decide +kernel
theorem dX5_seatKnights_64 : decode cX5_seatKnights 64 = .ok (.iadd, 1) := by decide +kernel
theorem dX5_seatKnights_65 : decode cX5_seatKnights 65 = .ok (.putfield 123, 3) := by decide +kernel
theorem dX5_seatKnights_68 : decode cX5_seatKnights 68 = .ok (.iinc 3 1, 3) := by decide +kernel
theorem dX5_seatKnights_71 : decode cX5_seatKnights 71 = .ok (.goto (-69), 3) := by decide +kernel
theorem dX5_seatKnights_74 : decode cX5_seatKnights 74 = .ok (.return_, 1) := by decide +kernel
theorem dX5_stand_0 : decode cX5_stand 0 = .ok (.aload_n 2, 1) := by decide +kernel
theorem dX5_stand_1 : decode cX5_stand 1 = .ok (.getfield 68, 3) := by decide +kernel
theorem dX5_stand_4 : decode cX5_stand 4 = .ok (.iload_n 3, 1) := by decide +kernel
theorem dX5_stand_5 : decode cX5_stand 5 = .ok (.iaload, 1) := by decide +kernel
theorem dX5_stand_6 : decode cX5_stand 6 = .ok (.istore 4, 2) := by decide +kernel
theorem dX5_stand_8 : decode cX5_stand 8 = .ok (.aload_n 1, 1) := by decide +kernel
theorem dX5_stand_9 : decode cX5_stand 9 = .ok (.iload 4, 2) := by decide +kernel
theorem dX5_stand_11 : decode cX5_stand 11 = .ok (.invokevirtual 126, 3) := by decide +kernel
theorem dX5_stand_14 : decode cX5_stand 14 = .ok (.ifCond .ne 4, 3) := by decide +kernel
theorem dX5_stand_17 : decode cX5_stand 17 = .ok (.return_, 1) := by decide +kernel
theorem dX5_stand_18 : decode cX5_stand 18 = .ok (.aload_n 1, 1) := by decide +kernel
theorem dX5_stand_19 : decode cX5_stand 19 = .ok (.aload_n 2, 1) := by decide +kernel
theorem dX5_stand_20 : decode cX5_stand 20 = .ok (.iload_n 3, 1) := by decide +kernel
theorem dX5_stand_21 : decode cX5_stand 21 = .ok (.iload 4, 2) := by decide +kernel
theorem dX5_stand_23 : decode cX5_stand 23 = .ok (.aload_n 2, 1) := by decide +kernel
theorem dX5_stand_24 : decode cX5_stand 24 = .ok (.getfield 130, 3) := by decide +kernel
theorem dX5_stand_27 : decode cX5_stand 27 = .ok (.iload_n 3, 1) := by decide +kernel
theorem dX5_stand_28 : decode cX5_stand 28 = .ok (.iaload, 1) := by decide +kernel
theorem dX5_stand_29 : decode cX5_stand 29 = .ok (.invokevirtual 133, 3) := by decide +kernel
theorem dX5_stand_32 : decode cX5_stand 32 = .ok (.ifCond .eq 28, 3) := by decide +kernel
theorem dX5_stand_35 : decode cX5_stand 35 = .ok (.aload_n 2, 1) := by decide +kernel
theorem dX5_stand_36 : decode cX5_stand 36 = .ok (.getfield 137, 3) := by decide +kernel
theorem dX5_stand_39 : decode cX5_stand 39 = .ok (.iload_n 3, 1) := by decide +kernel
theorem dX5_stand_40 : decode cX5_stand 40 = .ok (.aload_n 2, 1) := by decide +kernel
theorem dX5_stand_41 : decode cX5_stand 41 = .ok (.getfield 137, 3) := by decide +kernel
theorem dX5_stand_44 : decode cX5_stand 44 = .ok (.iload_n 3, 1) := by decide +kernel
theorem dX5_stand_45 : decode cX5_stand 45 = .ok (.iaload, 1) := by decide +kernel
theorem dX5_stand_46 : decode cX5_stand 46 = .ok (.aload_n 2, 1) := by decide +kernel
theorem dX5_stand_47 : decode cX5_stand 47 = .ok (.getfield 101, 3) := by decide +kernel
theorem dX5_stand_50 : decode cX5_stand 50 = .ok (.iload 4, 2) := by decide +kernel
theorem dX5_stand_52 : decode cX5_stand 52 = .ok (.iaload, 1) := by decide +kernel
theorem dX5_stand_53 : decode cX5_stand 53 = .ok (.invokestatic 113, 3) := by decide +kernel
theorem dX5_stand_56 : decode cX5_stand 56 = .ok (.iastore, 1) := by decide +kernel
theorem dX5_stand_57 : decode cX5_stand 57 = .ok (.goto 31, 3) := by decide +kernel
theorem dX5_stand_60 : decode cX5_stand 60 = .ok (.aload_n 0, 1) := by decide +kernel
theorem dX5_stand_61 : decode cX5_stand 61 = .ok (.aload_n 1, 1) := by decide +kernel
theorem dX5_stand_62 : decode cX5_stand 62 = .ok (.getfield 28, 3) := by decide +kernel
theorem dX5_stand_65 : decode cX5_stand 65 = .ok (.aload_n 2, 1) := by decide +kernel
theorem dX5_stand_66 : decode cX5_stand 66 = .ok (.invokevirtual 140, 3) := by decide +kernel
theorem dX5_stand_69 : decode cX5_stand 69 = .ok (.ifCond .eq 19, 3) := by decide +kernel
theorem dX5_stand_72 : decode cX5_stand 72 = .ok (.aload_n 2, 1) := by decide +kernel
theorem dX5_stand_73 : decode cX5_stand 73 = .ok (.iload_n 3, 1) := by decide +kernel
theorem dX5_stand_74 : decode cX5_stand 74 = .ok (.invokevirtual 144, 3) := by decide +kernel
theorem dX5_stand_77 : decode cX5_stand 77 = .ok (.aload_n 2, 1) := by decide +kernel
theorem dX5_stand_78 : decode cX5_stand 78 = .ok (.getfield 148, 3) := by decide +kernel
theorem dX5_stand_81 : decode cX5_stand 81 = .ok (.iload_n 3, 1) := by decide +kernel
theorem dX5_stand_82 : decode cX5_stand 82 = .ok (.dup2, 1) := by decide +kernel
theorem dX5_stand_83 : decode cX5_stand 83 = .ok (.iaload, 1) := by decide +kernel
theorem dX5_stand_84 : decode cX5_stand 84 = .ok (.iconst 1, 1) := by decide +kernel
theorem dX5_stand_85 : decode cX5_stand 85 = .ok (.iadd, 1) := by decide +kernel
theorem dX5_stand_86 : decode cX5_stand 86 = .ok (.iastore, 1) := by decide +kernel
theorem dX5_stand_87 : decode cX5_stand 87 = .ok (.return_, 1) := by decide +kernel
theorem dX5_stand_88 : decode cX5_stand 88 = .ok (.aload_n 2, 1) := by decide +kernel
theorem dX5_stand_89 : decode cX5_stand 89 = .ok (.getfield 151, 3) := by decide +kernel
theorem dX5_stand_92 : decode cX5_stand 92 = .ok (.iload_n 3, 1) := by decide +kernel
theorem dX5_stand_93 : decode cX5_stand 93 = .ok (.sipush 9999, 3) := by decide +kernel
theorem dX5_stand_96 : decode cX5_stand 96 = .ok (.aload_n 2, 1) := by decide +kernel
theorem dX5_stand_97 : decode cX5_stand 97 = .ok (.getfield 151, 3) := by decide +kernel
theorem dX5_stand_100 : decode cX5_stand 100 = .ok (.iload_n 3, 1) := by decide +kernel
theorem dX5_stand_101 : decode cX5_stand 101 = .ok (.iaload, 1) := by decide +kernel
theorem dX5_stand_102 : decode cX5_stand 102 = .ok (.iconst 1, 1) := by decide +kernel
theorem dX5_stand_103 : decode cX5_stand 103 = .ok (.iadd, 1) := by decide +kernel
theorem dX5_stand_104 : decode cX5_stand 104 = .ok (.invokestatic 96, 3) := by decide +kernel
theorem dX5_stand_107 : decode cX5_stand 107 = .ok (.iastore, 1) := by decide +kernel
theorem dX5_stand_108 : decode cX5_stand 108 = .ok (.aload_n 2, 1) := by decide +kernel
theorem dX5_stand_109 : decode cX5_stand 109 = .ok (.getfield 130, 3) := by decide +kernel
theorem dX5_stand_112 : decode cX5_stand 112 = .ok (.iload_n 3, 1) := by decide +kernel
theorem dX5_stand_113 : decode cX5_stand 113 = .ok (.dup2, 1) := by decide +kernel
theorem dX5_stand_114 : decode cX5_stand 114 = .ok (.iaload, 1) := by decide +kernel
theorem dX5_stand_115 : decode cX5_stand 115 = .ok (.iconst 1, 1) := by decide +kernel
theorem dX5_stand_116 : decode cX5_stand 116 = .ok (.iadd, 1) := by decide +kernel
theorem dX5_stand_117 : decode cX5_stand 117 = .ok (.iastore, 1) := by decide +kernel
theorem dX5_stand_118 : decode cX5_stand 118 = .ok (.aload_n 1, 1) := by decide +kernel
theorem dX5_stand_119 : decode cX5_stand 119 = .ok (.iconst 2, 1) := by decide +kernel
theorem dX5_stand_120 : decode cX5_stand 120 = .ok (.aload_n 2, 1) := by decide +kernel
theorem dX5_stand_121 : decode cX5_stand 121 = .ok (.iload_n 3, 1) := by decide +kernel
theorem dX5_stand_122 : decode cX5_stand 122 = .ok (.iload 4, 2) := by decide +kernel
theorem dX5_stand_124 : decode cX5_stand 124 = .ok (.aload_n 2, 1) := by decide +kernel
theorem dX5_stand_125 : decode cX5_stand 125 = .ok (.getfield 130, 3) := by decide +kernel
theorem dX5_stand_128 : decode cX5_stand 128 = .ok (.iload_n 3, 1) := by decide +kernel
theorem dX5_stand_129 : decode cX5_stand 129 = .ok (.iaload, 1) := by decide +kernel
theorem dX5_stand_130 : decode cX5_stand 130 = .ok (.invokevirtual 107, 3) := by decide +kernel
theorem dX5_stand_133 : decode cX5_stand 133 = .ok (.lstore 5, 2) := by decide +kernel
theorem dX5_stand_135 : decode cX5_stand 135 = .ok (.lload 5, 2) := by decide +kernel
theorem dX5_stand_137 : decode cX5_stand 137 = .ok (.ldc2_w 111, 3) := by decide +kernel
theorem dX5_stand_140 : decode cX5_stand 140 = .ok (.lcmp, 1) := by decide +kernel
theorem dX5_stand_141 : decode cX5_stand 141 = .ok (.ifCond .ne 7, 3) := by decide +kernel
theorem dX5_stand_144 : decode cX5_stand 144 = .ok (.iconst 0, 1) := by decide +kernel
theorem dX5_stand_145 : decode cX5_stand 145 = .ok (.goto 12, 3) := by decide +kernel
theorem dX5_stand_148 : decode cX5_stand 148 = .ok (.lload 5, 2) := by decide +kernel
theorem dX5_stand_150 : decode cX5_stand 150 = .ok (.bipush (-9), 2) := by decide +kernel
theorem dX5_stand_152 : decode cX5_stand 152 = .ok (.bipush 9, 2) := by decide +kernel
theorem dX5_stand_154 : decode cX5_stand 154 = .ok (.invokestatic 116, 3) := by decide +kernel
theorem dX5_stand_157 : decode cX5_stand 157 = .ok (.istore 7, 2) := by decide +kernel
theorem dX5_stand_159 : decode cX5_stand 159 = .ok (.aload_n 2, 1) := by decide +kernel
theorem dX5_stand_160 : decode cX5_stand 160 = .ok (.getfield 154, 3) := by decide +kernel
theorem dX5_stand_163 : decode cX5_stand 163 = .ok (.iload_n 3, 1) := by decide +kernel
theorem dX5_stand_164 : decode cX5_stand 164 = .ok (.aload_n 2, 1) := by decide +kernel
theorem dX5_stand_165 : decode cX5_stand 165 = .ok (.getfield 154, 3) := by decide +kernel
theorem dX5_stand_168 : decode cX5_stand 168 = .ok (.iload_n 3, 1) := by decide +kernel
theorem dX5_stand_169 : decode cX5_stand 169 = .ok (.iaload, 1) := by decide +kernel
theorem dX5_stand_170 : decode cX5_stand 170 = .ok (.iload 7, 2) := by decide +kernel
theorem dX5_stand_172 : decode cX5_stand 172 = .ok (.iadd, 1) := by decide +kernel
theorem dX5_stand_173 : decode cX5_stand 173 = .ok (.i2l, 1) := by decide +kernel
theorem dX5_stand_174 : decode cX5_stand 174 = .ok (.iconst 0, 1) := by decide +kernel
theorem dX5_stand_175 : decode cX5_stand 175 = .ok (.bipush 99, 2) := by decide +kernel
theorem dX5_stand_177 : decode cX5_stand 177 = .ok (.invokestatic 116, 3) := by decide +kernel
theorem dX5_stand_180 : decode cX5_stand 180 = .ok (.iastore, 1) := by decide +kernel
theorem dX5_stand_181 : decode cX5_stand 181 = .ok (.return_, 1) := by decide +kernel
theorem dX5_givesWay_0 : decode cX5_givesWay 0 = .ok (.aload_n 0, 1) := by decide +kernel
theorem dX5_givesWay_1 : decode cX5_givesWay 1 = .ok (.getfield 22, 3) := by decide +kernel
theorem dX5_givesWay_4 : decode cX5_givesWay 4 = .ok (.ifCond .eq 17, 3) := by decide +kernel
theorem dX5_givesWay_7 : decode cX5_givesWay 7 = .ok (.aload_n 0, 1) := by decide +kernel
theorem dX5_givesWay_8 : decode cX5_givesWay 8 = .ok (.getfield 22, 3) := by decide +kernel
theorem dX5_givesWay_11 : decode cX5_givesWay 11 = .ok (.iconst 1, 1) := by decide +kernel
theorem dX5_givesWay_12 : decode cX5_givesWay 12 = .ok (.if_icmp .ne 7, 3) := by decide +kernel
theorem dX5_givesWay_15 : decode cX5_givesWay 15 = .ok (.iconst 1, 1) := by decide +kernel
theorem dX5_givesWay_16 : decode cX5_givesWay 16 = .ok (.goto 4, 3) := by decide +kernel
theorem dX5_givesWay_19 : decode cX5_givesWay 19 = .ok (.iconst 0, 1) := by decide +kernel
theorem dX5_givesWay_20 : decode cX5_givesWay 20 = .ok (.ireturn, 1) := by decide +kernel
theorem dX5_givesWay_21 : decode cX5_givesWay 21 = .ok (.iload_n 1, 1) := by decide +kernel
theorem dX5_givesWay_22 : decode cX5_givesWay 22 = .ok (.ifCond .eq 9, 3) := by decide +kernel
theorem dX5_givesWay_25 : decode cX5_givesWay 25 = .ok (.iload_n 1, 1) := by decide +kernel
theorem dX5_givesWay_26 : decode cX5_givesWay 26 = .ok (.bipush 100, 2) := by decide +kernel
theorem dX5_givesWay_28 : decode cX5_givesWay 28 = .ok (.if_icmp .ne 15, 3) := by decide +kernel
theorem dX5_givesWay_31 : decode cX5_givesWay 31 = .ok (.iload_n 1, 1) := by decide +kernel
theorem dX5_givesWay_32 : decode cX5_givesWay 32 = .ok (.bipush 100, 2) := by decide +kernel
theorem dX5_givesWay_34 : decode cX5_givesWay 34 = .ok (.if_icmp .ne 7, 3) := by decide +kernel
theorem dX5_givesWay_37 : decode cX5_givesWay 37 = .ok (.iconst 1, 1) := by decide +kernel
theorem dX5_givesWay_38 : decode cX5_givesWay 38 = .ok (.goto 4, 3) := by decide +kernel
theorem dX5_givesWay_41 : decode cX5_givesWay 41 = .ok (.iconst 0, 1) := by decide +kernel
theorem dX5_givesWay_42 : decode cX5_givesWay 42 = .ok (.ireturn, 1) := by decide +kernel
theorem dX5_givesWay_43 : decode cX5_givesWay 43 = .ok (.aload_n 2, 1) := by decide +kernel
theorem dX5_givesWay_44 : decode cX5_givesWay 44 = .ok (.invokevirtual 157, 3) := by decide +kernel
theorem dX5_givesWay_47 : decode cX5_givesWay 47 = .ok (.bipush 100, 2) := by decide +kernel
theorem dX5_givesWay_49 : decode cX5_givesWay 49 = .ok (.irem, 1) := by decide +kernel
theorem dX5_givesWay_50 : decode cX5_givesWay 50 = .ok (.iload_n 1, 1) := by decide +kernel
theorem dX5_givesWay_51 : decode cX5_givesWay 51 = .ok (.if_icmp .ge 7, 3) := by decide +kernel
theorem dX5_givesWay_54 : decode cX5_givesWay 54 = .ok (.iconst 1, 1) := by decide +kernel
theorem dX5_givesWay_55 : decode cX5_givesWay 55 = .ok (.goto 4, 3) := by decide +kernel
theorem dX5_givesWay_58 : decode cX5_givesWay 58 = .ok (.iconst 0, 1) := by decide +kernel
theorem dX5_givesWay_59 : decode cX5_givesWay 59 = .ok (.ireturn, 1) := by decide +kernel
theorem dX6_init_0 : decode cX6_init 0 = .ok (.aload_n 0, 1) := by decide +kernel
theorem dX6_init_1 : decode cX6_init 1 = .ok (.invokespecial 3, 3) := by decide +kernel
theorem dX6_init_4 : decode cX6_init 4 = .ok (.aload_n 0, 1) := by decide +kernel
theorem dX6_init_5 : decode cX6_init 5 = .ok (.new 9, 3) := by decide +kernel
theorem dX6_init_8 : decode cX6_init 8 = .ok (.dup, 1) := by decide +kernel
theorem dX6_init_9 : decode cX6_init 9 = .ok (.bipush 6, 2) := by decide +kernel
theorem dX6_init_11 : decode cX6_init 11 = .ok (.invokespecial 11, 3) := by decide +kernel
theorem dX6_init_14 : decode cX6_init 14 = .ok (.putfield 14, 3) := by decide +kernel
theorem dX6_init_17 : decode cX6_init 17 = .ok (.aload_n 0, 1) := by decide +kernel
theorem dX6_init_18 : decode cX6_init 18 = .ok (.new 9, 3) := by decide +kernel
theorem dX6_init_21 : decode cX6_init 21 = .ok (.dup, 1) := by decide +kernel
theorem dX6_init_22 : decode cX6_init 22 = .ok (.bipush 6, 2) := by decide +kernel
theorem dX6_init_24 : decode cX6_init 24 = .ok (.invokespecial 11, 3) := by decide +kernel
theorem dX6_init_27 : decode cX6_init 27 = .ok (.putfield 20, 3) := by decide +kernel
theorem dX6_init_30 : decode cX6_init 30 = .ok (.aload_n 0, 1) := by decide +kernel
theorem dX6_init_31 : decode cX6_init 31 = .ok (.new 9, 3) := by decide +kernel
theorem dX6_init_34 : decode cX6_init 34 = .ok (.dup, 1) := by decide +kernel
theorem dX6_init_35 : decode cX6_init 35 = .ok (.bipush 12, 2) := by decide +kernel
theorem dX6_init_37 : decode cX6_init 37 = .ok (.invokespecial 11, 3) := by decide +kernel
theorem dX6_init_40 : decode cX6_init 40 = .ok (.putfield 23, 3) := by decide +kernel
theorem dX6_init_43 : decode cX6_init 43 = .ok (.aload_n 0, 1) := by decide +kernel
theorem dX6_init_44 : decode cX6_init 44 = .ok (.new 9, 3) := by decide +kernel
theorem dX6_init_47 : decode cX6_init 47 = .ok (.dup, 1) := by decide +kernel
theorem dX6_init_48 : decode cX6_init 48 = .ok (.bipush 10, 2) := by decide +kernel
theorem dX6_init_50 : decode cX6_init 50 = .ok (.invokespecial 11, 3) := by decide +kernel
theorem dX6_init_53 : decode cX6_init 53 = .ok (.putfield 26, 3) := by decide +kernel
theorem dX6_init_56 : decode cX6_init 56 = .ok (.aload_n 0, 1) := by decide +kernel
theorem dX6_init_57 : decode cX6_init 57 = .ok (.new 9, 3) := by decide +kernel
theorem dX6_init_60 : decode cX6_init 60 = .ok (.dup, 1) := by decide +kernel
theorem dX6_init_61 : decode cX6_init 61 = .ok (.bipush 8, 2) := by decide +kernel
theorem dX6_init_63 : decode cX6_init 63 = .ok (.invokespecial 11, 3) := by decide +kernel
theorem dX6_init_66 : decode cX6_init 66 = .ok (.putfield 29, 3) := by decide +kernel
theorem dX6_init_69 : decode cX6_init 69 = .ok (.aload_n 0, 1) := by decide +kernel
theorem dX6_init_70 : decode cX6_init 70 = .ok (.new 32, 3) := by decide +kernel
theorem dX6_init_73 : decode cX6_init 73 = .ok (.dup, 1) := by decide +kernel
theorem dX6_init_74 : decode cX6_init 74 = .ok (.invokespecial 34, 3) := by decide +kernel
theorem dX6_init_77 : decode cX6_init 77 = .ok (.putfield 35, 3) := by decide +kernel
theorem dX6_init_80 : decode cX6_init 80 = .ok (.aload_n 0, 1) := by decide +kernel
theorem dX6_init_81 : decode cX6_init 81 = .ok (.bipush 100, 2) := by decide +kernel
theorem dX6_init_83 : decode cX6_init 83 = .ok (.putfield 39, 3) := by decide +kernel
theorem dX6_init_86 : decode cX6_init 86 = .ok (.return_, 1) := by decide +kernel
theorem dX6_forget_0 : decode cX6_forget 0 = .ok (.aload_n 0, 1) := by decide +kernel
theorem dX6_forget_1 : decode cX6_forget 1 = .ok (.getfield 14, 3) := by decide +kernel
theorem dX6_forget_4 : decode cX6_forget 4 = .ok (.iconst 0, 1) := by decide +kernel
theorem dX6_forget_5 : decode cX6_forget 5 = .ok (.putfield 43, 3) := by decide +kernel
theorem dX6_forget_8 : decode cX6_forget 8 = .ok (.aload_n 0, 1) := by decide +kernel
theorem dX6_forget_9 : decode cX6_forget 9 = .ok (.getfield 20, 3) := by decide +kernel
theorem dX6_forget_12 : decode cX6_forget 12 = .ok (.iconst 0, 1) := by decide +kernel
theorem dX6_forget_13 : decode cX6_forget 13 = .ok (.putfield 43, 3) := by decide +kernel
theorem dX6_forget_16 : decode cX6_forget 16 = .ok (.aload_n 0, 1) := by decide +kernel
theorem dX6_forget_17 : decode cX6_forget 17 = .ok (.getfield 23, 3) := by decide +kernel
theorem dX6_forget_20 : decode cX6_forget 20 = .ok (.iconst 0, 1) := by decide +kernel
theorem dX6_forget_21 : decode cX6_forget 21 = .ok (.putfield 43, 3) := by decide +kernel
theorem dX6_forget_24 : decode cX6_forget 24 = .ok (.aload_n 0, 1) := by decide +kernel
theorem dX6_forget_25 : decode cX6_forget 25 = .ok (.getfield 26, 3) := by decide +kernel
theorem dX6_forget_28 : decode cX6_forget 28 = .ok (.iconst 0, 1) := by decide +kernel
theorem dX6_forget_29 : decode cX6_forget 29 = .ok (.putfield 43, 3) := by decide +kernel
theorem dX6_forget_32 : decode cX6_forget 32 = .ok (.aload_n 0, 1) := by decide +kernel
theorem dX6_forget_33 : decode cX6_forget 33 = .ok (.getfield 29, 3) := by decide +kernel
theorem dX6_forget_36 : decode cX6_forget 36 = .ok (.iconst 0, 1) := by decide +kernel
theorem dX6_forget_37 : decode cX6_forget 37 = .ok (.putfield 43, 3) := by decide +kernel
theorem dX6_forget_40 : decode cX6_forget 40 = .ok (.aload_n 0, 1) := by decide +kernel
theorem dX6_forget_41 : decode cX6_forget 41 = .ok (.getfield 35, 3) := by decide +kernel
theorem dX6_forget_44 : decode cX6_forget 44 = .ok (.invokevirtual 46, 3) := by decide +kernel
theorem dX6_forget_47 : decode cX6_forget 47 = .ok (.aload_n 0, 1) := by decide +kernel
theorem dX6_forget_48 : decode cX6_forget 48 = .ok (.bipush 100, 2) := by decide +kernel
theorem dX6_forget_50 : decode cX6_forget 50 = .ok (.putfield 39, 3) := by decide +kernel
theorem dX6_forget_53 : decode cX6_forget 53 = .ok (.aload_n 0, 1) := by decide +kernel
theorem dX6_forget_54 : decode cX6_forget 54 = .ok (.iconst 0, 1) := by decide +kernel
theorem dX6_forget_55 : decode cX6_forget 55 = .ok (.putfield 49, 3) := by decide +kernel
theorem dX6_forget_58 : decode cX6_forget 58 = .ok (.aload_n 0, 1) := by decide +kernel
theorem dX6_forget_59 : decode cX6_forget 59 = .ok (.iconst 0, 1) := by decide +kernel
theorem dX6_forget_60 : decode cX6_forget 60 = .ok (.putfield 53, 3) := by decide +kernel
theorem dX6_forget_63 : decode cX6_forget 63 = .ok (.aload_n 0, 1) := by decide +kernel
theorem dX6_forget_64 : decode cX6_forget 64 = .ok (.iconst 0, 1) := by decide +kernel
theorem dX6_forget_65 : decode cX6_forget 65 = .ok (.putfield 56, 3) := by decide +kernel
theorem dX6_forget_68 : decode cX6_forget 68 = .ok (.aload_n 0, 1) := by decide +kernel
theorem dX6_forget_69 : decode cX6_forget 69 = .ok (.iconst 0, 1) := by decide +kernel
theorem dX6_forget_70 : decode cX6_forget 70 = .ok (.putfield 59, 3) := by decide +kernel
theorem dX6_forget_73 : decode cX6_forget 73 = .ok (.return_, 1) := by decide +kernel
theorem dX6_hasKnight_0 : decode cX6_hasKnight 0 = .ok (.iload_n 1, 1) := by decide +kernel
theorem dX6_hasKnight_1 : decode cX6_hasKnight 1 = .ok (.ifCond .lt 24, 3) := by decide +kernel
theorem dX6_hasKnight_4 : decode cX6_hasKnight 4 = .ok (.iload_n 1, 1) := by decide +kernel
theorem dX6_hasKnight_5 : decode cX6_hasKnight 5 = .ok (.aload_n 0, 1) := by decide +kernel
theorem dX6_hasKnight_6 : decode cX6_hasKnight 6 = .ok (.getfield 14, 3) := by decide +kernel
theorem dX6_hasKnight_9 : decode cX6_hasKnight 9 = .ok (.getfield 43, 3) := by decide +kernel
theorem dX6_hasKnight_12 : decode cX6_hasKnight 12 = .ok (.if_icmp .ge 13, 3) := by decide +kernel
theorem dX6_hasKnight_15 : decode cX6_hasKnight 15 = .ok (.iload_n 1, 1) := by decide +kernel
theorem dX6_hasKnight_16 : decode cX6_hasKnight 16 = .ok (.bipush 6, 2) := by decide +kernel
theorem dX6_hasKnight_18 : decode cX6_hasKnight 18 = .ok (.if_icmp .ge 7, 3) := by decide +kernel
theorem dX6_hasKnight_21 : decode cX6_hasKnight 21 = .ok (.iconst 1, 1) := by decide +kernel
theorem dX6_hasKnight_22 : decode cX6_hasKnight 22 = .ok (.goto 4, 3) := by decide +kernel
theorem dX6_hasKnight_25 : decode cX6_hasKnight 25 = .ok (.iconst 0, 1) := by decide +kernel
theorem dX6_hasKnight_26 : decode cX6_hasKnight 26 = .ok (.ireturn, 1) := by decide +kernel
theorem dX6_hasTub_0 : decode cX6_hasTub 0 = .ok (.iload_n 1, 1) := by decide +kernel
theorem dX6_hasTub_1 : decode cX6_hasTub 1 = .ok (.ifCond .lt 24, 3) := by decide +kernel
theorem dX6_hasTub_4 : decode cX6_hasTub 4 = .ok (.iload_n 1, 1) := by decide +kernel
theorem dX6_hasTub_5 : decode cX6_hasTub 5 = .ok (.aload_n 0, 1) := by decide +kernel
theorem dX6_hasTub_6 : decode cX6_hasTub 6 = .ok (.getfield 20, 3) := by decide +kernel
theorem dX6_hasTub_9 : decode cX6_hasTub 9 = .ok (.getfield 43, 3) := by decide +kernel
theorem dX6_hasTub_12 : decode cX6_hasTub 12 = .ok (.if_icmp .ge 13, 3) := by decide +kernel
theorem dX6_hasTub_15 : decode cX6_hasTub 15 = .ok (.iload_n 1, 1) := by decide +kernel
theorem dX6_hasTub_16 : decode cX6_hasTub 16 = .ok (.bipush 6, 2) := by decide +kernel
theorem dX6_hasTub_18 : decode cX6_hasTub 18 = .ok (.if_icmp .ge 7, 3) := by decide +kernel
theorem dX6_hasTub_21 : decode cX6_hasTub 21 = .ok (.iconst 1, 1) := by decide +kernel
theorem dX6_hasTub_22 : decode cX6_hasTub 22 = .ok (.goto 4, 3) := by decide +kernel
theorem dX6_hasTub_25 : decode cX6_hasTub 25 = .ok (.iconst 0, 1) := by decide +kernel
theorem dX6_hasTub_26 : decode cX6_hasTub 26 = .ok (.ireturn, 1) := by decide +kernel
theorem dX6_rankOf_0 : decode cX6_rankOf 0 = .ok (.aload_n 0, 1) := by decide +kernel
theorem dX6_rankOf_1 : decode cX6_rankOf 1 = .ok (.getfield 14, 3) := by decide +kernel
theorem dX6_rankOf_4 : decode cX6_rankOf 4 = .ok (.iload_n 1, 1) := by decide +kernel
theorem dX6_rankOf_5 : decode cX6_rankOf 5 = .ok (.iconst 2, 1) := by decide +kernel
theorem dX6_rankOf_6 : decode cX6_rankOf 6 = .ok (.invokevirtual 62, 3) := by decide +kernel
theorem dX6_rankOf_9 : decode cX6_rankOf 9 = .ok (.ireturn, 1) := by decide +kernel
theorem dX6_easeIn_0 : decode cX6_easeIn 0 = .ok (.aload_n 0, 1) := by decide +kernel
theorem dX6_easeIn_1 : decode cX6_easeIn 1 = .ok (.iload_n 2, 1) := by decide +kernel
theorem dX6_easeIn_2 : decode cX6_easeIn 2 = .ok (.invokevirtual 66, 3) := by decide +kernel
theorem dX6_easeIn_5 : decode cX6_easeIn 5 = .ok (.ifCond .eq 11, 3) := by decide +kernel
theorem dX6_easeIn_8 : decode cX6_easeIn 8 = .ok (.aload_n 0, 1) := by decide +kernel
theorem dX6_easeIn_9 : decode cX6_easeIn 9 = .ok (.iload_n 3, 1) := by decide +kernel
theorem dX6_easeIn_10 : decode cX6_easeIn 10 = .ok (.invokevirtual 70, 3) := by decide +kernel
theorem dX6_easeIn_13 : decode cX6_easeIn 13 = .ok (.ifCond .ne 5, 3) := by decide +kernel
theorem dX6_easeIn_16 : decode cX6_easeIn 16 = .ok (.iconst 0, 1) := by decide +kernel
theorem dX6_easeIn_17 : decode cX6_easeIn 17 = .ok (.ireturn, 1) := by decide +kernel
theorem dX6_easeIn_18 : decode cX6_easeIn 18 = .ok (.aload_n 0, 1) := by decide +kernel
theorem dX6_easeIn_19 : decode cX6_easeIn 19 = .ok (.iconst 1, 1) := by decide +kernel
theorem dX6_easeIn_20 : decode cX6_easeIn 20 = .ok (.aload_n 1, 1) := by decide +kernel
theorem dX6_easeIn_21 : decode cX6_easeIn 21 = .ok (.iload_n 2, 1) := by decide +kernel
theorem dX6_easeIn_22 : decode cX6_easeIn 22 = .ok (.iload_n 3, 1) := by decide +kernel
theorem dX6_easeIn_23 : decode cX6_easeIn 23 = .ok (.iload 4, 2) := by decide +kernel
theorem dX6_easeIn_25 : decode cX6_easeIn 25 = .ok (.invokevirtual 73, 3) := by decide +kernel
theorem dX6_easeIn_28 : decode cX6_easeIn 28 = .ok (.lstore 5, 2) := by decide +kernel
theorem dX6_easeIn_30 : decode cX6_easeIn 30 = .ok (.lload 5, 2) := by decide +kernel
theorem dX6_easeIn_32 : decode cX6_easeIn 32 = .ok (.ldc2_w 77, 3) := by decide +kernel
theorem dX6_easeIn_35 : decode cX6_easeIn 35 = .ok (.lcmp, 1) := by decide +kernel
theorem dX6_easeIn_36 : decode cX6_easeIn 36 = .ok (.ifCond .ne 29, 3) := by decide +kernel
theorem dX6_easeIn_39 : decode cX6_easeIn 39 = .ok (.aload_n 1, 1) := by decide +kernel
theorem dX6_easeIn_40 : decode cX6_easeIn 40 = .ok (.getfield 79, 3) := by decide +kernel
theorem dX6_easeIn_43 : decode cX6_easeIn 43 = .ok (.iload_n 3, 1) := by decide +kernel
theorem dX6_easeIn_44 : decode cX6_easeIn 44 = .ok (.iaload, 1) := by decide +kernel
theorem dX6_easeIn_45 : decode cX6_easeIn 45 = .ok (.bipush 10, 2) := by decide +kernel
theorem dX6_easeIn_47 : decode cX6_easeIn 47 = .ok (.aload_n 1, 1) := by decide +kernel
theorem dX6_easeIn_48 : decode cX6_easeIn 48 = .ok (.getfield 85, 3) := by decide +kernel
theorem dX6_easeIn_51 : decode cX6_easeIn 51 = .ok (.iload_n 2, 1) := by decide +kernel
theorem dX6_easeIn_52 : decode cX6_easeIn 52 = .ok (.iaload, 1) := by decide +kernel
theorem dX6_easeIn_53 : decode cX6_easeIn 53 = .ok (.imul, 1) := by decide +kernel
theorem dX6_easeIn_54 : decode cX6_easeIn 54 = .ok (.if_icmp .gt 7, 3) := by decide +kernel
theorem dX6_easeIn_57 : decode cX6_easeIn 57 = .ok (.iconst 1, 1) := by decide +kernel
theorem dX6_easeIn_58 : decode cX6_easeIn 58 = .ok (.goto 19, 3) := by decide +kernel
theorem dX6_easeIn_61 : decode cX6_easeIn 61 = .ok (.iconst 0, 1) := by decide +kernel
theorem dX6_easeIn_62 : decode cX6_easeIn 62 = .ok (.goto 15, 3) := by decide +kernel
theorem dX6_easeIn_65 : decode cX6_easeIn 65 = .ok (.lload 5, 2) := by decide +kernel
theorem dX6_easeIn_67 : decode cX6_easeIn 67 = .ok (.lconst 0, 1) := by decide +kernel
theorem dX6_easeIn_68 : decode cX6_easeIn 68 = .ok (.lcmp, 1) := by decide +kernel
theorem dX6_easeIn_69 : decode cX6_easeIn 69 = .ok (.ifCond .eq 7, 3) := by decide +kernel
theorem dX6_easeIn_72 : decode cX6_easeIn 72 = .ok (.iconst 1, 1) := by decide +kernel
theorem dX6_easeIn_73 : decode cX6_easeIn 73 = .ok (.goto 4, 3) := by decide +kernel
theorem dX6_easeIn_76 : decode cX6_easeIn 76 = .ok (.iconst 0, 1) := by decide +kernel
theorem dX6_easeIn_77 : decode cX6_easeIn 77 = .ok (.ireturn, 1) := by decide +kernel
theorem dX6_worthOf_0 : decode cX6_worthOf 0 = .ok (.aload_n 0, 1) := by decide +kernel
theorem dX6_worthOf_1 : decode cX6_worthOf 1 = .ok (.getfield 35, 3) := by decide +kernel
theorem dX6_worthOf_4 : decode cX6_worthOf 4 = .ok (.iload_n 1, 1) := by decide +kernel
theorem dX6_worthOf_5 : decode cX6_worthOf 5 = .ok (.invokevirtual 88, 3) := by decide +kernel
theorem dX6_worthOf_8 : decode cX6_worthOf 8 = .ok (.ifCond .eq 12, 3) := by decide +kernel
theorem dX6_worthOf_11 : decode cX6_worthOf 11 = .ok (.aload_n 0, 1) := by decide +kernel
theorem dX6_worthOf_12 : decode cX6_worthOf 12 = .ok (.iload 4, 2) := by decide +kernel
theorem dX6_worthOf_14 : decode cX6_worthOf 14 = .ok (.invokevirtual 70, 3) := by decide +kernel
theorem dX6_worthOf_17 : decode cX6_worthOf 17 = .ok (.ifCond .ne 7, 3) := by decide +kernel
theorem dX6_worthOf_20 : decode cX6_worthOf 20 = .ok (.ldc2_w 77, 3) := by decide +kernel
theorem dX6_worthOf_23 : decode cX6_worthOf 23 = .ok (.lreturn, 1) := by decide +kernel
theorem dX6_worthOf_24 : decode cX6_worthOf 24 = .ok (.iload_n 1, 1) := by decide +kernel
theorem dX6_worthOf_25 : decode cX6_worthOf 25 = .ok (.ifCond .eq 15, 3) := by decide +kernel
theorem dX6_worthOf_28 : decode cX6_worthOf 28 = .ok (.aload_n 0, 1) := by decide +kernel
theorem dX6_worthOf_29 : decode cX6_worthOf 29 = .ok (.iload_n 3, 1) := by decide +kernel
theorem dX6_worthOf_30 : decode cX6_worthOf 30 = .ok (.invokevirtual 66, 3) := by decide +kernel
theorem dX6_worthOf_33 : decode cX6_worthOf 33 = .ok (.ifCond .eq 7, 3) := by decide +kernel
theorem dX6_worthOf_36 : decode cX6_worthOf 36 = .ok (.iconst 1, 1) := by decide +kernel
theorem dX6_worthOf_37 : decode cX6_worthOf 37 = .ok (.goto 4, 3) := by decide +kernel
theorem dX6_worthOf_40 : decode cX6_worthOf 40 = .ok (.iconst 0, 1) := by decide +kernel
theorem dX6_worthOf_41 : decode cX6_worthOf 41 = .ok (.istore 6, 2) := by decide +kernel
theorem dX6_worthOf_43 : decode cX6_worthOf 43 = .ok (.aload_n 0, 1) := by decide +kernel
theorem dX6_worthOf_44 : decode cX6_worthOf 44 = .ok (.getfield 35, 3) := by decide +kernel
theorem dX6_worthOf_47 : decode cX6_worthOf 47 = .ok (.getfield 91, 3) := by decide +kernel
theorem dX6_worthOf_50 : decode cX6_worthOf 50 = .ok (.astore 7, 2) := by decide +kernel
theorem dX6_worthOf_52 : decode cX6_worthOf 52 = .ok (.aload 7, 2) := by decide +kernel
theorem dX6_worthOf_54 : decode cX6_worthOf 54 = .ok (.iconst 0, 1) := by decide +kernel
theorem dX6_worthOf_55 : decode cX6_worthOf 55 = .ok (.aload_n 2, 1) := by decide +kernel
theorem dX6_worthOf_56 : decode cX6_worthOf 56 = .ok (.getfield 79, 3) := by decide +kernel
theorem dX6_worthOf_59 : decode cX6_worthOf 59 = .ok (.iload 4, 2) := by decide +kernel
theorem dX6_worthOf_61 : decode cX6_worthOf 61 = .ok (.iaload, 1) := by decide +kernel
theorem dX6_worthOf_62 : decode cX6_worthOf 62 = .ok (.bipush 10, 2) := by decide +kernel
theorem dX6_worthOf_64 : decode cX6_worthOf 64 = .ok (.idiv, 1) := by decide +kernel
theorem dX6_worthOf_65 : decode cX6_worthOf 65 = .ok (.i2l, 1) := by decide +kernel
theorem dX6_worthOf_66 : decode cX6_worthOf 66 = .ok (.lastore, 1) := by decide +kernel
theorem dX6_worthOf_67 : decode cX6_worthOf 67 = .ok (.aload 7, 2) := by decide +kernel
theorem dX6_worthOf_69 : decode cX6_worthOf 69 = .ok (.iconst 1, 1) := by decide +kernel
theorem dX6_worthOf_70 : decode cX6_worthOf 70 = .ok (.iload 6, 2) := by decide +kernel
theorem dX6_worthOf_72 : decode cX6_worthOf 72 = .ok (.ifCond .eq 13, 3) := by decide +kernel
theorem dX6_worthOf_75 : decode cX6_worthOf 75 = .ok (.aload_n 2, 1) := by decide +kernel
theorem dX6_worthOf_76 : decode cX6_worthOf 76 = .ok (.getfield 85, 3) := by decide +kernel
theorem dX6_worthOf_79 : decode cX6_worthOf 79 = .ok (.iload_n 3, 1) := by decide +kernel
theorem dX6_worthOf_80 : decode cX6_worthOf 80 = .ok (.iaload, 1) := by decide +kernel
theorem dX6_worthOf_81 : decode cX6_worthOf 81 = .ok (.i2l, 1) := by decide +kernel
theorem dX6_worthOf_82 : decode cX6_worthOf 82 = .ok (.goto 4, 3) := by decide +kernel
theorem dX6_worthOf_85 : decode cX6_worthOf 85 = .ok (.lconst 0, 1) := by decide +kernel
theorem dX6_worthOf_86 : decode cX6_worthOf 86 = .ok (.lastore, 1) := by decide +kernel
theorem dX6_worthOf_87 : decode cX6_worthOf 87 = .ok (.aload 7, 2) := by decide +kernel
theorem dX6_worthOf_89 : decode cX6_worthOf 89 = .ok (.iconst 2, 1) := by decide +kernel
theorem dX6_worthOf_90 : decode cX6_worthOf 90 = .ok (.iload 6, 2) := by decide +kernel
theorem dX6_worthOf_92 : decode cX6_worthOf 92 = .ok (.ifCond .eq 12, 3) := by decide +kernel
theorem dX6_worthOf_95 : decode cX6_worthOf 95 = .ok (.aload_n 0, 1) := by decide +kernel
theorem dX6_worthOf_96 : decode cX6_worthOf 96 = .ok (.iload_n 3, 1) := by decide +kernel
theorem dX6_worthOf_97 : decode cX6_worthOf 97 = .ok (.invokevirtual 95, 3) := by decide +kernel
theorem dX6_worthOf_100 : decode cX6_worthOf 100 = .ok (.i2l, 1) := by decide +kernel
theorem dX6_worthOf_101 : decode cX6_worthOf 101 = .ok (.goto 4, 3) := by decide +kernel
theorem dX6_worthOf_104 : decode cX6_worthOf 104 = .ok (.lconst 0, 1) := by decide +kernel
theorem dX6_worthOf_105 : decode cX6_worthOf 105 = .ok (.lastore, 1) := by decide +kernel
theorem dX6_worthOf_106 : decode cX6_worthOf 106 = .ok (.aload 7, 2) := by decide +kernel
theorem dX6_worthOf_108 : decode cX6_worthOf 108 = .ok (.iconst 3, 1) := by decide +kernel
theorem dX6_worthOf_109 : decode cX6_worthOf 109 = .ok (.iload 6, 2) := by decide +kernel
theorem dX6_worthOf_111 : decode cX6_worthOf 111 = .ok (.ifCond .eq 13, 3) := by decide +kernel
theorem dX6_worthOf_114 : decode cX6_worthOf 114 = .ok (.aload_n 2, 1) := by decide +kernel
theorem dX6_worthOf_115 : decode cX6_worthOf 115 = .ok (.getfield 99, 3) := by decide +kernel
theorem dX6_worthOf_118 : decode cX6_worthOf 118 = .ok (.iload_n 3, 1) := by decide +kernel
theorem dX6_worthOf_119 : decode cX6_worthOf 119 = .ok (.iaload, 1) := by decide +kernel
theorem dX6_worthOf_120 : decode cX6_worthOf 120 = .ok (.i2l, 1) := by decide +kernel
theorem dX6_worthOf_121 : decode cX6_worthOf 121 = .ok (.goto 4, 3) := by decide +kernel
theorem dX6_worthOf_124 : decode cX6_worthOf 124 = .ok (.lconst 0, 1) := by decide +kernel
theorem dX6_worthOf_125 : decode cX6_worthOf 125 = .ok (.lastore, 1) := by decide +kernel
theorem dX6_worthOf_126 : decode cX6_worthOf 126 = .ok (.aload 7, 2) := by decide +kernel
theorem dX6_worthOf_128 : decode cX6_worthOf 128 = .ok (.iconst 4, 1) := by decide +kernel
theorem dX6_worthOf_129 : decode cX6_worthOf 129 = .ok (.aload_n 2, 1) := by decide +kernel
theorem dX6_worthOf_130 : decode cX6_worthOf 130 = .ok (.getfield 102, 3) := by decide +kernel
theorem dX6_worthOf_133 : decode cX6_worthOf 133 = .ok (.iload 4, 2) := by decide +kernel
theorem dX6_worthOf_135 : decode cX6_worthOf 135 = .ok (.iaload, 1) := by decide +kernel
theorem dX6_worthOf_136 : decode cX6_worthOf 136 = .ok (.i2l, 1) := by decide +kernel
theorem dX6_worthOf_137 : decode cX6_worthOf 137 = .ok (.lastore, 1) := by decide +kernel
theorem dX6_worthOf_138 : decode cX6_worthOf 138 = .ok (.aload 7, 2) := by decide +kernel
theorem dX6_worthOf_140 : decode cX6_worthOf 140 = .ok (.iconst 5, 1) := by decide +kernel
theorem dX6_worthOf_141 : decode cX6_worthOf 141 = .ok (.iload 6, 2) := by decide +kernel
theorem dX6_worthOf_143 : decode cX6_worthOf 143 = .ok (.ifCond .eq 9, 3) := by decide +kernel
theorem dX6_worthOf_146 : decode cX6_worthOf 146 = .ok (.iload 5, 2) := by decide +kernel
theorem dX6_worthOf_148 : decode cX6_worthOf 148 = .ok (.i2l, 1) := by decide +kernel
theorem dX6_worthOf_149 : decode cX6_worthOf 149 = .ok (.goto 4, 3) := by decide +kernel
theorem dX6_worthOf_152 : decode cX6_worthOf 152 = .ok (.lconst 0, 1) := by decide +kernel
theorem dX6_worthOf_153 : decode cX6_worthOf 153 = .ok (.lastore, 1) := by decide +kernel
theorem dX6_worthOf_154 : decode cX6_worthOf 154 = .ok (.aload 7, 2) := by decide +kernel
theorem dX6_worthOf_156 : decode cX6_worthOf 156 = .ok (.bipush 6, 2) := by decide +kernel
theorem dX6_worthOf_158 : decode cX6_worthOf 158 = .ok (.aload_n 2, 1) := by decide +kernel
theorem dX6_worthOf_159 : decode cX6_worthOf 159 = .ok (.getfield 105, 3) := by decide +kernel
theorem dX6_worthOf_162 : decode cX6_worthOf 162 = .ok (.i2l, 1) := by decide +kernel
theorem dX6_worthOf_163 : decode cX6_worthOf 163 = .ok (.lastore, 1) := by decide +kernel
theorem dX6_worthOf_164 : decode cX6_worthOf 164 = .ok (.aload_n 0, 1) := by decide +kernel
theorem dX6_worthOf_165 : decode cX6_worthOf 165 = .ok (.getfield 35, 3) := by decide +kernel
theorem dX6_worthOf_168 : decode cX6_worthOf 168 = .ok (.iload_n 1, 1) := by decide +kernel
theorem dX6_worthOf_169 : decode cX6_worthOf 169 = .ok (.invokevirtual 108, 3) := by decide +kernel
theorem dX6_worthOf_172 : decode cX6_worthOf 172 = .ok (.lreturn, 1) := by decide +kernel
theorem dX7_init_0 : decode cX7_init 0 = .ok (.aload_n 0, 1) := by decide +kernel
theorem dX7_init_1 : decode cX7_init 1 = .ok (.invokespecial 3, 3) := by decide +kernel
theorem dX7_init_4 : decode cX7_init 4 = .ok (.aload_n 0, 1) := by decide +kernel
theorem dX7_init_5 : decode cX7_init 5 = .ok (.sipush 480, 3) := by decide +kernel
theorem dX7_init_8 : decode cX7_init 8 = .ok (.newarray .int, 2) := by decide +kernel
theorem dX7_init_10 : decode cX7_init 10 = .ok (.putfield 11, 3) := by decide +kernel
theorem dX7_init_13 : decode cX7_init 13 = .ok (.return_, 1) := by decide +kernel
theorem dX7_forget_0 : decode cX7_forget 0 = .ok (.aload_n 0, 1) := by decide +kernel
theorem dX7_forget_1 : decode cX7_forget 1 = .ok (.iconst 0, 1) := by decide +kernel
theorem dX7_forget_2 : decode cX7_forget 2 = .ok (.putfield 15, 3) := by decide +kernel
theorem dX7_forget_5 : decode cX7_forget 5 = .ok (.return_, 1) := by decide +kernel
theorem dX7_save_0 : decode cX7_save 0 = .ok (.aload_n 0, 1) := by decide +kernel
theorem dX7_save_1 : decode cX7_save 1 = .ok (.getfield 15, 3) := by decide +kernel
theorem dX7_save_4 : decode cX7_save 4 = .ok (.bipush 20, 2) := by decide +kernel
theorem dX7_save_6 : decode cX7_save 6 = .ok (.if_icmp .lt 26, 3) := by decide +kernel
theorem dX7_save_9 : decode cX7_save 9 = .ok (.aload_n 0, 1) := by decide +kernel
theorem dX7_save_10 : decode cX7_save 10 = .ok (.getfield 11, 3) := by decide +kernel
theorem dX7_save_13 : decode cX7_save 13 = .ok (.bipush 24, 2) := by decide +kernel
theorem dX7_save_15 : decode cX7_save 15 = .ok (.aload_n 0, 1) := by decide +kernel
theorem dX7_save_16 : decode cX7_save 16 = .ok (.getfield 11, 3) := by decide +kernel
theorem dX7_save_19 : decode cX7_save 19 = .ok (.iconst 0, 1) := by decide +kernel
theorem dX7_save_20 : decode cX7_save 20 = .ok (.sipush 456, 3) := by decide +kernel
theorem dX7_save_23 : decode cX7_save 23 = .ok (.invokestatic 19, 3) := by decide +kernel
theorem dX7_save_26 : decode cX7_save 26 = .ok (.aload_n 0, 1) := by decide +kernel
theorem dX7_save_27 : decode cX7_save 27 = .ok (.bipush 19, 2) := by decide +kernel
theorem dX7_save_29 : decode cX7_save 29 = .ok (.putfield 15, 3) := by decide +kernel
theorem dX7_save_32 : decode cX7_save 32 = .ok (.aload_n 0, 1) := by decide +kernel
theorem dX7_save_33 : decode cX7_save 33 = .ok (.getfield 15, 3) := by decide +kernel
theorem dX7_save_36 : decode cX7_save 36 = .ok (.bipush 24, 2) := by decide +kernel
theorem dX7_save_38 : decode cX7_save 38 = .ok (.imul, 1) := by decide +kernel
theorem dX7_save_39 : decode cX7_save 39 = .ok (.istore_n 2, 1) := by decide +kernel
theorem dX7_save_40 : decode cX7_save 40 = .ok (.aload_n 1, 1) := by decide +kernel
theorem dX7_save_41 : decode cX7_save 41 = .ok (.getfield 25, 3) := by decide +kernel
theorem dX7_save_44 : decode cX7_save 44 = .ok (.iconst 0, 1) := by decide +kernel
theorem dX7_save_45 : decode cX7_save 45 = .ok (.aload_n 0, 1) := by decide +kernel
theorem dX7_save_46 : decode cX7_save 46 = .ok (.getfield 11, 3) := by decide +kernel
theorem dX7_save_49 : decode cX7_save 49 = .ok (.iload_n 2, 1) := by decide +kernel
theorem dX7_save_50 : decode cX7_save 50 = .ok (.bipush 6, 2) := by decide +kernel
theorem dX7_save_52 : decode cX7_save 52 = .ok (.invokestatic 19, 3) := by decide +kernel
theorem dX7_save_55 : decode cX7_save 55 = .ok (.aload_n 1, 1) := by decide +kernel
theorem dX7_save_56 : decode cX7_save 56 = .ok (.getfield 30, 3) := by decide +kernel
theorem dX7_save_59 : decode cX7_save 59 = .ok (.iconst 0, 1) := by decide +kernel
theorem dX7_save_60 : decode cX7_save 60 = .ok (.aload_n 0, 1) := by decide +kernel
theorem dX7_save_61 : decode cX7_save 61 = .ok (.getfield 11, 3) := by decide +kernel
theorem dX7_save_64 : decode cX7_save 64 = .ok (.iload_n 2, 1) := by decide +kernel
theorem dX7_save_65 : decode cX7_save 65 = .ok (.bipush 6, 2) := by decide +kernel
theorem dX7_save_67 : decode cX7_save 67 = .ok (.iadd, 1) := by decide +kernel
theorem dX7_save_68 : decode cX7_save 68 = .ok (.bipush 6, 2) := by decide +kernel
theorem dX7_save_70 : decode cX7_save 70 = .ok (.invokestatic 19, 3) := by decide +kernel
theorem dX7_save_73 : decode cX7_save 73 = .ok (.aload_n 1, 1) := by decide +kernel
theorem dX7_save_74 : decode cX7_save 74 = .ok (.getfield 33, 3) := by decide +kernel
theorem dX7_save_77 : decode cX7_save 77 = .ok (.iconst 0, 1) := by decide +kernel
theorem dX7_save_78 : decode cX7_save 78 = .ok (.aload_n 0, 1) := by decide +kernel
theorem dX7_save_79 : decode cX7_save 79 = .ok (.getfield 11, 3) := by decide +kernel
theorem dX7_save_82 : decode cX7_save 82 = .ok (.iload_n 2, 1) := by decide +kernel
theorem dX7_save_83 : decode cX7_save 83 = .ok (.bipush 12, 2) := by decide +kernel
theorem dX7_save_85 : decode cX7_save 85 = .ok (.iadd, 1) := by decide +kernel
theorem dX7_save_86 : decode cX7_save 86 = .ok (.bipush 6, 2) := by decide +kernel
theorem dX7_save_88 : decode cX7_save 88 = .ok (.invokestatic 19, 3) := by decide +kernel
theorem dX7_save_91 : decode cX7_save 91 = .ok (.aload_n 1, 1) := by decide +kernel
theorem dX7_save_92 : decode cX7_save 92 = .ok (.getfield 36, 3) := by decide +kernel
theorem dX7_save_95 : decode cX7_save 95 = .ok (.iconst 0, 1) := by decide +kernel
theorem dX7_save_96 : decode cX7_save 96 = .ok (.aload_n 0, 1) := by decide +kernel
theorem dX7_save_97 : decode cX7_save 97 = .ok (.getfield 11, 3) := by decide +kernel
theorem dX7_save_100 : decode cX7_save 100 = .ok (.iload_n 2, 1) := by decide +kernel
theorem dX7_save_101 : decode cX7_save 101 = .ok (.bipush 12, 2) := by decide +kernel
theorem dX7_save_103 : decode cX7_save 103 = .ok (.iadd, 1) := by decide +kernel
theorem dX7_save_104 : decode cX7_save 104 = .ok (.bipush 6, 2) := by decide +kernel
theorem dX7_save_106 : decode cX7_save 106 = .ok (.iadd, 1) := by decide +kernel
theorem dX7_save_107 : decode cX7_save 107 = .ok (.bipush 6, 2) := by decide +kernel
theorem dX7_save_109 : decode cX7_save 109 = .ok (.invokestatic 19, 3) := by decide +kernel
theorem dX7_save_112 : decode cX7_save 112 = .ok (.aload_n 0, 1) := by decide +kernel
theorem dX7_save_113 : decode cX7_save 113 = .ok (.dup, 1) := by decide +kernel
theorem dX7_save_114 : decode cX7_save 114 = .ok (.getfield 15, 3) := by decide +kernel
theorem dX7_save_117 : decode cX7_save 117 = .ok (.iconst 1, 1) := by decide +kernel
theorem dX7_save_118 : decode cX7_save 118 = .ok (.iadd, 1) := by decide +kernel
theorem dX7_save_119 : decode cX7_save 119 = .ok (.putfield 15, 3) := by decide +kernel
theorem dX7_save_122 : decode cX7_save 122 = .ok (.return_, 1) := by decide +kernel
theorem dX7_restore_0 : decode cX7_restore 0 = .ok (.aload_n 0, 1) := by decide +kernel
theorem dX7_restore_1 : decode cX7_restore 1 = .ok (.getfield 15, 3) := by decide +kernel
theorem dX7_restore_4 : decode cX7_restore 4 = .ok (.ifCond .le 12, 3) := by decide +kernel
theorem dX7_restore_7 : decode cX7_restore 7 = .ok (.aload_n 0, 1) := by decide +kernel
theorem dX7_restore_8 : decode cX7_restore 8 = .ok (.getfield 15, 3) := by decide +kernel
theorem dX7_restore_11 : decode cX7_restore 11 = .ok (.bipush 20, 2) := by decide +kernel
theorem dX7_restore_13 : decode cX7_restore 13 = .ok (.if_icmp .le 5, 3) := by decide +kernel
theorem dX7_restore_16 : decode cX7_restore 16 = .ok (.iconst 0, 1) := by decide +kernel
theorem dX7_restore_17 : decode cX7_restore 17 = .ok (.ireturn, 1) := by decide +kernel
theorem dX7_restore_18 : decode cX7_restore 18 = .ok (.aload_n 0, 1) := by decide +kernel
theorem dX7_restore_19 : decode cX7_restore 19 = .ok (.dup, 1) := by decide +kernel
theorem dX7_restore_20 : decode cX7_restore 20 = .ok (.getfield 15, 3) := by decide +kernel
theorem dX7_restore_23 : decode cX7_restore 23 = .ok (.iconst 1, 1) := by decide +kernel
theorem dX7_restore_24 : decode cX7_restore 24 = .ok (.isub, 1) := by decide +kernel
theorem dX7_restore_25 : decode cX7_restore 25 = .ok (.putfield 15, 3) := by decide +kernel
theorem dX7_restore_28 : decode cX7_restore 28 = .ok (.aload_n 0, 1) := by decide +kernel
theorem dX7_restore_29 : decode cX7_restore 29 = .ok (.getfield 15, 3) := by decide +kernel
theorem dX7_restore_32 : decode cX7_restore 32 = .ok (.bipush 24, 2) := by decide +kernel
theorem dX7_restore_34 : decode cX7_restore 34 = .ok (.imul, 1) := by decide +kernel
theorem dX7_restore_35 : decode cX7_restore 35 = .ok (.istore_n 2, 1) := by decide +kernel
theorem dX7_restore_36 : decode cX7_restore 36 = .ok (.iconst 0, 1) := by decide +kernel
theorem dX7_restore_37 : decode cX7_restore 37 = .ok (.istore_n 3, 1) := by decide +kernel
theorem dX7_restore_38 : decode cX7_restore 38 = .ok (.iload_n 3, 1) := by decide +kernel
theorem dX7_restore_39 : decode cX7_restore 39 = .ok (.bipush 6, 2) := by decide +kernel
theorem dX7_restore_41 : decode cX7_restore 41 = .ok (.if_icmp .ge 14, 3) := by decide +kernel
theorem dX7_restore_44 : decode cX7_restore 44 = .ok (.aload_n 1, 1) := by decide +kernel
theorem dX7_restore_45 : decode cX7_restore 45 = .ok (.iload_n 3, 1) := by decide +kernel
theorem dX7_restore_46 : decode cX7_restore 46 = .ok (.invokevirtual 39, 3) := by decide +kernel
theorem dX7_restore_49 : decode cX7_restore 49 = .ok (.iinc 3 1, 3) := by decide +kernel
theorem dX7_restore_52 : decode cX7_restore 52 = .ok (.goto (-14), 3) := by decide +kernel
theorem dX7_restore_55 : decode cX7_restore 55 = .ok (.aload_n 0, 1) := by decide +kernel
theorem dX7_restore_56 : decode cX7_restore 56 = .ok (.getfield 11, 3) := by decide +kernel
theorem dX7_restore_59 : decode cX7_restore 59 = .ok (.iload_n 2, 1) := by decide +kernel
theorem dX7_restore_60 : decode cX7_restore 60 = .ok (.aload_n 1, 1) := by decide +kernel
theorem dX7_restore_61 : decode cX7_restore 61 = .ok (.getfield 25, 3) := by decide +kernel
theorem dX7_restore_64 : decode cX7_restore 64 = .ok (.iconst 0, 1) := by decide +kernel
theorem dX7_restore_65 : decode cX7_restore 65 = .ok (.bipush 6, 2) := by decide +kernel
theorem dX7_restore_67 : decode cX7_restore 67 = .ok (.invokestatic 19, 3) := by decide +kernel
theorem dX7_restore_70 : decode cX7_restore 70 = .ok (.aload_n 0, 1) := by decide +kernel
theorem dX7_restore_71 : decode cX7_restore 71 = .ok (.getfield 11, 3) := by decide +kernel
theorem dX7_restore_74 : decode cX7_restore 74 = .ok (.iload_n 2, 1) := by decide +kernel
theorem dX7_restore_75 : decode cX7_restore 75 = .ok (.bipush 6, 2) := by decide +kernel
theorem dX7_restore_77 : decode cX7_restore 77 = .ok (.iadd, 1) := by decide +kernel
theorem dX7_restore_78 : decode cX7_restore 78 = .ok (.aload_n 1, 1) := by decide +kernel
theorem dX7_restore_79 : decode cX7_restore 79 = .ok (.getfield 30, 3) := by decide +kernel
theorem dX7_restore_82 : decode cX7_restore 82 = .ok (.iconst 0, 1) := by decide +kernel
theorem dX7_restore_83 : decode cX7_restore 83 = .ok (.bipush 6, 2) := by decide +kernel
theorem dX7_restore_85 : decode cX7_restore 85 = .ok (.invokestatic 19, 3) := by decide +kernel
theorem dX7_restore_88 : decode cX7_restore 88 = .ok (.iconst 0, 1) := by decide +kernel
theorem dX7_restore_89 : decode cX7_restore 89 = .ok (.istore_n 3, 1) := by decide +kernel
theorem dX7_restore_90 : decode cX7_restore 90 = .ok (.iload_n 3, 1) := by decide +kernel
theorem dX7_restore_91 : decode cX7_restore 91 = .ok (.bipush 6, 2) := by decide +kernel
theorem dX7_restore_93 : decode cX7_restore 93 = .ok (.if_icmp .ge 46, 3) := by decide +kernel
theorem dX7_restore_96 : decode cX7_restore 96 = .ok (.aload_n 1, 1) := by decide +kernel
theorem dX7_restore_97 : decode cX7_restore 97 = .ok (.iload_n 3, 1) := by decide +kernel
theorem dX7_restore_98 : decode cX7_restore 98 = .ok (.aload_n 0, 1) := by decide +kernel
theorem dX7_restore_99 : decode cX7_restore 99 = .ok (.getfield 11, 3) := by decide +kernel
theorem dX7_restore_102 : decode cX7_restore 102 = .ok (.iload_n 2, 1) := by decide +kernel
theorem dX7_restore_103 : decode cX7_restore 103 = .ok (.bipush 12, 2) := by decide +kernel
theorem dX7_restore_105 : decode cX7_restore 105 = .ok (.iadd, 1) := by decide +kernel
theorem dX7_restore_106 : decode cX7_restore 106 = .ok (.iload_n 3, 1) := by decide +kernel
theorem dX7_restore_107 : decode cX7_restore 107 = .ok (.iadd, 1) := by decide +kernel
theorem dX7_restore_108 : decode cX7_restore 108 = .ok (.iaload, 1) := by decide +kernel
theorem dX7_restore_109 : decode cX7_restore 109 = .ok (.invokevirtual 43, 3) := by decide +kernel
theorem dX7_restore_112 : decode cX7_restore 112 = .ok (.pop, 1) := by decide +kernel
theorem dX7_restore_113 : decode cX7_restore 113 = .ok (.aload_n 1, 1) := by decide +kernel
theorem dX7_restore_114 : decode cX7_restore 114 = .ok (.getfield 36, 3) := by decide +kernel
theorem dX7_restore_117 : decode cX7_restore 117 = .ok (.iload_n 3, 1) := by decide +kernel
theorem dX7_restore_118 : decode cX7_restore 118 = .ok (.aload_n 0, 1) := by decide +kernel
theorem dX7_restore_119 : decode cX7_restore 119 = .ok (.getfield 11, 3) := by decide +kernel
theorem dX7_restore_122 : decode cX7_restore 122 = .ok (.iload_n 2, 1) := by decide +kernel
theorem dX7_restore_123 : decode cX7_restore 123 = .ok (.bipush 12, 2) := by decide +kernel
theorem dX7_restore_125 : decode cX7_restore 125 = .ok (.iadd, 1) := by decide +kernel
theorem dX7_restore_126 : decode cX7_restore 126 = .ok (.bipush 6, 2) := by decide +kernel
theorem dX7_restore_128 : decode cX7_restore 128 = .ok (.iadd, 1) := by decide +kernel
theorem dX7_restore_129 : decode cX7_restore 129 = .ok (.iload_n 3, 1) := by decide +kernel
theorem dX7_restore_130 : decode cX7_restore 130 = .ok (.iadd, 1) := by decide +kernel
theorem dX7_restore_131 : decode cX7_restore 131 = .ok (.iaload, 1) := by decide +kernel
theorem dX7_restore_132 : decode cX7_restore 132 = .ok (.iastore, 1) := by decide +kernel
theorem dX7_restore_133 : decode cX7_restore 133 = .ok (.iinc 3 1, 3) := by decide +kernel
theorem dX7_restore_136 : decode cX7_restore 136 = .ok (.goto (-46), 3) := by decide +kernel
theorem dX7_restore_139 : decode cX7_restore 139 = .ok (.iconst 1, 1) := by decide +kernel
theorem dX7_restore_140 : decode cX7_restore 140 = .ok (.ireturn, 1) := by decide +kernel
theorem dX8_init_0 : decode cX8_init 0 = .ok (.aload_n 0, 1) := by decide +kernel
theorem dX8_init_1 : decode cX8_init 1 = .ok (.invokespecial 3, 3) := by decide +kernel
theorem dX8_init_4 : decode cX8_init 4 = .ok (.aload_n 0, 1) := by decide +kernel
theorem dX8_init_5 : decode cX8_init 5 = .ok (.bipush 72, 2) := by decide +kernel
theorem dX8_init_7 : decode cX8_init 7 = .ok (.newarray .int, 2) := by decide +kernel
theorem dX8_init_9 : decode cX8_init 9 = .ok (.putfield 13, 3) := by decide +kernel
theorem dX8_init_12 : decode cX8_init 12 = .ok (.aload_n 0, 1) := by decide +kernel
theorem dX8_init_13 : decode cX8_init 13 = .ok (.bipush 9, 2) := by decide +kernel
theorem dX8_init_15 : decode cX8_init 15 = .ok (.newarray .boolean, 2) := by decide +kernel
theorem dX8_init_17 : decode cX8_init 17 = .ok (.putfield 17, 3) := by decide +kernel
theorem dX8_init_20 : decode cX8_init 20 = .ok (.aload_n 0, 1) := by decide +kernel
theorem dX8_init_21 : decode cX8_init 21 = .ok (.iconst (-1), 1) := by decide +kernel
theorem dX8_init_22 : decode cX8_init 22 = .ok (.putfield 21, 3) := by decide +kernel
theorem dX8_init_25 : decode cX8_init 25 = .ok (.aload_n 0, 1) := by decide +kernel
theorem dX8_init_26 : decode cX8_init 26 = .ok (.new 25, 3) := by decide +kernel
theorem dX8_init_29 : decode cX8_init 29 = .ok (.dup, 1) := by decide +kernel
theorem dX8_init_30 : decode cX8_init 30 = .ok (.aload_n 1, 1) := by decide +kernel
theorem dX8_init_31 : decode cX8_init 31 = .ok (.invokespecial 27, 3) := by decide +kernel
theorem dX8_init_34 : decode cX8_init 34 = .ok (.putfield 30, 3) := by decide +kernel
theorem dX8_init_37 : decode cX8_init 37 = .ok (.return_, 1) := by decide +kernel
theorem dX8_readAll_0 : decode cX8_readAll 0 = .ok (.aload_n 0, 1) := by decide +kernel
theorem dX8_readAll_1 : decode cX8_readAll 1 = .ok (.iconst 0, 1) := by decide +kernel
theorem dX8_readAll_2 : decode cX8_readAll 2 = .ok (.putfield 34, 3) := by decide +kernel
theorem dX8_readAll_5 : decode cX8_readAll 5 = .ok (.aload_n 0, 1) := by decide +kernel
theorem dX8_readAll_6 : decode cX8_readAll 6 = .ok (.iconst (-1), 1) := by decide +kernel
theorem dX8_readAll_7 : decode cX8_readAll 7 = .ok (.putfield 21, 3) := by decide +kernel
theorem dX8_readAll_10 : decode cX8_readAll 10 = .ok (.aload_n 2, 1) := by decide +kernel
theorem dX8_readAll_11 : decode cX8_readAll 11 = .ok (.invokevirtual 37, 3) := by decide +kernel
theorem dX8_readAll_14 : decode cX8_readAll 14 = .ok (.aload_n 0, 1) := by decide +kernel
theorem dX8_readAll_15 : decode cX8_readAll 15 = .ok (.getfield 30, 3) := by decide +kernel
theorem dX8_readAll_18 : decode cX8_readAll 18 = .ok (.iload_n 1, 1) := by decide +kernel
theorem dX8_readAll_19 : decode cX8_readAll 19 = .ok (.invokevirtual 42, 3) := by decide +kernel
theorem dX8_readAll_22 : decode cX8_readAll 22 = .ok (.iconst 0, 1) := by decide +kernel
theorem dX8_readAll_23 : decode cX8_readAll 23 = .ok (.istore_n 3, 1) := by decide +kernel
theorem dX8_readAll_24 : decode cX8_readAll 24 = .ok (.iload_n 3, 1) := by decide +kernel
theorem dX8_readAll_25 : decode cX8_readAll 25 = .ok (.iload_n 1, 1) := by decide +kernel
theorem dX8_readAll_26 : decode cX8_readAll 26 = .ok (.if_icmp .ge 40, 3) := by decide +kernel
theorem dX8_readAll_29 : decode cX8_readAll 29 = .ok (.aload_n 0, 1) := by decide +kernel
theorem dX8_readAll_30 : decode cX8_readAll 30 = .ok (.getfield 30, 3) := by decide +kernel
theorem dX8_readAll_33 : decode cX8_readAll 33 = .ok (.getfield 46, 3) := by decide +kernel
theorem dX8_readAll_36 : decode cX8_readAll 36 = .ok (.iconst (-1), 1) := by decide +kernel
theorem dX8_readAll_37 : decode cX8_readAll 37 = .ok (.if_icmp .eq 29, 3) := by decide +kernel
theorem dX8_readAll_40 : decode cX8_readAll 40 = .ok (.aload_n 0, 1) := by decide +kernel
theorem dX8_readAll_41 : decode cX8_readAll 41 = .ok (.aload_n 2, 1) := by decide +kernel
theorem dX8_readAll_42 : decode cX8_readAll 42 = .ok (.invokevirtual 49, 3) := by decide +kernel
theorem dX8_readAll_45 : decode cX8_readAll 45 = .ok (.ifCond .ne 5, 3) := by decide +kernel
theorem dX8_readAll_48 : decode cX8_readAll 48 = .ok (.iconst 0, 1) := by decide +kernel
theorem dX8_readAll_49 : decode cX8_readAll 49 = .ok (.ireturn, 1) := by decide +kernel
theorem dX8_readAll_50 : decode cX8_readAll 50 = .ok (.aload_n 2, 1) := by decide +kernel
theorem dX8_readAll_51 : decode cX8_readAll 51 = .ok (.dup, 1) := by decide +kernel
theorem dX8_readAll_52 : decode cX8_readAll 52 = .ok (.getfield 53, 3) := by decide +kernel
theorem dX8_readAll_55 : decode cX8_readAll 55 = .ok (.iconst 1, 1) := by decide +kernel
theorem dX8_readAll_56 : decode cX8_readAll 56 = .ok (.iadd, 1) := by decide +kernel
theorem dX8_readAll_57 : decode cX8_readAll 57 = .ok (.putfield 53, 3) := by decide +kernel
theorem dX8_readAll_60 : decode cX8_readAll 60 = .ok (.iinc 3 1, 3) := by decide +kernel
theorem dX8_readAll_63 : decode cX8_readAll 63 = .ok (.goto (-39), 3) := by decide +kernel
theorem dX8_readAll_66 : decode cX8_readAll 66 = .ok (.iconst 1, 1) := by decide +kernel
theorem dX8_readAll_67 : decode cX8_readAll 67 = .ok (.ireturn, 1) := by decide +kernel
theorem dX8_fail_0 : decode cX8_fail 0 = .ok (.aload_n 0, 1) := by decide +kernel
theorem dX8_fail_1 : decode cX8_fail 1 = .ok (.iload_n 1, 1) := by decide +kernel
theorem dX8_fail_2 : decode cX8_fail 2 = .ok (.putfield 34, 3) := by decide +kernel
theorem dX8_fail_5 : decode cX8_fail 5 = .ok (.aload_n 0, 1) := by decide +kernel
theorem dX8_fail_6 : decode cX8_fail 6 = .ok (.aload_n 0, 1) := by decide +kernel
theorem dX8_fail_7 : decode cX8_fail 7 = .ok (.getfield 30, 3) := by decide +kernel
theorem dX8_fail_10 : decode cX8_fail 10 = .ok (.getfield 56, 3) := by decide +kernel
theorem dX8_fail_13 : decode cX8_fail 13 = .ok (.putfield 21, 3) := by decide +kernel
theorem dX8_fail_16 : decode cX8_fail 16 = .ok (.iconst 0, 1) := by decide +kernel
theorem dX8_fail_17 : decode cX8_fail 17 = .ok (.ireturn, 1) := by decide +kernel
theorem dX8_readLine_0 : decode cX8_readLine 0 = .ok (.aload_n 0, 1) := by decide +kernel
theorem dX8_readLine_1 : decode cX8_readLine 1 = .ok (.getfield 30, 3) := by decide +kernel
theorem dX8_readLine_4 : decode cX8_readLine 4 = .ok (.getfield 46, 3) := by decide +kernel
theorem dX8_readLine_7 : decode cX8_readLine 7 = .ok (.tableswitch 138 0 7 #[45, 57, 69, 82, 95, 108, 117, 126], 45) := by decide +kernel
theorem dX8_readLine_52 : decode cX8_readLine 52 = .ok (.aload_n 0, 1) := by decide +kernel
theorem dX8_readLine_53 : decode cX8_readLine 53 = .ok (.aload_n 1, 1) := by decide +kernel
theorem dX8_readLine_54 : decode cX8_readLine 54 = .ok (.getfield 59, 3) := by decide +kernel
theorem dX8_readLine_57 : decode cX8_readLine 57 = .ok (.invokevirtual 63, 3) := by decide +kernel
theorem dX8_readLine_60 : decode cX8_readLine 60 = .ok (.istore_n 2, 1) := by decide +kernel
theorem dX8_readLine_61 : decode cX8_readLine 61 = .ok (.goto 90, 3) := by decide +kernel
theorem dX8_readLine_64 : decode cX8_readLine 64 = .ok (.aload_n 0, 1) := by decide +kernel
theorem dX8_readLine_65 : decode cX8_readLine 65 = .ok (.aload_n 1, 1) := by decide +kernel
theorem dX8_readLine_66 : decode cX8_readLine 66 = .ok (.getfield 67, 3) := by decide +kernel
theorem dX8_readLine_69 : decode cX8_readLine 69 = .ok (.invokevirtual 70, 3) := by decide +kernel
theorem dX8_readLine_72 : decode cX8_readLine 72 = .ok (.istore_n 2, 1) := by decide +kernel
theorem dX8_readLine_73 : decode cX8_readLine 73 = .ok (.goto 78, 3) := by decide +kernel
theorem dX8_readLine_76 : decode cX8_readLine 76 = .ok (.aload_n 0, 1) := by decide +kernel
theorem dX8_readLine_77 : decode cX8_readLine 77 = .ok (.aload_n 1, 1) := by decide +kernel
theorem dX8_readLine_78 : decode cX8_readLine 78 = .ok (.aload_n 1, 1) := by decide +kernel
theorem dX8_readLine_79 : decode cX8_readLine 79 = .ok (.getfield 73, 3) := by decide +kernel
theorem dX8_readLine_82 : decode cX8_readLine 82 = .ok (.invokevirtual 76, 3) := by decide +kernel
theorem dX8_readLine_85 : decode cX8_readLine 85 = .ok (.istore_n 2, 1) := by decide +kernel
theorem dX8_readLine_86 : decode cX8_readLine 86 = .ok (.goto 65, 3) := by decide +kernel
theorem dX8_readLine_89 : decode cX8_readLine 89 = .ok (.aload_n 0, 1) := by decide +kernel
theorem dX8_readLine_90 : decode cX8_readLine 90 = .ok (.aload_n 1, 1) := by decide +kernel
theorem dX8_readLine_91 : decode cX8_readLine 91 = .ok (.aload_n 1, 1) := by decide +kernel
theorem dX8_readLine_92 : decode cX8_readLine 92 = .ok (.getfield 80, 3) := by decide +kernel
theorem dX8_readLine_95 : decode cX8_readLine 95 = .ok (.invokevirtual 83, 3) := by decide +kernel
theorem dX8_readLine_98 : decode cX8_readLine 98 = .ok (.istore_n 2, 1) := by decide +kernel
theorem dX8_readLine_99 : decode cX8_readLine 99 = .ok (.goto 52, 3) := by decide +kernel
theorem dX8_readLine_102 : decode cX8_readLine 102 = .ok (.aload_n 0, 1) := by decide +kernel
theorem dX8_readLine_103 : decode cX8_readLine 103 = .ok (.aload_n 1, 1) := by decide +kernel
theorem dX8_readLine_104 : decode cX8_readLine 104 = .ok (.aload_n 1, 1) := by decide +kernel
theorem dX8_readLine_105 : decode cX8_readLine 105 = .ok (.getfield 86, 3) := by decide +kernel
theorem dX8_readLine_108 : decode cX8_readLine 108 = .ok (.invokevirtual 89, 3) := by decide +kernel
theorem dX8_readLine_111 : decode cX8_readLine 111 = .ok (.istore_n 2, 1) := by decide +kernel
theorem dX8_readLine_112 : decode cX8_readLine 112 = .ok (.goto 39, 3) := by decide +kernel
theorem dX8_readLine_115 : decode cX8_readLine 115 = .ok (.aload_n 0, 1) := by decide +kernel
theorem dX8_readLine_116 : decode cX8_readLine 116 = .ok (.aload_n 1, 1) := by decide +kernel
theorem dX8_readLine_117 : decode cX8_readLine 117 = .ok (.invokevirtual 92, 3) := by decide +kernel
theorem dX8_readLine_120 : decode cX8_readLine 120 = .ok (.istore_n 2, 1) := by decide +kernel
theorem dX8_readLine_121 : decode cX8_readLine 121 = .ok (.goto 30, 3) := by decide +kernel
theorem dX8_readLine_124 : decode cX8_readLine 124 = .ok (.aload_n 0, 1) := by decide +kernel
theorem dX8_readLine_125 : decode cX8_readLine 125 = .ok (.aload_n 1, 1) := by decide +kernel
theorem dX8_readLine_126 : decode cX8_readLine 126 = .ok (.invokevirtual 95, 3) := by decide +kernel
theorem dX8_readLine_129 : decode cX8_readLine 129 = .ok (.istore_n 2, 1) := by decide +kernel
theorem dX8_readLine_130 : decode cX8_readLine 130 = .ok (.goto 21, 3) := by decide +kernel
theorem dX8_readLine_133 : decode cX8_readLine 133 = .ok (.aload_n 0, 1) := by decide +kernel
theorem dX8_readLine_134 : decode cX8_readLine 134 = .ok (.aload_n 1, 1) := by decide +kernel
theorem dX8_readLine_135 : decode cX8_readLine 135 = .ok (.getfield 98, 3) := by decide +kernel
theorem dX8_readLine_138 : decode cX8_readLine 138 = .ok (.invokevirtual 102, 3) := by decide +kernel
theorem dX8_readLine_141 : decode cX8_readLine 141 = .ok (.istore_n 2, 1) := by decide +kernel
theorem dX8_readLine_142 : decode cX8_readLine 142 = .ok (.goto 9, 3) := by decide +kernel
theorem dX8_readLine_145 : decode cX8_readLine 145 = .ok (.aload_n 0, 1) := by decide +kernel
theorem dX8_readLine_146 : decode cX8_readLine 146 = .ok (.iconst 1, 1) := by decide +kernel
theorem dX8_readLine_147 : decode cX8_readLine 147 = .ok (.invokevirtual 106, 3) := by decide +kernel
theorem dX8_readLine_150 : decode cX8_readLine 150 = .ok (.ireturn, 1) := by decide +kernel
theorem dX8_readLine_151 : decode cX8_readLine 151 = .ok (.iload_n 2, 1) := by decide +kernel
theorem dX8_readLine_152 : decode cX8_readLine 152 = .ok (.ifCond .ne 5, 3) := by decide +kernel
theorem dX8_readLine_155 : decode cX8_readLine 155 = .ok (.iconst 0, 1) := by decide +kernel
theorem dX8_readLine_156 : decode cX8_readLine 156 = .ok (.ireturn, 1) := by decide +kernel
theorem dX8_readLine_157 : decode cX8_readLine 157 = .ok (.aload_n 0, 1) := by decide +kernel
theorem dX8_readLine_158 : decode cX8_readLine 158 = .ok (.getfield 30, 3) := by decide +kernel
theorem dX8_readLine_161 : decode cX8_readLine 161 = .ok (.getfield 46, 3) := by decide +kernel
theorem dX8_readLine_164 : decode cX8_readLine 164 = .ok (.bipush 22, 2) := by decide +kernel
theorem dX8_readLine_166 : decode cX8_readLine 166 = .ok (.if_icmp .eq 9, 3) := by decide +kernel
theorem dX8_readLine_169 : decode cX8_readLine 169 = .ok (.aload_n 0, 1) := by decide +kernel
theorem dX8_readLine_170 : decode cX8_readLine 170 = .ok (.iconst 1, 1) := by decide +kernel
theorem dX8_readLine_171 : decode cX8_readLine 171 = .ok (.invokevirtual 106, 3) := by decide +kernel
theorem dX8_readLine_174 : decode cX8_readLine 174 = .ok (.ireturn, 1) := by decide +kernel
theorem dX8_readLine_175 : decode cX8_readLine 175 = .ok (.aload_n 0, 1) := by decide +kernel
theorem dX8_readLine_176 : decode cX8_readLine 176 = .ok (.getfield 30, 3) := by decide +kernel
theorem dX8_readLine_179 : decode cX8_readLine 179 = .ok (.invokevirtual 110, 3) := by decide +kernel
theorem dX8_readLine_182 : decode cX8_readLine 182 = .ok (.iconst 1, 1) := by decide +kernel
theorem dX8_readLine_183 : decode cX8_readLine 183 = .ok (.ireturn, 1) := by decide +kernel
theorem dX8_readKnight_0 : decode cX8_readKnight 0 = .ok (.aload_n 0, 1) := by decide +kernel
theorem dX8_readKnight_1 : decode cX8_readKnight 1 = .ok (.aload_n 1, 1) := by decide +kernel
theorem dX8_readKnight_2 : decode cX8_readKnight 2 = .ok (.invokevirtual 113, 3) := by decide +kernel
theorem dX8_readKnight_5 : decode cX8_readKnight 5 = .ok (.ifCond .eq 46, 3) := by decide +kernel
theorem dX8_readKnight_8 : decode cX8_readKnight 8 = .ok (.aload_n 0, 1) := by decide +kernel
theorem dX8_readKnight_9 : decode cX8_readKnight 9 = .ok (.aload_n 1, 1) := by decide +kernel
theorem dX8_readKnight_10 : decode cX8_readKnight 10 = .ok (.invokevirtual 116, 3) := by decide +kernel
theorem dX8_readKnight_13 : decode cX8_readKnight 13 = .ok (.ifCond .eq 38, 3) := by decide +kernel
theorem dX8_readKnight_16 : decode cX8_readKnight 16 = .ok (.aload_n 0, 1) := by decide +kernel
theorem dX8_readKnight_17 : decode cX8_readKnight 17 = .ok (.aload_n 1, 1) := by decide +kernel
theorem dX8_readKnight_18 : decode cX8_readKnight 18 = .ok (.iconst 1, 1) := by decide +kernel
theorem dX8_readKnight_19 : decode cX8_readKnight 19 = .ok (.iconst 0, 1) := by decide +kernel
theorem dX8_readKnight_20 : decode cX8_readKnight 20 = .ok (.bipush 99, 2) := by decide +kernel
theorem dX8_readKnight_22 : decode cX8_readKnight 22 = .ok (.invokevirtual 119, 3) := by decide +kernel
theorem dX8_readKnight_25 : decode cX8_readKnight 25 = .ok (.ifCond .eq 26, 3) := by decide +kernel
theorem dX8_readKnight_28 : decode cX8_readKnight 28 = .ok (.aload_n 0, 1) := by decide +kernel
theorem dX8_readKnight_29 : decode cX8_readKnight 29 = .ok (.aload_n 1, 1) := by decide +kernel
theorem dX8_readKnight_30 : decode cX8_readKnight 30 = .ok (.iconst 2, 1) := by decide +kernel
theorem dX8_readKnight_31 : decode cX8_readKnight 31 = .ok (.iconst 0, 1) := by decide +kernel
theorem dX8_readKnight_32 : decode cX8_readKnight 32 = .ok (.bipush 9, 2) := by decide +kernel
theorem dX8_readKnight_34 : decode cX8_readKnight 34 = .ok (.invokevirtual 119, 3) := by decide +kernel
theorem dX8_readKnight_37 : decode cX8_readKnight 37 = .ok (.ifCond .eq 14, 3) := by decide +kernel
theorem dX8_readKnight_40 : decode cX8_readKnight 40 = .ok (.aload_n 1, 1) := by decide +kernel
theorem dX8_readKnight_41 : decode cX8_readKnight 41 = .ok (.invokevirtual 123, 3) := by decide +kernel
theorem dX8_readKnight_44 : decode cX8_readKnight 44 = .ok (.ifCond .eq 7, 3) := by decide +kernel
theorem dX8_readKnight_47 : decode cX8_readKnight 47 = .ok (.iconst 1, 1) := by decide +kernel
theorem dX8_readKnight_48 : decode cX8_readKnight 48 = .ok (.goto 4, 3) := by decide +kernel
theorem dX8_readKnight_51 : decode cX8_readKnight 51 = .ok (.iconst 0, 1) := by decide +kernel
theorem dX8_readKnight_52 : decode cX8_readKnight 52 = .ok (.ireturn, 1) := by decide +kernel
theorem dX8_readTub_0 : decode cX8_readTub 0 = .ok (.aload_n 0, 1) := by decide +kernel
theorem dX8_readTub_1 : decode cX8_readTub 1 = .ok (.aload_n 1, 1) := by decide +kernel
theorem dX8_readTub_2 : decode cX8_readTub 2 = .ok (.invokevirtual 113, 3) := by decide +kernel
theorem dX8_readTub_5 : decode cX8_readTub 5 = .ok (.ifCond .eq 46, 3) := by decide +kernel
theorem dX8_readTub_8 : decode cX8_readTub 8 = .ok (.aload_n 0, 1) := by decide +kernel
theorem dX8_readTub_9 : decode cX8_readTub 9 = .ok (.aload_n 1, 1) := by decide +kernel
theorem dX8_readTub_10 : decode cX8_readTub 10 = .ok (.invokevirtual 116, 3) := by decide +kernel
theorem dX8_readTub_13 : decode cX8_readTub 13 = .ok (.ifCond .eq 38, 3) := by decide +kernel
theorem dX8_readTub_16 : decode cX8_readTub 16 = .ok (.aload_n 0, 1) := by decide +kernel
theorem dX8_readTub_17 : decode cX8_readTub 17 = .ok (.aload_n 1, 1) := by decide +kernel
theorem dX8_readTub_18 : decode cX8_readTub 18 = .ok (.iconst 1, 1) := by decide +kernel
theorem dX8_readTub_19 : decode cX8_readTub 19 = .ok (.iconst 1, 1) := by decide +kernel
theorem dX8_readTub_20 : decode cX8_readTub 20 = .ok (.bipush 99, 2) := by decide +kernel
theorem dX8_readTub_22 : decode cX8_readTub 22 = .ok (.invokevirtual 119, 3) := by decide +kernel
theorem dX8_readTub_25 : decode cX8_readTub 25 = .ok (.ifCond .eq 26, 3) := by decide +kernel
theorem dX8_readTub_28 : decode cX8_readTub 28 = .ok (.aload_n 0, 1) := by decide +kernel
theorem dX8_readTub_29 : decode cX8_readTub 29 = .ok (.aload_n 1, 1) := by decide +kernel
theorem dX8_readTub_30 : decode cX8_readTub 30 = .ok (.iconst 2, 1) := by decide +kernel
theorem dX8_readTub_31 : decode cX8_readTub 31 = .ok (.iconst 0, 1) := by decide +kernel
theorem dX8_readTub_32 : decode cX8_readTub 32 = .ok (.bipush 99, 2) := by decide +kernel
theorem dX8_readTub_34 : decode cX8_readTub 34 = .ok (.invokevirtual 119, 3) := by decide +kernel
theorem dX8_readTub_37 : decode cX8_readTub 37 = .ok (.ifCond .eq 14, 3) := by decide +kernel
theorem dX8_readTub_40 : decode cX8_readTub 40 = .ok (.aload_n 1, 1) := by decide +kernel
theorem dX8_readTub_41 : decode cX8_readTub 41 = .ok (.invokevirtual 123, 3) := by decide +kernel
theorem dX8_readTub_44 : decode cX8_readTub 44 = .ok (.ifCond .eq 7, 3) := by decide +kernel
theorem dX8_readTub_47 : decode cX8_readTub 47 = .ok (.iconst 1, 1) := by decide +kernel
theorem dX8_readTub_48 : decode cX8_readTub 48 = .ok (.goto 4, 3) := by decide +kernel
theorem dX8_readTub_51 : decode cX8_readTub 51 = .ok (.iconst 0, 1) := by decide +kernel
theorem dX8_readTub_52 : decode cX8_readTub 52 = .ok (.ireturn, 1) := by decide +kernel
theorem dX8_readSitting_0 : decode cX8_readSitting 0 = .ok (.aload_n 0, 1) := by decide +kernel
theorem dX8_readSitting_1 : decode cX8_readSitting 1 = .ok (.aload_n 2, 1) := by decide +kernel
theorem dX8_readSitting_2 : decode cX8_readSitting 2 = .ok (.invokevirtual 113, 3) := by decide +kernel
theorem dX8_readSitting_5 : decode cX8_readSitting 5 = .ok (.ifCond .eq 52, 3) := by decide +kernel
theorem dX8_readSitting_8 : decode cX8_readSitting 8 = .ok (.aload_n 0, 1) := by decide +kernel
theorem dX8_readSitting_9 : decode cX8_readSitting 9 = .ok (.aload_n 1, 1) := by decide +kernel
theorem dX8_readSitting_10 : decode cX8_readSitting 10 = .ok (.getfield 59, 3) := by decide +kernel
theorem dX8_readSitting_13 : decode cX8_readSitting 13 = .ok (.aload_n 2, 1) := by decide +kernel
theorem dX8_readSitting_14 : decode cX8_readSitting 14 = .ok (.iconst 0, 1) := by decide +kernel
theorem dX8_readSitting_15 : decode cX8_readSitting 15 = .ok (.invokevirtual 129, 3) := by decide +kernel
theorem dX8_readSitting_18 : decode cX8_readSitting 18 = .ok (.ifCond .eq 39, 3) := by decide +kernel
theorem dX8_readSitting_21 : decode cX8_readSitting 21 = .ok (.aload_n 0, 1) := by decide +kernel
theorem dX8_readSitting_22 : decode cX8_readSitting 22 = .ok (.aload_n 1, 1) := by decide +kernel
theorem dX8_readSitting_23 : decode cX8_readSitting 23 = .ok (.getfield 67, 3) := by decide +kernel
theorem dX8_readSitting_26 : decode cX8_readSitting 26 = .ok (.aload_n 2, 1) := by decide +kernel
theorem dX8_readSitting_27 : decode cX8_readSitting 27 = .ok (.iconst 1, 1) := by decide +kernel
theorem dX8_readSitting_28 : decode cX8_readSitting 28 = .ok (.invokevirtual 129, 3) := by decide +kernel
theorem dX8_readSitting_31 : decode cX8_readSitting 31 = .ok (.ifCond .eq 26, 3) := by decide +kernel
theorem dX8_readSitting_34 : decode cX8_readSitting 34 = .ok (.aload_n 0, 1) := by decide +kernel
theorem dX8_readSitting_35 : decode cX8_readSitting 35 = .ok (.aload_n 2, 1) := by decide +kernel
theorem dX8_readSitting_36 : decode cX8_readSitting 36 = .ok (.iconst 2, 1) := by decide +kernel
theorem dX8_readSitting_37 : decode cX8_readSitting 37 = .ok (.iconst 0, 1) := by decide +kernel
theorem dX8_readSitting_38 : decode cX8_readSitting 38 = .ok (.bipush 99, 2) := by decide +kernel
theorem dX8_readSitting_40 : decode cX8_readSitting 40 = .ok (.invokevirtual 119, 3) := by decide +kernel
theorem dX8_readSitting_43 : decode cX8_readSitting 43 = .ok (.ifCond .eq 14, 3) := by decide +kernel
theorem dX8_readSitting_46 : decode cX8_readSitting 46 = .ok (.aload_n 2, 1) := by decide +kernel
theorem dX8_readSitting_47 : decode cX8_readSitting 47 = .ok (.invokevirtual 123, 3) := by decide +kernel
theorem dX8_readSitting_50 : decode cX8_readSitting 50 = .ok (.ifCond .eq 7, 3) := by decide +kernel
theorem dX8_readSitting_53 : decode cX8_readSitting 53 = .ok (.iconst 1, 1) := by decide +kernel
theorem dX8_readSitting_54 : decode cX8_readSitting 54 = .ok (.goto 4, 3) := by decide +kernel
theorem dX8_readSitting_57 : decode cX8_readSitting 57 = .ok (.iconst 0, 1) := by decide +kernel
theorem dX8_readSitting_58 : decode cX8_readSitting 58 = .ok (.ireturn, 1) := by decide +kernel
theorem dX8_readCan_0 : decode cX8_readCan 0 = .ok (.aload_n 0, 1) := by decide +kernel
theorem dX8_readCan_1 : decode cX8_readCan 1 = .ok (.aload_n 2, 1) := by decide +kernel
theorem dX8_readCan_2 : decode cX8_readCan 2 = .ok (.invokevirtual 113, 3) := by decide +kernel
theorem dX8_readCan_5 : decode cX8_readCan 5 = .ok (.ifCond .eq 51, 3) := by decide +kernel
theorem dX8_readCan_8 : decode cX8_readCan 8 = .ok (.aload_n 0, 1) := by decide +kernel
theorem dX8_readCan_9 : decode cX8_readCan 9 = .ok (.aload_n 1, 1) := by decide +kernel
theorem dX8_readCan_10 : decode cX8_readCan 10 = .ok (.getfield 67, 3) := by decide +kernel
theorem dX8_readCan_13 : decode cX8_readCan 13 = .ok (.aload_n 2, 1) := by decide +kernel
theorem dX8_readCan_14 : decode cX8_readCan 14 = .ok (.iconst 0, 1) := by decide +kernel
theorem dX8_readCan_15 : decode cX8_readCan 15 = .ok (.invokevirtual 129, 3) := by decide +kernel
theorem dX8_readCan_18 : decode cX8_readCan 18 = .ok (.ifCond .eq 38, 3) := by decide +kernel
theorem dX8_readCan_21 : decode cX8_readCan 21 = .ok (.aload_n 0, 1) := by decide +kernel
theorem dX8_readCan_22 : decode cX8_readCan 22 = .ok (.aload_n 2, 1) := by decide +kernel
theorem dX8_readCan_23 : decode cX8_readCan 23 = .ok (.iconst 1, 1) := by decide +kernel
theorem dX8_readCan_24 : decode cX8_readCan 24 = .ok (.iconst 1, 1) := by decide +kernel
theorem dX8_readCan_25 : decode cX8_readCan 25 = .ok (.bipush 9, 2) := by decide +kernel
theorem dX8_readCan_27 : decode cX8_readCan 27 = .ok (.invokevirtual 119, 3) := by decide +kernel
theorem dX8_readCan_30 : decode cX8_readCan 30 = .ok (.ifCond .eq 26, 3) := by decide +kernel
theorem dX8_readCan_33 : decode cX8_readCan 33 = .ok (.aload_n 0, 1) := by decide +kernel
theorem dX8_readCan_34 : decode cX8_readCan 34 = .ok (.aload_n 2, 1) := by decide +kernel
theorem dX8_readCan_35 : decode cX8_readCan 35 = .ok (.iconst 2, 1) := by decide +kernel
theorem dX8_readCan_36 : decode cX8_readCan 36 = .ok (.iconst 0, 1) := by decide +kernel
theorem dX8_readCan_37 : decode cX8_readCan 37 = .ok (.bipush 99, 2) := by decide +kernel
theorem dX8_readCan_39 : decode cX8_readCan 39 = .ok (.invokevirtual 119, 3) := by decide +kernel
theorem dX8_readCan_42 : decode cX8_readCan 42 = .ok (.ifCond .eq 14, 3) := by decide +kernel
theorem dX8_readCan_45 : decode cX8_readCan 45 = .ok (.aload_n 2, 1) := by decide +kernel
theorem dX8_readCan_46 : decode cX8_readCan 46 = .ok (.invokevirtual 123, 3) := by decide +kernel
theorem dX8_readCan_49 : decode cX8_readCan 49 = .ok (.ifCond .eq 7, 3) := by decide +kernel
theorem dX8_readCan_52 : decode cX8_readCan 52 = .ok (.iconst 1, 1) := by decide +kernel
theorem dX8_readCan_53 : decode cX8_readCan 53 = .ok (.goto 4, 3) := by decide +kernel
theorem dX8_readCan_56 : decode cX8_readCan 56 = .ok (.iconst 0, 1) := by decide +kernel
theorem dX8_readCan_57 : decode cX8_readCan 57 = .ok (.ireturn, 1) := by decide +kernel
theorem dX8_readPipe_0 : decode cX8_readPipe 0 = .ok (.aload_n 0, 1) := by decide +kernel
theorem dX8_readPipe_1 : decode cX8_readPipe 1 = .ok (.aload_n 2, 1) := by decide +kernel
theorem dX8_readPipe_2 : decode cX8_readPipe 2 = .ok (.invokevirtual 113, 3) := by decide +kernel
theorem dX8_readPipe_5 : decode cX8_readPipe 5 = .ok (.ifCond .eq 16, 3) := by decide +kernel
theorem dX8_readPipe_8 : decode cX8_readPipe 8 = .ok (.aload_n 0, 1) := by decide +kernel
theorem dX8_readPipe_9 : decode cX8_readPipe 9 = .ok (.aload_n 1, 1) := by decide +kernel
theorem dX8_readPipe_10 : decode cX8_readPipe 10 = .ok (.getfield 67, 3) := by decide +kernel
theorem dX8_readPipe_13 : decode cX8_readPipe 13 = .ok (.aload_n 2, 1) := by decide +kernel
theorem dX8_readPipe_14 : decode cX8_readPipe 14 = .ok (.iconst 0, 1) := by decide +kernel
theorem dX8_readPipe_15 : decode cX8_readPipe 15 = .ok (.invokevirtual 129, 3) := by decide +kernel
theorem dX8_readPipe_18 : decode cX8_readPipe 18 = .ok (.ifCond .ne 5, 3) := by decide +kernel
theorem dX8_readPipe_21 : decode cX8_readPipe 21 = .ok (.iconst 0, 1) := by decide +kernel
theorem dX8_readPipe_22 : decode cX8_readPipe 22 = .ok (.ireturn, 1) := by decide +kernel
theorem dX8_readPipe_23 : decode cX8_readPipe 23 = .ok (.aload_n 0, 1) := by decide +kernel
theorem dX8_readPipe_24 : decode cX8_readPipe 24 = .ok (.getfield 30, 3) := by decide +kernel
theorem dX8_readPipe_27 : decode cX8_readPipe 27 = .ok (.getfield 46, 3) := by decide +kernel
theorem dX8_readPipe_30 : decode cX8_readPipe 30 = .ok (.bipush (-3), 2) := by decide +kernel
theorem dX8_readPipe_32 : decode cX8_readPipe 32 = .ok (.if_icmp .ne 35, 3) := by decide +kernel
theorem dX8_readPipe_35 : decode cX8_readPipe 35 = .ok (.aload_n 1, 1) := by decide +kernel
theorem dX8_readPipe_36 : decode cX8_readPipe 36 = .ok (.getfield 67, 3) := by decide +kernel
theorem dX8_readPipe_39 : decode cX8_readPipe 39 = .ok (.aload_n 0, 1) := by decide +kernel
theorem dX8_readPipe_40 : decode cX8_readPipe 40 = .ok (.getfield 30, 3) := by decide +kernel
theorem dX8_readPipe_43 : decode cX8_readPipe 43 = .ok (.getfield 133, 3) := by decide +kernel
theorem dX8_readPipe_46 : decode cX8_readPipe 46 = .ok (.invokevirtual 136, 3) := by decide +kernel
theorem dX8_readPipe_49 : decode cX8_readPipe 49 = .ok (.aload_n 2, 1) := by decide +kernel
theorem dX8_readPipe_50 : decode cX8_readPipe 50 = .ok (.aload_n 2, 1) := by decide +kernel
theorem dX8_readPipe_51 : decode cX8_readPipe 51 = .ok (.getfield 140, 3) := by decide +kernel
theorem dX8_readPipe_54 : decode cX8_readPipe 54 = .ok (.iconst 0, 1) := by decide +kernel
theorem dX8_readPipe_55 : decode cX8_readPipe 55 = .ok (.invokevirtual 143, 3) := by decide +kernel
theorem dX8_readPipe_58 : decode cX8_readPipe 58 = .ok (.if_icmp .ne 9, 3) := by decide +kernel
theorem dX8_readPipe_61 : decode cX8_readPipe 61 = .ok (.aload_n 0, 1) := by decide +kernel
theorem dX8_readPipe_62 : decode cX8_readPipe 62 = .ok (.iconst 5, 1) := by decide +kernel
theorem dX8_readPipe_63 : decode cX8_readPipe 63 = .ok (.invokevirtual 106, 3) := by decide +kernel
theorem dX8_readPipe_66 : decode cX8_readPipe 66 = .ok (.ireturn, 1) := by decide +kernel
theorem dX8_readPipe_67 : decode cX8_readPipe 67 = .ok (.aload_n 0, 1) := by decide +kernel
theorem dX8_readPipe_68 : decode cX8_readPipe 68 = .ok (.aload_n 1, 1) := by decide +kernel
theorem dX8_readPipe_69 : decode cX8_readPipe 69 = .ok (.getfield 67, 3) := by decide +kernel
theorem dX8_readPipe_72 : decode cX8_readPipe 72 = .ok (.aload_n 2, 1) := by decide +kernel
theorem dX8_readPipe_73 : decode cX8_readPipe 73 = .ok (.iconst 1, 1) := by decide +kernel
theorem dX8_readPipe_74 : decode cX8_readPipe 74 = .ok (.invokevirtual 129, 3) := by decide +kernel
theorem dX8_readPipe_77 : decode cX8_readPipe 77 = .ok (.ifCond .eq 26, 3) := by decide +kernel
theorem dX8_readPipe_80 : decode cX8_readPipe 80 = .ok (.aload_n 0, 1) := by decide +kernel
theorem dX8_readPipe_81 : decode cX8_readPipe 81 = .ok (.aload_n 2, 1) := by decide +kernel
theorem dX8_readPipe_82 : decode cX8_readPipe 82 = .ok (.iconst 2, 1) := by decide +kernel
theorem dX8_readPipe_83 : decode cX8_readPipe 83 = .ok (.iconst 1, 1) := by decide +kernel
theorem dX8_readPipe_84 : decode cX8_readPipe 84 = .ok (.bipush 9, 2) := by decide +kernel
theorem dX8_readPipe_86 : decode cX8_readPipe 86 = .ok (.invokevirtual 119, 3) := by decide +kernel
theorem dX8_readPipe_89 : decode cX8_readPipe 89 = .ok (.ifCond .eq 14, 3) := by decide +kernel
theorem dX8_readPipe_92 : decode cX8_readPipe 92 = .ok (.aload_n 2, 1) := by decide +kernel
theorem dX8_readPipe_93 : decode cX8_readPipe 93 = .ok (.invokevirtual 123, 3) := by decide +kernel
theorem dX8_readPipe_96 : decode cX8_readPipe 96 = .ok (.ifCond .eq 7, 3) := by decide +kernel
theorem dX8_readPipe_99 : decode cX8_readPipe 99 = .ok (.iconst 1, 1) := by decide +kernel
theorem dX8_readPipe_100 : decode cX8_readPipe 100 = .ok (.goto 4, 3) := by decide +kernel
theorem dX8_readPipe_103 : decode cX8_readPipe 103 = .ok (.iconst 0, 1) := by decide +kernel
theorem dX8_readPipe_104 : decode cX8_readPipe 104 = .ok (.ireturn, 1) := by decide +kernel
theorem dX8_openRow_0 : decode cX8_openRow 0 = .ok (.aload_n 1, 1) := by decide +kernel
theorem dX8_openRow_1 : decode cX8_openRow 1 = .ok (.invokevirtual 147, 3) := by decide +kernel
theorem dX8_openRow_4 : decode cX8_openRow 4 = .ok (.ifCond .eq 9, 3) := by decide +kernel
theorem dX8_openRow_7 : decode cX8_openRow 7 = .ok (.aload_n 0, 1) := by decide +kernel
theorem dX8_openRow_8 : decode cX8_openRow 8 = .ok (.iconst 2, 1) := by decide +kernel
theorem dX8_openRow_9 : decode cX8_openRow 9 = .ok (.invokevirtual 106, 3) := by decide +kernel
theorem dX8_openRow_12 : decode cX8_openRow 12 = .ok (.ireturn, 1) := by decide +kernel
theorem dX8_openRow_13 : decode cX8_openRow 13 = .ok (.aload_n 0, 1) := by decide +kernel
theorem dX8_openRow_14 : decode cX8_openRow 14 = .ok (.getfield 30, 3) := by decide +kernel
theorem dX8_openRow_17 : decode cX8_openRow 17 = .ok (.invokevirtual 110, 3) := by decide +kernel
theorem dX8_openRow_20 : decode cX8_openRow 20 = .ok (.iconst 1, 1) := by decide +kernel
theorem dX8_openRow_21 : decode cX8_openRow 21 = .ok (.ireturn, 1) := by decide +kernel
theorem dX8_readNewName_0 : decode cX8_readNewName 0 = .ok (.aload_n 0, 1) := by decide +kernel
theorem dX8_readNewName_1 : decode cX8_readNewName 1 = .ok (.getfield 30, 3) := by decide +kernel
theorem dX8_readNewName_4 : decode cX8_readNewName 4 = .ok (.getfield 46, 3) := by decide +kernel
theorem dX8_readNewName_7 : decode cX8_readNewName 7 = .ok (.bipush (-3), 2) := by decide +kernel
theorem dX8_readNewName_9 : decode cX8_readNewName 9 = .ok (.if_icmp .eq 9, 3) := by decide +kernel
theorem dX8_readNewName_12 : decode cX8_readNewName 12 = .ok (.aload_n 0, 1) := by decide +kernel
theorem dX8_readNewName_13 : decode cX8_readNewName 13 = .ok (.iconst 1, 1) := by decide +kernel
theorem dX8_readNewName_14 : decode cX8_readNewName 14 = .ok (.invokevirtual 106, 3) := by decide +kernel
theorem dX8_readNewName_17 : decode cX8_readNewName 17 = .ok (.ireturn, 1) := by decide +kernel
theorem dX8_readNewName_18 : decode cX8_readNewName 18 = .ok (.aload_n 1, 1) := by decide +kernel
theorem dX8_readNewName_19 : decode cX8_readNewName 19 = .ok (.aload_n 0, 1) := by decide +kernel
theorem dX8_readNewName_20 : decode cX8_readNewName 20 = .ok (.getfield 30, 3) := by decide +kernel
theorem dX8_readNewName_23 : decode cX8_readNewName 23 = .ok (.getfield 133, 3) := by decide +kernel
theorem dX8_readNewName_26 : decode cX8_readNewName 26 = .ok (.invokevirtual 136, 3) := by decide +kernel
theorem dX8_readNewName_29 : decode cX8_readNewName 29 = .ok (.ifCond .lt 9, 3) := by decide +kernel
theorem dX8_readNewName_32 : decode cX8_readNewName 32 = .ok (.aload_n 0, 1) := by decide +kernel
theorem dX8_readNewName_33 : decode cX8_readNewName 33 = .ok (.iconst 3, 1) := by decide +kernel
theorem dX8_readNewName_34 : decode cX8_readNewName 34 = .ok (.invokevirtual 106, 3) := by decide +kernel
theorem dX8_readNewName_37 : decode cX8_readNewName 37 = .ok (.ireturn, 1) := by decide +kernel
theorem dX8_readNewName_38 : decode cX8_readNewName 38 = .ok (.aload_n 1, 1) := by decide +kernel
theorem dX8_readNewName_39 : decode cX8_readNewName 39 = .ok (.iconst 0, 1) := by decide +kernel
theorem dX8_readNewName_40 : decode cX8_readNewName 40 = .ok (.aload_n 0, 1) := by decide +kernel
theorem dX8_readNewName_41 : decode cX8_readNewName 41 = .ok (.getfield 30, 3) := by decide +kernel
theorem dX8_readNewName_44 : decode cX8_readNewName 44 = .ok (.getfield 133, 3) := by decide +kernel
theorem dX8_readNewName_47 : decode cX8_readNewName 47 = .ok (.invokevirtual 150, 3) := by decide +kernel
theorem dX8_readNewName_50 : decode cX8_readNewName 50 = .ok (.aload_n 0, 1) := by decide +kernel
theorem dX8_readNewName_51 : decode cX8_readNewName 51 = .ok (.getfield 30, 3) := by decide +kernel
theorem dX8_readNewName_54 : decode cX8_readNewName 54 = .ok (.invokevirtual 110, 3) := by decide +kernel
theorem dX8_readNewName_57 : decode cX8_readNewName 57 = .ok (.iconst 1, 1) := by decide +kernel
theorem dX8_readNewName_58 : decode cX8_readNewName 58 = .ok (.ireturn, 1) := by decide +kernel
theorem dX8_readToldName_0 : decode cX8_readToldName 0 = .ok (.aload_n 0, 1) := by decide +kernel
theorem dX8_readToldName_1 : decode cX8_readToldName 1 = .ok (.getfield 30, 3) := by decide +kernel
theorem dX8_readToldName_4 : decode cX8_readToldName 4 = .ok (.getfield 46, 3) := by decide +kernel
theorem dX8_readToldName_7 : decode cX8_readToldName 7 = .ok (.bipush (-3), 2) := by decide +kernel
theorem dX8_readToldName_9 : decode cX8_readToldName 9 = .ok (.if_icmp .eq 9, 3) := by decide +kernel
theorem dX8_readToldName_12 : decode cX8_readToldName 12 = .ok (.aload_n 0, 1) := by decide +kernel
theorem dX8_readToldName_13 : decode cX8_readToldName 13 = .ok (.iconst 1, 1) := by decide +kernel
theorem dX8_readToldName_14 : decode cX8_readToldName 14 = .ok (.invokevirtual 106, 3) := by decide +kernel
theorem dX8_readToldName_17 : decode cX8_readToldName 17 = .ok (.ireturn, 1) := by decide +kernel
theorem dX8_readToldName_18 : decode cX8_readToldName 18 = .ok (.aload_n 1, 1) := by decide +kernel
theorem dX8_readToldName_19 : decode cX8_readToldName 19 = .ok (.aload_n 0, 1) := by decide +kernel
theorem dX8_readToldName_20 : decode cX8_readToldName 20 = .ok (.getfield 30, 3) := by decide +kernel
theorem dX8_readToldName_23 : decode cX8_readToldName 23 = .ok (.getfield 133, 3) := by decide +kernel
theorem dX8_readToldName_26 : decode cX8_readToldName 26 = .ok (.invokevirtual 136, 3) := by decide +kernel
theorem dX8_readToldName_29 : decode cX8_readToldName 29 = .ok (.istore 4, 2) := by decide +kernel
theorem dX8_readToldName_31 : decode cX8_readToldName 31 = .ok (.iload 4, 2) := by decide +kernel
theorem dX8_readToldName_33 : decode cX8_readToldName 33 = .ok (.ifCond .ge 9, 3) := by decide +kernel
theorem dX8_readToldName_36 : decode cX8_readToldName 36 = .ok (.aload_n 0, 1) := by decide +kernel
theorem dX8_readToldName_37 : decode cX8_readToldName 37 = .ok (.iconst 4, 1) := by decide +kernel
theorem dX8_readToldName_38 : decode cX8_readToldName 38 = .ok (.invokevirtual 106, 3) := by decide +kernel
theorem dX8_readToldName_41 : decode cX8_readToldName 41 = .ok (.ireturn, 1) := by decide +kernel
theorem dX8_readToldName_42 : decode cX8_readToldName 42 = .ok (.aload_n 2, 1) := by decide +kernel
theorem dX8_readToldName_43 : decode cX8_readToldName 43 = .ok (.iload_n 3, 1) := by decide +kernel
theorem dX8_readToldName_44 : decode cX8_readToldName 44 = .ok (.iload 4, 2) := by decide +kernel
theorem dX8_readToldName_46 : decode cX8_readToldName 46 = .ok (.invokevirtual 150, 3) := by decide +kernel
theorem dX8_readToldName_49 : decode cX8_readToldName 49 = .ok (.aload_n 0, 1) := by decide +kernel
theorem dX8_readToldName_50 : decode cX8_readToldName 50 = .ok (.getfield 30, 3) := by decide +kernel
theorem dX8_readToldName_53 : decode cX8_readToldName 53 = .ok (.invokevirtual 110, 3) := by decide +kernel
theorem dX8_readToldName_56 : decode cX8_readToldName 56 = .ok (.iconst 1, 1) := by decide +kernel
theorem dX8_readToldName_57 : decode cX8_readToldName 57 = .ok (.ireturn, 1) := by decide +kernel
theorem dX8_readCell_0 : decode cX8_readCell 0 = .ok (.aload_n 0, 1) := by decide +kernel
theorem dX8_readCell_1 : decode cX8_readCell 1 = .ok (.iload_n 3, 1) := by decide +kernel
theorem dX8_readCell_2 : decode cX8_readCell 2 = .ok (.iload 4, 2) := by decide +kernel
theorem dX8_readCell_4 : decode cX8_readCell 4 = .ok (.invokevirtual 154, 3) := by decide +kernel
theorem dX8_readCell_7 : decode cX8_readCell 7 = .ok (.ifCond .ne 5, 3) := by decide +kernel
theorem dX8_readCell_10 : decode cX8_readCell 10 = .ok (.iconst 0, 1) := by decide +kernel
theorem dX8_readCell_11 : decode cX8_readCell 11 = .ok (.ireturn, 1) := by decide +kernel
theorem dX8_readCell_12 : decode cX8_readCell 12 = .ok (.aload_n 1, 1) := by decide +kernel
theorem dX8_readCell_13 : decode cX8_readCell 13 = .ok (.iload_n 2, 1) := by decide +kernel
theorem dX8_readCell_14 : decode cX8_readCell 14 = .ok (.aload_n 0, 1) := by decide +kernel
theorem dX8_readCell_15 : decode cX8_readCell 15 = .ok (.getfield 30, 3) := by decide +kernel
theorem dX8_readCell_18 : decode cX8_readCell 18 = .ok (.getfield 133, 3) := by decide +kernel
theorem dX8_readCell_21 : decode cX8_readCell 21 = .ok (.invokevirtual 150, 3) := by decide +kernel
theorem dX8_readCell_24 : decode cX8_readCell 24 = .ok (.aload_n 0, 1) := by decide +kernel
theorem dX8_readCell_25 : decode cX8_readCell 25 = .ok (.getfield 30, 3) := by decide +kernel
theorem dX8_readCell_28 : decode cX8_readCell 28 = .ok (.invokevirtual 110, 3) := by decide +kernel
theorem dX8_readCell_31 : decode cX8_readCell 31 = .ok (.iconst 1, 1) := by decide +kernel
theorem dX8_readCell_32 : decode cX8_readCell 32 = .ok (.ireturn, 1) := by decide +kernel
theorem dX8_isNumber_0 : decode cX8_isNumber 0 = .ok (.aload_n 0, 1) := by decide +kernel
theorem dX8_isNumber_1 : decode cX8_isNumber 1 = .ok (.getfield 30, 3) := by decide +kernel
theorem dX8_isNumber_4 : decode cX8_isNumber 4 = .ok (.getfield 46, 3) := by decide +kernel
theorem dX8_isNumber_7 : decode cX8_isNumber 7 = .ok (.bipush 21, 2) := by decide +kernel
theorem dX8_isNumber_9 : decode cX8_isNumber 9 = .ok (.if_icmp .eq 9, 3) := by decide +kernel
theorem dX8_isNumber_12 : decode cX8_isNumber 12 = .ok (.aload_n 0, 1) := by decide +kernel
theorem dX8_isNumber_13 : decode cX8_isNumber 13 = .ok (.iconst 1, 1) := by decide +kernel
theorem dX8_isNumber_14 : decode cX8_isNumber 14 = .ok (.invokevirtual 106, 3) := by decide +kernel
theorem dX8_isNumber_17 : decode cX8_isNumber 17 = .ok (.ireturn, 1) := by decide +kernel
theorem dX8_isNumber_18 : decode cX8_isNumber 18 = .ok (.aload_n 0, 1) := by decide +kernel
theorem dX8_isNumber_19 : decode cX8_isNumber 19 = .ok (.getfield 30, 3) := by decide +kernel
theorem dX8_isNumber_22 : decode cX8_isNumber 22 = .ok (.getfield 133, 3) := by decide +kernel
theorem dX8_isNumber_25 : decode cX8_isNumber 25 = .ok (.iload_n 1, 1) := by decide +kernel
theorem dX8_isNumber_26 : decode cX8_isNumber 26 = .ok (.if_icmp .lt 14, 3) := by decide +kernel
theorem dX8_isNumber_29 : decode cX8_isNumber 29 = .ok (.aload_n 0, 1) := by decide +kernel
theorem dX8_isNumber_30 : decode cX8_isNumber 30 = .ok (.getfield 30, 3) := by decide +kernel
theorem dX8_isNumber_33 : decode cX8_isNumber 33 = .ok (.getfield 133, 3) := by decide +kernel
theorem dX8_isNumber_36 : decode cX8_isNumber 36 = .ok (.iload_n 2, 1) := by decide +kernel
theorem dX8_isNumber_37 : decode cX8_isNumber 37 = .ok (.if_icmp .le 11, 3) := by decide +kernel
theorem dX8_isNumber_40 : decode cX8_isNumber 40 = .ok (.aload_n 0, 1) := by decide +kernel
theorem dX8_isNumber_41 : decode cX8_isNumber 41 = .ok (.iconst 2, 1) := by decide +kernel
theorem dX8_isNumber_42 : decode cX8_isNumber 42 = .ok (.invokevirtual 106, 3) := by decide +kernel
theorem dX8_isNumber_45 : decode cX8_isNumber 45 = .ok (.ifCond .eq 7, 3) := by decide +kernel
theorem dX8_isNumber_48 : decode cX8_isNumber 48 = .ok (.iconst 1, 1) := by decide +kernel
theorem dX8_isNumber_49 : decode cX8_isNumber 49 = .ok (.goto 4, 3) := by decide +kernel
theorem dX8_isNumber_52 : decode cX8_isNumber 52 = .ok (.iconst 0, 1) := by decide +kernel
theorem dX8_isNumber_53 : decode cX8_isNumber 53 = .ok (.ireturn, 1) := by decide +kernel
theorem dX8_readFlinch_0 : decode cX8_readFlinch 0 = .ok (.aload_n 1, 1) := by decide +kernel
theorem dX8_readFlinch_1 : decode cX8_readFlinch 1 = .ok (.getfield 158, 3) := by decide +kernel
theorem dX8_readFlinch_4 : decode cX8_readFlinch 4 = .ok (.ifCond .eq 9, 3) := by decide +kernel
theorem dX8_readFlinch_7 : decode cX8_readFlinch 7 = .ok (.aload_n 0, 1) := by decide +kernel
theorem dX8_readFlinch_8 : decode cX8_readFlinch 8 = .ok (.iconst 3, 1) := by decide +kernel
theorem dX8_readFlinch_9 : decode cX8_readFlinch 9 = .ok (.invokevirtual 106, 3) := by decide +kernel
theorem dX8_readFlinch_12 : decode cX8_readFlinch 12 = .ok (.ireturn, 1) := by decide +kernel
theorem dX8_readFlinch_13 : decode cX8_readFlinch 13 = .ok (.aload_n 0, 1) := by decide +kernel
theorem dX8_readFlinch_14 : decode cX8_readFlinch 14 = .ok (.getfield 30, 3) := by decide +kernel
theorem dX8_readFlinch_17 : decode cX8_readFlinch 17 = .ok (.invokevirtual 110, 3) := by decide +kernel
theorem dX8_readFlinch_20 : decode cX8_readFlinch 20 = .ok (.aload_n 0, 1) := by decide +kernel
theorem dX8_readFlinch_21 : decode cX8_readFlinch 21 = .ok (.iconst 0, 1) := by decide +kernel
theorem dX8_readFlinch_22 : decode cX8_readFlinch 22 = .ok (.bipush 100, 2) := by decide +kernel
theorem dX8_readFlinch_24 : decode cX8_readFlinch 24 = .ok (.invokevirtual 154, 3) := by decide +kernel
theorem dX8_readFlinch_27 : decode cX8_readFlinch 27 = .ok (.ifCond .ne 5, 3) := by decide +kernel
theorem dX8_readFlinch_30 : decode cX8_readFlinch 30 = .ok (.iconst 0, 1) := by decide +kernel
theorem dX8_readFlinch_31 : decode cX8_readFlinch 31 = .ok (.ireturn, 1) := by decide +kernel
theorem dX8_readFlinch_32 : decode cX8_readFlinch 32 = .ok (.aload_n 1, 1) := by decide +kernel
theorem dX8_readFlinch_33 : decode cX8_readFlinch 33 = .ok (.iconst 1, 1) := by decide +kernel
theorem dX8_readFlinch_34 : decode cX8_readFlinch 34 = .ok (.putfield 158, 3) := by decide +kernel
theorem dX8_readFlinch_37 : decode cX8_readFlinch 37 = .ok (.aload_n 1, 1) := by decide +kernel
theorem dX8_readFlinch_38 : decode cX8_readFlinch 38 = .ok (.aload_n 0, 1) := by decide +kernel
theorem dX8_readFlinch_39 : decode cX8_readFlinch 39 = .ok (.getfield 30, 3) := by decide +kernel
theorem dX8_readFlinch_42 : decode cX8_readFlinch 42 = .ok (.getfield 133, 3) := by decide +kernel
theorem dX8_readFlinch_45 : decode cX8_readFlinch 45 = .ok (.putfield 162, 3) := by decide +kernel
theorem dX8_readFlinch_48 : decode cX8_readFlinch 48 = .ok (.aload_n 0, 1) := by decide +kernel
theorem dX8_readFlinch_49 : decode cX8_readFlinch 49 = .ok (.getfield 30, 3) := by decide +kernel
theorem dX8_readFlinch_52 : decode cX8_readFlinch 52 = .ok (.invokevirtual 110, 3) := by decide +kernel
theorem dX8_readFlinch_55 : decode cX8_readFlinch 55 = .ok (.iconst 1, 1) := by decide +kernel
theorem dX8_readFlinch_56 : decode cX8_readFlinch 56 = .ok (.ireturn, 1) := by decide +kernel
theorem dX8_readSeed_0 : decode cX8_readSeed 0 = .ok (.aload_n 1, 1) := by decide +kernel
theorem dX8_readSeed_1 : decode cX8_readSeed 1 = .ok (.getfield 165, 3) := by decide +kernel
theorem dX8_readSeed_4 : decode cX8_readSeed 4 = .ok (.ifCond .eq 9, 3) := by decide +kernel
theorem dX8_readSeed_7 : decode cX8_readSeed 7 = .ok (.aload_n 0, 1) := by decide +kernel
theorem dX8_readSeed_8 : decode cX8_readSeed 8 = .ok (.iconst 3, 1) := by decide +kernel
theorem dX8_readSeed_9 : decode cX8_readSeed 9 = .ok (.invokevirtual 106, 3) := by decide +kernel
theorem dX8_readSeed_12 : decode cX8_readSeed 12 = .ok (.ireturn, 1) := by decide +kernel
theorem dX8_readSeed_13 : decode cX8_readSeed 13 = .ok (.aload_n 0, 1) := by decide +kernel
theorem dX8_readSeed_14 : decode cX8_readSeed 14 = .ok (.getfield 30, 3) := by decide +kernel
theorem dX8_readSeed_17 : decode cX8_readSeed 17 = .ok (.invokevirtual 110, 3) := by decide +kernel
theorem dX8_readSeed_20 : decode cX8_readSeed 20 = .ok (.aload_n 0, 1) := by decide +kernel
theorem dX8_readSeed_21 : decode cX8_readSeed 21 = .ok (.iconst 0, 1) := by decide +kernel
theorem dX8_readSeed_22 : decode cX8_readSeed 22 = .ok (.ldc 168, 2) := by decide +kernel
theorem dX8_readSeed_24 : decode cX8_readSeed 24 = .ok (.invokevirtual 154, 3) := by decide +kernel
theorem dX8_readSeed_27 : decode cX8_readSeed 27 = .ok (.ifCond .ne 5, 3) := by decide +kernel
theorem dX8_readSeed_30 : decode cX8_readSeed 30 = .ok (.iconst 0, 1) := by decide +kernel
theorem dX8_readSeed_31 : decode cX8_readSeed 31 = .ok (.ireturn, 1) := by decide +kernel
theorem dX8_readSeed_32 : decode cX8_readSeed 32 = .ok (.aload_n 1, 1) := by decide +kernel
theorem dX8_readSeed_33 : decode cX8_readSeed 33 = .ok (.iconst 1, 1) := by decide +kernel
theorem dX8_readSeed_34 : decode cX8_readSeed 34 = .ok (.putfield 165, 3) := by decide +kernel
theorem dX8_readSeed_37 : decode cX8_readSeed 37 = .ok (.aload_n 1, 1) := by decide +kernel
theorem dX8_readSeed_38 : decode cX8_readSeed 38 = .ok (.aload_n 0, 1) := by decide +kernel
theorem dX8_readSeed_39 : decode cX8_readSeed 39 = .ok (.getfield 30, 3) := by decide +kernel
theorem dX8_readSeed_42 : decode cX8_readSeed 42 = .ok (.getfield 133, 3) := by decide +kernel
theorem dX8_readSeed_45 : decode cX8_readSeed 45 = .ok (.putfield 169, 3) := by decide +kernel
theorem dX8_readSeed_48 : decode cX8_readSeed 48 = .ok (.aload_n 0, 1) := by decide +kernel
theorem dX8_readSeed_49 : decode cX8_readSeed 49 = .ok (.getfield 30, 3) := by decide +kernel
theorem dX8_readSeed_52 : decode cX8_readSeed 52 = .ok (.invokevirtual 110, 3) := by decide +kernel
theorem dX8_readSeed_55 : decode cX8_readSeed 55 = .ok (.iconst 1, 1) := by decide +kernel
theorem dX8_readSeed_56 : decode cX8_readSeed 56 = .ok (.ireturn, 1) := by decide +kernel
theorem dX8_readLaw_0 : decode cX8_readLaw 0 = .ok (.aload_n 0, 1) := by decide +kernel
theorem dX8_readLaw_1 : decode cX8_readLaw 1 = .ok (.getfield 30, 3) := by decide +kernel
theorem dX8_readLaw_4 : decode cX8_readLaw 4 = .ok (.invokevirtual 110, 3) := by decide +kernel
theorem dX8_readLaw_7 : decode cX8_readLaw 7 = .ok (.aload_n 0, 1) := by decide +kernel
theorem dX8_readLaw_8 : decode cX8_readLaw 8 = .ok (.getfield 30, 3) := by decide +kernel
theorem dX8_readLaw_11 : decode cX8_readLaw 11 = .ok (.getfield 46, 3) := by decide +kernel
theorem dX8_readLaw_14 : decode cX8_readLaw 14 = .ok (.bipush 8, 2) := by decide +kernel
theorem dX8_readLaw_16 : decode cX8_readLaw 16 = .ok (.isub, 1) := by decide +kernel
theorem dX8_readLaw_17 : decode cX8_readLaw 17 = .ok (.istore_n 2, 1) := by decide +kernel
theorem dX8_readLaw_18 : decode cX8_readLaw 18 = .ok (.iload_n 2, 1) := by decide +kernel
theorem dX8_readLaw_19 : decode cX8_readLaw 19 = .ok (.ifCond .lt 8, 3) := by decide +kernel
theorem dX8_readLaw_22 : decode cX8_readLaw 22 = .ok (.iload_n 2, 1) := by decide +kernel
theorem dX8_readLaw_23 : decode cX8_readLaw 23 = .ok (.iconst 2, 1) := by decide +kernel
theorem dX8_readLaw_24 : decode cX8_readLaw 24 = .ok (.if_icmp .le 9, 3) := by decide +kernel
theorem dX8_readLaw_27 : decode cX8_readLaw 27 = .ok (.aload_n 0, 1) := by decide +kernel
theorem dX8_readLaw_28 : decode cX8_readLaw 28 = .ok (.iconst 1, 1) := by decide +kernel
theorem dX8_readLaw_29 : decode cX8_readLaw 29 = .ok (.invokevirtual 106, 3) := by decide +kernel
theorem dX8_readLaw_32 : decode cX8_readLaw 32 = .ok (.ireturn, 1) := by decide +kernel
theorem dX8_readLaw_33 : decode cX8_readLaw 33 = .ok (.aload_n 1, 1) := by decide +kernel
theorem dX8_readLaw_34 : decode cX8_readLaw 34 = .ok (.iload_n 2, 1) := by decide +kernel
theorem dX8_readLaw_35 : decode cX8_readLaw 35 = .ok (.invokevirtual 172, 3) := by decide +kernel
theorem dX8_readLaw_38 : decode cX8_readLaw 38 = .ok (.ifCond .eq 9, 3) := by decide +kernel
theorem dX8_readLaw_41 : decode cX8_readLaw 41 = .ok (.aload_n 0, 1) := by decide +kernel
theorem dX8_readLaw_42 : decode cX8_readLaw 42 = .ok (.iconst 3, 1) := by decide +kernel
theorem dX8_readLaw_43 : decode cX8_readLaw 43 = .ok (.invokevirtual 106, 3) := by decide +kernel
theorem dX8_readLaw_46 : decode cX8_readLaw 46 = .ok (.ireturn, 1) := by decide +kernel
theorem dX8_readLaw_47 : decode cX8_readLaw 47 = .ok (.aload_n 1, 1) := by decide +kernel
theorem dX8_readLaw_48 : decode cX8_readLaw 48 = .ok (.getfield 175, 3) := by decide +kernel
theorem dX8_readLaw_51 : decode cX8_readLaw 51 = .ok (.istore_n 3, 1) := by decide +kernel
theorem dX8_readLaw_52 : decode cX8_readLaw 52 = .ok (.aload_n 0, 1) := by decide +kernel
theorem dX8_readLaw_53 : decode cX8_readLaw 53 = .ok (.iconst 0, 1) := by decide +kernel
theorem dX8_readLaw_54 : decode cX8_readLaw 54 = .ok (.putfield 176, 3) := by decide +kernel
theorem dX8_readLaw_57 : decode cX8_readLaw 57 = .ok (.aload_n 0, 1) := by decide +kernel
theorem dX8_readLaw_58 : decode cX8_readLaw 58 = .ok (.iconst 0, 1) := by decide +kernel
theorem dX8_readLaw_59 : decode cX8_readLaw 59 = .ok (.putfield 179, 3) := by decide +kernel
theorem dX8_readLaw_62 : decode cX8_readLaw 62 = .ok (.aload_n 0, 1) := by decide +kernel
theorem dX8_readLaw_63 : decode cX8_readLaw 63 = .ok (.getfield 17, 3) := by decide +kernel
theorem dX8_readLaw_66 : decode cX8_readLaw 66 = .ok (.iconst 0, 1) := by decide +kernel
theorem dX8_readLaw_67 : decode cX8_readLaw 67 = .ok (.iconst 0, 1) := by decide +kernel
theorem dX8_readLaw_68 : decode cX8_readLaw 68 = .ok (.bastore, 1) := by decide +kernel
theorem dX8_readLaw_69 : decode cX8_readLaw 69 = .ok (.aload_n 0, 1) := by decide +kernel
theorem dX8_readLaw_70 : decode cX8_readLaw 70 = .ok (.iconst 1, 1) := by decide +kernel
theorem dX8_readLaw_71 : decode cX8_readLaw 71 = .ok (.putfield 182, 3) := by decide +kernel
theorem dX8_readLaw_74 : decode cX8_readLaw 74 = .ok (.aload_n 0, 1) := by decide +kernel
theorem dX8_readLaw_75 : decode cX8_readLaw 75 = .ok (.iconst 1, 1) := by decide +kernel
theorem dX8_readLaw_76 : decode cX8_readLaw 76 = .ok (.putfield 185, 3) := by decide +kernel
theorem dX8_readLaw_79 : decode cX8_readLaw 79 = .ok (.aload_n 0, 1) := by decide +kernel
theorem dX8_readLaw_80 : decode cX8_readLaw 80 = .ok (.getfield 30, 3) := by decide +kernel
theorem dX8_readLaw_83 : decode cX8_readLaw 83 = .ok (.invokevirtual 110, 3) := by decide +kernel
theorem dX8_readLaw_86 : decode cX8_readLaw 86 = .ok (.iconst 0, 1) := by decide +kernel
theorem dX8_readLaw_87 : decode cX8_readLaw 87 = .ok (.istore 4, 2) := by decide +kernel
theorem dX8_readLaw_89 : decode cX8_readLaw 89 = .ok (.iload 4, 2) := by decide +kernel
theorem dX8_readLaw_91 : decode cX8_readLaw 91 = .ok (.sipush 700, 3) := by decide +kernel
theorem dX8_readLaw_94 : decode cX8_readLaw 94 = .ok (.if_icmp .ge 84, 3) := by decide +kernel
theorem dX8_readLaw_97 : decode cX8_readLaw 97 = .ok (.aload_n 0, 1) := by decide +kernel
theorem dX8_readLaw_98 : decode cX8_readLaw 98 = .ok (.getfield 182, 3) := by decide +kernel
theorem dX8_readLaw_101 : decode cX8_readLaw 101 = .ok (.ifCond .ne 36, 3) := by decide +kernel
theorem dX8_readLaw_104 : decode cX8_readLaw 104 = .ok (.aload_n 0, 1) := by decide +kernel
theorem dX8_readLaw_105 : decode cX8_readLaw 105 = .ok (.getfield 179, 3) := by decide +kernel
theorem dX8_readLaw_108 : decode cX8_readLaw 108 = .ok (.ifCond .ne 29, 3) := by decide +kernel
theorem dX8_readLaw_111 : decode cX8_readLaw 111 = .ok (.aload_n 0, 1) := by decide +kernel
theorem dX8_readLaw_112 : decode cX8_readLaw 112 = .ok (.getfield 30, 3) := by decide +kernel
theorem dX8_readLaw_115 : decode cX8_readLaw 115 = .ok (.getfield 46, 3) := by decide +kernel
theorem dX8_readLaw_118 : decode cX8_readLaw 118 = .ok (.bipush 22, 2) := by decide +kernel
theorem dX8_readLaw_120 : decode cX8_readLaw 120 = .ok (.if_icmp .ne 17, 3) := by decide +kernel
theorem dX8_readLaw_123 : decode cX8_readLaw 123 = .ok (.aload_n 0, 1) := by decide +kernel
theorem dX8_readLaw_124 : decode cX8_readLaw 124 = .ok (.aload_n 1, 1) := by decide +kernel
theorem dX8_readLaw_125 : decode cX8_readLaw 125 = .ok (.iconst 0, 1) := by decide +kernel
theorem dX8_readLaw_126 : decode cX8_readLaw 126 = .ok (.invokevirtual 188, 3) := by decide +kernel
theorem dX8_readLaw_129 : decode cX8_readLaw 129 = .ok (.aload_n 1, 1) := by decide +kernel
theorem dX8_readLaw_130 : decode cX8_readLaw 130 = .ok (.iload_n 2, 1) := by decide +kernel
theorem dX8_readLaw_131 : decode cX8_readLaw 131 = .ok (.iload_n 3, 1) := by decide +kernel
theorem dX8_readLaw_132 : decode cX8_readLaw 132 = .ok (.invokevirtual 192, 3) := by decide +kernel
theorem dX8_readLaw_135 : decode cX8_readLaw 135 = .ok (.iconst 1, 1) := by decide +kernel
theorem dX8_readLaw_136 : decode cX8_readLaw 136 = .ok (.ireturn, 1) := by decide +kernel
theorem dX8_readLaw_137 : decode cX8_readLaw 137 = .ok (.aload_n 0, 1) := by decide +kernel
theorem dX8_readLaw_138 : decode cX8_readLaw 138 = .ok (.getfield 182, 3) := by decide +kernel
theorem dX8_readLaw_141 : decode cX8_readLaw 141 = .ok (.ifCond .eq 14, 3) := by decide +kernel
theorem dX8_readLaw_144 : decode cX8_readLaw 144 = .ok (.aload_n 0, 1) := by decide +kernel
theorem dX8_readLaw_145 : decode cX8_readLaw 145 = .ok (.aload_n 1, 1) := by decide +kernel
theorem dX8_readLaw_146 : decode cX8_readLaw 146 = .ok (.invokevirtual 194, 3) := by decide +kernel
theorem dX8_readLaw_149 : decode cX8_readLaw 149 = .ok (.ifCond .ne 16, 3) := by decide +kernel
theorem dX8_readLaw_152 : decode cX8_readLaw 152 = .ok (.goto 11, 3) := by decide +kernel
theorem dX8_readLaw_155 : decode cX8_readLaw 155 = .ok (.aload_n 0, 1) := by decide +kernel
theorem dX8_readLaw_156 : decode cX8_readLaw 156 = .ok (.aload_n 1, 1) := by decide +kernel
theorem dX8_readLaw_157 : decode cX8_readLaw 157 = .ok (.invokevirtual 197, 3) := by decide +kernel
theorem dX8_readLaw_160 : decode cX8_readLaw 160 = .ok (.ifCond .ne 5, 3) := by decide +kernel
theorem dX8_readLaw_163 : decode cX8_readLaw 163 = .ok (.iconst 0, 1) := by decide +kernel
theorem dX8_readLaw_164 : decode cX8_readLaw 164 = .ok (.ireturn, 1) := by decide +kernel
theorem dX8_readLaw_165 : decode cX8_readLaw 165 = .ok (.aload_n 0, 1) := by decide +kernel
theorem dX8_readLaw_166 : decode cX8_readLaw 166 = .ok (.getfield 30, 3) := by decide +kernel
theorem dX8_readLaw_169 : decode cX8_readLaw 169 = .ok (.invokevirtual 110, 3) := by decide +kernel
theorem dX8_readLaw_172 : decode cX8_readLaw 172 = .ok (.iinc 4 1, 3) := by decide +kernel
theorem dX8_readLaw_175 : decode cX8_readLaw 175 = .ok (.goto (-86), 3) := by decide +kernel
theorem dX8_readLaw_178 : decode cX8_readLaw 178 = .ok (.aload_n 0, 1) := by decide +kernel
theorem dX8_readLaw_179 : decode cX8_readLaw 179 = .ok (.iconst 1, 1) := by decide +kernel
theorem dX8_readLaw_180 : decode cX8_readLaw 180 = .ok (.invokevirtual 106, 3) := by decide +kernel
theorem dX8_readLaw_183 : decode cX8_readLaw 183 = .ok (.ireturn, 1) := by decide +kernel
theorem dX8_takeOperand_0 : decode cX8_takeOperand 0 = .ok (.aload_n 0, 1) := by decide +kernel
theorem dX8_takeOperand_1 : decode cX8_takeOperand 1 = .ok (.getfield 30, 3) := by decide +kernel
theorem dX8_takeOperand_4 : decode cX8_takeOperand 4 = .ok (.getfield 46, 3) := by decide +kernel
theorem dX8_takeOperand_7 : decode cX8_takeOperand 7 = .ok (.istore_n 2, 1) := by decide +kernel
theorem dX8_takeOperand_8 : decode cX8_takeOperand 8 = .ok (.iload_n 2, 1) := by decide +kernel
theorem dX8_takeOperand_9 : decode cX8_takeOperand 9 = .ok (.bipush 23, 2) := by decide +kernel
theorem dX8_takeOperand_11 : decode cX8_takeOperand 11 = .ok (.if_icmp .ne 8, 3) := by decide +kernel
theorem dX8_takeOperand_14 : decode cX8_takeOperand 14 = .ok (.aload_n 0, 1) := by decide +kernel
theorem dX8_takeOperand_15 : decode cX8_takeOperand 15 = .ok (.invokevirtual 200, 3) := by decide +kernel
theorem dX8_takeOperand_18 : decode cX8_takeOperand 18 = .ok (.ireturn, 1) := by decide +kernel
theorem dX8_takeOperand_19 : decode cX8_takeOperand 19 = .ok (.iload_n 2, 1) := by decide +kernel
theorem dX8_takeOperand_20 : decode cX8_takeOperand 20 = .ok (.bipush 13, 2) := by decide +kernel
theorem dX8_takeOperand_22 : decode cX8_takeOperand 22 = .ok (.if_icmp .ne 32, 3) := by decide +kernel
theorem dX8_takeOperand_25 : decode cX8_takeOperand 25 = .ok (.aload_n 0, 1) := by decide +kernel
theorem dX8_takeOperand_26 : decode cX8_takeOperand 26 = .ok (.getfield 185, 3) := by decide +kernel
theorem dX8_takeOperand_29 : decode cX8_takeOperand 29 = .ok (.ifCond .eq 25, 3) := by decide +kernel
theorem dX8_takeOperand_32 : decode cX8_takeOperand 32 = .ok (.aload_n 0, 1) := by decide +kernel
theorem dX8_takeOperand_33 : decode cX8_takeOperand 33 = .ok (.aload_n 1, 1) := by decide +kernel
theorem dX8_takeOperand_34 : decode cX8_takeOperand 34 = .ok (.invokevirtual 203, 3) := by decide +kernel
theorem dX8_takeOperand_37 : decode cX8_takeOperand 37 = .ok (.ifCond .eq 15, 3) := by decide +kernel
theorem dX8_takeOperand_40 : decode cX8_takeOperand 40 = .ok (.aload_n 0, 1) := by decide +kernel
theorem dX8_takeOperand_41 : decode cX8_takeOperand 41 = .ok (.iload_n 2, 1) := by decide +kernel
theorem dX8_takeOperand_42 : decode cX8_takeOperand 42 = .ok (.invokevirtual 206, 3) := by decide +kernel
theorem dX8_takeOperand_45 : decode cX8_takeOperand 45 = .ok (.ifCond .eq 7, 3) := by decide +kernel
theorem dX8_takeOperand_48 : decode cX8_takeOperand 48 = .ok (.iconst 1, 1) := by decide +kernel
theorem dX8_takeOperand_49 : decode cX8_takeOperand 49 = .ok (.goto 4, 3) := by decide +kernel
theorem dX8_takeOperand_52 : decode cX8_takeOperand 52 = .ok (.iconst 0, 1) := by decide +kernel
theorem dX8_takeOperand_53 : decode cX8_takeOperand 53 = .ok (.ireturn, 1) := by decide +kernel
theorem dX8_takeOperand_54 : decode cX8_takeOperand 54 = .ok (.iload_n 2, 1) := by decide +kernel
theorem dX8_takeOperand_55 : decode cX8_takeOperand 55 = .ok (.bipush 14, 2) := by decide +kernel
theorem dX8_takeOperand_57 : decode cX8_takeOperand 57 = .ok (.if_icmp .lt 9, 3) := by decide +kernel
theorem dX8_takeOperand_60 : decode cX8_takeOperand 60 = .ok (.iload_n 2, 1) := by decide +kernel
theorem dX8_takeOperand_61 : decode cX8_takeOperand 61 = .ok (.bipush 21, 2) := by decide +kernel
theorem dX8_takeOperand_63 : decode cX8_takeOperand 63 = .ok (.if_icmp .le 9, 3) := by decide +kernel
theorem dX8_takeOperand_66 : decode cX8_takeOperand 66 = .ok (.aload_n 0, 1) := by decide +kernel
theorem dX8_takeOperand_67 : decode cX8_takeOperand 67 = .ok (.iconst 1, 1) := by decide +kernel
theorem dX8_takeOperand_68 : decode cX8_takeOperand 68 = .ok (.invokevirtual 106, 3) := by decide +kernel
theorem dX8_takeOperand_71 : decode cX8_takeOperand 71 = .ok (.ireturn, 1) := by decide +kernel
theorem dX8_takeOperand_72 : decode cX8_takeOperand 72 = .ok (.aload_n 0, 1) := by decide +kernel
theorem dX8_takeOperand_73 : decode cX8_takeOperand 73 = .ok (.getfield 30, 3) := by decide +kernel
theorem dX8_takeOperand_76 : decode cX8_takeOperand 76 = .ok (.getfield 133, 3) := by decide +kernel
theorem dX8_takeOperand_79 : decode cX8_takeOperand 79 = .ok (.sipush 9999, 3) := by decide +kernel
theorem dX8_takeOperand_82 : decode cX8_takeOperand 82 = .ok (.if_icmp .le 15, 3) := by decide +kernel
theorem dX8_takeOperand_85 : decode cX8_takeOperand 85 = .ok (.iload_n 2, 1) := by decide +kernel
theorem dX8_takeOperand_86 : decode cX8_takeOperand 86 = .ok (.bipush 21, 2) := by decide +kernel
theorem dX8_takeOperand_88 : decode cX8_takeOperand 88 = .ok (.if_icmp .ne 9, 3) := by decide +kernel
theorem dX8_takeOperand_91 : decode cX8_takeOperand 91 = .ok (.aload_n 0, 1) := by decide +kernel
theorem dX8_takeOperand_92 : decode cX8_takeOperand 92 = .ok (.iconst 2, 1) := by decide +kernel
theorem dX8_takeOperand_93 : decode cX8_takeOperand 93 = .ok (.invokevirtual 106, 3) := by decide +kernel
theorem dX8_takeOperand_96 : decode cX8_takeOperand 96 = .ok (.ireturn, 1) := by decide +kernel
theorem dX8_takeOperand_97 : decode cX8_takeOperand 97 = .ok (.aload_n 0, 1) := by decide +kernel
theorem dX8_takeOperand_98 : decode cX8_takeOperand 98 = .ok (.aload_n 1, 1) := by decide +kernel
theorem dX8_takeOperand_99 : decode cX8_takeOperand 99 = .ok (.invokevirtual 203, 3) := by decide +kernel
theorem dX8_takeOperand_102 : decode cX8_takeOperand 102 = .ok (.ifCond .ne 5, 3) := by decide +kernel
theorem dX8_takeOperand_105 : decode cX8_takeOperand 105 = .ok (.iconst 0, 1) := by decide +kernel
theorem dX8_takeOperand_106 : decode cX8_takeOperand 106 = .ok (.ireturn, 1) := by decide +kernel
theorem dX8_takeOperand_107 : decode cX8_takeOperand 107 = .ok (.aload_n 1, 1) := by decide +kernel
theorem dX8_takeOperand_108 : decode cX8_takeOperand 108 = .ok (.iload_n 2, 1) := by decide +kernel
theorem dX8_takeOperand_109 : decode cX8_takeOperand 109 = .ok (.aload_n 0, 1) := by decide +kernel
theorem dX8_takeOperand_110 : decode cX8_takeOperand 110 = .ok (.getfield 30, 3) := by decide +kernel
theorem dX8_takeOperand_113 : decode cX8_takeOperand 113 = .ok (.getfield 133, 3) := by decide +kernel
theorem dX8_takeOperand_116 : decode cX8_takeOperand 116 = .ok (.invokevirtual 209, 3) := by decide +kernel
theorem dX8_takeOperand_119 : decode cX8_takeOperand 119 = .ok (.aload_n 0, 1) := by decide +kernel
theorem dX8_takeOperand_120 : decode cX8_takeOperand 120 = .ok (.iconst 0, 1) := by decide +kernel
theorem dX8_takeOperand_121 : decode cX8_takeOperand 121 = .ok (.putfield 182, 3) := by decide +kernel
theorem dX8_takeOperand_124 : decode cX8_takeOperand 124 = .ok (.iconst 1, 1) := by decide +kernel
theorem dX8_takeOperand_125 : decode cX8_takeOperand 125 = .ok (.ireturn, 1) := by decide +kernel
theorem dX8_takeOpening_0 : decode cX8_takeOpening 0 = .ok (.aload_n 0, 1) := by decide +kernel
theorem dX8_takeOpening_1 : decode cX8_takeOpening 1 = .ok (.getfield 179, 3) := by decide +kernel
theorem dX8_takeOpening_4 : decode cX8_takeOpening 4 = .ok (.ifCond .lt 12, 3) := by decide +kernel
theorem dX8_takeOpening_7 : decode cX8_takeOpening 7 = .ok (.aload_n 0, 1) := by decide +kernel
theorem dX8_takeOpening_8 : decode cX8_takeOpening 8 = .ok (.getfield 179, 3) := by decide +kernel
theorem dX8_takeOpening_11 : decode cX8_takeOpening 11 = .ok (.bipush 8, 2) := by decide +kernel
theorem dX8_takeOpening_13 : decode cX8_takeOpening 13 = .ok (.if_icmp .lt 9, 3) := by decide +kernel
theorem dX8_takeOpening_16 : decode cX8_takeOpening 16 = .ok (.aload_n 0, 1) := by decide +kernel
theorem dX8_takeOpening_17 : decode cX8_takeOpening 17 = .ok (.iconst 2, 1) := by decide +kernel
theorem dX8_takeOpening_18 : decode cX8_takeOpening 18 = .ok (.invokevirtual 106, 3) := by decide +kernel
theorem dX8_takeOpening_21 : decode cX8_takeOpening 21 = .ok (.ireturn, 1) := by decide +kernel
theorem dX8_takeOpening_22 : decode cX8_takeOpening 22 = .ok (.aload_n 0, 1) := by decide +kernel
theorem dX8_takeOpening_23 : decode cX8_takeOpening 23 = .ok (.dup, 1) := by decide +kernel
theorem dX8_takeOpening_24 : decode cX8_takeOpening 24 = .ok (.getfield 179, 3) := by decide +kernel
theorem dX8_takeOpening_27 : decode cX8_takeOpening 27 = .ok (.iconst 1, 1) := by decide +kernel
theorem dX8_takeOpening_28 : decode cX8_takeOpening 28 = .ok (.iadd, 1) := by decide +kernel
theorem dX8_takeOpening_29 : decode cX8_takeOpening 29 = .ok (.putfield 179, 3) := by decide +kernel
theorem dX8_takeOpening_32 : decode cX8_takeOpening 32 = .ok (.aload_n 0, 1) := by decide +kernel
theorem dX8_takeOpening_33 : decode cX8_takeOpening 33 = .ok (.getfield 17, 3) := by decide +kernel
theorem dX8_takeOpening_36 : decode cX8_takeOpening 36 = .ok (.aload_n 0, 1) := by decide +kernel
theorem dX8_takeOpening_37 : decode cX8_takeOpening 37 = .ok (.getfield 179, 3) := by decide +kernel
theorem dX8_takeOpening_40 : decode cX8_takeOpening 40 = .ok (.iconst 0, 1) := by decide +kernel
theorem dX8_takeOpening_41 : decode cX8_takeOpening 41 = .ok (.bastore, 1) := by decide +kernel
theorem dX8_takeOpening_42 : decode cX8_takeOpening 42 = .ok (.aload_n 0, 1) := by decide +kernel
theorem dX8_takeOpening_43 : decode cX8_takeOpening 43 = .ok (.iconst 1, 1) := by decide +kernel
theorem dX8_takeOpening_44 : decode cX8_takeOpening 44 = .ok (.putfield 185, 3) := by decide +kernel
theorem dX8_takeOpening_47 : decode cX8_takeOpening 47 = .ok (.aload_n 0, 1) := by decide +kernel
theorem dX8_takeOpening_48 : decode cX8_takeOpening 48 = .ok (.bipush 23, 2) := by decide +kernel
theorem dX8_takeOpening_50 : decode cX8_takeOpening 50 = .ok (.invokevirtual 206, 3) := by decide +kernel
theorem dX8_takeOpening_53 : decode cX8_takeOpening 53 = .ok (.ireturn, 1) := by decide +kernel
theorem dX8_takeSign_0 : decode cX8_takeSign 0 = .ok (.aload_n 0, 1) := by decide +kernel
theorem dX8_takeSign_1 : decode cX8_takeSign 1 = .ok (.getfield 30, 3) := by decide +kernel
theorem dX8_takeSign_4 : decode cX8_takeSign 4 = .ok (.getfield 46, 3) := by decide +kernel
theorem dX8_takeSign_7 : decode cX8_takeSign 7 = .ok (.istore_n 2, 1) := by decide +kernel
theorem dX8_takeSign_8 : decode cX8_takeSign 8 = .ok (.iload_n 2, 1) := by decide +kernel
theorem dX8_takeSign_9 : decode cX8_takeSign 9 = .ok (.bipush 24, 2) := by decide +kernel
theorem dX8_takeSign_11 : decode cX8_takeSign 11 = .ok (.if_icmp .ne 38, 3) := by decide +kernel
theorem dX8_takeSign_14 : decode cX8_takeSign 14 = .ok (.aload_n 0, 1) := by decide +kernel
theorem dX8_takeSign_15 : decode cX8_takeSign 15 = .ok (.getfield 179, 3) := by decide +kernel
theorem dX8_takeSign_18 : decode cX8_takeSign 18 = .ok (.ifCond .le 31, 3) := by decide +kernel
theorem dX8_takeSign_21 : decode cX8_takeSign 21 = .ok (.aload_n 0, 1) := by decide +kernel
theorem dX8_takeSign_22 : decode cX8_takeSign 22 = .ok (.aload_n 1, 1) := by decide +kernel
theorem dX8_takeSign_23 : decode cX8_takeSign 23 = .ok (.iconst 0, 1) := by decide +kernel
theorem dX8_takeSign_24 : decode cX8_takeSign 24 = .ok (.invokevirtual 188, 3) := by decide +kernel
theorem dX8_takeSign_27 : decode cX8_takeSign 27 = .ok (.aload_n 0, 1) := by decide +kernel
theorem dX8_takeSign_28 : decode cX8_takeSign 28 = .ok (.dup, 1) := by decide +kernel
theorem dX8_takeSign_29 : decode cX8_takeSign 29 = .ok (.getfield 176, 3) := by decide +kernel
theorem dX8_takeSign_32 : decode cX8_takeSign 32 = .ok (.iconst 1, 1) := by decide +kernel
theorem dX8_takeSign_33 : decode cX8_takeSign 33 = .ok (.isub, 1) := by decide +kernel
theorem dX8_takeSign_34 : decode cX8_takeSign 34 = .ok (.putfield 176, 3) := by decide +kernel
theorem dX8_takeSign_37 : decode cX8_takeSign 37 = .ok (.aload_n 0, 1) := by decide +kernel
theorem dX8_takeSign_38 : decode cX8_takeSign 38 = .ok (.dup, 1) := by decide +kernel
theorem dX8_takeSign_39 : decode cX8_takeSign 39 = .ok (.getfield 179, 3) := by decide +kernel
theorem dX8_takeSign_42 : decode cX8_takeSign 42 = .ok (.iconst 1, 1) := by decide +kernel
theorem dX8_takeSign_43 : decode cX8_takeSign 43 = .ok (.isub, 1) := by decide +kernel
theorem dX8_takeSign_44 : decode cX8_takeSign 44 = .ok (.putfield 179, 3) := by decide +kernel
theorem dX8_takeSign_47 : decode cX8_takeSign 47 = .ok (.iconst 1, 1) := by decide +kernel
theorem dX8_takeSign_48 : decode cX8_takeSign 48 = .ok (.ireturn, 1) := by decide +kernel
theorem dX8_takeSign_49 : decode cX8_takeSign 49 = .ok (.iload_n 2, 1) := by decide +kernel
theorem dX8_takeSign_50 : decode cX8_takeSign 50 = .ok (.invokestatic 212, 3) := by decide +kernel
theorem dX8_takeSign_53 : decode cX8_takeSign 53 = .ok (.istore_n 3, 1) := by decide +kernel
theorem dX8_takeSign_54 : decode cX8_takeSign 54 = .ok (.iload_n 3, 1) := by decide +kernel
theorem dX8_takeSign_55 : decode cX8_takeSign 55 = .ok (.iconst 4, 1) := by decide +kernel
theorem dX8_takeSign_56 : decode cX8_takeSign 56 = .ok (.if_icmp .ne 7, 3) := by decide +kernel
theorem dX8_takeSign_59 : decode cX8_takeSign 59 = .ok (.iconst 1, 1) := by decide +kernel
theorem dX8_takeSign_60 : decode cX8_takeSign 60 = .ok (.goto 4, 3) := by decide +kernel
theorem dX8_takeSign_63 : decode cX8_takeSign 63 = .ok (.iconst 0, 1) := by decide +kernel
theorem dX8_takeSign_64 : decode cX8_takeSign 64 = .ok (.istore 4, 2) := by decide +kernel
theorem dX8_takeSign_66 : decode cX8_takeSign 66 = .ok (.iload_n 3, 1) := by decide +kernel
theorem dX8_takeSign_67 : decode cX8_takeSign 67 = .ok (.ifCond .eq 25, 3) := by decide +kernel
theorem dX8_takeSign_70 : decode cX8_takeSign 70 = .ok (.iload_n 2, 1) := by decide +kernel
theorem dX8_takeSign_71 : decode cX8_takeSign 71 = .ok (.bipush 13, 2) := by decide +kernel
theorem dX8_takeSign_73 : decode cX8_takeSign 73 = .ok (.if_icmp .eq 19, 3) := by decide +kernel
theorem dX8_takeSign_76 : decode cX8_takeSign 76 = .ok (.aload_n 0, 1) := by decide +kernel
theorem dX8_takeSign_77 : decode cX8_takeSign 77 = .ok (.getfield 179, 3) := by decide +kernel
theorem dX8_takeSign_80 : decode cX8_takeSign 80 = .ok (.ifCond .lt 12, 3) := by decide +kernel
theorem dX8_takeSign_83 : decode cX8_takeSign 83 = .ok (.aload_n 0, 1) := by decide +kernel
theorem dX8_takeSign_84 : decode cX8_takeSign 84 = .ok (.getfield 179, 3) := by decide +kernel
theorem dX8_takeSign_87 : decode cX8_takeSign 87 = .ok (.bipush 8, 2) := by decide +kernel
theorem dX8_takeSign_89 : decode cX8_takeSign 89 = .ok (.if_icmp .le 9, 3) := by decide +kernel
theorem dX8_takeSign_92 : decode cX8_takeSign 92 = .ok (.aload_n 0, 1) := by decide +kernel
theorem dX8_takeSign_93 : decode cX8_takeSign 93 = .ok (.iconst 1, 1) := by decide +kernel
theorem dX8_takeSign_94 : decode cX8_takeSign 94 = .ok (.invokevirtual 106, 3) := by decide +kernel
theorem dX8_takeSign_97 : decode cX8_takeSign 97 = .ok (.ireturn, 1) := by decide +kernel
theorem dX8_takeSign_98 : decode cX8_takeSign 98 = .ok (.iload 4, 2) := by decide +kernel
theorem dX8_takeSign_100 : decode cX8_takeSign 100 = .ok (.ifCond .eq 21, 3) := by decide +kernel
theorem dX8_takeSign_103 : decode cX8_takeSign 103 = .ok (.aload_n 0, 1) := by decide +kernel
theorem dX8_takeSign_104 : decode cX8_takeSign 104 = .ok (.getfield 17, 3) := by decide +kernel
theorem dX8_takeSign_107 : decode cX8_takeSign 107 = .ok (.aload_n 0, 1) := by decide +kernel
theorem dX8_takeSign_108 : decode cX8_takeSign 108 = .ok (.getfield 179, 3) := by decide +kernel
theorem dX8_takeSign_111 : decode cX8_takeSign 111 = .ok (.baload, 1) := by decide +kernel
theorem dX8_takeSign_112 : decode cX8_takeSign 112 = .ok (.ifCond .eq 9, 3) := by decide +kernel
theorem dX8_takeSign_115 : decode cX8_takeSign 115 = .ok (.aload_n 0, 1) := by decide +kernel
theorem dX8_takeSign_116 : decode cX8_takeSign 116 = .ok (.iconst 1, 1) := by decide +kernel
theorem dX8_takeSign_117 : decode cX8_takeSign 117 = .ok (.invokevirtual 106, 3) := by decide +kernel
theorem dX8_takeSign_120 : decode cX8_takeSign 120 = .ok (.ireturn, 1) := by decide +kernel
theorem dX8_takeSign_121 : decode cX8_takeSign 121 = .ok (.aload_n 0, 1) := by decide +kernel
theorem dX8_takeSign_122 : decode cX8_takeSign 122 = .ok (.aload_n 1, 1) := by decide +kernel
theorem dX8_takeSign_123 : decode cX8_takeSign 123 = .ok (.invokevirtual 203, 3) := by decide +kernel
theorem dX8_takeSign_126 : decode cX8_takeSign 126 = .ok (.ifCond .ne 5, 3) := by decide +kernel
theorem dX8_takeSign_129 : decode cX8_takeSign 129 = .ok (.iconst 0, 1) := by decide +kernel
theorem dX8_takeSign_130 : decode cX8_takeSign 130 = .ok (.ireturn, 1) := by decide +kernel
theorem dX8_takeSign_131 : decode cX8_takeSign 131 = .ok (.aload_n 0, 1) := by decide +kernel
theorem dX8_takeSign_132 : decode cX8_takeSign 132 = .ok (.aload_n 1, 1) := by decide +kernel
theorem dX8_takeSign_133 : decode cX8_takeSign 133 = .ok (.iload_n 3, 1) := by decide +kernel
theorem dX8_takeSign_134 : decode cX8_takeSign 134 = .ok (.invokevirtual 188, 3) := by decide +kernel
theorem dX8_takeSign_137 : decode cX8_takeSign 137 = .ok (.aload_n 0, 1) := by decide +kernel
theorem dX8_takeSign_138 : decode cX8_takeSign 138 = .ok (.getfield 17, 3) := by decide +kernel
theorem dX8_takeSign_141 : decode cX8_takeSign 141 = .ok (.aload_n 0, 1) := by decide +kernel
theorem dX8_takeSign_142 : decode cX8_takeSign 142 = .ok (.getfield 179, 3) := by decide +kernel
theorem dX8_takeSign_145 : decode cX8_takeSign 145 = .ok (.iload 4, 2) := by decide +kernel
theorem dX8_takeSign_147 : decode cX8_takeSign 147 = .ok (.ifCond .ne 20, 3) := by decide +kernel
theorem dX8_takeSign_150 : decode cX8_takeSign 150 = .ok (.iload_n 3, 1) := by decide +kernel
theorem dX8_takeSign_151 : decode cX8_takeSign 151 = .ok (.iconst 4, 1) := by decide +kernel
theorem dX8_takeSign_152 : decode cX8_takeSign 152 = .ok (.if_icmp .le 19, 3) := by decide +kernel
theorem dX8_takeSign_155 : decode cX8_takeSign 155 = .ok (.aload_n 0, 1) := by decide +kernel
theorem dX8_takeSign_156 : decode cX8_takeSign 156 = .ok (.getfield 17, 3) := by decide +kernel
theorem dX8_takeSign_159 : decode cX8_takeSign 159 = .ok (.aload_n 0, 1) := by decide +kernel
theorem dX8_takeSign_160 : decode cX8_takeSign 160 = .ok (.getfield 179, 3) := by decide +kernel
theorem dX8_takeSign_163 : decode cX8_takeSign 163 = .ok (.baload, 1) := by decide +kernel
theorem dX8_takeSign_164 : decode cX8_takeSign 164 = .ok (.ifCond .eq 7, 3) := by decide +kernel
theorem dX8_takeSign_167 : decode cX8_takeSign 167 = .ok (.iconst 1, 1) := by decide +kernel
theorem dX8_takeSign_168 : decode cX8_takeSign 168 = .ok (.goto 4, 3) := by decide +kernel
theorem dX8_takeSign_171 : decode cX8_takeSign 171 = .ok (.iconst 0, 1) := by decide +kernel
theorem dX8_takeSign_172 : decode cX8_takeSign 172 = .ok (.bastore, 1) := by decide +kernel
theorem dX8_takeSign_173 : decode cX8_takeSign 173 = .ok (.aload_n 0, 1) := by decide +kernel
theorem dX8_takeSign_174 : decode cX8_takeSign 174 = .ok (.iconst 1, 1) := by decide +kernel
theorem dX8_takeSign_175 : decode cX8_takeSign 175 = .ok (.putfield 182, 3) := by decide +kernel
theorem dX8_takeSign_178 : decode cX8_takeSign 178 = .ok (.aload_n 0, 1) := by decide +kernel
theorem dX8_takeSign_179 : decode cX8_takeSign 179 = .ok (.iload_n 3, 1) := by decide +kernel
theorem dX8_takeSign_180 : decode cX8_takeSign 180 = .ok (.iconst 4, 1) := by decide +kernel
theorem dX8_takeSign_181 : decode cX8_takeSign 181 = .ok (.if_icmp .ge 7, 3) := by decide +kernel
theorem dX8_takeSign_184 : decode cX8_takeSign 184 = .ok (.iconst 1, 1) := by decide +kernel
theorem dX8_takeSign_185 : decode cX8_takeSign 185 = .ok (.goto 4, 3) := by decide +kernel
theorem dX8_takeSign_188 : decode cX8_takeSign 188 = .ok (.iconst 0, 1) := by decide +kernel
theorem dX8_takeSign_189 : decode cX8_takeSign 189 = .ok (.putfield 185, 3) := by decide +kernel
theorem dX8_takeSign_192 : decode cX8_takeSign 192 = .ok (.aload_n 0, 1) := by decide +kernel
theorem dX8_takeSign_193 : decode cX8_takeSign 193 = .ok (.iload_n 2, 1) := by decide +kernel
theorem dX8_takeSign_194 : decode cX8_takeSign 194 = .ok (.invokevirtual 206, 3) := by decide +kernel
theorem dX8_takeSign_197 : decode cX8_takeSign 197 = .ok (.ireturn, 1) := by decide +kernel
theorem dX8_countKnot_0 : decode cX8_countKnot 0 = .ok (.aload_n 1, 1) := by decide +kernel
theorem dX8_countKnot_1 : decode cX8_countKnot 1 = .ok (.getfield 215, 3) := by decide +kernel
theorem dX8_countKnot_4 : decode cX8_countKnot 4 = .ok (.bipush 64, 2) := by decide +kernel
theorem dX8_countKnot_6 : decode cX8_countKnot 6 = .ok (.if_icmp .lt 9, 3) := by decide +kernel
theorem dX8_countKnot_9 : decode cX8_countKnot 9 = .ok (.aload_n 0, 1) := by decide +kernel
theorem dX8_countKnot_10 : decode cX8_countKnot 10 = .ok (.iconst 2, 1) := by decide +kernel
theorem dX8_countKnot_11 : decode cX8_countKnot 11 = .ok (.invokevirtual 106, 3) := by decide +kernel
theorem dX8_countKnot_14 : decode cX8_countKnot 14 = .ok (.ireturn, 1) := by decide +kernel
theorem dX8_countKnot_15 : decode cX8_countKnot 15 = .ok (.aload_n 1, 1) := by decide +kernel
theorem dX8_countKnot_16 : decode cX8_countKnot 16 = .ok (.dup, 1) := by decide +kernel
theorem dX8_countKnot_17 : decode cX8_countKnot 17 = .ok (.getfield 215, 3) := by decide +kernel
theorem dX8_countKnot_20 : decode cX8_countKnot 20 = .ok (.iconst 1, 1) := by decide +kernel
theorem dX8_countKnot_21 : decode cX8_countKnot 21 = .ok (.iadd, 1) := by decide +kernel
theorem dX8_countKnot_22 : decode cX8_countKnot 22 = .ok (.putfield 215, 3) := by decide +kernel
theorem dX8_countKnot_25 : decode cX8_countKnot 25 = .ok (.iconst 1, 1) := by decide +kernel
theorem dX8_countKnot_26 : decode cX8_countKnot 26 = .ok (.ireturn, 1) := by decide +kernel
theorem dX8_await_0 : decode cX8_await 0 = .ok (.aload_n 0, 1) := by decide +kernel
theorem dX8_await_1 : decode cX8_await 1 = .ok (.getfield 176, 3) := by decide +kernel
theorem dX8_await_4 : decode cX8_await 4 = .ok (.ifCond .lt 15, 3) := by decide +kernel
theorem dX8_await_7 : decode cX8_await 7 = .ok (.aload_n 0, 1) := by decide +kernel
theorem dX8_await_8 : decode cX8_await 8 = .ok (.getfield 176, 3) := by decide +kernel
theorem dX8_await_11 : decode cX8_await 11 = .ok (.aload_n 0, 1) := by decide +kernel
theorem dX8_await_12 : decode cX8_await 12 = .ok (.getfield 13, 3) := by decide +kernel
theorem dX8_await_15 : decode cX8_await 15 = .ok (.arraylength, 1) := by decide +kernel
theorem dX8_await_16 : decode cX8_await 16 = .ok (.if_icmp .lt 9, 3) := by decide +kernel
theorem dX8_await_19 : decode cX8_await 19 = .ok (.aload_n 0, 1) := by decide +kernel
theorem dX8_await_20 : decode cX8_await 20 = .ok (.iconst 2, 1) := by decide +kernel
theorem dX8_await_21 : decode cX8_await 21 = .ok (.invokevirtual 106, 3) := by decide +kernel
theorem dX8_await_24 : decode cX8_await 24 = .ok (.ireturn, 1) := by decide +kernel
theorem dX8_await_25 : decode cX8_await 25 = .ok (.aload_n 0, 1) := by decide +kernel
theorem dX8_await_26 : decode cX8_await 26 = .ok (.getfield 13, 3) := by decide +kernel
theorem dX8_await_29 : decode cX8_await 29 = .ok (.aload_n 0, 1) := by decide +kernel
theorem dX8_await_30 : decode cX8_await 30 = .ok (.getfield 176, 3) := by decide +kernel
theorem dX8_await_33 : decode cX8_await 33 = .ok (.iload_n 1, 1) := by decide +kernel
theorem dX8_await_34 : decode cX8_await 34 = .ok (.iastore, 1) := by decide +kernel
theorem dX8_await_35 : decode cX8_await 35 = .ok (.aload_n 0, 1) := by decide +kernel
theorem dX8_await_36 : decode cX8_await 36 = .ok (.dup, 1) := by decide +kernel
theorem dX8_await_37 : decode cX8_await 37 = .ok (.getfield 176, 3) := by decide +kernel
theorem dX8_await_40 : decode cX8_await 40 = .ok (.iconst 1, 1) := by decide +kernel
theorem dX8_await_41 : decode cX8_await 41 = .ok (.iadd, 1) := by decide +kernel
theorem dX8_await_42 : decode cX8_await 42 = .ok (.putfield 176, 3) := by decide +kernel
theorem dX8_await_45 : decode cX8_await 45 = .ok (.iconst 1, 1) := by decide +kernel
theorem dX8_await_46 : decode cX8_await 46 = .ok (.ireturn, 1) := by decide +kernel
theorem dX8_unload_0 : decode cX8_unload 0 = .ok (.aload_n 0, 1) := by decide +kernel
theorem dX8_unload_1 : decode cX8_unload 1 = .ok (.getfield 176, 3) := by decide +kernel
theorem dX8_unload_4 : decode cX8_unload 4 = .ok (.iconst 1, 1) := by decide +kernel
theorem dX8_unload_5 : decode cX8_unload 5 = .ok (.isub, 1) := by decide +kernel
theorem dX8_unload_6 : decode cX8_unload 6 = .ok (.istore_n 3, 1) := by decide +kernel
theorem dX8_unload_7 : decode cX8_unload 7 = .ok (.iload_n 3, 1) := by decide +kernel
theorem dX8_unload_8 : decode cX8_unload 8 = .ok (.ifCond .lt 55, 3) := by decide +kernel
theorem dX8_unload_11 : decode cX8_unload 11 = .ok (.iload_n 3, 1) := by decide +kernel
theorem dX8_unload_12 : decode cX8_unload 12 = .ok (.aload_n 0, 1) := by decide +kernel
theorem dX8_unload_13 : decode cX8_unload 13 = .ok (.getfield 13, 3) := by decide +kernel
theorem dX8_unload_16 : decode cX8_unload 16 = .ok (.arraylength, 1) := by decide +kernel
theorem dX8_unload_17 : decode cX8_unload 17 = .ok (.if_icmp .ge 46, 3) := by decide +kernel
theorem dX8_unload_20 : decode cX8_unload 20 = .ok (.aload_n 0, 1) := by decide +kernel
theorem dX8_unload_21 : decode cX8_unload 21 = .ok (.getfield 13, 3) := by decide +kernel
theorem dX8_unload_24 : decode cX8_unload 24 = .ok (.iload_n 3, 1) := by decide +kernel
theorem dX8_unload_25 : decode cX8_unload 25 = .ok (.iaload, 1) := by decide +kernel
theorem dX8_unload_26 : decode cX8_unload 26 = .ok (.istore 4, 2) := by decide +kernel
theorem dX8_unload_28 : decode cX8_unload 28 = .ok (.iload 4, 2) := by decide +kernel
theorem dX8_unload_30 : decode cX8_unload 30 = .ok (.bipush 23, 2) := by decide +kernel
theorem dX8_unload_32 : decode cX8_unload 32 = .ok (.if_icmp .eq 12, 3) := by decide +kernel
theorem dX8_unload_35 : decode cX8_unload 35 = .ok (.iload 4, 2) := by decide +kernel
theorem dX8_unload_37 : decode cX8_unload 37 = .ok (.invokestatic 212, 3) := by decide +kernel
theorem dX8_unload_40 : decode cX8_unload 40 = .ok (.iload_n 2, 1) := by decide +kernel
theorem dX8_unload_41 : decode cX8_unload 41 = .ok (.if_icmp .ge 4, 3) := by decide +kernel
theorem dX8_unload_44 : decode cX8_unload 44 = .ok (.return_, 1) := by decide +kernel
theorem dX8_unload_45 : decode cX8_unload 45 = .ok (.aload_n 1, 1) := by decide +kernel
theorem dX8_unload_46 : decode cX8_unload 46 = .ok (.iload 4, 2) := by decide +kernel
theorem dX8_unload_48 : decode cX8_unload 48 = .ok (.iconst 0, 1) := by decide +kernel
theorem dX8_unload_49 : decode cX8_unload 49 = .ok (.invokevirtual 209, 3) := by decide +kernel
theorem dX8_unload_52 : decode cX8_unload 52 = .ok (.aload_n 0, 1) := by decide +kernel
theorem dX8_unload_53 : decode cX8_unload 53 = .ok (.iload_n 3, 1) := by decide +kernel
theorem dX8_unload_54 : decode cX8_unload 54 = .ok (.putfield 176, 3) := by decide +kernel
theorem dX8_unload_57 : decode cX8_unload 57 = .ok (.iinc 3 (-1), 3) := by decide +kernel
theorem dX8_unload_60 : decode cX8_unload 60 = .ok (.goto (-53), 3) := by decide +kernel
theorem dX8_unload_63 : decode cX8_unload 63 = .ok (.return_, 1) := by decide +kernel
theorem dX8_binding_0 : decode cX8_binding 0 = .ok (.iload_n 0, 1) := by decide +kernel
theorem dX8_binding_1 : decode cX8_binding 1 = .ok (.tableswitch 124 11 34 #[111, 113, 115, 124, 124, 124, 124, 124, 124, 124, 124, 124, 124, 124, 117, 117, 117, 117, 117, 117, 119, 119, 121, 121], 111) := by decide +kernel
theorem dX8_binding_112 : decode cX8_binding 112 = .ok (.iconst 1, 1) := by decide +kernel
theorem dX8_binding_113 : decode cX8_binding 113 = .ok (.ireturn, 1) := by decide +kernel
theorem dX8_binding_114 : decode cX8_binding 114 = .ok (.iconst 2, 1) := by decide +kernel
theorem dX8_binding_115 : decode cX8_binding 115 = .ok (.ireturn, 1) := by decide +kernel
theorem dX8_binding_116 : decode cX8_binding 116 = .ok (.iconst 3, 1) := by decide +kernel
theorem dX8_binding_117 : decode cX8_binding 117 = .ok (.ireturn, 1) := by decide +kernel
theorem dX8_binding_118 : decode cX8_binding 118 = .ok (.iconst 4, 1) := by decide +kernel
theorem dX8_binding_119 : decode cX8_binding 119 = .ok (.ireturn, 1) := by decide +kernel
theorem dX8_binding_120 : decode cX8_binding 120 = .ok (.iconst 5, 1) := by decide +kernel
theorem dX8_binding_121 : decode cX8_binding 121 = .ok (.ireturn, 1) := by decide +kernel
theorem dX8_binding_122 : decode cX8_binding 122 = .ok (.bipush 6, 2) := by decide +kernel
theorem dX8_binding_124 : decode cX8_binding 124 = .ok (.ireturn, 1) := by decide +kernel
theorem dX8_binding_125 : decode cX8_binding 125 = .ok (.iconst 0, 1) := by decide +kernel
theorem dX8_binding_126 : decode cX8_binding 126 = .ok (.ireturn, 1) := by decide +kernel
theorem dX9_init_0 : decode cX9_init 0 = .ok (.aload_n 0, 1) := by decide +kernel
theorem dX9_init_1 : decode cX9_init 1 = .ok (.invokespecial 3, 3) := by decide +kernel
theorem dX9_init_4 : decode cX9_init 4 = .ok (.aload_n 0, 1) := by decide +kernel
theorem dX9_init_5 : decode cX9_init 5 = .ok (.iload_n 1, 1) := by decide +kernel
theorem dX9_init_6 : decode cX9_init 6 = .ok (.ifCond .ge 7, 3) := by decide +kernel
theorem dX9_init_9 : decode cX9_init 9 = .ok (.iconst 0, 1) := by decide +kernel
theorem dX9_init_10 : decode cX9_init 10 = .ok (.goto 4, 3) := by decide +kernel
theorem dX9_init_13 : decode cX9_init 13 = .ok (.iload_n 1, 1) := by decide +kernel
theorem dX9_init_14 : decode cX9_init 14 = .ok (.putfield 9, 3) := by decide +kernel
theorem dX9_init_17 : decode cX9_init 17 = .ok (.aload_n 0, 1) := by decide +kernel
theorem dX9_init_18 : decode cX9_init 18 = .ok (.iconst 3, 1) := by decide +kernel
theorem dX9_init_19 : decode cX9_init 19 = .ok (.aload_n 0, 1) := by decide +kernel
theorem dX9_init_20 : decode cX9_init 20 = .ok (.getfield 9, 3) := by decide +kernel
theorem dX9_init_23 : decode cX9_init 23 = .ok (.imul, 1) := by decide +kernel
theorem dX9_init_24 : decode cX9_init 24 = .ok (.newarray .int, 2) := by decide +kernel
theorem dX9_init_26 : decode cX9_init 26 = .ok (.putfield 15, 3) := by decide +kernel
theorem dX9_init_29 : decode cX9_init 29 = .ok (.return_, 1) := by decide +kernel
theorem dX9_cell_0 : decode cX9_cell 0 = .ok (.iconst 3, 1) := by decide +kernel
theorem dX9_cell_1 : decode cX9_cell 1 = .ok (.iload_n 1, 1) := by decide +kernel
theorem dX9_cell_2 : decode cX9_cell 2 = .ok (.imul, 1) := by decide +kernel
theorem dX9_cell_3 : decode cX9_cell 3 = .ok (.iload_n 2, 1) := by decide +kernel
theorem dX9_cell_4 : decode cX9_cell 4 = .ok (.iadd, 1) := by decide +kernel
theorem dX9_cell_5 : decode cX9_cell 5 = .ok (.istore_n 3, 1) := by decide +kernel
theorem dX9_cell_6 : decode cX9_cell 6 = .ok (.iload_n 3, 1) := by decide +kernel
theorem dX9_cell_7 : decode cX9_cell 7 = .ok (.ifCond .lt 21, 3) := by decide +kernel
theorem dX9_cell_10 : decode cX9_cell 10 = .ok (.iload_n 3, 1) := by decide +kernel
theorem dX9_cell_11 : decode cX9_cell 11 = .ok (.aload_n 0, 1) := by decide +kernel
theorem dX9_cell_12 : decode cX9_cell 12 = .ok (.getfield 15, 3) := by decide +kernel
theorem dX9_cell_15 : decode cX9_cell 15 = .ok (.arraylength, 1) := by decide +kernel
theorem dX9_cell_16 : decode cX9_cell 16 = .ok (.if_icmp .ge 12, 3) := by decide +kernel
theorem dX9_cell_19 : decode cX9_cell 19 = .ok (.aload_n 0, 1) := by decide +kernel
theorem dX9_cell_20 : decode cX9_cell 20 = .ok (.getfield 15, 3) := by decide +kernel
theorem dX9_cell_23 : decode cX9_cell 23 = .ok (.iload_n 3, 1) := by decide +kernel
theorem dX9_cell_24 : decode cX9_cell 24 = .ok (.iaload, 1) := by decide +kernel
theorem dX9_cell_25 : decode cX9_cell 25 = .ok (.goto 4, 3) := by decide +kernel
theorem dX9_cell_28 : decode cX9_cell 28 = .ok (.iconst 0, 1) := by decide +kernel
theorem dX9_cell_29 : decode cX9_cell 29 = .ok (.ireturn, 1) := by decide +kernel
theorem dX9_set_0 : decode cX9_set 0 = .ok (.iconst 3, 1) := by decide +kernel
theorem dX9_set_1 : decode cX9_set 1 = .ok (.aload_n 0, 1) := by decide +kernel
theorem dX9_set_2 : decode cX9_set 2 = .ok (.getfield 19, 3) := by decide +kernel
theorem dX9_set_5 : decode cX9_set 5 = .ok (.imul, 1) := by decide +kernel
theorem dX9_set_6 : decode cX9_set 6 = .ok (.iload_n 1, 1) := by decide +kernel
theorem dX9_set_7 : decode cX9_set 7 = .ok (.iadd, 1) := by decide +kernel
theorem dX9_set_8 : decode cX9_set 8 = .ok (.istore_n 3, 1) := by decide +kernel
theorem dX9_set_9 : decode cX9_set 9 = .ok (.iload_n 3, 1) := by decide +kernel
theorem dX9_set_10 : decode cX9_set 10 = .ok (.ifCond .lt 19, 3) := by decide +kernel
theorem dX9_set_13 : decode cX9_set 13 = .ok (.iload_n 3, 1) := by decide +kernel
theorem dX9_set_14 : decode cX9_set 14 = .ok (.aload_n 0, 1) := by decide +kernel
theorem dX9_set_15 : decode cX9_set 15 = .ok (.getfield 15, 3) := by decide +kernel
theorem dX9_set_18 : decode cX9_set 18 = .ok (.arraylength, 1) := by decide +kernel
theorem dX9_set_19 : decode cX9_set 19 = .ok (.if_icmp .ge 10, 3) := by decide +kernel
theorem dX9_set_22 : decode cX9_set 22 = .ok (.aload_n 0, 1) := by decide +kernel
theorem dX9_set_23 : decode cX9_set 23 = .ok (.getfield 15, 3) := by decide +kernel
theorem dX9_set_26 : decode cX9_set 26 = .ok (.iload_n 3, 1) := by decide +kernel
theorem dX9_set_27 : decode cX9_set 27 = .ok (.iload_n 2, 1) := by decide +kernel
theorem dX9_set_28 : decode cX9_set 28 = .ok (.iastore, 1) := by decide +kernel
theorem dX9_set_29 : decode cX9_set 29 = .ok (.return_, 1) := by decide +kernel
theorem dX9_isFull_0 : decode cX9_isFull 0 = .ok (.aload_n 0, 1) := by decide +kernel
theorem dX9_isFull_1 : decode cX9_isFull 1 = .ok (.getfield 19, 3) := by decide +kernel
theorem dX9_isFull_4 : decode cX9_isFull 4 = .ok (.aload_n 0, 1) := by decide +kernel
theorem dX9_isFull_5 : decode cX9_isFull 5 = .ok (.getfield 9, 3) := by decide +kernel
theorem dX9_isFull_8 : decode cX9_isFull 8 = .ok (.if_icmp .lt 7, 3) := by decide +kernel
theorem dX9_isFull_11 : decode cX9_isFull 11 = .ok (.iconst 1, 1) := by decide +kernel
theorem dX9_isFull_12 : decode cX9_isFull 12 = .ok (.goto 4, 3) := by decide +kernel
theorem dX9_isFull_15 : decode cX9_isFull 15 = .ok (.iconst 0, 1) := by decide +kernel
theorem dX9_isFull_16 : decode cX9_isFull 16 = .ok (.ireturn, 1) := by decide +kernel
theorem dX9_close_0 : decode cX9_close 0 = .ok (.aload_n 0, 1) := by decide +kernel
theorem dX9_close_1 : decode cX9_close 1 = .ok (.dup, 1) := by decide +kernel
theorem dX9_close_2 : decode cX9_close 2 = .ok (.getfield 19, 3) := by decide +kernel
theorem dX9_close_5 : decode cX9_close 5 = .ok (.iconst 1, 1) := by decide +kernel
theorem dX9_close_6 : decode cX9_close 6 = .ok (.iadd, 1) := by decide +kernel
theorem dX9_close_7 : decode cX9_close 7 = .ok (.putfield 19, 3) := by decide +kernel
theorem dX9_close_10 : decode cX9_close 10 = .ok (.iconst 1, 1) := by decide +kernel
theorem dX9_close_11 : decode cX9_close 11 = .ok (.ireturn, 1) := by decide +kernel
theorem dX9_find_0 : decode cX9_find 0 = .ok (.iconst 0, 1) := by decide +kernel
theorem dX9_find_1 : decode cX9_find 1 = .ok (.istore_n 2, 1) := by decide +kernel
theorem dX9_find_2 : decode cX9_find 2 = .ok (.iload_n 2, 1) := by decide +kernel
theorem dX9_find_3 : decode cX9_find 3 = .ok (.aload_n 0, 1) := by decide +kernel
theorem dX9_find_4 : decode cX9_find 4 = .ok (.getfield 19, 3) := by decide +kernel
theorem dX9_find_7 : decode cX9_find 7 = .ok (.if_icmp .ge 21, 3) := by decide +kernel
theorem dX9_find_10 : decode cX9_find 10 = .ok (.aload_n 0, 1) := by decide +kernel
theorem dX9_find_11 : decode cX9_find 11 = .ok (.iload_n 2, 1) := by decide +kernel
theorem dX9_find_12 : decode cX9_find 12 = .ok (.iconst 0, 1) := by decide +kernel
theorem dX9_find_13 : decode cX9_find 13 = .ok (.invokevirtual 22, 3) := by decide +kernel
theorem dX9_find_16 : decode cX9_find 16 = .ok (.iload_n 1, 1) := by decide +kernel
theorem dX9_find_17 : decode cX9_find 17 = .ok (.if_icmp .ne 5, 3) := by decide +kernel
theorem dX9_find_20 : decode cX9_find 20 = .ok (.iload_n 2, 1) := by decide +kernel
theorem dX9_find_21 : decode cX9_find 21 = .ok (.ireturn, 1) := by decide +kernel
theorem dX9_find_22 : decode cX9_find 22 = .ok (.iinc 2 1, 3) := by decide +kernel
theorem dX9_find_25 : decode cX9_find 25 = .ok (.goto (-23), 3) := by decide +kernel
theorem dX9_find_28 : decode cX9_find 28 = .ok (.iconst (-1), 1) := by decide +kernel
theorem dX9_find_29 : decode cX9_find 29 = .ok (.ireturn, 1) := by decide +kernel
theorem dX10_init_0 : decode cX10_init 0 = .ok (.aload_n 0, 1) := by decide +kernel
theorem dX10_init_1 : decode cX10_init 1 = .ok (.invokespecial 1, 3) := by decide +kernel
theorem dX10_init_4 : decode cX10_init 4 = .ok (.aload_n 0, 1) := by decide +kernel
theorem dX10_init_5 : decode cX10_init 5 = .ok (.bipush 21, 2) := by decide +kernel
theorem dX10_init_7 : decode cX10_init 7 = .ok (.newarray .int, 2) := by decide +kernel
theorem dX10_init_9 : decode cX10_init 9 = .ok (.putfield 9, 3) := by decide +kernel
theorem dX10_init_12 : decode cX10_init 12 = .ok (.aload_n 0, 1) := by decide +kernel
theorem dX10_init_13 : decode cX10_init 13 = .ok (.aload_n 1, 1) := by decide +kernel
theorem dX10_init_14 : decode cX10_init 14 = .ok (.putfield 13, 3) := by decide +kernel
theorem dX10_init_17 : decode cX10_init 17 = .ok (.iconst 0, 1) := by decide +kernel
theorem dX10_init_18 : decode cX10_init 18 = .ok (.istore_n 2, 1) := by decide +kernel
theorem dX10_init_19 : decode cX10_init 19 = .ok (.iconst 0, 1) := by decide +kernel
theorem dX10_init_20 : decode cX10_init 20 = .ok (.istore_n 3, 1) := by decide +kernel
theorem dX10_init_21 : decode cX10_init 21 = .ok (.iconst 0, 1) := by decide +kernel
theorem dX10_init_22 : decode cX10_init 22 = .ok (.istore 4, 2) := by decide +kernel
theorem dX10_init_24 : decode cX10_init 24 = .ok (.iload 4, 2) := by decide +kernel
theorem dX10_init_26 : decode cX10_init 26 = .ok (.ldc 17, 2) := by decide +kernel
theorem dX10_init_28 : decode cX10_init 28 = .ok (.invokevirtual 19, 3) := by decide +kernel
theorem dX10_init_31 : decode cX10_init 31 = .ok (.if_icmp .ge 60, 3) := by decide +kernel
theorem dX10_init_34 : decode cX10_init 34 = .ok (.ldc 17, 2) := by decide +kernel
theorem dX10_init_36 : decode cX10_init 36 = .ok (.iload 4, 2) := by decide +kernel
theorem dX10_init_38 : decode cX10_init 38 = .ok (.invokevirtual 25, 3) := by decide +kernel
theorem dX10_init_41 : decode cX10_init 41 = .ok (.istore 5, 2) := by decide +kernel
theorem dX10_init_43 : decode cX10_init 43 = .ok (.iload 5, 2) := by decide +kernel
theorem dX10_init_45 : decode cX10_init 45 = .ok (.bipush 32, 2) := by decide +kernel
theorem dX10_init_47 : decode cX10_init 47 = .ok (.if_icmp .ne 11, 3) := by decide +kernel
theorem dX10_init_50 : decode cX10_init 50 = .ok (.iinc 2 1, 3) := by decide +kernel
theorem dX10_init_53 : decode cX10_init 53 = .ok (.iconst 0, 1) := by decide +kernel
theorem dX10_init_54 : decode cX10_init 54 = .ok (.istore_n 3, 1) := by decide +kernel
theorem dX10_init_55 : decode cX10_init 55 = .ok (.goto 30, 3) := by decide +kernel
theorem dX10_init_58 : decode cX10_init 58 = .ok (.iload_n 2, 1) := by decide +kernel
theorem dX10_init_59 : decode cX10_init 59 = .ok (.aload_n 0, 1) := by decide +kernel
theorem dX10_init_60 : decode cX10_init 60 = .ok (.getfield 9, 3) := by decide +kernel
theorem dX10_init_63 : decode cX10_init 63 = .ok (.arraylength, 1) := by decide +kernel
theorem dX10_init_64 : decode cX10_init 64 = .ok (.if_icmp .ge 21, 3) := by decide +kernel
theorem dX10_init_67 : decode cX10_init 67 = .ok (.aload_n 0, 1) := by decide +kernel
theorem dX10_init_68 : decode cX10_init 68 = .ok (.getfield 9, 3) := by decide +kernel
theorem dX10_init_71 : decode cX10_init 71 = .ok (.iload_n 2, 1) := by decide +kernel
theorem dX10_init_72 : decode cX10_init 72 = .ok (.dup2, 1) := by decide +kernel
theorem dX10_init_73 : decode cX10_init 73 = .ok (.iaload, 1) := by decide +kernel
theorem dX10_init_74 : decode cX10_init 74 = .ok (.iload 5, 2) := by decide +kernel
theorem dX10_init_76 : decode cX10_init 76 = .ok (.iload_n 3, 1) := by decide +kernel
theorem dX10_init_77 : decode cX10_init 77 = .ok (.invokestatic 29, 3) := by decide +kernel
theorem dX10_init_80 : decode cX10_init 80 = .ok (.ior, 1) := by decide +kernel
theorem dX10_init_81 : decode cX10_init 81 = .ok (.iastore, 1) := by decide +kernel
theorem dX10_init_82 : decode cX10_init 82 = .ok (.iinc 3 1, 3) := by decide +kernel
theorem dX10_init_85 : decode cX10_init 85 = .ok (.iinc 4 1, 3) := by decide +kernel
theorem dX10_init_88 : decode cX10_init 88 = .ok (.goto (-64), 3) := by decide +kernel
theorem dX10_init_91 : decode cX10_init 91 = .ok (.return_, 1) := by decide +kernel
theorem dX10_placed_0 : decode cX10_placed 0 = .ok (.iload_n 1, 1) := by decide +kernel
theorem dX10_placed_1 : decode cX10_placed 1 = .ok (.bipush 6, 2) := by decide +kernel
theorem dX10_placed_3 : decode cX10_placed 3 = .ok (.if_icmp .ge 18, 3) := by decide +kernel
theorem dX10_placed_6 : decode cX10_placed 6 = .ok (.iload_n 0, 1) := by decide +kernel
theorem dX10_placed_7 : decode cX10_placed 7 = .ok (.bipush 97, 2) := by decide +kernel
theorem dX10_placed_9 : decode cX10_placed 9 = .ok (.isub, 1) := by decide +kernel
theorem dX10_placed_10 : decode cX10_placed 10 = .ok (.iconst 1, 1) := by decide +kernel
theorem dX10_placed_11 : decode cX10_placed 11 = .ok (.iadd, 1) := by decide +kernel
theorem dX10_placed_12 : decode cX10_placed 12 = .ok (.iconst 5, 1) := by decide +kernel
theorem dX10_placed_13 : decode cX10_placed 13 = .ok (.iconst 5, 1) := by decide +kernel
theorem dX10_placed_14 : decode cX10_placed 14 = .ok (.iload_n 1, 1) := by decide +kernel
theorem dX10_placed_15 : decode cX10_placed 15 = .ok (.isub, 1) := by decide +kernel
theorem dX10_placed_16 : decode cX10_placed 16 = .ok (.imul, 1) := by decide +kernel
theorem dX10_placed_17 : decode cX10_placed 17 = .ok (.ishl, 1) := by decide +kernel
theorem dX10_placed_18 : decode cX10_placed 18 = .ok (.goto 4, 3) := by decide +kernel
theorem dX10_placed_21 : decode cX10_placed 21 = .ok (.iconst 0, 1) := by decide +kernel
theorem dX10_placed_22 : decode cX10_placed 22 = .ok (.ireturn, 1) := by decide +kernel
theorem dX10_start_0 : decode cX10_start 0 = .ok (.aload_n 0, 1) := by decide +kernel
theorem dX10_start_1 : decode cX10_start 1 = .ok (.iload_n 1, 1) := by decide +kernel
theorem dX10_start_2 : decode cX10_start 2 = .ok (.putfield 33, 3) := by decide +kernel
theorem dX10_start_5 : decode cX10_start 5 = .ok (.aload_n 0, 1) := by decide +kernel
theorem dX10_start_6 : decode cX10_start 6 = .ok (.iconst 0, 1) := by decide +kernel
theorem dX10_start_7 : decode cX10_start 7 = .ok (.putfield 37, 3) := by decide +kernel
theorem dX10_start_10 : decode cX10_start 10 = .ok (.aload_n 0, 1) := by decide +kernel
theorem dX10_start_11 : decode cX10_start 11 = .ok (.invokevirtual 40, 3) := by decide +kernel
theorem dX10_start_14 : decode cX10_start 14 = .ok (.return_, 1) := by decide +kernel
theorem dX10_advance_0 : decode cX10_advance 0 = .ok (.aload_n 0, 1) := by decide +kernel
theorem dX10_advance_1 : decode cX10_advance 1 = .ok (.getfield 37, 3) := by decide +kernel
theorem dX10_advance_4 : decode cX10_advance 4 = .ok (.istore_n 1, 1) := by decide +kernel
theorem dX10_advance_5 : decode cX10_advance 5 = .ok (.iload_n 1, 1) := by decide +kernel
theorem dX10_advance_6 : decode cX10_advance 6 = .ok (.aload_n 0, 1) := by decide +kernel
theorem dX10_advance_7 : decode cX10_advance 7 = .ok (.getfield 33, 3) := by decide +kernel
theorem dX10_advance_10 : decode cX10_advance 10 = .ok (.if_icmp .ge 27, 3) := by decide +kernel
theorem dX10_advance_13 : decode cX10_advance 13 = .ok (.aload_n 0, 1) := by decide +kernel
theorem dX10_advance_14 : decode cX10_advance 14 = .ok (.iload_n 1, 1) := by decide +kernel
theorem dX10_advance_15 : decode cX10_advance 15 = .ok (.invokevirtual 43, 3) := by decide +kernel
theorem dX10_advance_18 : decode cX10_advance 18 = .ok (.invokestatic 47, 3) := by decide +kernel
theorem dX10_advance_21 : decode cX10_advance 21 = .ok (.ifCond .eq 16, 3) := by decide +kernel
theorem dX10_advance_24 : decode cX10_advance 24 = .ok (.aload_n 0, 1) := by decide +kernel
theorem dX10_advance_25 : decode cX10_advance 25 = .ok (.iload_n 1, 1) := by decide +kernel
theorem dX10_advance_26 : decode cX10_advance 26 = .ok (.iconst 1, 1) := by decide +kernel
theorem dX10_advance_27 : decode cX10_advance 27 = .ok (.iadd, 1) := by decide +kernel
theorem dX10_advance_28 : decode cX10_advance 28 = .ok (.putfield 37, 3) := by decide +kernel
theorem dX10_advance_31 : decode cX10_advance 31 = .ok (.iinc 1 1, 3) := by decide +kernel
theorem dX10_advance_34 : decode cX10_advance 34 = .ok (.goto (-29), 3) := by decide +kernel
theorem dX10_advance_37 : decode cX10_advance 37 = .ok (.aload_n 0, 1) := by decide +kernel
theorem dX10_advance_38 : decode cX10_advance 38 = .ok (.aload_n 0, 1) := by decide +kernel
theorem dX10_advance_39 : decode cX10_advance 39 = .ok (.getfield 37, 3) := by decide +kernel
theorem dX10_advance_42 : decode cX10_advance 42 = .ok (.putfield 51, 3) := by decide +kernel
theorem dX10_advance_45 : decode cX10_advance 45 = .ok (.aload_n 0, 1) := by decide +kernel
theorem dX10_advance_46 : decode cX10_advance 46 = .ok (.iconst 0, 1) := by decide +kernel
theorem dX10_advance_47 : decode cX10_advance 47 = .ok (.putfield 54, 3) := by decide +kernel
theorem dX10_advance_50 : decode cX10_advance 50 = .ok (.aload_n 0, 1) := by decide +kernel
theorem dX10_advance_51 : decode cX10_advance 51 = .ok (.aload_n 0, 1) := by decide +kernel
theorem dX10_advance_52 : decode cX10_advance 52 = .ok (.getfield 37, 3) := by decide +kernel
theorem dX10_advance_55 : decode cX10_advance 55 = .ok (.invokevirtual 43, 3) := by decide +kernel
theorem dX10_advance_58 : decode cX10_advance 58 = .ok (.istore_n 1, 1) := by decide +kernel
theorem dX10_advance_59 : decode cX10_advance 59 = .ok (.iload_n 1, 1) := by decide +kernel
theorem dX10_advance_60 : decode cX10_advance 60 = .ok (.ifCond .ge 11, 3) := by decide +kernel
theorem dX10_advance_63 : decode cX10_advance 63 = .ok (.aload_n 0, 1) := by decide +kernel
theorem dX10_advance_64 : decode cX10_advance 64 = .ok (.iconst (-1), 1) := by decide +kernel
theorem dX10_advance_65 : decode cX10_advance 65 = .ok (.putfield 57, 3) := by decide +kernel
theorem dX10_advance_68 : decode cX10_advance 68 = .ok (.goto 94, 3) := by decide +kernel
theorem dX10_advance_71 : decode cX10_advance 71 = .ok (.iload_n 1, 1) := by decide +kernel
theorem dX10_advance_72 : decode cX10_advance 72 = .ok (.invokestatic 60, 3) := by decide +kernel
theorem dX10_advance_75 : decode cX10_advance 75 = .ok (.ifCond .eq 10, 3) := by decide +kernel
theorem dX10_advance_78 : decode cX10_advance 78 = .ok (.aload_n 0, 1) := by decide +kernel
theorem dX10_advance_79 : decode cX10_advance 79 = .ok (.invokevirtual 63, 3) := by decide +kernel
theorem dX10_advance_82 : decode cX10_advance 82 = .ok (.goto 80, 3) := by decide +kernel
theorem dX10_advance_85 : decode cX10_advance 85 = .ok (.iload_n 1, 1) := by decide +kernel
theorem dX10_advance_86 : decode cX10_advance 86 = .ok (.invokestatic 66, 3) := by decide +kernel
theorem dX10_advance_89 : decode cX10_advance 89 = .ok (.ifCond .eq 10, 3) := by decide +kernel
theorem dX10_advance_92 : decode cX10_advance 92 = .ok (.aload_n 0, 1) := by decide +kernel
theorem dX10_advance_93 : decode cX10_advance 93 = .ok (.invokevirtual 69, 3) := by decide +kernel
theorem dX10_advance_96 : decode cX10_advance 96 = .ok (.goto 66, 3) := by decide +kernel
theorem dX10_advance_99 : decode cX10_advance 99 = .ok (.aload_n 0, 1) := by decide +kernel
theorem dX10_advance_100 : decode cX10_advance 100 = .ok (.dup, 1) := by decide +kernel
theorem dX10_advance_101 : decode cX10_advance 101 = .ok (.getfield 37, 3) := by decide +kernel
theorem dX10_advance_104 : decode cX10_advance 104 = .ok (.iconst 1, 1) := by decide +kernel
theorem dX10_advance_105 : decode cX10_advance 105 = .ok (.iadd, 1) := by decide +kernel
theorem dX10_advance_106 : decode cX10_advance 106 = .ok (.putfield 37, 3) := by decide +kernel
theorem dX10_advance_109 : decode cX10_advance 109 = .ok (.aload_n 0, 1) := by decide +kernel
theorem dX10_advance_110 : decode cX10_advance 110 = .ok (.iload_n 1, 1) := by decide +kernel
theorem dX10_advance_111 : decode cX10_advance 111 = .ok (.aload_n 0, 1) := by decide +kernel
theorem dX10_advance_112 : decode cX10_advance 112 = .ok (.aload_n 0, 1) := by decide +kernel
theorem dX10_advance_113 : decode cX10_advance 113 = .ok (.getfield 37, 3) := by decide +kernel
theorem dX10_advance_116 : decode cX10_advance 116 = .ok (.invokevirtual 43, 3) := by decide +kernel
theorem dX10_advance_119 : decode cX10_advance 119 = .ok (.invokestatic 72, 3) := by decide +kernel
theorem dX10_advance_122 : decode cX10_advance 122 = .ok (.putfield 57, 3) := by decide +kernel
theorem dX10_advance_125 : decode cX10_advance 125 = .ok (.aload_n 0, 1) := by decide +kernel
theorem dX10_advance_126 : decode cX10_advance 126 = .ok (.getfield 57, 3) := by decide +kernel
theorem dX10_advance_129 : decode cX10_advance 129 = .ok (.bipush 26, 2) := by decide +kernel
theorem dX10_advance_131 : decode cX10_advance 131 = .ok (.if_icmp .eq 21, 3) := by decide +kernel
theorem dX10_advance_134 : decode cX10_advance 134 = .ok (.aload_n 0, 1) := by decide +kernel
theorem dX10_advance_135 : decode cX10_advance 135 = .ok (.getfield 57, 3) := by decide +kernel
theorem dX10_advance_138 : decode cX10_advance 138 = .ok (.bipush 28, 2) := by decide +kernel
theorem dX10_advance_140 : decode cX10_advance 140 = .ok (.if_icmp .eq 12, 3) := by decide +kernel
theorem dX10_advance_143 : decode cX10_advance 143 = .ok (.aload_n 0, 1) := by decide +kernel
theorem dX10_advance_144 : decode cX10_advance 144 = .ok (.getfield 57, 3) := by decide +kernel
theorem dX10_advance_147 : decode cX10_advance 147 = .ok (.bipush 29, 2) := by decide +kernel
theorem dX10_advance_149 : decode cX10_advance 149 = .ok (.if_icmp .ne 13, 3) := by decide +kernel
theorem dX10_advance_152 : decode cX10_advance 152 = .ok (.aload_n 0, 1) := by decide +kernel
theorem dX10_advance_153 : decode cX10_advance 153 = .ok (.dup, 1) := by decide +kernel
theorem dX10_advance_154 : decode cX10_advance 154 = .ok (.getfield 37, 3) := by decide +kernel
theorem dX10_advance_157 : decode cX10_advance 157 = .ok (.iconst 1, 1) := by decide +kernel
theorem dX10_advance_158 : decode cX10_advance 158 = .ok (.iadd, 1) := by decide +kernel
theorem dX10_advance_159 : decode cX10_advance 159 = .ok (.putfield 37, 3) := by decide +kernel
theorem dX10_advance_162 : decode cX10_advance 162 = .ok (.return_, 1) := by decide +kernel
theorem dX10_byteAt_0 : decode cX10_byteAt 0 = .ok (.iload_n 1, 1) := by decide +kernel
theorem dX10_byteAt_1 : decode cX10_byteAt 1 = .ok (.ifCond .lt 33, 3) := by decide +kernel
theorem dX10_byteAt_4 : decode cX10_byteAt 4 = .ok (.iload_n 1, 1) := by decide +kernel
theorem dX10_byteAt_5 : decode cX10_byteAt 5 = .ok (.aload_n 0, 1) := by decide +kernel
theorem dX10_byteAt_6 : decode cX10_byteAt 6 = .ok (.getfield 33, 3) := by decide +kernel
theorem dX10_byteAt_9 : decode cX10_byteAt 9 = .ok (.if_icmp .ge 25, 3) := by decide +kernel
theorem dX10_byteAt_12 : decode cX10_byteAt 12 = .ok (.iload_n 1, 1) := by decide +kernel
theorem dX10_byteAt_13 : decode cX10_byteAt 13 = .ok (.aload_n 0, 1) := by decide +kernel
theorem dX10_byteAt_14 : decode cX10_byteAt 14 = .ok (.getfield 13, 3) := by decide +kernel
theorem dX10_byteAt_17 : decode cX10_byteAt 17 = .ok (.arraylength, 1) := by decide +kernel
theorem dX10_byteAt_18 : decode cX10_byteAt 18 = .ok (.if_icmp .ge 16, 3) := by decide +kernel
theorem dX10_byteAt_21 : decode cX10_byteAt 21 = .ok (.aload_n 0, 1) := by decide +kernel
theorem dX10_byteAt_22 : decode cX10_byteAt 22 = .ok (.getfield 13, 3) := by decide +kernel
theorem dX10_byteAt_25 : decode cX10_byteAt 25 = .ok (.iload_n 1, 1) := by decide +kernel
theorem dX10_byteAt_26 : decode cX10_byteAt 26 = .ok (.baload, 1) := by decide +kernel
theorem dX10_byteAt_27 : decode cX10_byteAt 27 = .ok (.sipush 255, 3) := by decide +kernel
theorem dX10_byteAt_30 : decode cX10_byteAt 30 = .ok (.iand, 1) := by decide +kernel
theorem dX10_byteAt_31 : decode cX10_byteAt 31 = .ok (.goto 4, 3) := by decide +kernel
theorem dX10_byteAt_34 : decode cX10_byteAt 34 = .ok (.iconst (-1), 1) := by decide +kernel
theorem dX10_byteAt_35 : decode cX10_byteAt 35 = .ok (.ireturn, 1) := by decide +kernel
theorem dX10_isBlank_0 : decode cX10_isBlank 0 = .ok (.iload_n 0, 1) := by decide +kernel
theorem dX10_isBlank_1 : decode cX10_isBlank 1 = .ok (.bipush 10, 2) := by decide +kernel
theorem dX10_isBlank_3 : decode cX10_isBlank 3 = .ok (.if_icmp .eq 9, 3) := by decide +kernel
theorem dX10_isBlank_6 : decode cX10_isBlank 6 = .ok (.iload_n 0, 1) := by decide +kernel
theorem dX10_isBlank_7 : decode cX10_isBlank 7 = .ok (.bipush 32, 2) := by decide +kernel
theorem dX10_isBlank_9 : decode cX10_isBlank 9 = .ok (.if_icmp .ne 7, 3) := by decide +kernel
theorem dX10_isBlank_12 : decode cX10_isBlank 12 = .ok (.iconst 1, 1) := by decide +kernel
theorem dX10_isBlank_13 : decode cX10_isBlank 13 = .ok (.goto 4, 3) := by decide +kernel
theorem dX10_isBlank_16 : decode cX10_isBlank 16 = .ok (.iconst 0, 1) := by decide +kernel
theorem dX10_isBlank_17 : decode cX10_isBlank 17 = .ok (.ireturn, 1) := by decide +kernel
theorem dX10_isLetter_0 : decode cX10_isLetter 0 = .ok (.iload_n 0, 1) := by decide +kernel
theorem dX10_isLetter_1 : decode cX10_isLetter 1 = .ok (.bipush 97, 2) := by decide +kernel
theorem dX10_isLetter_3 : decode cX10_isLetter 3 = .ok (.if_icmp .lt 13, 3) := by decide +kernel
theorem dX10_isLetter_6 : decode cX10_isLetter 6 = .ok (.iload_n 0, 1) := by decide +kernel
theorem dX10_isLetter_7 : decode cX10_isLetter 7 = .ok (.bipush 122, 2) := by decide +kernel
theorem dX10_isLetter_9 : decode cX10_isLetter 9 = .ok (.if_icmp .gt 7, 3) := by decide +kernel
theorem dX10_isLetter_12 : decode cX10_isLetter 12 = .ok (.iconst 1, 1) := by decide +kernel
theorem dX10_isLetter_13 : decode cX10_isLetter 13 = .ok (.goto 4, 3) := by decide +kernel
theorem dX10_isLetter_16 : decode cX10_isLetter 16 = .ok (.iconst 0, 1) := by decide +kernel
theorem dX10_isLetter_17 : decode cX10_isLetter 17 = .ok (.ireturn, 1) := by decide +kernel
theorem dX10_isDigit_0 : decode cX10_isDigit 0 = .ok (.iload_n 0, 1) := by decide +kernel
theorem dX10_isDigit_1 : decode cX10_isDigit 1 = .ok (.bipush 48, 2) := by decide +kernel
theorem dX10_isDigit_3 : decode cX10_isDigit 3 = .ok (.if_icmp .lt 13, 3) := by decide +kernel
theorem dX10_isDigit_6 : decode cX10_isDigit 6 = .ok (.iload_n 0, 1) := by decide +kernel
theorem dX10_isDigit_7 : decode cX10_isDigit 7 = .ok (.bipush 57, 2) := by decide +kernel
theorem dX10_isDigit_9 : decode cX10_isDigit 9 = .ok (.if_icmp .gt 7, 3) := by decide +kernel
theorem dX10_isDigit_12 : decode cX10_isDigit 12 = .ok (.iconst 1, 1) := by decide +kernel
theorem dX10_isDigit_13 : decode cX10_isDigit 13 = .ok (.goto 4, 3) := by decide +kernel
theorem dX10_isDigit_16 : decode cX10_isDigit 16 = .ok (.iconst 0, 1) := by decide +kernel
theorem dX10_isDigit_17 : decode cX10_isDigit 17 = .ok (.ireturn, 1) := by decide +kernel
theorem dX10_takeWord_0 : decode cX10_takeWord 0 = .ok (.iconst 0, 1) := by decide +kernel
theorem dX10_takeWord_1 : decode cX10_takeWord 1 = .ok (.istore_n 1, 1) := by decide +kernel
theorem dX10_takeWord_2 : decode cX10_takeWord 2 = .ok (.aload_n 0, 1) := by decide +kernel
theorem dX10_takeWord_3 : decode cX10_takeWord 3 = .ok (.getfield 37, 3) := by decide +kernel
theorem dX10_takeWord_6 : decode cX10_takeWord 6 = .ok (.istore_n 2, 1) := by decide +kernel
theorem dX10_takeWord_7 : decode cX10_takeWord 7 = .ok (.iload_n 2, 1) := by decide +kernel
theorem dX10_takeWord_8 : decode cX10_takeWord 8 = .ok (.aload_n 0, 1) := by decide +kernel
theorem dX10_takeWord_9 : decode cX10_takeWord 9 = .ok (.getfield 33, 3) := by decide +kernel
theorem dX10_takeWord_12 : decode cX10_takeWord 12 = .ok (.if_icmp .ge 41, 3) := by decide +kernel
theorem dX10_takeWord_15 : decode cX10_takeWord 15 = .ok (.aload_n 0, 1) := by decide +kernel
theorem dX10_takeWord_16 : decode cX10_takeWord 16 = .ok (.iload_n 2, 1) := by decide +kernel
theorem dX10_takeWord_17 : decode cX10_takeWord 17 = .ok (.invokevirtual 43, 3) := by decide +kernel
theorem dX10_takeWord_20 : decode cX10_takeWord 20 = .ok (.invokestatic 60, 3) := by decide +kernel
theorem dX10_takeWord_23 : decode cX10_takeWord 23 = .ok (.ifCond .eq 30, 3) := by decide +kernel
theorem dX10_takeWord_26 : decode cX10_takeWord 26 = .ok (.aload_n 0, 1) := by decide +kernel
theorem dX10_takeWord_27 : decode cX10_takeWord 27 = .ok (.dup, 1) := by decide +kernel
theorem dX10_takeWord_28 : decode cX10_takeWord 28 = .ok (.getfield 54, 3) := by decide +kernel
theorem dX10_takeWord_31 : decode cX10_takeWord 31 = .ok (.aload_n 0, 1) := by decide +kernel
theorem dX10_takeWord_32 : decode cX10_takeWord 32 = .ok (.iload_n 2, 1) := by decide +kernel
theorem dX10_takeWord_33 : decode cX10_takeWord 33 = .ok (.invokevirtual 43, 3) := by decide +kernel
theorem dX10_takeWord_36 : decode cX10_takeWord 36 = .ok (.iload_n 1, 1) := by decide +kernel
theorem dX10_takeWord_37 : decode cX10_takeWord 37 = .ok (.invokestatic 29, 3) := by decide +kernel
theorem dX10_takeWord_40 : decode cX10_takeWord 40 = .ok (.ior, 1) := by decide +kernel
theorem dX10_takeWord_41 : decode cX10_takeWord 41 = .ok (.putfield 54, 3) := by decide +kernel
theorem dX10_takeWord_44 : decode cX10_takeWord 44 = .ok (.iinc 1 1, 3) := by decide +kernel
theorem dX10_takeWord_47 : decode cX10_takeWord 47 = .ok (.iinc 2 1, 3) := by decide +kernel
theorem dX10_takeWord_50 : decode cX10_takeWord 50 = .ok (.goto (-43), 3) := by decide +kernel
theorem dX10_takeWord_53 : decode cX10_takeWord 53 = .ok (.aload_n 0, 1) := by decide +kernel
theorem dX10_takeWord_54 : decode cX10_takeWord 54 = .ok (.dup, 1) := by decide +kernel
theorem dX10_takeWord_55 : decode cX10_takeWord 55 = .ok (.getfield 37, 3) := by decide +kernel
theorem dX10_takeWord_58 : decode cX10_takeWord 58 = .ok (.iload_n 1, 1) := by decide +kernel
theorem dX10_takeWord_59 : decode cX10_takeWord 59 = .ok (.iadd, 1) := by decide +kernel
theorem dX10_takeWord_60 : decode cX10_takeWord 60 = .ok (.putfield 37, 3) := by decide +kernel
theorem dX10_takeWord_63 : decode cX10_takeWord 63 = .ok (.aload_n 0, 1) := by decide +kernel
theorem dX10_takeWord_64 : decode cX10_takeWord 64 = .ok (.iload_n 1, 1) := by decide +kernel
theorem dX10_takeWord_65 : decode cX10_takeWord 65 = .ok (.bipush 6, 2) := by decide +kernel
theorem dX10_takeWord_67 : decode cX10_takeWord 67 = .ok (.if_icmp .le 8, 3) := by decide +kernel
theorem dX10_takeWord_70 : decode cX10_takeWord 70 = .ok (.bipush (-2), 2) := by decide +kernel
theorem dX10_takeWord_72 : decode cX10_takeWord 72 = .ok (.goto 11, 3) := by decide +kernel
theorem dX10_takeWord_75 : decode cX10_takeWord 75 = .ok (.aload_n 0, 1) := by decide +kernel
theorem dX10_takeWord_76 : decode cX10_takeWord 76 = .ok (.aload_n 0, 1) := by decide +kernel
theorem dX10_takeWord_77 : decode cX10_takeWord 77 = .ok (.getfield 54, 3) := by decide +kernel
theorem dX10_takeWord_80 : decode cX10_takeWord 80 = .ok (.invokevirtual 75, 3) := by decide +kernel
theorem dX10_takeWord_83 : decode cX10_takeWord 83 = .ok (.putfield 57, 3) := by decide +kernel
theorem dX10_takeWord_86 : decode cX10_takeWord 86 = .ok (.return_, 1) := by decide +kernel
theorem dX10_kindOf_0 : decode cX10_kindOf 0 = .ok (.iconst 0, 1) := by decide +kernel
theorem dX10_kindOf_1 : decode cX10_kindOf 1 = .ok (.istore_n 2, 1) := by decide +kernel
theorem dX10_kindOf_2 : decode cX10_kindOf 2 = .ok (.iload_n 2, 1) := by decide +kernel
theorem dX10_kindOf_3 : decode cX10_kindOf 3 = .ok (.aload_n 0, 1) := by decide +kernel
theorem dX10_kindOf_4 : decode cX10_kindOf 4 = .ok (.getfield 9, 3) := by decide +kernel
theorem dX10_kindOf_7 : decode cX10_kindOf 7 = .ok (.arraylength, 1) := by decide +kernel
theorem dX10_kindOf_8 : decode cX10_kindOf 8 = .ok (.if_icmp .ge 21, 3) := by decide +kernel
theorem dX10_kindOf_11 : decode cX10_kindOf 11 = .ok (.aload_n 0, 1) := by decide +kernel
theorem dX10_kindOf_12 : decode cX10_kindOf 12 = .ok (.getfield 9, 3) := by decide +kernel
theorem dX10_kindOf_15 : decode cX10_kindOf 15 = .ok (.iload_n 2, 1) := by decide +kernel
theorem dX10_kindOf_16 : decode cX10_kindOf 16 = .ok (.iaload, 1) := by decide +kernel
theorem dX10_kindOf_17 : decode cX10_kindOf 17 = .ok (.iload_n 1, 1) := by decide +kernel
theorem dX10_kindOf_18 : decode cX10_kindOf 18 = .ok (.if_icmp .ne 5, 3) := by decide +kernel
theorem dX10_kindOf_21 : decode cX10_kindOf 21 = .ok (.iload_n 2, 1) := by decide +kernel
theorem dX10_kindOf_22 : decode cX10_kindOf 22 = .ok (.ireturn, 1) := by decide +kernel
theorem dX10_kindOf_23 : decode cX10_kindOf 23 = .ok (.iinc 2 1, 3) := by decide +kernel
theorem dX10_kindOf_26 : decode cX10_kindOf 26 = .ok (.goto (-24), 3) := by decide +kernel
theorem dX10_kindOf_29 : decode cX10_kindOf 29 = .ok (.bipush (-3), 2) := by decide +kernel
theorem dX10_kindOf_31 : decode cX10_kindOf 31 = .ok (.ireturn, 1) := by decide +kernel
theorem dX10_takeNumber_0 : decode cX10_takeNumber 0 = .ok (.iconst 0, 1) := by decide +kernel
theorem dX10_takeNumber_1 : decode cX10_takeNumber 1 = .ok (.istore_n 1, 1) := by decide +kernel
theorem dX10_takeNumber_2 : decode cX10_takeNumber 2 = .ok (.aload_n 0, 1) := by decide +kernel
theorem dX10_takeNumber_3 : decode cX10_takeNumber 3 = .ok (.getfield 37, 3) := by decide +kernel
theorem dX10_takeNumber_6 : decode cX10_takeNumber 6 = .ok (.istore_n 2, 1) := by decide +kernel
theorem dX10_takeNumber_7 : decode cX10_takeNumber 7 = .ok (.iload_n 2, 1) := by decide +kernel
theorem dX10_takeNumber_8 : decode cX10_takeNumber 8 = .ok (.aload_n 0, 1) := by decide +kernel
theorem dX10_takeNumber_9 : decode cX10_takeNumber 9 = .ok (.getfield 33, 3) := by decide +kernel
theorem dX10_takeNumber_12 : decode cX10_takeNumber 12 = .ok (.if_icmp .ge 48, 3) := by decide +kernel
theorem dX10_takeNumber_15 : decode cX10_takeNumber 15 = .ok (.aload_n 0, 1) := by decide +kernel
theorem dX10_takeNumber_16 : decode cX10_takeNumber 16 = .ok (.iload_n 2, 1) := by decide +kernel
theorem dX10_takeNumber_17 : decode cX10_takeNumber 17 = .ok (.invokevirtual 43, 3) := by decide +kernel
theorem dX10_takeNumber_20 : decode cX10_takeNumber 20 = .ok (.invokestatic 66, 3) := by decide +kernel
theorem dX10_takeNumber_23 : decode cX10_takeNumber 23 = .ok (.ifCond .eq 37, 3) := by decide +kernel
theorem dX10_takeNumber_26 : decode cX10_takeNumber 26 = .ok (.aload_n 0, 1) := by decide +kernel
theorem dX10_takeNumber_27 : decode cX10_takeNumber 27 = .ok (.bipush 10, 2) := by decide +kernel
theorem dX10_takeNumber_29 : decode cX10_takeNumber 29 = .ok (.aload_n 0, 1) := by decide +kernel
theorem dX10_takeNumber_30 : decode cX10_takeNumber 30 = .ok (.getfield 54, 3) := by decide +kernel
theorem dX10_takeNumber_33 : decode cX10_takeNumber 33 = .ok (.imul, 1) := by decide +kernel
theorem dX10_takeNumber_34 : decode cX10_takeNumber 34 = .ok (.aload_n 0, 1) := by decide +kernel
theorem dX10_takeNumber_35 : decode cX10_takeNumber 35 = .ok (.iload_n 2, 1) := by decide +kernel
theorem dX10_takeNumber_36 : decode cX10_takeNumber 36 = .ok (.invokevirtual 43, 3) := by decide +kernel
theorem dX10_takeNumber_39 : decode cX10_takeNumber 39 = .ok (.iadd, 1) := by decide +kernel
theorem dX10_takeNumber_40 : decode cX10_takeNumber 40 = .ok (.bipush 48, 2) := by decide +kernel
theorem dX10_takeNumber_42 : decode cX10_takeNumber 42 = .ok (.isub, 1) := by decide +kernel
theorem dX10_takeNumber_43 : decode cX10_takeNumber 43 = .ok (.ldc 78, 2) := by decide +kernel
theorem dX10_takeNumber_45 : decode cX10_takeNumber 45 = .ok (.invokestatic 79, 3) := by decide +kernel
theorem dX10_takeNumber_48 : decode cX10_takeNumber 48 = .ok (.putfield 54, 3) := by decide +kernel
theorem dX10_takeNumber_51 : decode cX10_takeNumber 51 = .ok (.iinc 1 1, 3) := by decide +kernel
theorem dX10_takeNumber_54 : decode cX10_takeNumber 54 = .ok (.iinc 2 1, 3) := by decide +kernel
theorem dX10_takeNumber_57 : decode cX10_takeNumber 57 = .ok (.goto (-50), 3) := by decide +kernel
theorem dX10_takeNumber_60 : decode cX10_takeNumber 60 = .ok (.aload_n 0, 1) := by decide +kernel
theorem dX10_takeNumber_61 : decode cX10_takeNumber 61 = .ok (.dup, 1) := by decide +kernel
theorem dX10_takeNumber_62 : decode cX10_takeNumber 62 = .ok (.getfield 37, 3) := by decide +kernel
theorem dX10_takeNumber_65 : decode cX10_takeNumber 65 = .ok (.iload_n 1, 1) := by decide +kernel
theorem dX10_takeNumber_66 : decode cX10_takeNumber 66 = .ok (.iadd, 1) := by decide +kernel
theorem dX10_takeNumber_67 : decode cX10_takeNumber 67 = .ok (.putfield 37, 3) := by decide +kernel
theorem dX10_takeNumber_70 : decode cX10_takeNumber 70 = .ok (.aload_n 0, 1) := by decide +kernel
theorem dX10_takeNumber_71 : decode cX10_takeNumber 71 = .ok (.bipush 21, 2) := by decide +kernel
theorem dX10_takeNumber_73 : decode cX10_takeNumber 73 = .ok (.putfield 57, 3) := by decide +kernel
theorem dX10_takeNumber_76 : decode cX10_takeNumber 76 = .ok (.return_, 1) := by decide +kernel
theorem dX10_signOf_0 : decode cX10_signOf 0 = .ok (.iload_n 0, 1) := by decide +kernel
theorem dX10_signOf_1 : decode cX10_signOf 1 = .ok (.tableswitch 170 40 62 #[110, 113, 122, 116, 170, 119, 170, 125, 170, 170, 170, 170, 170, 170, 170, 170, 170, 170, 170, 107, 131, 128, 156], 107) := by decide +kernel
theorem dX10_signOf_108 : decode cX10_signOf 108 = .ok (.bipush 22, 2) := by decide +kernel
theorem dX10_signOf_110 : decode cX10_signOf 110 = .ok (.ireturn, 1) := by decide +kernel
theorem dX10_signOf_111 : decode cX10_signOf 111 = .ok (.bipush 23, 2) := by decide +kernel
theorem dX10_signOf_113 : decode cX10_signOf 113 = .ok (.ireturn, 1) := by decide +kernel
theorem dX10_signOf_114 : decode cX10_signOf 114 = .ok (.bipush 24, 2) := by decide +kernel
theorem dX10_signOf_116 : decode cX10_signOf 116 = .ok (.ireturn, 1) := by decide +kernel
theorem dX10_signOf_117 : decode cX10_signOf 117 = .ok (.bipush 31, 2) := by decide +kernel
theorem dX10_signOf_119 : decode cX10_signOf 119 = .ok (.ireturn, 1) := by decide +kernel
theorem dX10_signOf_120 : decode cX10_signOf 120 = .ok (.bipush 32, 2) := by decide +kernel
theorem dX10_signOf_122 : decode cX10_signOf 122 = .ok (.ireturn, 1) := by decide +kernel
theorem dX10_signOf_123 : decode cX10_signOf 123 = .ok (.bipush 33, 2) := by decide +kernel
theorem dX10_signOf_125 : decode cX10_signOf 125 = .ok (.ireturn, 1) := by decide +kernel
theorem dX10_signOf_126 : decode cX10_signOf 126 = .ok (.bipush 34, 2) := by decide +kernel
theorem dX10_signOf_128 : decode cX10_signOf 128 = .ok (.ireturn, 1) := by decide +kernel
theorem dX10_signOf_129 : decode cX10_signOf 129 = .ok (.bipush 27, 2) := by decide +kernel
theorem dX10_signOf_131 : decode cX10_signOf 131 = .ok (.ireturn, 1) := by decide +kernel
theorem dX10_signOf_132 : decode cX10_signOf 132 = .ok (.iload_n 1, 1) := by decide +kernel
theorem dX10_signOf_133 : decode cX10_signOf 133 = .ok (.bipush 61, 2) := by decide +kernel
theorem dX10_signOf_135 : decode cX10_signOf 135 = .ok (.if_icmp .ne 8, 3) := by decide +kernel
theorem dX10_signOf_138 : decode cX10_signOf 138 = .ok (.bipush 26, 2) := by decide +kernel
theorem dX10_signOf_140 : decode cX10_signOf 140 = .ok (.goto 16, 3) := by decide +kernel
theorem dX10_signOf_143 : decode cX10_signOf 143 = .ok (.iload_n 1, 1) := by decide +kernel
theorem dX10_signOf_144 : decode cX10_signOf 144 = .ok (.bipush 62, 2) := by decide +kernel
theorem dX10_signOf_146 : decode cX10_signOf 146 = .ok (.if_icmp .ne 8, 3) := by decide +kernel
theorem dX10_signOf_149 : decode cX10_signOf 149 = .ok (.bipush 28, 2) := by decide +kernel
theorem dX10_signOf_151 : decode cX10_signOf 151 = .ok (.goto 5, 3) := by decide +kernel
theorem dX10_signOf_154 : decode cX10_signOf 154 = .ok (.bipush 25, 2) := by decide +kernel
theorem dX10_signOf_156 : decode cX10_signOf 156 = .ok (.ireturn, 1) := by decide +kernel
theorem dX10_signOf_157 : decode cX10_signOf 157 = .ok (.iload_n 1, 1) := by decide +kernel
theorem dX10_signOf_158 : decode cX10_signOf 158 = .ok (.bipush 61, 2) := by decide +kernel
theorem dX10_signOf_160 : decode cX10_signOf 160 = .ok (.if_icmp .ne 8, 3) := by decide +kernel
theorem dX10_signOf_163 : decode cX10_signOf 163 = .ok (.bipush 29, 2) := by decide +kernel
theorem dX10_signOf_165 : decode cX10_signOf 165 = .ok (.goto 5, 3) := by decide +kernel
theorem dX10_signOf_168 : decode cX10_signOf 168 = .ok (.bipush 30, 2) := by decide +kernel
theorem dX10_signOf_170 : decode cX10_signOf 170 = .ok (.ireturn, 1) := by decide +kernel
theorem dX10_signOf_171 : decode cX10_signOf 171 = .ok (.bipush (-2), 2) := by decide +kernel
theorem dX10_signOf_173 : decode cX10_signOf 173 = .ok (.ireturn, 1) := by decide +kernel
