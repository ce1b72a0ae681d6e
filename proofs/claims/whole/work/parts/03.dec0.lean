theorem dX0_init_0 : decode cX0_init 0 = .ok (.aload_n 0, 1) := by decide +kernel
theorem dX0_init_1 : decode cX0_init 1 = .ok (.invokespecial 3, 3) := by decide +kernel
theorem dX0_init_4 : decode cX0_init 4 = .ok (.aload_n 0, 1) := by decide +kernel
theorem dX0_init_5 : decode cX0_init 5 = .ok (.new 9, 3) := by decide +kernel
theorem dX0_init_8 : decode cX0_init 8 = .ok (.dup, 1) := by decide +kernel
theorem dX0_init_9 : decode cX0_init 9 = .ok (.invokespecial 11, 3) := by decide +kernel
theorem dX0_init_12 : decode cX0_init 12 = .ok (.putfield 12, 3) := by decide +kernel
theorem dX0_init_15 : decode cX0_init 15 = .ok (.aload_n 0, 1) := by decide +kernel
theorem dX0_init_16 : decode cX0_init 16 = .ok (.new 18, 3) := by decide +kernel
theorem dX0_init_19 : decode cX0_init 19 = .ok (.dup, 1) := by decide +kernel
theorem dX0_init_20 : decode cX0_init 20 = .ok (.invokespecial 20, 3) := by decide +kernel
theorem dX0_init_23 : decode cX0_init 23 = .ok (.putfield 21, 3) := by decide +kernel
theorem dX0_init_26 : decode cX0_init 26 = .ok (.aload_n 0, 1) := by decide +kernel
theorem dX0_init_27 : decode cX0_init 27 = .ok (.iconst (-1), 1) := by decide +kernel
theorem dX0_init_28 : decode cX0_init 28 = .ok (.putfield 25, 3) := by decide +kernel
theorem dX0_init_31 : decode cX0_init 31 = .ok (.aload_n 0, 1) := by decide +kernel
theorem dX0_init_32 : decode cX0_init 32 = .ok (.bipush 60, 2) := by decide +kernel
theorem dX0_init_34 : decode cX0_init 34 = .ok (.newarray .int, 2) := by decide +kernel
theorem dX0_init_36 : decode cX0_init 36 = .ok (.putfield 29, 3) := by decide +kernel
theorem dX0_init_39 : decode cX0_init 39 = .ok (.aload_n 0, 1) := by decide +kernel
theorem dX0_init_40 : decode cX0_init 40 = .ok (.bipush 60, 2) := by decide +kernel
theorem dX0_init_42 : decode cX0_init 42 = .ok (.newarray .int, 2) := by decide +kernel
theorem dX0_init_44 : decode cX0_init 44 = .ok (.putfield 33, 3) := by decide +kernel
theorem dX0_init_47 : decode cX0_init 47 = .ok (.aload_n 0, 1) := by decide +kernel
theorem dX0_init_48 : decode cX0_init 48 = .ok (.bipush 60, 2) := by decide +kernel
theorem dX0_init_50 : decode cX0_init 50 = .ok (.newarray .int, 2) := by decide +kernel
theorem dX0_init_52 : decode cX0_init 52 = .ok (.putfield 36, 3) := by decide +kernel
theorem dX0_init_55 : decode cX0_init 55 = .ok (.aload_n 0, 1) := by decide +kernel
theorem dX0_init_56 : decode cX0_init 56 = .ok (.bipush 8, 2) := by decide +kernel
theorem dX0_init_58 : decode cX0_init 58 = .ok (.newarray .int, 2) := by decide +kernel
theorem dX0_init_60 : decode cX0_init 60 = .ok (.putfield 39, 3) := by decide +kernel
theorem dX0_init_63 : decode cX0_init 63 = .ok (.aload_n 0, 1) := by decide +kernel
theorem dX0_init_64 : decode cX0_init 64 = .ok (.bipush 8, 2) := by decide +kernel
theorem dX0_init_66 : decode cX0_init 66 = .ok (.newarray .int, 2) := by decide +kernel
theorem dX0_init_68 : decode cX0_init 68 = .ok (.putfield 42, 3) := by decide +kernel
theorem dX0_init_71 : decode cX0_init 71 = .ok (.aload_n 0, 1) := by decide +kernel
theorem dX0_init_72 : decode cX0_init 72 = .ok (.bipush 60, 2) := by decide +kernel
theorem dX0_init_74 : decode cX0_init 74 = .ok (.newarray .int, 2) := by decide +kernel
theorem dX0_init_76 : decode cX0_init 76 = .ok (.putfield 45, 3) := by decide +kernel
theorem dX0_init_79 : decode cX0_init 79 = .ok (.aload_n 0, 1) := by decide +kernel
theorem dX0_init_80 : decode cX0_init 80 = .ok (.bipush 60, 2) := by decide +kernel
theorem dX0_init_82 : decode cX0_init 82 = .ok (.newarray .int, 2) := by decide +kernel
theorem dX0_init_84 : decode cX0_init 84 = .ok (.putfield 48, 3) := by decide +kernel
theorem dX0_init_87 : decode cX0_init 87 = .ok (.aload_n 0, 1) := by decide +kernel
theorem dX0_init_88 : decode cX0_init 88 = .ok (.bipush 60, 2) := by decide +kernel
theorem dX0_init_90 : decode cX0_init 90 = .ok (.newarray .int, 2) := by decide +kernel
theorem dX0_init_92 : decode cX0_init 92 = .ok (.putfield 51, 3) := by decide +kernel
theorem dX0_init_95 : decode cX0_init 95 = .ok (.aload_n 0, 1) := by decide +kernel
theorem dX0_init_96 : decode cX0_init 96 = .ok (.bipush 60, 2) := by decide +kernel
theorem dX0_init_98 : decode cX0_init 98 = .ok (.newarray .int, 2) := by decide +kernel
theorem dX0_init_100 : decode cX0_init 100 = .ok (.putfield 54, 3) := by decide +kernel
theorem dX0_init_103 : decode cX0_init 103 = .ok (.aload_n 0, 1) := by decide +kernel
theorem dX0_init_104 : decode cX0_init 104 = .ok (.bipush 60, 2) := by decide +kernel
theorem dX0_init_106 : decode cX0_init 106 = .ok (.newarray .int, 2) := by decide +kernel
theorem dX0_init_108 : decode cX0_init 108 = .ok (.putfield 57, 3) := by decide +kernel
theorem dX0_init_111 : decode cX0_init 111 = .ok (.return_, 1) := by decide +kernel
theorem dX0_begin_0 : decode cX0_begin 0 = .ok (.aload_n 0, 1) := by decide +kernel
theorem dX0_begin_1 : decode cX0_begin 1 = .ok (.iconst 1, 1) := by decide +kernel
theorem dX0_begin_2 : decode cX0_begin 2 = .ok (.putfield 60, 3) := by decide +kernel
theorem dX0_begin_5 : decode cX0_begin 5 = .ok (.aload_n 0, 1) := by decide +kernel
theorem dX0_begin_6 : decode cX0_begin 6 = .ok (.getfield 12, 3) := by decide +kernel
theorem dX0_begin_9 : decode cX0_begin 9 = .ok (.aload_n 1, 1) := by decide +kernel
theorem dX0_begin_10 : decode cX0_begin 10 = .ok (.invokevirtual 64, 3) := by decide +kernel
theorem dX0_begin_13 : decode cX0_begin 13 = .ok (.aload_n 0, 1) := by decide +kernel
theorem dX0_begin_14 : decode cX0_begin 14 = .ok (.getfield 21, 3) := by decide +kernel
theorem dX0_begin_17 : decode cX0_begin 17 = .ok (.aload_n 2, 1) := by decide +kernel
theorem dX0_begin_18 : decode cX0_begin 18 = .ok (.invokevirtual 68, 3) := by decide +kernel
theorem dX0_begin_21 : decode cX0_begin 21 = .ok (.aload_n 0, 1) := by decide +kernel
theorem dX0_begin_22 : decode cX0_begin 22 = .ok (.iload_n 3, 1) := by decide +kernel
theorem dX0_begin_23 : decode cX0_begin 23 = .ok (.putfield 71, 3) := by decide +kernel
theorem dX0_begin_26 : decode cX0_begin 26 = .ok (.aload_n 0, 1) := by decide +kernel
theorem dX0_begin_27 : decode cX0_begin 27 = .ok (.invokevirtual 74, 3) := by decide +kernel
theorem dX0_begin_30 : decode cX0_begin 30 = .ok (.aload_n 0, 1) := by decide +kernel
theorem dX0_begin_31 : decode cX0_begin 31 = .ok (.invokevirtual 77, 3) := by decide +kernel
theorem dX0_begin_34 : decode cX0_begin 34 = .ok (.return_, 1) := by decide +kernel
theorem dX0_takeFrom_0 : decode cX0_takeFrom 0 = .ok (.aload_n 0, 1) := by decide +kernel
theorem dX0_takeFrom_1 : decode cX0_takeFrom 1 = .ok (.aload_n 1, 1) := by decide +kernel
theorem dX0_takeFrom_2 : decode cX0_takeFrom 2 = .ok (.getfield 60, 3) := by decide +kernel
theorem dX0_takeFrom_5 : decode cX0_takeFrom 5 = .ok (.putfield 60, 3) := by decide +kernel
theorem dX0_takeFrom_8 : decode cX0_takeFrom 8 = .ok (.aload_n 0, 1) := by decide +kernel
theorem dX0_takeFrom_9 : decode cX0_takeFrom 9 = .ok (.getfield 12, 3) := by decide +kernel
theorem dX0_takeFrom_12 : decode cX0_takeFrom 12 = .ok (.aload_n 1, 1) := by decide +kernel
theorem dX0_takeFrom_13 : decode cX0_takeFrom 13 = .ok (.getfield 12, 3) := by decide +kernel
theorem dX0_takeFrom_16 : decode cX0_takeFrom 16 = .ok (.invokevirtual 64, 3) := by decide +kernel
theorem dX0_takeFrom_19 : decode cX0_takeFrom 19 = .ok (.aload_n 0, 1) := by decide +kernel
theorem dX0_takeFrom_20 : decode cX0_takeFrom 20 = .ok (.getfield 21, 3) := by decide +kernel
theorem dX0_takeFrom_23 : decode cX0_takeFrom 23 = .ok (.aload_n 1, 1) := by decide +kernel
theorem dX0_takeFrom_24 : decode cX0_takeFrom 24 = .ok (.getfield 21, 3) := by decide +kernel
theorem dX0_takeFrom_27 : decode cX0_takeFrom 27 = .ok (.invokevirtual 68, 3) := by decide +kernel
theorem dX0_takeFrom_30 : decode cX0_takeFrom 30 = .ok (.aload_n 0, 1) := by decide +kernel
theorem dX0_takeFrom_31 : decode cX0_takeFrom 31 = .ok (.aload_n 1, 1) := by decide +kernel
theorem dX0_takeFrom_32 : decode cX0_takeFrom 32 = .ok (.getfield 71, 3) := by decide +kernel
theorem dX0_takeFrom_35 : decode cX0_takeFrom 35 = .ok (.putfield 71, 3) := by decide +kernel
theorem dX0_takeFrom_38 : decode cX0_takeFrom 38 = .ok (.aload_n 0, 1) := by decide +kernel
theorem dX0_takeFrom_39 : decode cX0_takeFrom 39 = .ok (.aload_n 1, 1) := by decide +kernel
theorem dX0_takeFrom_40 : decode cX0_takeFrom 40 = .ok (.getfield 80, 3) := by decide +kernel
theorem dX0_takeFrom_43 : decode cX0_takeFrom 43 = .ok (.putfield 80, 3) := by decide +kernel
theorem dX0_takeFrom_46 : decode cX0_takeFrom 46 = .ok (.aload_n 0, 1) := by decide +kernel
theorem dX0_takeFrom_47 : decode cX0_takeFrom 47 = .ok (.aload_n 1, 1) := by decide +kernel
theorem dX0_takeFrom_48 : decode cX0_takeFrom 48 = .ok (.getfield 83, 3) := by decide +kernel
theorem dX0_takeFrom_51 : decode cX0_takeFrom 51 = .ok (.putfield 83, 3) := by decide +kernel
theorem dX0_takeFrom_54 : decode cX0_takeFrom 54 = .ok (.aload_n 0, 1) := by decide +kernel
theorem dX0_takeFrom_55 : decode cX0_takeFrom 55 = .ok (.aload_n 1, 1) := by decide +kernel
theorem dX0_takeFrom_56 : decode cX0_takeFrom 56 = .ok (.getfield 25, 3) := by decide +kernel
theorem dX0_takeFrom_59 : decode cX0_takeFrom 59 = .ok (.putfield 25, 3) := by decide +kernel
theorem dX0_takeFrom_62 : decode cX0_takeFrom 62 = .ok (.aload_n 1, 1) := by decide +kernel
theorem dX0_takeFrom_63 : decode cX0_takeFrom 63 = .ok (.getfield 39, 3) := by decide +kernel
theorem dX0_takeFrom_66 : decode cX0_takeFrom 66 = .ok (.iconst 0, 1) := by decide +kernel
theorem dX0_takeFrom_67 : decode cX0_takeFrom 67 = .ok (.aload_n 0, 1) := by decide +kernel
theorem dX0_takeFrom_68 : decode cX0_takeFrom 68 = .ok (.getfield 39, 3) := by decide +kernel
theorem dX0_takeFrom_71 : decode cX0_takeFrom 71 = .ok (.iconst 0, 1) := by decide +kernel
theorem dX0_takeFrom_72 : decode cX0_takeFrom 72 = .ok (.bipush 8, 2) := by decide +kernel
theorem dX0_takeFrom_74 : decode cX0_takeFrom 74 = .ok (.invokestatic 86, 3) := by decide +kernel
theorem dX0_takeFrom_77 : decode cX0_takeFrom 77 = .ok (.aload_n 1, 1) := by decide +kernel
theorem dX0_takeFrom_78 : decode cX0_takeFrom 78 = .ok (.getfield 42, 3) := by decide +kernel
theorem dX0_takeFrom_81 : decode cX0_takeFrom 81 = .ok (.iconst 0, 1) := by decide +kernel
theorem dX0_takeFrom_82 : decode cX0_takeFrom 82 = .ok (.aload_n 0, 1) := by decide +kernel
theorem dX0_takeFrom_83 : decode cX0_takeFrom 83 = .ok (.getfield 42, 3) := by decide +kernel
theorem dX0_takeFrom_86 : decode cX0_takeFrom 86 = .ok (.iconst 0, 1) := by decide +kernel
theorem dX0_takeFrom_87 : decode cX0_takeFrom 87 = .ok (.bipush 8, 2) := by decide +kernel
theorem dX0_takeFrom_89 : decode cX0_takeFrom 89 = .ok (.invokestatic 86, 3) := by decide +kernel
theorem dX0_takeFrom_92 : decode cX0_takeFrom 92 = .ok (.aload_n 1, 1) := by decide +kernel
theorem dX0_takeFrom_93 : decode cX0_takeFrom 93 = .ok (.getfield 29, 3) := by decide +kernel
theorem dX0_takeFrom_96 : decode cX0_takeFrom 96 = .ok (.iconst 0, 1) := by decide +kernel
theorem dX0_takeFrom_97 : decode cX0_takeFrom 97 = .ok (.aload_n 0, 1) := by decide +kernel
theorem dX0_takeFrom_98 : decode cX0_takeFrom 98 = .ok (.getfield 29, 3) := by decide +kernel
theorem dX0_takeFrom_101 : decode cX0_takeFrom 101 = .ok (.iconst 0, 1) := by decide +kernel
theorem dX0_takeFrom_102 : decode cX0_takeFrom 102 = .ok (.bipush 60, 2) := by decide +kernel
theorem dX0_takeFrom_104 : decode cX0_takeFrom 104 = .ok (.invokestatic 86, 3) := by decide +kernel
theorem dX0_takeFrom_107 : decode cX0_takeFrom 107 = .ok (.aload_n 1, 1) := by decide +kernel
theorem dX0_takeFrom_108 : decode cX0_takeFrom 108 = .ok (.getfield 33, 3) := by decide +kernel
theorem dX0_takeFrom_111 : decode cX0_takeFrom 111 = .ok (.iconst 0, 1) := by decide +kernel
theorem dX0_takeFrom_112 : decode cX0_takeFrom 112 = .ok (.aload_n 0, 1) := by decide +kernel
theorem dX0_takeFrom_113 : decode cX0_takeFrom 113 = .ok (.getfield 33, 3) := by decide +kernel
theorem dX0_takeFrom_116 : decode cX0_takeFrom 116 = .ok (.iconst 0, 1) := by decide +kernel
theorem dX0_takeFrom_117 : decode cX0_takeFrom 117 = .ok (.bipush 60, 2) := by decide +kernel
theorem dX0_takeFrom_119 : decode cX0_takeFrom 119 = .ok (.invokestatic 86, 3) := by decide +kernel
theorem dX0_takeFrom_122 : decode cX0_takeFrom 122 = .ok (.aload_n 1, 1) := by decide +kernel
theorem dX0_takeFrom_123 : decode cX0_takeFrom 123 = .ok (.getfield 36, 3) := by decide +kernel
theorem dX0_takeFrom_126 : decode cX0_takeFrom 126 = .ok (.iconst 0, 1) := by decide +kernel
theorem dX0_takeFrom_127 : decode cX0_takeFrom 127 = .ok (.aload_n 0, 1) := by decide +kernel
theorem dX0_takeFrom_128 : decode cX0_takeFrom 128 = .ok (.getfield 36, 3) := by decide +kernel
theorem dX0_takeFrom_131 : decode cX0_takeFrom 131 = .ok (.iconst 0, 1) := by decide +kernel
theorem dX0_takeFrom_132 : decode cX0_takeFrom 132 = .ok (.bipush 60, 2) := by decide +kernel
theorem dX0_takeFrom_134 : decode cX0_takeFrom 134 = .ok (.invokestatic 86, 3) := by decide +kernel
theorem dX0_takeFrom_137 : decode cX0_takeFrom 137 = .ok (.aload_n 1, 1) := by decide +kernel
theorem dX0_takeFrom_138 : decode cX0_takeFrom 138 = .ok (.getfield 45, 3) := by decide +kernel
theorem dX0_takeFrom_141 : decode cX0_takeFrom 141 = .ok (.iconst 0, 1) := by decide +kernel
theorem dX0_takeFrom_142 : decode cX0_takeFrom 142 = .ok (.aload_n 0, 1) := by decide +kernel
theorem dX0_takeFrom_143 : decode cX0_takeFrom 143 = .ok (.getfield 45, 3) := by decide +kernel
theorem dX0_takeFrom_146 : decode cX0_takeFrom 146 = .ok (.iconst 0, 1) := by decide +kernel
theorem dX0_takeFrom_147 : decode cX0_takeFrom 147 = .ok (.bipush 60, 2) := by decide +kernel
theorem dX0_takeFrom_149 : decode cX0_takeFrom 149 = .ok (.invokestatic 86, 3) := by decide +kernel
theorem dX0_takeFrom_152 : decode cX0_takeFrom 152 = .ok (.aload_n 1, 1) := by decide +kernel
theorem dX0_takeFrom_153 : decode cX0_takeFrom 153 = .ok (.getfield 48, 3) := by decide +kernel
theorem dX0_takeFrom_156 : decode cX0_takeFrom 156 = .ok (.iconst 0, 1) := by decide +kernel
theorem dX0_takeFrom_157 : decode cX0_takeFrom 157 = .ok (.aload_n 0, 1) := by decide +kernel
theorem dX0_takeFrom_158 : decode cX0_takeFrom 158 = .ok (.getfield 48, 3) := by decide +kernel
theorem dX0_takeFrom_161 : decode cX0_takeFrom 161 = .ok (.iconst 0, 1) := by decide +kernel
theorem dX0_takeFrom_162 : decode cX0_takeFrom 162 = .ok (.bipush 60, 2) := by decide +kernel
theorem dX0_takeFrom_164 : decode cX0_takeFrom 164 = .ok (.invokestatic 86, 3) := by decide +kernel
theorem dX0_takeFrom_167 : decode cX0_takeFrom 167 = .ok (.aload_n 1, 1) := by decide +kernel
theorem dX0_takeFrom_168 : decode cX0_takeFrom 168 = .ok (.getfield 51, 3) := by decide +kernel
theorem dX0_takeFrom_171 : decode cX0_takeFrom 171 = .ok (.iconst 0, 1) := by decide +kernel
theorem dX0_takeFrom_172 : decode cX0_takeFrom 172 = .ok (.aload_n 0, 1) := by decide +kernel
theorem dX0_takeFrom_173 : decode cX0_takeFrom 173 = .ok (.getfield 51, 3) := by decide +kernel
theorem dX0_takeFrom_176 : decode cX0_takeFrom 176 = .ok (.iconst 0, 1) := by decide +kernel
theorem dX0_takeFrom_177 : decode cX0_takeFrom 177 = .ok (.bipush 60, 2) := by decide +kernel
theorem dX0_takeFrom_179 : decode cX0_takeFrom 179 = .ok (.invokestatic 86, 3) := by decide +kernel
theorem dX0_takeFrom_182 : decode cX0_takeFrom 182 = .ok (.aload_n 1, 1) := by decide +kernel
theorem dX0_takeFrom_183 : decode cX0_takeFrom 183 = .ok (.getfield 54, 3) := by decide +kernel
theorem dX0_takeFrom_186 : decode cX0_takeFrom 186 = .ok (.iconst 0, 1) := by decide +kernel
theorem dX0_takeFrom_187 : decode cX0_takeFrom 187 = .ok (.aload_n 0, 1) := by decide +kernel
theorem dX0_takeFrom_188 : decode cX0_takeFrom 188 = .ok (.getfield 54, 3) := by decide +kernel
theorem dX0_takeFrom_191 : decode cX0_takeFrom 191 = .ok (.iconst 0, 1) := by decide +kernel
theorem dX0_takeFrom_192 : decode cX0_takeFrom 192 = .ok (.bipush 60, 2) := by decide +kernel
theorem dX0_takeFrom_194 : decode cX0_takeFrom 194 = .ok (.invokestatic 86, 3) := by decide +kernel
theorem dX0_takeFrom_197 : decode cX0_takeFrom 197 = .ok (.aload_n 1, 1) := by decide +kernel
theorem dX0_takeFrom_198 : decode cX0_takeFrom 198 = .ok (.getfield 57, 3) := by decide +kernel
theorem dX0_takeFrom_201 : decode cX0_takeFrom 201 = .ok (.iconst 0, 1) := by decide +kernel
theorem dX0_takeFrom_202 : decode cX0_takeFrom 202 = .ok (.aload_n 0, 1) := by decide +kernel
theorem dX0_takeFrom_203 : decode cX0_takeFrom 203 = .ok (.getfield 57, 3) := by decide +kernel
theorem dX0_takeFrom_206 : decode cX0_takeFrom 206 = .ok (.iconst 0, 1) := by decide +kernel
theorem dX0_takeFrom_207 : decode cX0_takeFrom 207 = .ok (.bipush 60, 2) := by decide +kernel
theorem dX0_takeFrom_209 : decode cX0_takeFrom 209 = .ok (.invokestatic 86, 3) := by decide +kernel
theorem dX0_takeFrom_212 : decode cX0_takeFrom 212 = .ok (.return_, 1) := by decide +kernel
theorem dX0_clear_0 : decode cX0_clear 0 = .ok (.aload_n 0, 1) := by decide +kernel
theorem dX0_clear_1 : decode cX0_clear 1 = .ok (.iconst 0, 1) := by decide +kernel
theorem dX0_clear_2 : decode cX0_clear 2 = .ok (.putfield 80, 3) := by decide +kernel
theorem dX0_clear_5 : decode cX0_clear 5 = .ok (.aload_n 0, 1) := by decide +kernel
theorem dX0_clear_6 : decode cX0_clear 6 = .ok (.iconst 0, 1) := by decide +kernel
theorem dX0_clear_7 : decode cX0_clear 7 = .ok (.putfield 83, 3) := by decide +kernel
theorem dX0_clear_10 : decode cX0_clear 10 = .ok (.aload_n 0, 1) := by decide +kernel
theorem dX0_clear_11 : decode cX0_clear 11 = .ok (.iconst (-1), 1) := by decide +kernel
theorem dX0_clear_12 : decode cX0_clear 12 = .ok (.putfield 25, 3) := by decide +kernel
theorem dX0_clear_15 : decode cX0_clear 15 = .ok (.aload_n 0, 1) := by decide +kernel
theorem dX0_clear_16 : decode cX0_clear 16 = .ok (.getfield 29, 3) := by decide +kernel
theorem dX0_clear_19 : decode cX0_clear 19 = .ok (.iconst 0, 1) := by decide +kernel
theorem dX0_clear_20 : decode cX0_clear 20 = .ok (.invokestatic 92, 3) := by decide +kernel
theorem dX0_clear_23 : decode cX0_clear 23 = .ok (.aload_n 0, 1) := by decide +kernel
theorem dX0_clear_24 : decode cX0_clear 24 = .ok (.getfield 33, 3) := by decide +kernel
theorem dX0_clear_27 : decode cX0_clear 27 = .ok (.bipush (-9), 2) := by decide +kernel
theorem dX0_clear_29 : decode cX0_clear 29 = .ok (.invokestatic 92, 3) := by decide +kernel
theorem dX0_clear_32 : decode cX0_clear 32 = .ok (.aload_n 0, 1) := by decide +kernel
theorem dX0_clear_33 : decode cX0_clear 33 = .ok (.getfield 36, 3) := by decide +kernel
theorem dX0_clear_36 : decode cX0_clear 36 = .ok (.iconst 0, 1) := by decide +kernel
theorem dX0_clear_37 : decode cX0_clear 37 = .ok (.invokestatic 92, 3) := by decide +kernel
theorem dX0_clear_40 : decode cX0_clear 40 = .ok (.aload_n 0, 1) := by decide +kernel
theorem dX0_clear_41 : decode cX0_clear 41 = .ok (.getfield 39, 3) := by decide +kernel
theorem dX0_clear_44 : decode cX0_clear 44 = .ok (.iconst 0, 1) := by decide +kernel
theorem dX0_clear_45 : decode cX0_clear 45 = .ok (.invokestatic 92, 3) := by decide +kernel
theorem dX0_clear_48 : decode cX0_clear 48 = .ok (.return_, 1) := by decide +kernel
theorem dX0_measure_0 : decode cX0_measure 0 = .ok (.iconst 0, 1) := by decide +kernel
theorem dX0_measure_1 : decode cX0_measure 1 = .ok (.istore_n 1, 1) := by decide +kernel
theorem dX0_measure_2 : decode cX0_measure 2 = .ok (.iconst 0, 1) := by decide +kernel
theorem dX0_measure_3 : decode cX0_measure 3 = .ok (.istore_n 2, 1) := by decide +kernel
theorem dX0_measure_4 : decode cX0_measure 4 = .ok (.iload_n 2, 1) := by decide +kernel
theorem dX0_measure_5 : decode cX0_measure 5 = .ok (.aload_n 0, 1) := by decide +kernel
theorem dX0_measure_6 : decode cX0_measure 6 = .ok (.getfield 21, 3) := by decide +kernel
theorem dX0_measure_9 : decode cX0_measure 9 = .ok (.getfield 98, 3) := by decide +kernel
theorem dX0_measure_12 : decode cX0_measure 12 = .ok (.if_icmp .ge 80, 3) := by decide +kernel
theorem dX0_measure_15 : decode cX0_measure 15 = .ok (.aload_n 0, 1) := by decide +kernel
theorem dX0_measure_16 : decode cX0_measure 16 = .ok (.getfield 42, 3) := by decide +kernel
theorem dX0_measure_19 : decode cX0_measure 19 = .ok (.iload_n 2, 1) := by decide +kernel
theorem dX0_measure_20 : decode cX0_measure 20 = .ok (.iload_n 1, 1) := by decide +kernel
theorem dX0_measure_21 : decode cX0_measure 21 = .ok (.iastore, 1) := by decide +kernel
theorem dX0_measure_22 : decode cX0_measure 22 = .ok (.iconst 0, 1) := by decide +kernel
theorem dX0_measure_23 : decode cX0_measure 23 = .ok (.istore_n 3, 1) := by decide +kernel
theorem dX0_measure_24 : decode cX0_measure 24 = .ok (.iload_n 3, 1) := by decide +kernel
theorem dX0_measure_25 : decode cX0_measure 25 = .ok (.aload_n 0, 1) := by decide +kernel
theorem dX0_measure_26 : decode cX0_measure 26 = .ok (.getfield 21, 3) := by decide +kernel
theorem dX0_measure_29 : decode cX0_measure 29 = .ok (.getfield 101, 3) := by decide +kernel
theorem dX0_measure_32 : decode cX0_measure 32 = .ok (.iload_n 2, 1) := by decide +kernel
theorem dX0_measure_33 : decode cX0_measure 33 = .ok (.iaload, 1) := by decide +kernel
theorem dX0_measure_34 : decode cX0_measure 34 = .ok (.if_icmp .ge 35, 3) := by decide +kernel
theorem dX0_measure_37 : decode cX0_measure 37 = .ok (.iload_n 1, 1) := by decide +kernel
theorem dX0_measure_38 : decode cX0_measure 38 = .ok (.iload_n 3, 1) := by decide +kernel
theorem dX0_measure_39 : decode cX0_measure 39 = .ok (.iadd, 1) := by decide +kernel
theorem dX0_measure_40 : decode cX0_measure 40 = .ok (.bipush 60, 2) := by decide +kernel
theorem dX0_measure_42 : decode cX0_measure 42 = .ok (.if_icmp .ge 27, 3) := by decide +kernel
theorem dX0_measure_45 : decode cX0_measure 45 = .ok (.aload_n 0, 1) := by decide +kernel
theorem dX0_measure_46 : decode cX0_measure 46 = .ok (.getfield 45, 3) := by decide +kernel
theorem dX0_measure_49 : decode cX0_measure 49 = .ok (.iload_n 1, 1) := by decide +kernel
theorem dX0_measure_50 : decode cX0_measure 50 = .ok (.iload_n 3, 1) := by decide +kernel
theorem dX0_measure_51 : decode cX0_measure 51 = .ok (.iadd, 1) := by decide +kernel
theorem dX0_measure_52 : decode cX0_measure 52 = .ok (.iload_n 2, 1) := by decide +kernel
theorem dX0_measure_53 : decode cX0_measure 53 = .ok (.iastore, 1) := by decide +kernel
theorem dX0_measure_54 : decode cX0_measure 54 = .ok (.aload_n 0, 1) := by decide +kernel
theorem dX0_measure_55 : decode cX0_measure 55 = .ok (.iload_n 1, 1) := by decide +kernel
theorem dX0_measure_56 : decode cX0_measure 56 = .ok (.iload_n 3, 1) := by decide +kernel
theorem dX0_measure_57 : decode cX0_measure 57 = .ok (.iadd, 1) := by decide +kernel
theorem dX0_measure_58 : decode cX0_measure 58 = .ok (.iload_n 2, 1) := by decide +kernel
theorem dX0_measure_59 : decode cX0_measure 59 = .ok (.iload_n 3, 1) := by decide +kernel
theorem dX0_measure_60 : decode cX0_measure 60 = .ok (.invokevirtual 104, 3) := by decide +kernel
theorem dX0_measure_63 : decode cX0_measure 63 = .ok (.iinc 3 1, 3) := by decide +kernel
theorem dX0_measure_66 : decode cX0_measure 66 = .ok (.goto (-42), 3) := by decide +kernel
theorem dX0_measure_69 : decode cX0_measure 69 = .ok (.aload_n 0, 1) := by decide +kernel
theorem dX0_measure_70 : decode cX0_measure 70 = .ok (.iload_n 2, 1) := by decide +kernel
theorem dX0_measure_71 : decode cX0_measure 71 = .ok (.invokevirtual 108, 3) := by decide +kernel
theorem dX0_measure_74 : decode cX0_measure 74 = .ok (.iload_n 1, 1) := by decide +kernel
theorem dX0_measure_75 : decode cX0_measure 75 = .ok (.aload_n 0, 1) := by decide +kernel
theorem dX0_measure_76 : decode cX0_measure 76 = .ok (.getfield 21, 3) := by decide +kernel
theorem dX0_measure_79 : decode cX0_measure 79 = .ok (.getfield 101, 3) := by decide +kernel
theorem dX0_measure_82 : decode cX0_measure 82 = .ok (.iload_n 2, 1) := by decide +kernel
theorem dX0_measure_83 : decode cX0_measure 83 = .ok (.iaload, 1) := by decide +kernel
theorem dX0_measure_84 : decode cX0_measure 84 = .ok (.iadd, 1) := by decide +kernel
theorem dX0_measure_85 : decode cX0_measure 85 = .ok (.istore_n 1, 1) := by decide +kernel
theorem dX0_measure_86 : decode cX0_measure 86 = .ok (.iinc 2 1, 3) := by decide +kernel
theorem dX0_measure_89 : decode cX0_measure 89 = .ok (.goto (-85), 3) := by decide +kernel
theorem dX0_measure_92 : decode cX0_measure 92 = .ok (.return_, 1) := by decide +kernel
theorem dX0_rest_0 : decode cX0_rest 0 = .ok (.aload_n 0, 1) := by decide +kernel
theorem dX0_rest_1 : decode cX0_rest 1 = .ok (.getfield 48, 3) := by decide +kernel
theorem dX0_rest_4 : decode cX0_rest 4 = .ok (.iload_n 1, 1) := by decide +kernel
theorem dX0_rest_5 : decode cX0_rest 5 = .ok (.bipush (-9), 2) := by decide +kernel
theorem dX0_rest_7 : decode cX0_rest 7 = .ok (.iastore, 1) := by decide +kernel
theorem dX0_rest_8 : decode cX0_rest 8 = .ok (.aload_n 0, 1) := by decide +kernel
theorem dX0_rest_9 : decode cX0_rest 9 = .ok (.getfield 51, 3) := by decide +kernel
theorem dX0_rest_12 : decode cX0_rest 12 = .ok (.iload_n 1, 1) := by decide +kernel
theorem dX0_rest_13 : decode cX0_rest 13 = .ok (.bipush (-9), 2) := by decide +kernel
theorem dX0_rest_15 : decode cX0_rest 15 = .ok (.iastore, 1) := by decide +kernel
theorem dX0_rest_16 : decode cX0_rest 16 = .ok (.iload_n 2, 1) := by decide +kernel
theorem dX0_rest_17 : decode cX0_rest 17 = .ok (.ifCond .eq 15, 3) := by decide +kernel
theorem dX0_rest_20 : decode cX0_rest 20 = .ok (.aload_n 0, 1) := by decide +kernel
theorem dX0_rest_21 : decode cX0_rest 21 = .ok (.getfield 21, 3) := by decide +kernel
theorem dX0_rest_24 : decode cX0_rest 24 = .ok (.getfield 101, 3) := by decide +kernel
theorem dX0_rest_27 : decode cX0_rest 27 = .ok (.iload_n 2, 1) := by decide +kernel
theorem dX0_rest_28 : decode cX0_rest 28 = .ok (.iaload, 1) := by decide +kernel
theorem dX0_rest_29 : decode cX0_rest 29 = .ok (.ifCond .gt 4, 3) := by decide +kernel
theorem dX0_rest_32 : decode cX0_rest 32 = .ok (.return_, 1) := by decide +kernel
theorem dX0_rest_33 : decode cX0_rest 33 = .ok (.aload_n 0, 1) := by decide +kernel
theorem dX0_rest_34 : decode cX0_rest 34 = .ok (.getfield 21, 3) := by decide +kernel
theorem dX0_rest_37 : decode cX0_rest 37 = .ok (.getfield 101, 3) := by decide +kernel
theorem dX0_rest_40 : decode cX0_rest 40 = .ok (.iload_n 2, 1) := by decide +kernel
theorem dX0_rest_41 : decode cX0_rest 41 = .ok (.iconst 1, 1) := by decide +kernel
theorem dX0_rest_42 : decode cX0_rest 42 = .ok (.isub, 1) := by decide +kernel
theorem dX0_rest_43 : decode cX0_rest 43 = .ok (.iaload, 1) := by decide +kernel
theorem dX0_rest_44 : decode cX0_rest 44 = .ok (.istore 4, 2) := by decide +kernel
theorem dX0_rest_46 : decode cX0_rest 46 = .ok (.iload_n 3, 1) := by decide +kernel
theorem dX0_rest_47 : decode cX0_rest 47 = .ok (.iload 4, 2) := by decide +kernel
theorem dX0_rest_49 : decode cX0_rest 49 = .ok (.imul, 1) := by decide +kernel
theorem dX0_rest_50 : decode cX0_rest 50 = .ok (.aload_n 0, 1) := by decide +kernel
theorem dX0_rest_51 : decode cX0_rest 51 = .ok (.getfield 21, 3) := by decide +kernel
theorem dX0_rest_54 : decode cX0_rest 54 = .ok (.getfield 101, 3) := by decide +kernel
theorem dX0_rest_57 : decode cX0_rest 57 = .ok (.iload_n 2, 1) := by decide +kernel
theorem dX0_rest_58 : decode cX0_rest 58 = .ok (.iaload, 1) := by decide +kernel
theorem dX0_rest_59 : decode cX0_rest 59 = .ok (.idiv, 1) := by decide +kernel
theorem dX0_rest_60 : decode cX0_rest 60 = .ok (.istore 5, 2) := by decide +kernel
theorem dX0_rest_62 : decode cX0_rest 62 = .ok (.aload_n 0, 1) := by decide +kernel
theorem dX0_rest_63 : decode cX0_rest 63 = .ok (.getfield 48, 3) := by decide +kernel
theorem dX0_rest_66 : decode cX0_rest 66 = .ok (.iload_n 1, 1) := by decide +kernel
theorem dX0_rest_67 : decode cX0_rest 67 = .ok (.aload_n 0, 1) := by decide +kernel
theorem dX0_rest_68 : decode cX0_rest 68 = .ok (.getfield 42, 3) := by decide +kernel
theorem dX0_rest_71 : decode cX0_rest 71 = .ok (.iload_n 2, 1) := by decide +kernel
theorem dX0_rest_72 : decode cX0_rest 72 = .ok (.iconst 1, 1) := by decide +kernel
theorem dX0_rest_73 : decode cX0_rest 73 = .ok (.isub, 1) := by decide +kernel
theorem dX0_rest_74 : decode cX0_rest 74 = .ok (.iaload, 1) := by decide +kernel
theorem dX0_rest_75 : decode cX0_rest 75 = .ok (.iload 5, 2) := by decide +kernel
theorem dX0_rest_77 : decode cX0_rest 77 = .ok (.iadd, 1) := by decide +kernel
theorem dX0_rest_78 : decode cX0_rest 78 = .ok (.iastore, 1) := by decide +kernel
theorem dX0_rest_79 : decode cX0_rest 79 = .ok (.aload_n 0, 1) := by decide +kernel
theorem dX0_rest_80 : decode cX0_rest 80 = .ok (.getfield 51, 3) := by decide +kernel
theorem dX0_rest_83 : decode cX0_rest 83 = .ok (.iload_n 1, 1) := by decide +kernel
theorem dX0_rest_84 : decode cX0_rest 84 = .ok (.aload_n 0, 1) := by decide +kernel
theorem dX0_rest_85 : decode cX0_rest 85 = .ok (.getfield 42, 3) := by decide +kernel
theorem dX0_rest_88 : decode cX0_rest 88 = .ok (.iload_n 2, 1) := by decide +kernel
theorem dX0_rest_89 : decode cX0_rest 89 = .ok (.iconst 1, 1) := by decide +kernel
theorem dX0_rest_90 : decode cX0_rest 90 = .ok (.isub, 1) := by decide +kernel
theorem dX0_rest_91 : decode cX0_rest 91 = .ok (.iaload, 1) := by decide +kernel
theorem dX0_rest_92 : decode cX0_rest 92 = .ok (.iload 5, 2) := by decide +kernel
theorem dX0_rest_94 : decode cX0_rest 94 = .ok (.iconst 1, 1) := by decide +kernel
theorem dX0_rest_95 : decode cX0_rest 95 = .ok (.iadd, 1) := by decide +kernel
theorem dX0_rest_96 : decode cX0_rest 96 = .ok (.iload 4, 2) := by decide +kernel
theorem dX0_rest_98 : decode cX0_rest 98 = .ok (.if_icmp .ge 10, 3) := by decide +kernel
theorem dX0_rest_101 : decode cX0_rest 101 = .ok (.iload 5, 2) := by decide +kernel
theorem dX0_rest_103 : decode cX0_rest 103 = .ok (.iconst 1, 1) := by decide +kernel
theorem dX0_rest_104 : decode cX0_rest 104 = .ok (.iadd, 1) := by decide +kernel
theorem dX0_rest_105 : decode cX0_rest 105 = .ok (.goto 4, 3) := by decide +kernel
theorem dX0_rest_108 : decode cX0_rest 108 = .ok (.iconst 0, 1) := by decide +kernel
theorem dX0_rest_109 : decode cX0_rest 109 = .ok (.iadd, 1) := by decide +kernel
theorem dX0_rest_110 : decode cX0_rest 110 = .ok (.iastore, 1) := by decide +kernel
theorem dX0_rest_111 : decode cX0_rest 111 = .ok (.return_, 1) := by decide +kernel
theorem dX0_joinCourse_0 : decode cX0_joinCourse 0 = .ok (.aload_n 0, 1) := by decide +kernel
theorem dX0_joinCourse_1 : decode cX0_joinCourse 1 = .ok (.getfield 42, 3) := by decide +kernel
theorem dX0_joinCourse_4 : decode cX0_joinCourse 4 = .ok (.iload_n 1, 1) := by decide +kernel
theorem dX0_joinCourse_5 : decode cX0_joinCourse 5 = .ok (.iaload, 1) := by decide +kernel
theorem dX0_joinCourse_6 : decode cX0_joinCourse 6 = .ok (.istore_n 2, 1) := by decide +kernel
theorem dX0_joinCourse_7 : decode cX0_joinCourse 7 = .ok (.aload_n 0, 1) := by decide +kernel
theorem dX0_joinCourse_8 : decode cX0_joinCourse 8 = .ok (.getfield 21, 3) := by decide +kernel
theorem dX0_joinCourse_11 : decode cX0_joinCourse 11 = .ok (.getfield 101, 3) := by decide +kernel
theorem dX0_joinCourse_14 : decode cX0_joinCourse 14 = .ok (.iload_n 1, 1) := by decide +kernel
theorem dX0_joinCourse_15 : decode cX0_joinCourse 15 = .ok (.iaload, 1) := by decide +kernel
theorem dX0_joinCourse_16 : decode cX0_joinCourse 16 = .ok (.istore_n 3, 1) := by decide +kernel
theorem dX0_joinCourse_17 : decode cX0_joinCourse 17 = .ok (.iload_n 2, 1) := by decide +kernel
theorem dX0_joinCourse_18 : decode cX0_joinCourse 18 = .ok (.iload_n 3, 1) := by decide +kernel
theorem dX0_joinCourse_19 : decode cX0_joinCourse 19 = .ok (.iadd, 1) := by decide +kernel
theorem dX0_joinCourse_20 : decode cX0_joinCourse 20 = .ok (.bipush 60, 2) := by decide +kernel
theorem dX0_joinCourse_22 : decode cX0_joinCourse 22 = .ok (.invokestatic 112, 3) := by decide +kernel
theorem dX0_joinCourse_25 : decode cX0_joinCourse 25 = .ok (.istore 4, 2) := by decide +kernel
theorem dX0_joinCourse_27 : decode cX0_joinCourse 27 = .ok (.iload_n 2, 1) := by decide +kernel
theorem dX0_joinCourse_28 : decode cX0_joinCourse 28 = .ok (.istore 5, 2) := by decide +kernel
theorem dX0_joinCourse_30 : decode cX0_joinCourse 30 = .ok (.iload 5, 2) := by decide +kernel
theorem dX0_joinCourse_32 : decode cX0_joinCourse 32 = .ok (.iload 4, 2) := by decide +kernel
theorem dX0_joinCourse_34 : decode cX0_joinCourse 34 = .ok (.if_icmp .ge 144, 3) := by decide +kernel
theorem dX0_joinCourse_37 : decode cX0_joinCourse 37 = .ok (.aload_n 0, 1) := by decide +kernel
theorem dX0_joinCourse_38 : decode cX0_joinCourse 38 = .ok (.getfield 21, 3) := by decide +kernel
theorem dX0_joinCourse_41 : decode cX0_joinCourse 41 = .ok (.getfield 118, 3) := by decide +kernel
theorem dX0_joinCourse_44 : decode cX0_joinCourse 44 = .ok (.iload_n 1, 1) := by decide +kernel
theorem dX0_joinCourse_45 : decode cX0_joinCourse 45 = .ok (.iaload, 1) := by decide +kernel
theorem dX0_joinCourse_46 : decode cX0_joinCourse 46 = .ok (.iconst 2, 1) := by decide +kernel
theorem dX0_joinCourse_47 : decode cX0_joinCourse 47 = .ok (.if_icmp .ne 57, 3) := by decide +kernel
theorem dX0_joinCourse_50 : decode cX0_joinCourse 50 = .ok (.aload_n 0, 1) := by decide +kernel
theorem dX0_joinCourse_51 : decode cX0_joinCourse 51 = .ok (.getfield 54, 3) := by decide +kernel
theorem dX0_joinCourse_54 : decode cX0_joinCourse 54 = .ok (.iload 5, 2) := by decide +kernel
theorem dX0_joinCourse_56 : decode cX0_joinCourse 56 = .ok (.iload 5, 2) := by decide +kernel
theorem dX0_joinCourse_58 : decode cX0_joinCourse 58 = .ok (.ifCond .le 10, 3) := by decide +kernel
theorem dX0_joinCourse_61 : decode cX0_joinCourse 61 = .ok (.iload 5, 2) := by decide +kernel
theorem dX0_joinCourse_63 : decode cX0_joinCourse 63 = .ok (.iconst 1, 1) := by decide +kernel
theorem dX0_joinCourse_64 : decode cX0_joinCourse 64 = .ok (.isub, 1) := by decide +kernel
theorem dX0_joinCourse_65 : decode cX0_joinCourse 65 = .ok (.goto 5, 3) := by decide +kernel
theorem dX0_joinCourse_68 : decode cX0_joinCourse 68 = .ok (.bipush (-9), 2) := by decide +kernel
theorem dX0_joinCourse_70 : decode cX0_joinCourse 70 = .ok (.iastore, 1) := by decide +kernel
theorem dX0_joinCourse_71 : decode cX0_joinCourse 71 = .ok (.aload_n 0, 1) := by decide +kernel
theorem dX0_joinCourse_72 : decode cX0_joinCourse 72 = .ok (.getfield 57, 3) := by decide +kernel
theorem dX0_joinCourse_75 : decode cX0_joinCourse 75 = .ok (.iload 5, 2) := by decide +kernel
theorem dX0_joinCourse_77 : decode cX0_joinCourse 77 = .ok (.iload 5, 2) := by decide +kernel
theorem dX0_joinCourse_79 : decode cX0_joinCourse 79 = .ok (.iconst 1, 1) := by decide +kernel
theorem dX0_joinCourse_80 : decode cX0_joinCourse 80 = .ok (.iadd, 1) := by decide +kernel
theorem dX0_joinCourse_81 : decode cX0_joinCourse 81 = .ok (.aload_n 0, 1) := by decide +kernel
theorem dX0_joinCourse_82 : decode cX0_joinCourse 82 = .ok (.getfield 21, 3) := by decide +kernel
theorem dX0_joinCourse_85 : decode cX0_joinCourse 85 = .ok (.getfield 121, 3) := by decide +kernel
theorem dX0_joinCourse_88 : decode cX0_joinCourse 88 = .ok (.if_icmp .ge 10, 3) := by decide +kernel
theorem dX0_joinCourse_91 : decode cX0_joinCourse 91 = .ok (.iload 5, 2) := by decide +kernel
theorem dX0_joinCourse_93 : decode cX0_joinCourse 93 = .ok (.iconst 1, 1) := by decide +kernel
theorem dX0_joinCourse_94 : decode cX0_joinCourse 94 = .ok (.iadd, 1) := by decide +kernel
theorem dX0_joinCourse_95 : decode cX0_joinCourse 95 = .ok (.goto 5, 3) := by decide +kernel
theorem dX0_joinCourse_98 : decode cX0_joinCourse 98 = .ok (.bipush (-9), 2) := by decide +kernel
theorem dX0_joinCourse_100 : decode cX0_joinCourse 100 = .ok (.iastore, 1) := by decide +kernel
theorem dX0_joinCourse_101 : decode cX0_joinCourse 101 = .ok (.goto 71, 3) := by decide +kernel
theorem dX0_joinCourse_104 : decode cX0_joinCourse 104 = .ok (.aload_n 0, 1) := by decide +kernel
theorem dX0_joinCourse_105 : decode cX0_joinCourse 105 = .ok (.getfield 54, 3) := by decide +kernel
theorem dX0_joinCourse_108 : decode cX0_joinCourse 108 = .ok (.iload 5, 2) := by decide +kernel
theorem dX0_joinCourse_110 : decode cX0_joinCourse 110 = .ok (.iload_n 3, 1) := by decide +kernel
theorem dX0_joinCourse_111 : decode cX0_joinCourse 111 = .ok (.iconst 2, 1) := by decide +kernel
theorem dX0_joinCourse_112 : decode cX0_joinCourse 112 = .ok (.if_icmp .ge 8, 3) := by decide +kernel
theorem dX0_joinCourse_115 : decode cX0_joinCourse 115 = .ok (.bipush (-9), 2) := by decide +kernel
theorem dX0_joinCourse_117 : decode cX0_joinCourse 117 = .ok (.goto 20, 3) := by decide +kernel
theorem dX0_joinCourse_120 : decode cX0_joinCourse 120 = .ok (.iload 5, 2) := by decide +kernel
theorem dX0_joinCourse_122 : decode cX0_joinCourse 122 = .ok (.iload_n 2, 1) := by decide +kernel
theorem dX0_joinCourse_123 : decode cX0_joinCourse 123 = .ok (.if_icmp .le 10, 3) := by decide +kernel
theorem dX0_joinCourse_126 : decode cX0_joinCourse 126 = .ok (.iload 5, 2) := by decide +kernel
theorem dX0_joinCourse_128 : decode cX0_joinCourse 128 = .ok (.iconst 1, 1) := by decide +kernel
theorem dX0_joinCourse_129 : decode cX0_joinCourse 129 = .ok (.isub, 1) := by decide +kernel
theorem dX0_joinCourse_130 : decode cX0_joinCourse 130 = .ok (.goto 7, 3) := by decide +kernel
theorem dX0_joinCourse_133 : decode cX0_joinCourse 133 = .ok (.iload 4, 2) := by decide +kernel
theorem dX0_joinCourse_135 : decode cX0_joinCourse 135 = .ok (.iconst 1, 1) := by decide +kernel
theorem dX0_joinCourse_136 : decode cX0_joinCourse 136 = .ok (.isub, 1) := by decide +kernel
theorem dX0_joinCourse_137 : decode cX0_joinCourse 137 = .ok (.iastore, 1) := by decide +kernel
theorem dX0_joinCourse_138 : decode cX0_joinCourse 138 = .ok (.aload_n 0, 1) := by decide +kernel
theorem dX0_joinCourse_139 : decode cX0_joinCourse 139 = .ok (.getfield 57, 3) := by decide +kernel
theorem dX0_joinCourse_142 : decode cX0_joinCourse 142 = .ok (.iload 5, 2) := by decide +kernel
theorem dX0_joinCourse_144 : decode cX0_joinCourse 144 = .ok (.iload_n 3, 1) := by decide +kernel
theorem dX0_joinCourse_145 : decode cX0_joinCourse 145 = .ok (.iconst 3, 1) := by decide +kernel
theorem dX0_joinCourse_146 : decode cX0_joinCourse 146 = .ok (.if_icmp .ge 8, 3) := by decide +kernel
theorem dX0_joinCourse_149 : decode cX0_joinCourse 149 = .ok (.bipush (-9), 2) := by decide +kernel
theorem dX0_joinCourse_151 : decode cX0_joinCourse 151 = .ok (.goto 20, 3) := by decide +kernel
theorem dX0_joinCourse_154 : decode cX0_joinCourse 154 = .ok (.iload 5, 2) := by decide +kernel
theorem dX0_joinCourse_156 : decode cX0_joinCourse 156 = .ok (.iconst 1, 1) := by decide +kernel
theorem dX0_joinCourse_157 : decode cX0_joinCourse 157 = .ok (.iadd, 1) := by decide +kernel
theorem dX0_joinCourse_158 : decode cX0_joinCourse 158 = .ok (.iload 4, 2) := by decide +kernel
theorem dX0_joinCourse_160 : decode cX0_joinCourse 160 = .ok (.if_icmp .ge 10, 3) := by decide +kernel
theorem dX0_joinCourse_163 : decode cX0_joinCourse 163 = .ok (.iload 5, 2) := by decide +kernel
theorem dX0_joinCourse_165 : decode cX0_joinCourse 165 = .ok (.iconst 1, 1) := by decide +kernel
theorem dX0_joinCourse_166 : decode cX0_joinCourse 166 = .ok (.iadd, 1) := by decide +kernel
theorem dX0_joinCourse_167 : decode cX0_joinCourse 167 = .ok (.goto 4, 3) := by decide +kernel
theorem dX0_joinCourse_170 : decode cX0_joinCourse 170 = .ok (.iload_n 2, 1) := by decide +kernel
theorem dX0_joinCourse_171 : decode cX0_joinCourse 171 = .ok (.iastore, 1) := by decide +kernel
theorem dX0_joinCourse_172 : decode cX0_joinCourse 172 = .ok (.iinc 5 1, 3) := by decide +kernel
theorem dX0_joinCourse_175 : decode cX0_joinCourse 175 = .ok (.goto (-145), 3) := by decide +kernel
theorem dX0_joinCourse_178 : decode cX0_joinCourse 178 = .ok (.return_, 1) := by decide +kernel
theorem dX0_bend_0 : decode cX0_bend 0 = .ok (.iconst 0, 1) := by decide +kernel
theorem dX0_bend_1 : decode cX0_bend 1 = .ok (.istore_n 2, 1) := by decide +kernel
theorem dX0_bend_2 : decode cX0_bend 2 = .ok (.iload_n 2, 1) := by decide +kernel
theorem dX0_bend_3 : decode cX0_bend 3 = .ok (.aload_n 0, 1) := by decide +kernel
theorem dX0_bend_4 : decode cX0_bend 4 = .ok (.getfield 21, 3) := by decide +kernel
theorem dX0_bend_7 : decode cX0_bend 7 = .ok (.getfield 98, 3) := by decide +kernel
theorem dX0_bend_10 : decode cX0_bend 10 = .ok (.if_icmp .ge 55, 3) := by decide +kernel
theorem dX0_bend_13 : decode cX0_bend 13 = .ok (.iload_n 1, 1) := by decide +kernel
theorem dX0_bend_14 : decode cX0_bend 14 = .ok (.iload_n 2, 1) := by decide +kernel
theorem dX0_bend_15 : decode cX0_bend 15 = .ok (.ishr, 1) := by decide +kernel
theorem dX0_bend_16 : decode cX0_bend 16 = .ok (.iconst 1, 1) := by decide +kernel
theorem dX0_bend_17 : decode cX0_bend 17 = .ok (.iand, 1) := by decide +kernel
theorem dX0_bend_18 : decode cX0_bend 18 = .ok (.iconst 1, 1) := by decide +kernel
theorem dX0_bend_19 : decode cX0_bend 19 = .ok (.if_icmp .ne 7, 3) := by decide +kernel
theorem dX0_bend_22 : decode cX0_bend 22 = .ok (.iconst 2, 1) := by decide +kernel
theorem dX0_bend_23 : decode cX0_bend 23 = .ok (.goto 4, 3) := by decide +kernel
theorem dX0_bend_26 : decode cX0_bend 26 = .ok (.iconst 1, 1) := by decide +kernel
theorem dX0_bend_27 : decode cX0_bend 27 = .ok (.istore_n 3, 1) := by decide +kernel
theorem dX0_bend_28 : decode cX0_bend 28 = .ok (.aload_n 0, 1) := by decide +kernel
theorem dX0_bend_29 : decode cX0_bend 29 = .ok (.getfield 21, 3) := by decide +kernel
theorem dX0_bend_32 : decode cX0_bend 32 = .ok (.getfield 118, 3) := by decide +kernel
theorem dX0_bend_35 : decode cX0_bend 35 = .ok (.iload_n 2, 1) := by decide +kernel
theorem dX0_bend_36 : decode cX0_bend 36 = .ok (.iaload, 1) := by decide +kernel
theorem dX0_bend_37 : decode cX0_bend 37 = .ok (.iload_n 3, 1) := by decide +kernel
theorem dX0_bend_38 : decode cX0_bend 38 = .ok (.if_icmp .ne 6, 3) := by decide +kernel
theorem dX0_bend_41 : decode cX0_bend 41 = .ok (.goto 18, 3) := by decide +kernel
theorem dX0_bend_44 : decode cX0_bend 44 = .ok (.aload_n 0, 1) := by decide +kernel
theorem dX0_bend_45 : decode cX0_bend 45 = .ok (.getfield 21, 3) := by decide +kernel
theorem dX0_bend_48 : decode cX0_bend 48 = .ok (.getfield 118, 3) := by decide +kernel
theorem dX0_bend_51 : decode cX0_bend 51 = .ok (.iload_n 2, 1) := by decide +kernel
theorem dX0_bend_52 : decode cX0_bend 52 = .ok (.iload_n 3, 1) := by decide +kernel
theorem dX0_bend_53 : decode cX0_bend 53 = .ok (.iastore, 1) := by decide +kernel
theorem dX0_bend_54 : decode cX0_bend 54 = .ok (.aload_n 0, 1) := by decide +kernel
theorem dX0_bend_55 : decode cX0_bend 55 = .ok (.iload_n 2, 1) := by decide +kernel
theorem dX0_bend_56 : decode cX0_bend 56 = .ok (.invokevirtual 108, 3) := by decide +kernel
theorem dX0_bend_59 : decode cX0_bend 59 = .ok (.iinc 2 1, 3) := by decide +kernel
theorem dX0_bend_62 : decode cX0_bend 62 = .ok (.goto (-60), 3) := by decide +kernel
theorem dX0_bend_65 : decode cX0_bend 65 = .ok (.return_, 1) := by decide +kernel
theorem dX0_raise_0 : decode cX0_raise 0 = .ok (.aload_n 0, 1) := by decide +kernel
theorem dX0_raise_1 : decode cX0_raise 1 = .ok (.invokevirtual 77, 3) := by decide +kernel
theorem dX0_raise_4 : decode cX0_raise 4 = .ok (.iconst 0, 1) := by decide +kernel
theorem dX0_raise_5 : decode cX0_raise 5 = .ok (.istore_n 2, 1) := by decide +kernel
theorem dX0_raise_6 : decode cX0_raise 6 = .ok (.iload_n 2, 1) := by decide +kernel
theorem dX0_raise_7 : decode cX0_raise 7 = .ok (.aload_n 0, 1) := by decide +kernel
theorem dX0_raise_8 : decode cX0_raise 8 = .ok (.getfield 21, 3) := by decide +kernel
theorem dX0_raise_11 : decode cX0_raise 11 = .ok (.getfield 121, 3) := by decide +kernel
theorem dX0_raise_14 : decode cX0_raise 14 = .ok (.if_icmp .ge 21, 3) := by decide +kernel
theorem dX0_raise_17 : decode cX0_raise 17 = .ok (.aload_n 0, 1) := by decide +kernel
theorem dX0_raise_18 : decode cX0_raise 18 = .ok (.getfield 83, 3) := by decide +kernel
theorem dX0_raise_21 : decode cX0_raise 21 = .ok (.iload_n 1, 1) := by decide +kernel
theorem dX0_raise_22 : decode cX0_raise 22 = .ok (.if_icmp .gt 13, 3) := by decide +kernel
theorem dX0_raise_25 : decode cX0_raise 25 = .ok (.aload_n 0, 1) := by decide +kernel
theorem dX0_raise_26 : decode cX0_raise 26 = .ok (.invokevirtual 124, 3) := by decide +kernel
theorem dX0_raise_29 : decode cX0_raise 29 = .ok (.iinc 2 1, 3) := by decide +kernel
theorem dX0_raise_32 : decode cX0_raise 32 = .ok (.goto (-26), 3) := by decide +kernel
theorem dX0_raise_35 : decode cX0_raise 35 = .ok (.aload_n 0, 1) := by decide +kernel
theorem dX0_raise_36 : decode cX0_raise 36 = .ok (.getfield 83, 3) := by decide +kernel
theorem dX0_raise_39 : decode cX0_raise 39 = .ok (.ireturn, 1) := by decide +kernel
theorem dX0_layNext_0 : decode cX0_layNext 0 = .ok (.aload_n 0, 1) := by decide +kernel
theorem dX0_layNext_1 : decode cX0_layNext 1 = .ok (.getfield 80, 3) := by decide +kernel
theorem dX0_layNext_4 : decode cX0_layNext 4 = .ok (.aload_n 0, 1) := by decide +kernel
theorem dX0_layNext_5 : decode cX0_layNext 5 = .ok (.getfield 21, 3) := by decide +kernel
theorem dX0_layNext_8 : decode cX0_layNext 8 = .ok (.getfield 121, 3) := by decide +kernel
theorem dX0_layNext_11 : decode cX0_layNext 11 = .ok (.if_icmp .ge 12, 3) := by decide +kernel
theorem dX0_layNext_14 : decode cX0_layNext 14 = .ok (.aload_n 0, 1) := by decide +kernel
theorem dX0_layNext_15 : decode cX0_layNext 15 = .ok (.getfield 80, 3) := by decide +kernel
theorem dX0_layNext_18 : decode cX0_layNext 18 = .ok (.bipush 60, 2) := by decide +kernel
theorem dX0_layNext_20 : decode cX0_layNext 20 = .ok (.if_icmp .lt 4, 3) := by decide +kernel
theorem dX0_layNext_23 : decode cX0_layNext 23 = .ok (.return_, 1) := by decide +kernel
theorem dX0_layNext_24 : decode cX0_layNext 24 = .ok (.aload_n 0, 1) := by decide +kernel
theorem dX0_layNext_25 : decode cX0_layNext 25 = .ok (.getfield 80, 3) := by decide +kernel
theorem dX0_layNext_28 : decode cX0_layNext 28 = .ok (.istore_n 1, 1) := by decide +kernel
theorem dX0_layNext_29 : decode cX0_layNext 29 = .ok (.aload_n 0, 1) := by decide +kernel
theorem dX0_layNext_30 : decode cX0_layNext 30 = .ok (.getfield 48, 3) := by decide +kernel
theorem dX0_layNext_33 : decode cX0_layNext 33 = .ok (.iload_n 1, 1) := by decide +kernel
theorem dX0_layNext_34 : decode cX0_layNext 34 = .ok (.iaload, 1) := by decide +kernel
theorem dX0_layNext_35 : decode cX0_layNext 35 = .ok (.istore_n 2, 1) := by decide +kernel
theorem dX0_layNext_36 : decode cX0_layNext 36 = .ok (.aload_n 0, 1) := by decide +kernel
theorem dX0_layNext_37 : decode cX0_layNext 37 = .ok (.getfield 51, 3) := by decide +kernel
theorem dX0_layNext_40 : decode cX0_layNext 40 = .ok (.iload_n 1, 1) := by decide +kernel
theorem dX0_layNext_41 : decode cX0_layNext 41 = .ok (.iaload, 1) := by decide +kernel
theorem dX0_layNext_42 : decode cX0_layNext 42 = .ok (.istore_n 3, 1) := by decide +kernel
theorem dX0_layNext_43 : decode cX0_layNext 43 = .ok (.aload_n 0, 1) := by decide +kernel
theorem dX0_layNext_44 : decode cX0_layNext 44 = .ok (.getfield 29, 3) := by decide +kernel
theorem dX0_layNext_47 : decode cX0_layNext 47 = .ok (.iload_n 1, 1) := by decide +kernel
theorem dX0_layNext_48 : decode cX0_layNext 48 = .ok (.iconst 1, 1) := by decide +kernel
theorem dX0_layNext_49 : decode cX0_layNext 49 = .ok (.iastore, 1) := by decide +kernel
theorem dX0_layNext_50 : decode cX0_layNext 50 = .ok (.aload_n 0, 1) := by decide +kernel
theorem dX0_layNext_51 : decode cX0_layNext 51 = .ok (.dup, 1) := by decide +kernel
theorem dX0_layNext_52 : decode cX0_layNext 52 = .ok (.getfield 80, 3) := by decide +kernel
theorem dX0_layNext_55 : decode cX0_layNext 55 = .ok (.iconst 1, 1) := by decide +kernel
theorem dX0_layNext_56 : decode cX0_layNext 56 = .ok (.iadd, 1) := by decide +kernel
theorem dX0_layNext_57 : decode cX0_layNext 57 = .ok (.putfield 80, 3) := by decide +kernel
theorem dX0_layNext_60 : decode cX0_layNext 60 = .ok (.aload_n 0, 1) := by decide +kernel
theorem dX0_layNext_61 : decode cX0_layNext 61 = .ok (.iload_n 1, 1) := by decide +kernel
theorem dX0_layNext_62 : decode cX0_layNext 62 = .ok (.iconst 1, 1) := by decide +kernel
theorem dX0_layNext_63 : decode cX0_layNext 63 = .ok (.invokevirtual 127, 3) := by decide +kernel
theorem dX0_layNext_66 : decode cX0_layNext 66 = .ok (.aload_n 0, 1) := by decide +kernel
theorem dX0_layNext_67 : decode cX0_layNext 67 = .ok (.iload_n 1, 1) := by decide +kernel
theorem dX0_layNext_68 : decode cX0_layNext 68 = .ok (.invokevirtual 131, 3) := by decide +kernel
theorem dX0_layNext_71 : decode cX0_layNext 71 = .ok (.ifCond .ne 19, 3) := by decide +kernel
theorem dX0_layNext_74 : decode cX0_layNext 74 = .ok (.aload_n 0, 1) := by decide +kernel
theorem dX0_layNext_75 : decode cX0_layNext 75 = .ok (.iload_n 2, 1) := by decide +kernel
theorem dX0_layNext_76 : decode cX0_layNext 76 = .ok (.invokevirtual 131, 3) := by decide +kernel
theorem dX0_layNext_79 : decode cX0_layNext 79 = .ok (.ifCond .ne 11, 3) := by decide +kernel
theorem dX0_layNext_82 : decode cX0_layNext 82 = .ok (.aload_n 0, 1) := by decide +kernel
theorem dX0_layNext_83 : decode cX0_layNext 83 = .ok (.iload_n 3, 1) := by decide +kernel
theorem dX0_layNext_84 : decode cX0_layNext 84 = .ok (.invokevirtual 131, 3) := by decide +kernel
theorem dX0_layNext_87 : decode cX0_layNext 87 = .ok (.ifCond .eq 7, 3) := by decide +kernel
theorem dX0_layNext_90 : decode cX0_layNext 90 = .ok (.aload_n 0, 1) := by decide +kernel
theorem dX0_layNext_91 : decode cX0_layNext 91 = .ok (.invokevirtual 135, 3) := by decide +kernel
theorem dX0_layNext_94 : decode cX0_layNext 94 = .ok (.return_, 1) := by decide +kernel
theorem dX0_cutOut_0 : decode cX0_cutOut 0 = .ok (.iload_n 1, 1) := by decide +kernel
theorem dX0_cutOut_1 : decode cX0_cutOut 1 = .ok (.aload_n 0, 1) := by decide +kernel
theorem dX0_cutOut_2 : decode cX0_cutOut 2 = .ok (.getfield 80, 3) := by decide +kernel
theorem dX0_cutOut_5 : decode cX0_cutOut 5 = .ok (.invokestatic 138, 3) := by decide +kernel
theorem dX0_cutOut_8 : decode cX0_cutOut 8 = .ok (.ifCond .ne 4, 3) := by decide +kernel
theorem dX0_cutOut_11 : decode cX0_cutOut 11 = .ok (.return_, 1) := by decide +kernel
theorem dX0_cutOut_12 : decode cX0_cutOut 12 = .ok (.aload_n 0, 1) := by decide +kernel
theorem dX0_cutOut_13 : decode cX0_cutOut 13 = .ok (.getfield 29, 3) := by decide +kernel
theorem dX0_cutOut_16 : decode cX0_cutOut 16 = .ok (.iload_n 1, 1) := by decide +kernel
theorem dX0_cutOut_17 : decode cX0_cutOut 17 = .ok (.iconst 3, 1) := by decide +kernel
theorem dX0_cutOut_18 : decode cX0_cutOut 18 = .ok (.iastore, 1) := by decide +kernel
theorem dX0_cutOut_19 : decode cX0_cutOut 19 = .ok (.aload_n 0, 1) := by decide +kernel
theorem dX0_cutOut_20 : decode cX0_cutOut 20 = .ok (.iload_n 1, 1) := by decide +kernel
theorem dX0_cutOut_21 : decode cX0_cutOut 21 = .ok (.putfield 25, 3) := by decide +kernel
theorem dX0_cutOut_24 : decode cX0_cutOut 24 = .ok (.aload_n 0, 1) := by decide +kernel
theorem dX0_cutOut_25 : decode cX0_cutOut 25 = .ok (.getfield 39, 3) := by decide +kernel
theorem dX0_cutOut_28 : decode cX0_cutOut 28 = .ok (.aload_n 0, 1) := by decide +kernel
theorem dX0_cutOut_29 : decode cX0_cutOut 29 = .ok (.getfield 45, 3) := by decide +kernel
theorem dX0_cutOut_32 : decode cX0_cutOut 32 = .ok (.iload_n 1, 1) := by decide +kernel
theorem dX0_cutOut_33 : decode cX0_cutOut 33 = .ok (.iaload, 1) := by decide +kernel
theorem dX0_cutOut_34 : decode cX0_cutOut 34 = .ok (.dup2, 1) := by decide +kernel
theorem dX0_cutOut_35 : decode cX0_cutOut 35 = .ok (.iaload, 1) := by decide +kernel
theorem dX0_cutOut_36 : decode cX0_cutOut 36 = .ok (.iconst 1, 1) := by decide +kernel
theorem dX0_cutOut_37 : decode cX0_cutOut 37 = .ok (.iadd, 1) := by decide +kernel
theorem dX0_cutOut_38 : decode cX0_cutOut 38 = .ok (.iastore, 1) := by decide +kernel
theorem dX0_cutOut_39 : decode cX0_cutOut 39 = .ok (.aload_n 0, 1) := by decide +kernel
theorem dX0_cutOut_40 : decode cX0_cutOut 40 = .ok (.invokevirtual 135, 3) := by decide +kernel
theorem dX0_cutOut_43 : decode cX0_cutOut 43 = .ok (.return_, 1) := by decide +kernel
theorem dX0_load_0 : decode cX0_load 0 = .ok (.aload_n 0, 1) := by decide +kernel
theorem dX0_load_1 : decode cX0_load 1 = .ok (.getfield 48, 3) := by decide +kernel
theorem dX0_load_4 : decode cX0_load 4 = .ok (.iload_n 1, 1) := by decide +kernel
theorem dX0_load_5 : decode cX0_load 5 = .ok (.iaload, 1) := by decide +kernel
theorem dX0_load_6 : decode cX0_load 6 = .ok (.istore_n 3, 1) := by decide +kernel
theorem dX0_load_7 : decode cX0_load 7 = .ok (.aload_n 0, 1) := by decide +kernel
theorem dX0_load_8 : decode cX0_load 8 = .ok (.getfield 51, 3) := by decide +kernel
theorem dX0_load_11 : decode cX0_load 11 = .ok (.iload_n 1, 1) := by decide +kernel
theorem dX0_load_12 : decode cX0_load 12 = .ok (.iaload, 1) := by decide +kernel
theorem dX0_load_13 : decode cX0_load 13 = .ok (.istore 4, 2) := by decide +kernel
theorem dX0_load_15 : decode cX0_load 15 = .ok (.iload_n 3, 1) := by decide +kernel
theorem dX0_load_16 : decode cX0_load 16 = .ok (.ifCond .lt 13, 3) := by decide +kernel
theorem dX0_load_19 : decode cX0_load 19 = .ok (.aload_n 0, 1) := by decide +kernel
theorem dX0_load_20 : decode cX0_load 20 = .ok (.getfield 36, 3) := by decide +kernel
theorem dX0_load_23 : decode cX0_load 23 = .ok (.iload_n 3, 1) := by decide +kernel
theorem dX0_load_24 : decode cX0_load 24 = .ok (.dup2, 1) := by decide +kernel
theorem dX0_load_25 : decode cX0_load 25 = .ok (.iaload, 1) := by decide +kernel
theorem dX0_load_26 : decode cX0_load 26 = .ok (.iload_n 2, 1) := by decide +kernel
theorem dX0_load_27 : decode cX0_load 27 = .ok (.iadd, 1) := by decide +kernel
theorem dX0_load_28 : decode cX0_load 28 = .ok (.iastore, 1) := by decide +kernel
theorem dX0_load_29 : decode cX0_load 29 = .ok (.iload 4, 2) := by decide +kernel
theorem dX0_load_31 : decode cX0_load 31 = .ok (.ifCond .lt 20, 3) := by decide +kernel
theorem dX0_load_34 : decode cX0_load 34 = .ok (.iload 4, 2) := by decide +kernel
theorem dX0_load_36 : decode cX0_load 36 = .ok (.iload_n 3, 1) := by decide +kernel
theorem dX0_load_37 : decode cX0_load 37 = .ok (.if_icmp .eq 14, 3) := by decide +kernel
theorem dX0_load_40 : decode cX0_load 40 = .ok (.aload_n 0, 1) := by decide +kernel
theorem dX0_load_41 : decode cX0_load 41 = .ok (.getfield 36, 3) := by decide +kernel
theorem dX0_load_44 : decode cX0_load 44 = .ok (.iload 4, 2) := by decide +kernel
theorem dX0_load_46 : decode cX0_load 46 = .ok (.dup2, 1) := by decide +kernel
theorem dX0_load_47 : decode cX0_load 47 = .ok (.iaload, 1) := by decide +kernel
theorem dX0_load_48 : decode cX0_load 48 = .ok (.iload_n 2, 1) := by decide +kernel
theorem dX0_load_49 : decode cX0_load 49 = .ok (.iadd, 1) := by decide +kernel
theorem dX0_load_50 : decode cX0_load 50 = .ok (.iastore, 1) := by decide +kernel
theorem dX0_load_51 : decode cX0_load 51 = .ok (.return_, 1) := by decide +kernel
theorem dX0_settle_0 : decode cX0_settle 0 = .ok (.iconst (-1), 1) := by decide +kernel
theorem dX0_settle_1 : decode cX0_settle 1 = .ok (.istore_n 1, 1) := by decide +kernel
theorem dX0_settle_2 : decode cX0_settle 2 = .ok (.iconst 0, 1) := by decide +kernel
theorem dX0_settle_3 : decode cX0_settle 3 = .ok (.istore_n 2, 1) := by decide +kernel
theorem dX0_settle_4 : decode cX0_settle 4 = .ok (.iload_n 2, 1) := by decide +kernel
theorem dX0_settle_5 : decode cX0_settle 5 = .ok (.bipush 60, 2) := by decide +kernel
theorem dX0_settle_7 : decode cX0_settle 7 = .ok (.if_icmp .gt 51, 3) := by decide +kernel
theorem dX0_settle_10 : decode cX0_settle 10 = .ok (.aload_n 0, 1) := by decide +kernel
theorem dX0_settle_11 : decode cX0_settle 11 = .ok (.getfield 83, 3) := by decide +kernel
theorem dX0_settle_14 : decode cX0_settle 14 = .ok (.iload_n 1, 1) := by decide +kernel
theorem dX0_settle_15 : decode cX0_settle 15 = .ok (.if_icmp .le 43, 3) := by decide +kernel
theorem dX0_settle_18 : decode cX0_settle 18 = .ok (.aload_n 0, 1) := by decide +kernel
theorem dX0_settle_19 : decode cX0_settle 19 = .ok (.getfield 83, 3) := by decide +kernel
theorem dX0_settle_22 : decode cX0_settle 22 = .ok (.istore_n 1, 1) := by decide +kernel
theorem dX0_settle_23 : decode cX0_settle 23 = .ok (.iconst 0, 1) := by decide +kernel
theorem dX0_settle_24 : decode cX0_settle 24 = .ok (.istore_n 3, 1) := by decide +kernel
theorem dX0_settle_25 : decode cX0_settle 25 = .ok (.iload_n 3, 1) := by decide +kernel
theorem dX0_settle_26 : decode cX0_settle 26 = .ok (.aload_n 0, 1) := by decide +kernel
theorem dX0_settle_27 : decode cX0_settle 27 = .ok (.getfield 80, 3) := by decide +kernel
theorem dX0_settle_30 : decode cX0_settle 30 = .ok (.if_icmp .ge 22, 3) := by decide +kernel
theorem dX0_settle_33 : decode cX0_settle 33 = .ok (.aload_n 0, 1) := by decide +kernel
theorem dX0_settle_34 : decode cX0_settle 34 = .ok (.iload_n 3, 1) := by decide +kernel
theorem dX0_settle_35 : decode cX0_settle 35 = .ok (.invokevirtual 131, 3) := by decide +kernel
theorem dX0_settle_38 : decode cX0_settle 38 = .ok (.ifCond .eq 8, 3) := by decide +kernel
theorem dX0_settle_41 : decode cX0_settle 41 = .ok (.aload_n 0, 1) := by decide +kernel
theorem dX0_settle_42 : decode cX0_settle 42 = .ok (.iload_n 3, 1) := by decide +kernel
theorem dX0_settle_43 : decode cX0_settle 43 = .ok (.invokevirtual 142, 3) := by decide +kernel
theorem dX0_settle_46 : decode cX0_settle 46 = .ok (.iinc 3 1, 3) := by decide +kernel
theorem dX0_settle_49 : decode cX0_settle 49 = .ok (.goto (-24), 3) := by decide +kernel
theorem dX0_settle_52 : decode cX0_settle 52 = .ok (.iinc 2 1, 3) := by decide +kernel
theorem dX0_settle_55 : decode cX0_settle 55 = .ok (.goto (-51), 3) := by decide +kernel
theorem dX0_settle_58 : decode cX0_settle 58 = .ok (.return_, 1) := by decide +kernel
theorem dX0_slump_0 : decode cX0_slump 0 = .ok (.aload_n 0, 1) := by decide +kernel
theorem dX0_slump_1 : decode cX0_slump 1 = .ok (.getfield 29, 3) := by decide +kernel
theorem dX0_slump_4 : decode cX0_slump 4 = .ok (.iload_n 1, 1) := by decide +kernel
theorem dX0_slump_5 : decode cX0_slump 5 = .ok (.iconst 2, 1) := by decide +kernel
theorem dX0_slump_6 : decode cX0_slump 6 = .ok (.iastore, 1) := by decide +kernel
theorem dX0_slump_7 : decode cX0_slump 7 = .ok (.aload_n 0, 1) := by decide +kernel
theorem dX0_slump_8 : decode cX0_slump 8 = .ok (.getfield 33, 3) := by decide +kernel
theorem dX0_slump_11 : decode cX0_slump 11 = .ok (.iload_n 1, 1) := by decide +kernel
theorem dX0_slump_12 : decode cX0_slump 12 = .ok (.aload_n 0, 1) := by decide +kernel
theorem dX0_slump_13 : decode cX0_slump 13 = .ok (.getfield 80, 3) := by decide +kernel
theorem dX0_slump_16 : decode cX0_slump 16 = .ok (.iconst 1, 1) := by decide +kernel
theorem dX0_slump_17 : decode cX0_slump 17 = .ok (.isub, 1) := by decide +kernel
theorem dX0_slump_18 : decode cX0_slump 18 = .ok (.iastore, 1) := by decide +kernel
theorem dX0_slump_19 : decode cX0_slump 19 = .ok (.aload_n 0, 1) := by decide +kernel
theorem dX0_slump_20 : decode cX0_slump 20 = .ok (.dup, 1) := by decide +kernel
theorem dX0_slump_21 : decode cX0_slump 21 = .ok (.getfield 83, 3) := by decide +kernel
theorem dX0_slump_24 : decode cX0_slump 24 = .ok (.iconst 1, 1) := by decide +kernel
theorem dX0_slump_25 : decode cX0_slump 25 = .ok (.iadd, 1) := by decide +kernel
theorem dX0_slump_26 : decode cX0_slump 26 = .ok (.putfield 83, 3) := by decide +kernel
theorem dX0_slump_29 : decode cX0_slump 29 = .ok (.aload_n 0, 1) := by decide +kernel
theorem dX0_slump_30 : decode cX0_slump 30 = .ok (.getfield 39, 3) := by decide +kernel
theorem dX0_slump_33 : decode cX0_slump 33 = .ok (.aload_n 0, 1) := by decide +kernel
theorem dX0_slump_34 : decode cX0_slump 34 = .ok (.getfield 45, 3) := by decide +kernel
theorem dX0_slump_37 : decode cX0_slump 37 = .ok (.iload_n 1, 1) := by decide +kernel
theorem dX0_slump_38 : decode cX0_slump 38 = .ok (.iaload, 1) := by decide +kernel
theorem dX0_slump_39 : decode cX0_slump 39 = .ok (.dup2, 1) := by decide +kernel
theorem dX0_slump_40 : decode cX0_slump 40 = .ok (.iaload, 1) := by decide +kernel
theorem dX0_slump_41 : decode cX0_slump 41 = .ok (.iconst 1, 1) := by decide +kernel
theorem dX0_slump_42 : decode cX0_slump 42 = .ok (.iadd, 1) := by decide +kernel
theorem dX0_slump_43 : decode cX0_slump 43 = .ok (.iastore, 1) := by decide +kernel
theorem dX0_slump_44 : decode cX0_slump 44 = .ok (.aload_n 0, 1) := by decide +kernel
theorem dX0_slump_45 : decode cX0_slump 45 = .ok (.iload_n 1, 1) := by decide +kernel
theorem dX0_slump_46 : decode cX0_slump 46 = .ok (.iconst (-1), 1) := by decide +kernel
theorem dX0_slump_47 : decode cX0_slump 47 = .ok (.invokevirtual 127, 3) := by decide +kernel
theorem dX0_slump_50 : decode cX0_slump 50 = .ok (.return_, 1) := by decide +kernel
theorem dX0_gives_0 : decode cX0_gives 0 = .ok (.iload_n 1, 1) := by decide +kernel
theorem dX0_gives_1 : decode cX0_gives 1 = .ok (.aload_n 0, 1) := by decide +kernel
theorem dX0_gives_2 : decode cX0_gives 2 = .ok (.getfield 80, 3) := by decide +kernel
theorem dX0_gives_5 : decode cX0_gives 5 = .ok (.invokestatic 138, 3) := by decide +kernel
theorem dX0_gives_8 : decode cX0_gives 8 = .ok (.ifCond .eq 13, 3) := by decide +kernel
theorem dX0_gives_11 : decode cX0_gives 11 = .ok (.aload_n 0, 1) := by decide +kernel
theorem dX0_gives_12 : decode cX0_gives 12 = .ok (.getfield 29, 3) := by decide +kernel
theorem dX0_gives_15 : decode cX0_gives 15 = .ok (.iload_n 1, 1) := by decide +kernel
theorem dX0_gives_16 : decode cX0_gives 16 = .ok (.iaload, 1) := by decide +kernel
theorem dX0_gives_17 : decode cX0_gives 17 = .ok (.iconst 1, 1) := by decide +kernel
theorem dX0_gives_18 : decode cX0_gives 18 = .ok (.if_icmp .eq 5, 3) := by decide +kernel
theorem dX0_gives_21 : decode cX0_gives 21 = .ok (.iconst 0, 1) := by decide +kernel
theorem dX0_gives_22 : decode cX0_gives 22 = .ok (.ireturn, 1) := by decide +kernel
theorem dX0_gives_23 : decode cX0_gives 23 = .ok (.aload_n 0, 1) := by decide +kernel
theorem dX0_gives_24 : decode cX0_gives 24 = .ok (.getfield 48, 3) := by decide +kernel
theorem dX0_gives_27 : decode cX0_gives 27 = .ok (.iload_n 1, 1) := by decide +kernel
theorem dX0_gives_28 : decode cX0_gives 28 = .ok (.iaload, 1) := by decide +kernel
theorem dX0_gives_29 : decode cX0_gives 29 = .ok (.istore_n 2, 1) := by decide +kernel
theorem dX0_gives_30 : decode cX0_gives 30 = .ok (.aload_n 0, 1) := by decide +kernel
theorem dX0_gives_31 : decode cX0_gives 31 = .ok (.getfield 51, 3) := by decide +kernel
theorem dX0_gives_34 : decode cX0_gives 34 = .ok (.iload_n 1, 1) := by decide +kernel
theorem dX0_gives_35 : decode cX0_gives 35 = .ok (.iaload, 1) := by decide +kernel
theorem dX0_gives_36 : decode cX0_gives 36 = .ok (.istore_n 3, 1) := by decide +kernel
theorem dX0_gives_37 : decode cX0_gives 37 = .ok (.iload_n 2, 1) := by decide +kernel
theorem dX0_gives_38 : decode cX0_gives 38 = .ok (.ifCond .lt 15, 3) := by decide +kernel
theorem dX0_gives_41 : decode cX0_gives 41 = .ok (.aload_n 0, 1) := by decide +kernel
theorem dX0_gives_42 : decode cX0_gives 42 = .ok (.getfield 29, 3) := by decide +kernel
theorem dX0_gives_45 : decode cX0_gives 45 = .ok (.iload_n 2, 1) := by decide +kernel
theorem dX0_gives_46 : decode cX0_gives 46 = .ok (.iaload, 1) := by decide +kernel
theorem dX0_gives_47 : decode cX0_gives 47 = .ok (.iconst 2, 1) := by decide +kernel
theorem dX0_gives_48 : decode cX0_gives 48 = .ok (.if_icmp .ne 5, 3) := by decide +kernel
theorem dX0_gives_51 : decode cX0_gives 51 = .ok (.iconst 1, 1) := by decide +kernel
theorem dX0_gives_52 : decode cX0_gives 52 = .ok (.ireturn, 1) := by decide +kernel
theorem dX0_gives_53 : decode cX0_gives 53 = .ok (.iload_n 3, 1) := by decide +kernel
theorem dX0_gives_54 : decode cX0_gives 54 = .ok (.ifCond .lt 15, 3) := by decide +kernel
theorem dX0_gives_57 : decode cX0_gives 57 = .ok (.aload_n 0, 1) := by decide +kernel
theorem dX0_gives_58 : decode cX0_gives 58 = .ok (.getfield 29, 3) := by decide +kernel
theorem dX0_gives_61 : decode cX0_gives 61 = .ok (.iload_n 3, 1) := by decide +kernel
theorem dX0_gives_62 : decode cX0_gives 62 = .ok (.iaload, 1) := by decide +kernel
theorem dX0_gives_63 : decode cX0_gives 63 = .ok (.iconst 2, 1) := by decide +kernel
theorem dX0_gives_64 : decode cX0_gives 64 = .ok (.if_icmp .ne 5, 3) := by decide +kernel
theorem dX0_gives_67 : decode cX0_gives 67 = .ok (.iconst 1, 1) := by decide +kernel
theorem dX0_gives_68 : decode cX0_gives 68 = .ok (.ireturn, 1) := by decide +kernel
theorem dX0_gives_69 : decode cX0_gives 69 = .ok (.aload_n 0, 1) := by decide +kernel
theorem dX0_gives_70 : decode cX0_gives 70 = .ok (.iload_n 1, 1) := by decide +kernel
theorem dX0_gives_71 : decode cX0_gives 71 = .ok (.invokevirtual 145, 3) := by decide +kernel
theorem dX0_gives_74 : decode cX0_gives 74 = .ok (.aload_n 0, 1) := by decide +kernel
theorem dX0_gives_75 : decode cX0_gives 75 = .ok (.iload_n 1, 1) := by decide +kernel
theorem dX0_gives_76 : decode cX0_gives 76 = .ok (.invokevirtual 149, 3) := by decide +kernel
theorem dX0_gives_79 : decode cX0_gives 79 = .ok (.if_icmp .le 7, 3) := by decide +kernel
theorem dX0_gives_82 : decode cX0_gives 82 = .ok (.iconst 1, 1) := by decide +kernel
theorem dX0_gives_83 : decode cX0_gives 83 = .ok (.goto 4, 3) := by decide +kernel
theorem dX0_gives_86 : decode cX0_gives 86 = .ok (.iconst 0, 1) := by decide +kernel
theorem dX0_gives_87 : decode cX0_gives 87 = .ok (.ireturn, 1) := by decide +kernel
theorem dX0_pullOf_0 : decode cX0_pullOf 0 = .ok (.aload_n 0, 1) := by decide +kernel
theorem dX0_pullOf_1 : decode cX0_pullOf 1 = .ok (.getfield 21, 3) := by decide +kernel
theorem dX0_pullOf_4 : decode cX0_pullOf 4 = .ok (.getfield 152, 3) := by decide +kernel
theorem dX0_pullOf_7 : decode cX0_pullOf 7 = .ok (.aload_n 0, 1) := by decide +kernel
theorem dX0_pullOf_8 : decode cX0_pullOf 8 = .ok (.getfield 45, 3) := by decide +kernel
theorem dX0_pullOf_11 : decode cX0_pullOf 11 = .ok (.iload_n 1, 1) := by decide +kernel
theorem dX0_pullOf_12 : decode cX0_pullOf 12 = .ok (.iaload, 1) := by decide +kernel
theorem dX0_pullOf_13 : decode cX0_pullOf 13 = .ok (.iaload, 1) := by decide +kernel
theorem dX0_pullOf_14 : decode cX0_pullOf 14 = .ok (.aload_n 0, 1) := by decide +kernel
theorem dX0_pullOf_15 : decode cX0_pullOf 15 = .ok (.getfield 12, 3) := by decide +kernel
theorem dX0_pullOf_18 : decode cX0_pullOf 18 = .ok (.getfield 155, 3) := by decide +kernel
theorem dX0_pullOf_21 : decode cX0_pullOf 21 = .ok (.iconst 3, 1) := by decide +kernel
theorem dX0_pullOf_22 : decode cX0_pullOf 22 = .ok (.iaload, 1) := by decide +kernel
theorem dX0_pullOf_23 : decode cX0_pullOf 23 = .ok (.imul, 1) := by decide +kernel
theorem dX0_pullOf_24 : decode cX0_pullOf 24 = .ok (.iconst 2, 1) := by decide +kernel
theorem dX0_pullOf_25 : decode cX0_pullOf 25 = .ok (.idiv, 1) := by decide +kernel
theorem dX0_pullOf_26 : decode cX0_pullOf 26 = .ok (.istore_n 2, 1) := by decide +kernel
theorem dX0_pullOf_27 : decode cX0_pullOf 27 = .ok (.aload_n 0, 1) := by decide +kernel
theorem dX0_pullOf_28 : decode cX0_pullOf 28 = .ok (.getfield 25, 3) := by decide +kernel
theorem dX0_pullOf_31 : decode cX0_pullOf 31 = .ok (.ifCond .lt 33, 3) := by decide +kernel
theorem dX0_pullOf_34 : decode cX0_pullOf 34 = .ok (.aload_n 0, 1) := by decide +kernel
theorem dX0_pullOf_35 : decode cX0_pullOf 35 = .ok (.getfield 48, 3) := by decide +kernel
theorem dX0_pullOf_38 : decode cX0_pullOf 38 = .ok (.iload_n 1, 1) := by decide +kernel
theorem dX0_pullOf_39 : decode cX0_pullOf 39 = .ok (.iaload, 1) := by decide +kernel
theorem dX0_pullOf_40 : decode cX0_pullOf 40 = .ok (.aload_n 0, 1) := by decide +kernel
theorem dX0_pullOf_41 : decode cX0_pullOf 41 = .ok (.getfield 25, 3) := by decide +kernel
theorem dX0_pullOf_44 : decode cX0_pullOf 44 = .ok (.if_icmp .eq 16, 3) := by decide +kernel
theorem dX0_pullOf_47 : decode cX0_pullOf 47 = .ok (.aload_n 0, 1) := by decide +kernel
theorem dX0_pullOf_48 : decode cX0_pullOf 48 = .ok (.getfield 51, 3) := by decide +kernel
theorem dX0_pullOf_51 : decode cX0_pullOf 51 = .ok (.iload_n 1, 1) := by decide +kernel
theorem dX0_pullOf_52 : decode cX0_pullOf 52 = .ok (.iaload, 1) := by decide +kernel
theorem dX0_pullOf_53 : decode cX0_pullOf 53 = .ok (.aload_n 0, 1) := by decide +kernel
theorem dX0_pullOf_54 : decode cX0_pullOf 54 = .ok (.getfield 25, 3) := by decide +kernel
theorem dX0_pullOf_57 : decode cX0_pullOf 57 = .ok (.if_icmp .ne 7, 3) := by decide +kernel
theorem dX0_pullOf_60 : decode cX0_pullOf 60 = .ok (.iconst 1, 1) := by decide +kernel
theorem dX0_pullOf_61 : decode cX0_pullOf 61 = .ok (.goto 4, 3) := by decide +kernel
theorem dX0_pullOf_64 : decode cX0_pullOf 64 = .ok (.iconst 0, 1) := by decide +kernel
theorem dX0_pullOf_65 : decode cX0_pullOf 65 = .ok (.istore_n 3, 1) := by decide +kernel
theorem dX0_pullOf_66 : decode cX0_pullOf 66 = .ok (.iload_n 2, 1) := by decide +kernel
theorem dX0_pullOf_67 : decode cX0_pullOf 67 = .ok (.aload_n 0, 1) := by decide +kernel
theorem dX0_pullOf_68 : decode cX0_pullOf 68 = .ok (.getfield 36, 3) := by decide +kernel
theorem dX0_pullOf_71 : decode cX0_pullOf 71 = .ok (.iload_n 1, 1) := by decide +kernel
theorem dX0_pullOf_72 : decode cX0_pullOf 72 = .ok (.iaload, 1) := by decide +kernel
theorem dX0_pullOf_73 : decode cX0_pullOf 73 = .ok (.iadd, 1) := by decide +kernel
theorem dX0_pullOf_74 : decode cX0_pullOf 74 = .ok (.iload_n 3, 1) := by decide +kernel
theorem dX0_pullOf_75 : decode cX0_pullOf 75 = .ok (.ifCond .eq 7, 3) := by decide +kernel
theorem dX0_pullOf_78 : decode cX0_pullOf 78 = .ok (.iconst 2, 1) := by decide +kernel
theorem dX0_pullOf_79 : decode cX0_pullOf 79 = .ok (.goto 4, 3) := by decide +kernel
theorem dX0_pullOf_82 : decode cX0_pullOf 82 = .ok (.iconst 0, 1) := by decide +kernel
theorem dX0_pullOf_83 : decode cX0_pullOf 83 = .ok (.iadd, 1) := by decide +kernel
theorem dX0_pullOf_84 : decode cX0_pullOf 84 = .ok (.ireturn, 1) := by decide +kernel
theorem dX0_holdOf_0 : decode cX0_holdOf 0 = .ok (.aload_n 0, 1) := by decide +kernel
theorem dX0_holdOf_1 : decode cX0_holdOf 1 = .ok (.getfield 45, 3) := by decide +kernel
theorem dX0_holdOf_4 : decode cX0_holdOf 4 = .ok (.iload_n 1, 1) := by decide +kernel
theorem dX0_holdOf_5 : decode cX0_holdOf 5 = .ok (.iaload, 1) := by decide +kernel
theorem dX0_holdOf_6 : decode cX0_holdOf 6 = .ok (.istore_n 2, 1) := by decide +kernel
theorem dX0_holdOf_7 : decode cX0_holdOf 7 = .ok (.aload_n 0, 1) := by decide +kernel
theorem dX0_holdOf_8 : decode cX0_holdOf 8 = .ok (.getfield 21, 3) := by decide +kernel
theorem dX0_holdOf_11 : decode cX0_holdOf 11 = .ok (.getfield 158, 3) := by decide +kernel
theorem dX0_holdOf_14 : decode cX0_holdOf 14 = .ok (.aload_n 0, 1) := by decide +kernel
theorem dX0_holdOf_15 : decode cX0_holdOf 15 = .ok (.getfield 80, 3) := by decide +kernel
theorem dX0_holdOf_18 : decode cX0_holdOf 18 = .ok (.iconst 1, 1) := by decide +kernel
theorem dX0_holdOf_19 : decode cX0_holdOf 19 = .ok (.isub, 1) := by decide +kernel
theorem dX0_holdOf_20 : decode cX0_holdOf 20 = .ok (.iload_n 1, 1) := by decide +kernel
theorem dX0_holdOf_21 : decode cX0_holdOf 21 = .ok (.isub, 1) := by decide +kernel
theorem dX0_holdOf_22 : decode cX0_holdOf 22 = .ok (.imul, 1) := by decide +kernel
theorem dX0_holdOf_23 : decode cX0_holdOf 23 = .ok (.istore_n 3, 1) := by decide +kernel
theorem dX0_holdOf_24 : decode cX0_holdOf 24 = .ok (.iload_n 3, 1) := by decide +kernel
theorem dX0_holdOf_25 : decode cX0_holdOf 25 = .ok (.aload_n 0, 1) := by decide +kernel
theorem dX0_holdOf_26 : decode cX0_holdOf 26 = .ok (.getfield 12, 3) := by decide +kernel
theorem dX0_holdOf_29 : decode cX0_holdOf 29 = .ok (.getfield 155, 3) := by decide +kernel
theorem dX0_holdOf_32 : decode cX0_holdOf 32 = .ok (.iconst 2, 1) := by decide +kernel
theorem dX0_holdOf_33 : decode cX0_holdOf 33 = .ok (.iaload, 1) := by decide +kernel
theorem dX0_holdOf_34 : decode cX0_holdOf 34 = .ok (.imul, 1) := by decide +kernel
theorem dX0_holdOf_35 : decode cX0_holdOf 35 = .ok (.bipush 20, 2) := by decide +kernel
theorem dX0_holdOf_37 : decode cX0_holdOf 37 = .ok (.idiv, 1) := by decide +kernel
theorem dX0_holdOf_38 : decode cX0_holdOf 38 = .ok (.istore 4, 2) := by decide +kernel
theorem dX0_holdOf_40 : decode cX0_holdOf 40 = .ok (.aload_n 0, 1) := by decide +kernel
theorem dX0_holdOf_41 : decode cX0_holdOf 41 = .ok (.getfield 12, 3) := by decide +kernel
theorem dX0_holdOf_44 : decode cX0_holdOf 44 = .ok (.getfield 155, 3) := by decide +kernel
theorem dX0_holdOf_47 : decode cX0_holdOf 47 = .ok (.iconst 1, 1) := by decide +kernel
theorem dX0_holdOf_48 : decode cX0_holdOf 48 = .ok (.iaload, 1) := by decide +kernel
theorem dX0_holdOf_49 : decode cX0_holdOf 49 = .ok (.iload 4, 2) := by decide +kernel
theorem dX0_holdOf_51 : decode cX0_holdOf 51 = .ok (.aload_n 0, 1) := by decide +kernel
theorem dX0_holdOf_52 : decode cX0_holdOf 52 = .ok (.getfield 12, 3) := by decide +kernel
theorem dX0_holdOf_55 : decode cX0_holdOf 55 = .ok (.getfield 155, 3) := by decide +kernel
theorem dX0_holdOf_58 : decode cX0_holdOf 58 = .ok (.iconst 0, 1) := by decide +kernel
theorem dX0_holdOf_59 : decode cX0_holdOf 59 = .ok (.iaload, 1) := by decide +kernel
theorem dX0_holdOf_60 : decode cX0_holdOf 60 = .ok (.if_icmp .ge 8, 3) := by decide +kernel
theorem dX0_holdOf_63 : decode cX0_holdOf 63 = .ok (.iload 4, 2) := by decide +kernel
theorem dX0_holdOf_65 : decode cX0_holdOf 65 = .ok (.goto 12, 3) := by decide +kernel
theorem dX0_holdOf_68 : decode cX0_holdOf 68 = .ok (.aload_n 0, 1) := by decide +kernel
theorem dX0_holdOf_69 : decode cX0_holdOf 69 = .ok (.getfield 12, 3) := by decide +kernel
theorem dX0_holdOf_72 : decode cX0_holdOf 72 = .ok (.getfield 155, 3) := by decide +kernel
theorem dX0_holdOf_75 : decode cX0_holdOf 75 = .ok (.iconst 0, 1) := by decide +kernel
theorem dX0_holdOf_76 : decode cX0_holdOf 76 = .ok (.iaload, 1) := by decide +kernel
theorem dX0_holdOf_77 : decode cX0_holdOf 77 = .ok (.iadd, 1) := by decide +kernel
theorem dX0_holdOf_78 : decode cX0_holdOf 78 = .ok (.istore 5, 2) := by decide +kernel
theorem dX0_holdOf_80 : decode cX0_holdOf 80 = .ok (.aload_n 0, 1) := by decide +kernel
theorem dX0_holdOf_81 : decode cX0_holdOf 81 = .ok (.getfield 54, 3) := by decide +kernel
theorem dX0_holdOf_84 : decode cX0_holdOf 84 = .ok (.iload_n 1, 1) := by decide +kernel
theorem dX0_holdOf_85 : decode cX0_holdOf 85 = .ok (.iaload, 1) := by decide +kernel
theorem dX0_holdOf_86 : decode cX0_holdOf 86 = .ok (.istore 6, 2) := by decide +kernel
theorem dX0_holdOf_88 : decode cX0_holdOf 88 = .ok (.aload_n 0, 1) := by decide +kernel
theorem dX0_holdOf_89 : decode cX0_holdOf 89 = .ok (.getfield 57, 3) := by decide +kernel
theorem dX0_holdOf_92 : decode cX0_holdOf 92 = .ok (.iload_n 1, 1) := by decide +kernel
theorem dX0_holdOf_93 : decode cX0_holdOf 93 = .ok (.iaload, 1) := by decide +kernel
theorem dX0_holdOf_94 : decode cX0_holdOf 94 = .ok (.istore 7, 2) := by decide +kernel
theorem dX0_holdOf_96 : decode cX0_holdOf 96 = .ok (.iload 6, 2) := by decide +kernel
theorem dX0_holdOf_98 : decode cX0_holdOf 98 = .ok (.ifCond .lt 17, 3) := by decide +kernel
theorem dX0_holdOf_101 : decode cX0_holdOf 101 = .ok (.aload_n 0, 1) := by decide +kernel
theorem dX0_holdOf_102 : decode cX0_holdOf 102 = .ok (.getfield 29, 3) := by decide +kernel
theorem dX0_holdOf_105 : decode cX0_holdOf 105 = .ok (.iload 6, 2) := by decide +kernel
theorem dX0_holdOf_107 : decode cX0_holdOf 107 = .ok (.iaload, 1) := by decide +kernel
theorem dX0_holdOf_108 : decode cX0_holdOf 108 = .ok (.iconst 1, 1) := by decide +kernel
theorem dX0_holdOf_109 : decode cX0_holdOf 109 = .ok (.if_icmp .ne 6, 3) := by decide +kernel
theorem dX0_holdOf_112 : decode cX0_holdOf 112 = .ok (.iinc 5 2, 3) := by decide +kernel
theorem dX0_holdOf_115 : decode cX0_holdOf 115 = .ok (.iload 7, 2) := by decide +kernel
theorem dX0_holdOf_117 : decode cX0_holdOf 117 = .ok (.ifCond .lt 17, 3) := by decide +kernel
theorem dX0_holdOf_120 : decode cX0_holdOf 120 = .ok (.aload_n 0, 1) := by decide +kernel
theorem dX0_holdOf_121 : decode cX0_holdOf 121 = .ok (.getfield 29, 3) := by decide +kernel
theorem dX0_holdOf_124 : decode cX0_holdOf 124 = .ok (.iload 7, 2) := by decide +kernel
theorem dX0_holdOf_126 : decode cX0_holdOf 126 = .ok (.iaload, 1) := by decide +kernel
theorem dX0_holdOf_127 : decode cX0_holdOf 127 = .ok (.iconst 1, 1) := by decide +kernel
theorem dX0_holdOf_128 : decode cX0_holdOf 128 = .ok (.if_icmp .ne 6, 3) := by decide +kernel
theorem dX0_holdOf_131 : decode cX0_holdOf 131 = .ok (.iinc 5 2, 3) := by decide +kernel
theorem dX0_holdOf_134 : decode cX0_holdOf 134 = .ok (.aload_n 0, 1) := by decide +kernel
theorem dX0_holdOf_135 : decode cX0_holdOf 135 = .ok (.getfield 29, 3) := by decide +kernel
theorem dX0_holdOf_138 : decode cX0_holdOf 138 = .ok (.iload_n 1, 1) := by decide +kernel
theorem dX0_holdOf_139 : decode cX0_holdOf 139 = .ok (.iaload, 1) := by decide +kernel
theorem dX0_holdOf_140 : decode cX0_holdOf 140 = .ok (.iconst 1, 1) := by decide +kernel
theorem dX0_holdOf_141 : decode cX0_holdOf 141 = .ok (.if_icmp .ne 7, 3) := by decide +kernel
theorem dX0_holdOf_144 : decode cX0_holdOf 144 = .ok (.iconst 0, 1) := by decide +kernel
theorem dX0_holdOf_145 : decode cX0_holdOf 145 = .ok (.goto 4, 3) := by decide +kernel
theorem dX0_holdOf_148 : decode cX0_holdOf 148 = .ok (.iconst 1, 1) := by decide +kernel
theorem dX0_holdOf_149 : decode cX0_holdOf 149 = .ok (.istore 8, 2) := by decide +kernel
theorem dX0_holdOf_151 : decode cX0_holdOf 151 = .ok (.aload_n 0, 1) := by decide +kernel
theorem dX0_holdOf_152 : decode cX0_holdOf 152 = .ok (.getfield 42, 3) := by decide +kernel
theorem dX0_holdOf_155 : decode cX0_holdOf 155 = .ok (.iload_n 2, 1) := by decide +kernel
theorem dX0_holdOf_156 : decode cX0_holdOf 156 = .ok (.iaload, 1) := by decide +kernel
theorem dX0_holdOf_157 : decode cX0_holdOf 157 = .ok (.aload_n 0, 1) := by decide +kernel
theorem dX0_holdOf_158 : decode cX0_holdOf 158 = .ok (.getfield 21, 3) := by decide +kernel
theorem dX0_holdOf_161 : decode cX0_holdOf 161 = .ok (.getfield 101, 3) := by decide +kernel
theorem dX0_holdOf_164 : decode cX0_holdOf 164 = .ok (.iload_n 2, 1) := by decide +kernel
theorem dX0_holdOf_165 : decode cX0_holdOf 165 = .ok (.iaload, 1) := by decide +kernel
theorem dX0_holdOf_166 : decode cX0_holdOf 166 = .ok (.iadd, 1) := by decide +kernel
theorem dX0_holdOf_167 : decode cX0_holdOf 167 = .ok (.aload_n 0, 1) := by decide +kernel
theorem dX0_holdOf_168 : decode cX0_holdOf 168 = .ok (.getfield 80, 3) := by decide +kernel
theorem dX0_holdOf_171 : decode cX0_holdOf 171 = .ok (.if_icmp .gt 17, 3) := by decide +kernel
theorem dX0_holdOf_174 : decode cX0_holdOf 174 = .ok (.aload_n 0, 1) := by decide +kernel
theorem dX0_holdOf_175 : decode cX0_holdOf 175 = .ok (.getfield 39, 3) := by decide +kernel
theorem dX0_holdOf_178 : decode cX0_holdOf 178 = .ok (.iload_n 2, 1) := by decide +kernel
theorem dX0_holdOf_179 : decode cX0_holdOf 179 = .ok (.iaload, 1) := by decide +kernel
theorem dX0_holdOf_180 : decode cX0_holdOf 180 = .ok (.iload 8, 2) := by decide +kernel
theorem dX0_holdOf_182 : decode cX0_holdOf 182 = .ok (.if_icmp .ne 6, 3) := by decide +kernel
theorem dX0_holdOf_185 : decode cX0_holdOf 185 = .ok (.iinc 5 3, 3) := by decide +kernel
theorem dX0_holdOf_188 : decode cX0_holdOf 188 = .ok (.aload_n 0, 1) := by decide +kernel
theorem dX0_holdOf_189 : decode cX0_holdOf 189 = .ok (.getfield 71, 3) := by decide +kernel
theorem dX0_holdOf_192 : decode cX0_holdOf 192 = .ok (.iconst 2, 1) := by decide +kernel
theorem dX0_holdOf_193 : decode cX0_holdOf 193 = .ok (.if_icmp .ne 16, 3) := by decide +kernel
theorem dX0_holdOf_196 : decode cX0_holdOf 196 = .ok (.iload_n 1, 1) := by decide +kernel
theorem dX0_holdOf_197 : decode cX0_holdOf 197 = .ok (.aload_n 0, 1) := by decide +kernel
theorem dX0_holdOf_198 : decode cX0_holdOf 198 = .ok (.getfield 80, 3) := by decide +kernel
theorem dX0_holdOf_201 : decode cX0_holdOf 201 = .ok (.iconst 1, 1) := by decide +kernel
theorem dX0_holdOf_202 : decode cX0_holdOf 202 = .ok (.isub, 1) := by decide +kernel
theorem dX0_holdOf_203 : decode cX0_holdOf 203 = .ok (.if_icmp .eq 6, 3) := by decide +kernel
theorem dX0_holdOf_206 : decode cX0_holdOf 206 = .ok (.iinc 5 1, 3) := by decide +kernel
theorem dX0_holdOf_209 : decode cX0_holdOf 209 = .ok (.iload 5, 2) := by decide +kernel
theorem dX0_holdOf_211 : decode cX0_holdOf 211 = .ok (.ireturn, 1) := by decide +kernel
theorem dX0_firstFallen_0 : decode cX0_firstFallen 0 = .ok (.bipush (-9), 2) := by decide +kernel
theorem dX0_firstFallen_2 : decode cX0_firstFallen 2 = .ok (.istore_n 1, 1) := by decide +kernel
theorem dX0_firstFallen_3 : decode cX0_firstFallen 3 = .ok (.iconst 0, 1) := by decide +kernel
theorem dX0_firstFallen_4 : decode cX0_firstFallen 4 = .ok (.istore_n 2, 1) := by decide +kernel
theorem dX0_firstFallen_5 : decode cX0_firstFallen 5 = .ok (.iload_n 2, 1) := by decide +kernel
theorem dX0_firstFallen_6 : decode cX0_firstFallen 6 = .ok (.aload_n 0, 1) := by decide +kernel
theorem dX0_firstFallen_7 : decode cX0_firstFallen 7 = .ok (.getfield 80, 3) := by decide +kernel
theorem dX0_firstFallen_10 : decode cX0_firstFallen 10 = .ok (.if_icmp .ge 43, 3) := by decide +kernel
theorem dX0_firstFallen_13 : decode cX0_firstFallen 13 = .ok (.aload_n 0, 1) := by decide +kernel
theorem dX0_firstFallen_14 : decode cX0_firstFallen 14 = .ok (.getfield 29, 3) := by decide +kernel
theorem dX0_firstFallen_17 : decode cX0_firstFallen 17 = .ok (.iload_n 2, 1) := by decide +kernel
theorem dX0_firstFallen_18 : decode cX0_firstFallen 18 = .ok (.iaload, 1) := by decide +kernel
theorem dX0_firstFallen_19 : decode cX0_firstFallen 19 = .ok (.iconst 2, 1) := by decide +kernel
theorem dX0_firstFallen_20 : decode cX0_firstFallen 20 = .ok (.if_icmp .eq 6, 3) := by decide +kernel
theorem dX0_firstFallen_23 : decode cX0_firstFallen 23 = .ok (.goto 24, 3) := by decide +kernel
theorem dX0_firstFallen_26 : decode cX0_firstFallen 26 = .ok (.iload_n 1, 1) := by decide +kernel
theorem dX0_firstFallen_27 : decode cX0_firstFallen 27 = .ok (.ifCond .lt 18, 3) := by decide +kernel
theorem dX0_firstFallen_30 : decode cX0_firstFallen 30 = .ok (.aload_n 0, 1) := by decide +kernel
theorem dX0_firstFallen_31 : decode cX0_firstFallen 31 = .ok (.getfield 33, 3) := by decide +kernel
theorem dX0_firstFallen_34 : decode cX0_firstFallen 34 = .ok (.iload_n 2, 1) := by decide +kernel
theorem dX0_firstFallen_35 : decode cX0_firstFallen 35 = .ok (.iaload, 1) := by decide +kernel
theorem dX0_firstFallen_36 : decode cX0_firstFallen 36 = .ok (.aload_n 0, 1) := by decide +kernel
theorem dX0_firstFallen_37 : decode cX0_firstFallen 37 = .ok (.getfield 33, 3) := by decide +kernel
theorem dX0_firstFallen_40 : decode cX0_firstFallen 40 = .ok (.iload_n 1, 1) := by decide +kernel
theorem dX0_firstFallen_41 : decode cX0_firstFallen 41 = .ok (.iaload, 1) := by decide +kernel
theorem dX0_firstFallen_42 : decode cX0_firstFallen 42 = .ok (.if_icmp .ge 5, 3) := by decide +kernel
theorem dX0_firstFallen_45 : decode cX0_firstFallen 45 = .ok (.iload_n 2, 1) := by decide +kernel
theorem dX0_firstFallen_46 : decode cX0_firstFallen 46 = .ok (.istore_n 1, 1) := by decide +kernel
theorem dX0_firstFallen_47 : decode cX0_firstFallen 47 = .ok (.iinc 2 1, 3) := by decide +kernel
theorem dX0_firstFallen_50 : decode cX0_firstFallen 50 = .ok (.goto (-45), 3) := by decide +kernel
theorem dX0_firstFallen_53 : decode cX0_firstFallen 53 = .ok (.iload_n 1, 1) := by decide +kernel
theorem dX0_firstFallen_54 : decode cX0_firstFallen 54 = .ok (.ireturn, 1) := by decide +kernel
theorem dX0_fellAs_0 : decode cX0_fellAs 0 = .ok (.aload_n 0, 1) := by decide +kernel
theorem dX0_fellAs_1 : decode cX0_fellAs 1 = .ok (.getfield 80, 3) := by decide +kernel
theorem dX0_fellAs_4 : decode cX0_fellAs 4 = .ok (.aload_n 1, 1) := by decide +kernel
theorem dX0_fellAs_5 : decode cX0_fellAs 5 = .ok (.arraylength, 1) := by decide +kernel
theorem dX0_fellAs_6 : decode cX0_fellAs 6 = .ok (.if_icmp .le 5, 3) := by decide +kernel
theorem dX0_fellAs_9 : decode cX0_fellAs 9 = .ok (.iconst 0, 1) := by decide +kernel
theorem dX0_fellAs_10 : decode cX0_fellAs 10 = .ok (.ireturn, 1) := by decide +kernel
theorem dX0_fellAs_11 : decode cX0_fellAs 11 = .ok (.iconst 0, 1) := by decide +kernel
theorem dX0_fellAs_12 : decode cX0_fellAs 12 = .ok (.istore_n 2, 1) := by decide +kernel
theorem dX0_fellAs_13 : decode cX0_fellAs 13 = .ok (.iload_n 2, 1) := by decide +kernel
theorem dX0_fellAs_14 : decode cX0_fellAs 14 = .ok (.aload_n 0, 1) := by decide +kernel
theorem dX0_fellAs_15 : decode cX0_fellAs 15 = .ok (.getfield 80, 3) := by decide +kernel
theorem dX0_fellAs_18 : decode cX0_fellAs 18 = .ok (.if_icmp .ge 41, 3) := by decide +kernel
theorem dX0_fellAs_21 : decode cX0_fellAs 21 = .ok (.aload_n 0, 1) := by decide +kernel
theorem dX0_fellAs_22 : decode cX0_fellAs 22 = .ok (.getfield 29, 3) := by decide +kernel
theorem dX0_fellAs_25 : decode cX0_fellAs 25 = .ok (.iload_n 2, 1) := by decide +kernel
theorem dX0_fellAs_26 : decode cX0_fellAs 26 = .ok (.iaload, 1) := by decide +kernel
theorem dX0_fellAs_27 : decode cX0_fellAs 27 = .ok (.iconst 2, 1) := by decide +kernel
theorem dX0_fellAs_28 : decode cX0_fellAs 28 = .ok (.if_icmp .ne 7, 3) := by decide +kernel
theorem dX0_fellAs_31 : decode cX0_fellAs 31 = .ok (.iconst 1, 1) := by decide +kernel
theorem dX0_fellAs_32 : decode cX0_fellAs 32 = .ok (.goto 4, 3) := by decide +kernel
theorem dX0_fellAs_35 : decode cX0_fellAs 35 = .ok (.iconst 0, 1) := by decide +kernel
theorem dX0_fellAs_36 : decode cX0_fellAs 36 = .ok (.aload_n 1, 1) := by decide +kernel
theorem dX0_fellAs_37 : decode cX0_fellAs 37 = .ok (.iload_n 2, 1) := by decide +kernel
theorem dX0_fellAs_38 : decode cX0_fellAs 38 = .ok (.iaload, 1) := by decide +kernel
theorem dX0_fellAs_39 : decode cX0_fellAs 39 = .ok (.iconst 1, 1) := by decide +kernel
theorem dX0_fellAs_40 : decode cX0_fellAs 40 = .ok (.if_icmp .ne 7, 3) := by decide +kernel
theorem dX0_fellAs_43 : decode cX0_fellAs 43 = .ok (.iconst 1, 1) := by decide +kernel
theorem dX0_fellAs_44 : decode cX0_fellAs 44 = .ok (.goto 4, 3) := by decide +kernel
theorem dX0_fellAs_47 : decode cX0_fellAs 47 = .ok (.iconst 0, 1) := by decide +kernel
theorem dX0_fellAs_48 : decode cX0_fellAs 48 = .ok (.if_icmp .eq 5, 3) := by decide +kernel
theorem dX0_fellAs_51 : decode cX0_fellAs 51 = .ok (.iconst 0, 1) := by decide +kernel
theorem dX0_fellAs_52 : decode cX0_fellAs 52 = .ok (.ireturn, 1) := by decide +kernel
theorem dX0_fellAs_53 : decode cX0_fellAs 53 = .ok (.iinc 2 1, 3) := by decide +kernel
theorem dX0_fellAs_56 : decode cX0_fellAs 56 = .ok (.goto (-43), 3) := by decide +kernel
theorem dX0_fellAs_59 : decode cX0_fellAs 59 = .ok (.iconst 1, 1) := by decide +kernel
theorem dX0_fellAs_60 : decode cX0_fellAs 60 = .ok (.ireturn, 1) := by decide +kernel
theorem dX0_standingFirsts_0 : decode cX0_standingFirsts 0 = .ok (.iconst 0, 1) := by decide +kernel
theorem dX0_standingFirsts_1 : decode cX0_standingFirsts 1 = .ok (.istore_n 1, 1) := by decide +kernel
theorem dX0_standingFirsts_2 : decode cX0_standingFirsts 2 = .ok (.iconst 0, 1) := by decide +kernel
theorem dX0_standingFirsts_3 : decode cX0_standingFirsts 3 = .ok (.istore_n 2, 1) := by decide +kernel
theorem dX0_standingFirsts_4 : decode cX0_standingFirsts 4 = .ok (.iload_n 2, 1) := by decide +kernel
theorem dX0_standingFirsts_5 : decode cX0_standingFirsts 5 = .ok (.aload_n 0, 1) := by decide +kernel
theorem dX0_standingFirsts_6 : decode cX0_standingFirsts 6 = .ok (.getfield 80, 3) := by decide +kernel
theorem dX0_standingFirsts_9 : decode cX0_standingFirsts 9 = .ok (.if_icmp .ge 35, 3) := by decide +kernel
theorem dX0_standingFirsts_12 : decode cX0_standingFirsts 12 = .ok (.iload_n 2, 1) := by decide +kernel
theorem dX0_standingFirsts_13 : decode cX0_standingFirsts 13 = .ok (.aload_n 0, 1) := by decide +kernel
theorem dX0_standingFirsts_14 : decode cX0_standingFirsts 14 = .ok (.getfield 21, 3) := by decide +kernel
theorem dX0_standingFirsts_17 : decode cX0_standingFirsts 17 = .ok (.getfield 101, 3) := by decide +kernel
theorem dX0_standingFirsts_20 : decode cX0_standingFirsts 20 = .ok (.iconst 0, 1) := by decide +kernel
theorem dX0_standingFirsts_21 : decode cX0_standingFirsts 21 = .ok (.iaload, 1) := by decide +kernel
theorem dX0_standingFirsts_22 : decode cX0_standingFirsts 22 = .ok (.if_icmp .ge 22, 3) := by decide +kernel
theorem dX0_standingFirsts_25 : decode cX0_standingFirsts 25 = .ok (.aload_n 0, 1) := by decide +kernel
theorem dX0_standingFirsts_26 : decode cX0_standingFirsts 26 = .ok (.getfield 29, 3) := by decide +kernel
theorem dX0_standingFirsts_29 : decode cX0_standingFirsts 29 = .ok (.iload_n 2, 1) := by decide +kernel
theorem dX0_standingFirsts_30 : decode cX0_standingFirsts 30 = .ok (.iaload, 1) := by decide +kernel
theorem dX0_standingFirsts_31 : decode cX0_standingFirsts 31 = .ok (.iconst 2, 1) := by decide +kernel
theorem dX0_standingFirsts_32 : decode cX0_standingFirsts 32 = .ok (.if_icmp .eq 6, 3) := by decide +kernel
theorem dX0_standingFirsts_35 : decode cX0_standingFirsts 35 = .ok (.iinc 1 1, 3) := by decide +kernel
theorem dX0_standingFirsts_38 : decode cX0_standingFirsts 38 = .ok (.iinc 2 1, 3) := by decide +kernel
theorem dX0_standingFirsts_41 : decode cX0_standingFirsts 41 = .ok (.goto (-37), 3) := by decide +kernel
theorem dX0_standingFirsts_44 : decode cX0_standingFirsts 44 = .ok (.iload_n 1, 1) := by decide +kernel
theorem dX0_standingFirsts_45 : decode cX0_standingFirsts 45 = .ok (.ireturn, 1) := by decide +kernel
theorem dX0_fact_0 : decode cX0_fact 0 = .ok (.aload_n 0, 1) := by decide +kernel
theorem dX0_fact_1 : decode cX0_fact 1 = .ok (.getfield 45, 3) := by decide +kernel
theorem dX0_fact_4 : decode cX0_fact 4 = .ok (.iload_n 1, 1) := by decide +kernel
theorem dX0_fact_5 : decode cX0_fact 5 = .ok (.iaload, 1) := by decide +kernel
theorem dX0_fact_6 : decode cX0_fact 6 = .ok (.istore_n 3, 1) := by decide +kernel
theorem dX0_fact_7 : decode cX0_fact 7 = .ok (.iload_n 2, 1) := by decide +kernel
theorem dX0_fact_8 : decode cX0_fact 8 = .ok (.tableswitch 56 0 3 #[32, 38, 40, 49], 32) := by decide +kernel
theorem dX0_fact_40 : decode cX0_fact 40 = .ok (.aload_n 0, 1) := by decide +kernel
theorem dX0_fact_41 : decode cX0_fact 41 = .ok (.iload_n 1, 1) := by decide +kernel
theorem dX0_fact_42 : decode cX0_fact 42 = .ok (.invokevirtual 161, 3) := by decide +kernel
theorem dX0_fact_45 : decode cX0_fact 45 = .ok (.ireturn, 1) := by decide +kernel
theorem dX0_fact_46 : decode cX0_fact 46 = .ok (.iload_n 3, 1) := by decide +kernel
theorem dX0_fact_47 : decode cX0_fact 47 = .ok (.ireturn, 1) := by decide +kernel
theorem dX0_fact_48 : decode cX0_fact 48 = .ok (.iload_n 1, 1) := by decide +kernel
theorem dX0_fact_49 : decode cX0_fact 49 = .ok (.aload_n 0, 1) := by decide +kernel
theorem dX0_fact_50 : decode cX0_fact 50 = .ok (.getfield 42, 3) := by decide +kernel
theorem dX0_fact_53 : decode cX0_fact 53 = .ok (.iload_n 3, 1) := by decide +kernel
theorem dX0_fact_54 : decode cX0_fact 54 = .ok (.iaload, 1) := by decide +kernel
theorem dX0_fact_55 : decode cX0_fact 55 = .ok (.isub, 1) := by decide +kernel
theorem dX0_fact_56 : decode cX0_fact 56 = .ok (.ireturn, 1) := by decide +kernel
theorem dX0_fact_57 : decode cX0_fact 57 = .ok (.aload_n 0, 1) := by decide +kernel
theorem dX0_fact_58 : decode cX0_fact 58 = .ok (.getfield 48, 3) := by decide +kernel
theorem dX0_fact_61 : decode cX0_fact 61 = .ok (.iload_n 1, 1) := by decide +kernel
theorem dX0_fact_62 : decode cX0_fact 62 = .ok (.iaload, 1) := by decide +kernel
theorem dX0_fact_63 : decode cX0_fact 63 = .ok (.ireturn, 1) := by decide +kernel
theorem dX0_fact_64 : decode cX0_fact 64 = .ok (.aload_n 0, 1) := by decide +kernel
theorem dX0_fact_65 : decode cX0_fact 65 = .ok (.getfield 33, 3) := by decide +kernel
theorem dX0_fact_68 : decode cX0_fact 68 = .ok (.iload_n 1, 1) := by decide +kernel
theorem dX0_fact_69 : decode cX0_fact 69 = .ok (.iaload, 1) := by decide +kernel
theorem dX0_fact_70 : decode cX0_fact 70 = .ok (.ireturn, 1) := by decide +kernel
theorem dX0_kindOf_0 : decode cX0_kindOf 0 = .ok (.aload_n 0, 1) := by decide +kernel
theorem dX0_kindOf_1 : decode cX0_kindOf 1 = .ok (.getfield 29, 3) := by decide +kernel
theorem dX0_kindOf_4 : decode cX0_kindOf 4 = .ok (.iload_n 1, 1) := by decide +kernel
theorem dX0_kindOf_5 : decode cX0_kindOf 5 = .ok (.iaload, 1) := by decide +kernel
theorem dX0_kindOf_6 : decode cX0_kindOf 6 = .ok (.iconst 2, 1) := by decide +kernel
theorem dX0_kindOf_7 : decode cX0_kindOf 7 = .ok (.if_icmp .ne 6, 3) := by decide +kernel
theorem dX0_kindOf_10 : decode cX0_kindOf 10 = .ok (.bipush 6, 2) := by decide +kernel
theorem dX0_kindOf_12 : decode cX0_kindOf 12 = .ok (.ireturn, 1) := by decide +kernel
theorem dX0_kindOf_13 : decode cX0_kindOf 13 = .ok (.aload_n 0, 1) := by decide +kernel
theorem dX0_kindOf_14 : decode cX0_kindOf 14 = .ok (.getfield 29, 3) := by decide +kernel
theorem dX0_kindOf_17 : decode cX0_kindOf 17 = .ok (.iload_n 1, 1) := by decide +kernel
theorem dX0_kindOf_18 : decode cX0_kindOf 18 = .ok (.iaload, 1) := by decide +kernel
theorem dX0_kindOf_19 : decode cX0_kindOf 19 = .ok (.iconst 3, 1) := by decide +kernel
theorem dX0_kindOf_20 : decode cX0_kindOf 20 = .ok (.if_icmp .ne 7, 3) := by decide +kernel
theorem dX0_kindOf_23 : decode cX0_kindOf 23 = .ok (.iconst 5, 1) := by decide +kernel
theorem dX0_kindOf_24 : decode cX0_kindOf 24 = .ok (.goto 8, 3) := by decide +kernel
theorem dX0_kindOf_27 : decode cX0_kindOf 27 = .ok (.aload_n 0, 1) := by decide +kernel
theorem dX0_kindOf_28 : decode cX0_kindOf 28 = .ok (.iload_n 1, 1) := by decide +kernel
theorem dX0_kindOf_29 : decode cX0_kindOf 29 = .ok (.invokevirtual 164, 3) := by decide +kernel
theorem dX0_kindOf_32 : decode cX0_kindOf 32 = .ok (.ireturn, 1) := by decide +kernel
theorem dX0_kindAtFirst_0 : decode cX0_kindAtFirst 0 = .ok (.aload_n 0, 1) := by decide +kernel
theorem dX0_kindAtFirst_1 : decode cX0_kindAtFirst 1 = .ok (.getfield 45, 3) := by decide +kernel
theorem dX0_kindAtFirst_4 : decode cX0_kindAtFirst 4 = .ok (.iload_n 1, 1) := by decide +kernel
theorem dX0_kindAtFirst_5 : decode cX0_kindAtFirst 5 = .ok (.iaload, 1) := by decide +kernel
theorem dX0_kindAtFirst_6 : decode cX0_kindAtFirst 6 = .ok (.istore_n 2, 1) := by decide +kernel
theorem dX0_kindAtFirst_7 : decode cX0_kindAtFirst 7 = .ok (.iload_n 2, 1) := by decide +kernel
theorem dX0_kindAtFirst_8 : decode cX0_kindAtFirst 8 = .ok (.ifCond .ne 5, 3) := by decide +kernel
theorem dX0_kindAtFirst_11 : decode cX0_kindAtFirst 11 = .ok (.iconst 1, 1) := by decide +kernel
theorem dX0_kindAtFirst_12 : decode cX0_kindAtFirst 12 = .ok (.ireturn, 1) := by decide +kernel
theorem dX0_kindAtFirst_13 : decode cX0_kindAtFirst 13 = .ok (.aload_n 0, 1) := by decide +kernel
theorem dX0_kindAtFirst_14 : decode cX0_kindAtFirst 14 = .ok (.getfield 21, 3) := by decide +kernel
theorem dX0_kindAtFirst_17 : decode cX0_kindAtFirst 17 = .ok (.getfield 118, 3) := by decide +kernel
theorem dX0_kindAtFirst_20 : decode cX0_kindAtFirst 20 = .ok (.iload_n 2, 1) := by decide +kernel
theorem dX0_kindAtFirst_21 : decode cX0_kindAtFirst 21 = .ok (.iaload, 1) := by decide +kernel
theorem dX0_kindAtFirst_22 : decode cX0_kindAtFirst 22 = .ok (.iconst 2, 1) := by decide +kernel
theorem dX0_kindAtFirst_23 : decode cX0_kindAtFirst 23 = .ok (.if_icmp .ne 5, 3) := by decide +kernel
theorem dX0_kindAtFirst_26 : decode cX0_kindAtFirst 26 = .ok (.iconst 2, 1) := by decide +kernel
theorem dX0_kindAtFirst_27 : decode cX0_kindAtFirst 27 = .ok (.ireturn, 1) := by decide +kernel
theorem dX0_kindAtFirst_28 : decode cX0_kindAtFirst 28 = .ok (.iload_n 1, 1) := by decide +kernel
theorem dX0_kindAtFirst_29 : decode cX0_kindAtFirst 29 = .ok (.aload_n 0, 1) := by decide +kernel
theorem dX0_kindAtFirst_30 : decode cX0_kindAtFirst 30 = .ok (.getfield 21, 3) := by decide +kernel
theorem dX0_kindAtFirst_33 : decode cX0_kindAtFirst 33 = .ok (.getfield 121, 3) := by decide +kernel
theorem dX0_kindAtFirst_36 : decode cX0_kindAtFirst 36 = .ok (.iconst 1, 1) := by decide +kernel
theorem dX0_kindAtFirst_37 : decode cX0_kindAtFirst 37 = .ok (.isub, 1) := by decide +kernel
theorem dX0_kindAtFirst_38 : decode cX0_kindAtFirst 38 = .ok (.if_icmp .ne 20, 3) := by decide +kernel
theorem dX0_kindAtFirst_41 : decode cX0_kindAtFirst 41 = .ok (.aload_n 0, 1) := by decide +kernel
theorem dX0_kindAtFirst_42 : decode cX0_kindAtFirst 42 = .ok (.getfield 21, 3) := by decide +kernel
theorem dX0_kindAtFirst_45 : decode cX0_kindAtFirst 45 = .ok (.getfield 101, 3) := by decide +kernel
theorem dX0_kindAtFirst_48 : decode cX0_kindAtFirst 48 = .ok (.iload_n 2, 1) := by decide +kernel
theorem dX0_kindAtFirst_49 : decode cX0_kindAtFirst 49 = .ok (.iaload, 1) := by decide +kernel
theorem dX0_kindAtFirst_50 : decode cX0_kindAtFirst 50 = .ok (.iconst 1, 1) := by decide +kernel
theorem dX0_kindAtFirst_51 : decode cX0_kindAtFirst 51 = .ok (.if_icmp .ne 7, 3) := by decide +kernel
theorem dX0_kindAtFirst_54 : decode cX0_kindAtFirst 54 = .ok (.iconst 4, 1) := by decide +kernel
theorem dX0_kindAtFirst_55 : decode cX0_kindAtFirst 55 = .ok (.goto 4, 3) := by decide +kernel
theorem dX0_kindAtFirst_58 : decode cX0_kindAtFirst 58 = .ok (.iconst 3, 1) := by decide +kernel
theorem dX0_kindAtFirst_59 : decode cX0_kindAtFirst 59 = .ok (.ireturn, 1) := by decide +kernel
theorem dX0_isOf_0 : decode cX0_isOf 0 = .ok (.aload_n 0, 1) := by decide +kernel
theorem dX0_isOf_1 : decode cX0_isOf 1 = .ok (.iload_n 1, 1) := by decide +kernel
theorem dX0_isOf_2 : decode cX0_isOf 2 = .ok (.invokevirtual 161, 3) := by decide +kernel
theorem dX0_isOf_5 : decode cX0_isOf 5 = .ok (.istore_n 3, 1) := by decide +kernel
theorem dX0_isOf_6 : decode cX0_isOf 6 = .ok (.iload_n 3, 1) := by decide +kernel
theorem dX0_isOf_7 : decode cX0_isOf 7 = .ok (.iload_n 2, 1) := by decide +kernel
theorem dX0_isOf_8 : decode cX0_isOf 8 = .ok (.if_icmp .eq 23, 3) := by decide +kernel
theorem dX0_isOf_11 : decode cX0_isOf 11 = .ok (.iload_n 3, 1) := by decide +kernel
theorem dX0_isOf_12 : decode cX0_isOf 12 = .ok (.iconst 4, 1) := by decide +kernel
theorem dX0_isOf_13 : decode cX0_isOf 13 = .ok (.if_icmp .ne 8, 3) := by decide +kernel
theorem dX0_isOf_16 : decode cX0_isOf 16 = .ok (.iload_n 2, 1) := by decide +kernel
theorem dX0_isOf_17 : decode cX0_isOf 17 = .ok (.iconst 3, 1) := by decide +kernel
theorem dX0_isOf_18 : decode cX0_isOf 18 = .ok (.if_icmp .eq 13, 3) := by decide +kernel
theorem dX0_isOf_21 : decode cX0_isOf 21 = .ok (.iload_n 3, 1) := by decide +kernel
theorem dX0_isOf_22 : decode cX0_isOf 22 = .ok (.iconst 5, 1) := by decide +kernel
theorem dX0_isOf_23 : decode cX0_isOf 23 = .ok (.if_icmp .ne 12, 3) := by decide +kernel
theorem dX0_isOf_26 : decode cX0_isOf 26 = .ok (.iload_n 2, 1) := by decide +kernel
theorem dX0_isOf_27 : decode cX0_isOf 27 = .ok (.iconst 1, 1) := by decide +kernel
theorem dX0_isOf_28 : decode cX0_isOf 28 = .ok (.if_icmp .ne 7, 3) := by decide +kernel
theorem dX0_isOf_31 : decode cX0_isOf 31 = .ok (.iconst 1, 1) := by decide +kernel
theorem dX0_isOf_32 : decode cX0_isOf 32 = .ok (.goto 4, 3) := by decide +kernel
theorem dX0_isOf_35 : decode cX0_isOf 35 = .ok (.iconst 0, 1) := by decide +kernel
theorem dX0_isOf_36 : decode cX0_isOf 36 = .ok (.ireturn, 1) := by decide +kernel
theorem dX0_markOf_0 : decode cX0_markOf 0 = .ok (.iload_n 2, 1) := by decide +kernel
theorem dX0_markOf_1 : decode cX0_markOf 1 = .ok (.tableswitch 84 1 5 #[35, 37, 41, 56, 77], 35) := by decide +kernel
theorem dX0_markOf_36 : decode cX0_markOf 36 = .ok (.iload_n 1, 1) := by decide +kernel
theorem dX0_markOf_37 : decode cX0_markOf 37 = .ok (.ireturn, 1) := by decide +kernel
theorem dX0_markOf_38 : decode cX0_markOf 38 = .ok (.iload_n 1, 1) := by decide +kernel
theorem dX0_markOf_39 : decode cX0_markOf 39 = .ok (.iconst 1, 1) := by decide +kernel
theorem dX0_markOf_40 : decode cX0_markOf 40 = .ok (.isub, 1) := by decide +kernel
theorem dX0_markOf_41 : decode cX0_markOf 41 = .ok (.ireturn, 1) := by decide +kernel
theorem dX0_markOf_42 : decode cX0_markOf 42 = .ok (.aload_n 0, 1) := by decide +kernel
theorem dX0_markOf_43 : decode cX0_markOf 43 = .ok (.getfield 21, 3) := by decide +kernel
theorem dX0_markOf_46 : decode cX0_markOf 46 = .ok (.getfield 152, 3) := by decide +kernel
theorem dX0_markOf_49 : decode cX0_markOf 49 = .ok (.aload_n 0, 1) := by decide +kernel
theorem dX0_markOf_50 : decode cX0_markOf 50 = .ok (.getfield 45, 3) := by decide +kernel
theorem dX0_markOf_53 : decode cX0_markOf 53 = .ok (.iload_n 1, 1) := by decide +kernel
theorem dX0_markOf_54 : decode cX0_markOf 54 = .ok (.iaload, 1) := by decide +kernel
theorem dX0_markOf_55 : decode cX0_markOf 55 = .ok (.iaload, 1) := by decide +kernel
theorem dX0_markOf_56 : decode cX0_markOf 56 = .ok (.ireturn, 1) := by decide +kernel
theorem dX0_markOf_57 : decode cX0_markOf 57 = .ok (.aload_n 0, 1) := by decide +kernel
theorem dX0_markOf_58 : decode cX0_markOf 58 = .ok (.getfield 48, 3) := by decide +kernel
theorem dX0_markOf_61 : decode cX0_markOf 61 = .ok (.iload_n 1, 1) := by decide +kernel
theorem dX0_markOf_62 : decode cX0_markOf 62 = .ok (.iaload, 1) := by decide +kernel
theorem dX0_markOf_63 : decode cX0_markOf 63 = .ok (.aload_n 0, 1) := by decide +kernel
theorem dX0_markOf_64 : decode cX0_markOf 64 = .ok (.getfield 51, 3) := by decide +kernel
theorem dX0_markOf_67 : decode cX0_markOf 67 = .ok (.iload_n 1, 1) := by decide +kernel
theorem dX0_markOf_68 : decode cX0_markOf 68 = .ok (.iaload, 1) := by decide +kernel
theorem dX0_markOf_69 : decode cX0_markOf 69 = .ok (.if_icmp .ne 7, 3) := by decide +kernel
theorem dX0_markOf_72 : decode cX0_markOf 72 = .ok (.iconst 1, 1) := by decide +kernel
theorem dX0_markOf_73 : decode cX0_markOf 73 = .ok (.goto 4, 3) := by decide +kernel
theorem dX0_markOf_76 : decode cX0_markOf 76 = .ok (.iconst 2, 1) := by decide +kernel
theorem dX0_markOf_77 : decode cX0_markOf 77 = .ok (.ireturn, 1) := by decide +kernel
theorem dX0_markOf_78 : decode cX0_markOf 78 = .ok (.aload_n 0, 1) := by decide +kernel
theorem dX0_markOf_79 : decode cX0_markOf 79 = .ok (.getfield 36, 3) := by decide +kernel
theorem dX0_markOf_82 : decode cX0_markOf 82 = .ok (.iload_n 1, 1) := by decide +kernel
theorem dX0_markOf_83 : decode cX0_markOf 83 = .ok (.iaload, 1) := by decide +kernel
theorem dX0_markOf_84 : decode cX0_markOf 84 = .ok (.ireturn, 1) := by decide +kernel
theorem dX0_markOf_85 : decode cX0_markOf 85 = .ok (.aload_n 0, 1) := by decide +kernel
theorem dX0_markOf_86 : decode cX0_markOf 86 = .ok (.iload_n 1, 1) := by decide +kernel
theorem dX0_markOf_87 : decode cX0_markOf 87 = .ok (.invokevirtual 164, 3) := by decide +kernel
theorem dX0_markOf_90 : decode cX0_markOf 90 = .ok (.ireturn, 1) := by decide +kernel
theorem dX0_mixInto_0 : decode cX0_mixInto 0 = .ok (.aload_n 0, 1) := by decide +kernel
theorem dX0_mixInto_1 : decode cX0_mixInto 1 = .ok (.getfield 60, 3) := by decide +kernel
theorem dX0_mixInto_4 : decode cX0_mixInto 4 = .ok (.ifCond .ne 11, 3) := by decide +kernel
theorem dX0_mixInto_7 : decode cX0_mixInto 7 = .ok (.ldc2_w 167, 3) := by decide +kernel
theorem dX0_mixInto_10 : decode cX0_mixInto 10 = .ok (.lload_n 1, 1) := by decide +kernel
theorem dX0_mixInto_11 : decode cX0_mixInto 11 = .ok (.lmul, 1) := by decide +kernel
theorem dX0_mixInto_12 : decode cX0_mixInto 12 = .ok (.lconst 1, 1) := by decide +kernel
theorem dX0_mixInto_13 : decode cX0_mixInto 13 = .ok (.lsub, 1) := by decide +kernel
theorem dX0_mixInto_14 : decode cX0_mixInto 14 = .ok (.lreturn, 1) := by decide +kernel
theorem dX0_mixInto_15 : decode cX0_mixInto 15 = .ok (.iconst 0, 1) := by decide +kernel
theorem dX0_mixInto_16 : decode cX0_mixInto 16 = .ok (.istore_n 3, 1) := by decide +kernel
theorem dX0_mixInto_17 : decode cX0_mixInto 17 = .ok (.iload_n 3, 1) := by decide +kernel
theorem dX0_mixInto_18 : decode cX0_mixInto 18 = .ok (.aload_n 0, 1) := by decide +kernel
theorem dX0_mixInto_19 : decode cX0_mixInto 19 = .ok (.getfield 80, 3) := by decide +kernel
theorem dX0_mixInto_22 : decode cX0_mixInto 22 = .ok (.if_icmp .ge 39, 3) := by decide +kernel
theorem dX0_mixInto_25 : decode cX0_mixInto 25 = .ok (.iconst 0, 1) := by decide +kernel
theorem dX0_mixInto_26 : decode cX0_mixInto 26 = .ok (.istore 4, 2) := by decide +kernel
theorem dX0_mixInto_28 : decode cX0_mixInto 28 = .ok (.iload 4, 2) := by decide +kernel
theorem dX0_mixInto_30 : decode cX0_mixInto 30 = .ok (.iconst 5, 1) := by decide +kernel
theorem dX0_mixInto_31 : decode cX0_mixInto 31 = .ok (.if_icmp .ge 24, 3) := by decide +kernel
theorem dX0_mixInto_34 : decode cX0_mixInto 34 = .ok (.ldc2_w 167, 3) := by decide +kernel
theorem dX0_mixInto_37 : decode cX0_mixInto 37 = .ok (.lload_n 1, 1) := by decide +kernel
theorem dX0_mixInto_38 : decode cX0_mixInto 38 = .ok (.lmul, 1) := by decide +kernel
theorem dX0_mixInto_39 : decode cX0_mixInto 39 = .ok (.aload_n 0, 1) := by decide +kernel
theorem dX0_mixInto_40 : decode cX0_mixInto 40 = .ok (.iload_n 3, 1) := by decide +kernel
theorem dX0_mixInto_41 : decode cX0_mixInto 41 = .ok (.iload 4, 2) := by decide +kernel
theorem dX0_mixInto_43 : decode cX0_mixInto 43 = .ok (.invokevirtual 169, 3) := by decide +kernel
theorem dX0_mixInto_46 : decode cX0_mixInto 46 = .ok (.i2l, 1) := by decide +kernel
theorem dX0_mixInto_47 : decode cX0_mixInto 47 = .ok (.ladd, 1) := by decide +kernel
theorem dX0_mixInto_48 : decode cX0_mixInto 48 = .ok (.lstore_n 1, 1) := by decide +kernel
theorem dX0_mixInto_49 : decode cX0_mixInto 49 = .ok (.iinc 4 1, 3) := by decide +kernel
theorem dX0_mixInto_52 : decode cX0_mixInto 52 = .ok (.goto (-24), 3) := by decide +kernel
theorem dX0_mixInto_55 : decode cX0_mixInto 55 = .ok (.iinc 3 1, 3) := by decide +kernel
theorem dX0_mixInto_58 : decode cX0_mixInto 58 = .ok (.goto (-41), 3) := by decide +kernel
theorem dX0_mixInto_61 : decode cX0_mixInto 61 = .ok (.lload_n 1, 1) := by decide +kernel
theorem dX0_mixInto_62 : decode cX0_mixInto 62 = .ok (.lreturn, 1) := by decide +kernel
theorem dX1_init_0 : decode cX1_init 0 = .ok (.aload_n 0, 1) := by decide +kernel
theorem dX1_init_1 : decode cX1_init 1 = .ok (.invokespecial 3, 3) := by decide +kernel
theorem dX1_init_4 : decode cX1_init 4 = .ok (.aload_n 0, 1) := by decide +kernel
theorem dX1_init_5 : decode cX1_init 5 = .ok (.iconst 5, 1) := by decide +kernel
theorem dX1_init_6 : decode cX1_init 6 = .ok (.bipush 41, 2) := by decide +kernel
theorem dX1_init_8 : decode cX1_init 8 = .ok (.multianewarray 9 2, 4) := by decide +kernel
theorem dX1_init_12 : decode cX1_init 12 = .ok (.putfield 11, 3) := by decide +kernel
theorem dX1_init_15 : decode cX1_init 15 = .ok (.aload_n 0, 1) := by decide +kernel
theorem dX1_init_16 : decode cX1_init 16 = .ok (.iconst 4, 1) := by decide +kernel
theorem dX1_init_17 : decode cX1_init 17 = .ok (.newarray .int, 2) := by decide +kernel
theorem dX1_init_19 : decode cX1_init 19 = .ok (.putfield 16, 3) := by decide +kernel
theorem dX1_init_22 : decode cX1_init 22 = .ok (.return_, 1) := by decide +kernel
theorem dX1_clear_0 : decode cX1_clear 0 = .ok (.aload_n 0, 1) := by decide +kernel
theorem dX1_clear_1 : decode cX1_clear 1 = .ok (.getfield 11, 3) := by decide +kernel
theorem dX1_clear_4 : decode cX1_clear 4 = .ok (.iconst 4, 1) := by decide +kernel
theorem dX1_clear_5 : decode cX1_clear 5 = .ok (.aaload, 1) := by decide +kernel
theorem dX1_clear_6 : decode cX1_clear 6 = .ok (.ldc 20, 2) := by decide +kernel
theorem dX1_clear_8 : decode cX1_clear 8 = .ok (.invokestatic 21, 3) := by decide +kernel
theorem dX1_clear_11 : decode cX1_clear 11 = .ok (.aload_n 0, 1) := by decide +kernel
theorem dX1_clear_12 : decode cX1_clear 12 = .ok (.getfield 11, 3) := by decide +kernel
theorem dX1_clear_15 : decode cX1_clear 15 = .ok (.iconst 4, 1) := by decide +kernel
theorem dX1_clear_16 : decode cX1_clear 16 = .ok (.aaload, 1) := by decide +kernel
theorem dX1_clear_17 : decode cX1_clear 17 = .ok (.iconst 0, 1) := by decide +kernel
theorem dX1_clear_18 : decode cX1_clear 18 = .ok (.iconst 0, 1) := by decide +kernel
theorem dX1_clear_19 : decode cX1_clear 19 = .ok (.iastore, 1) := by decide +kernel
theorem dX1_clear_20 : decode cX1_clear 20 = .ok (.return_, 1) := by decide +kernel
theorem dX1_offer_0 : decode cX1_offer 0 = .ok (.iload_n 1, 1) := by decide +kernel
theorem dX1_offer_1 : decode cX1_offer 1 = .ok (.iconst 4, 1) := by decide +kernel
theorem dX1_offer_2 : decode cX1_offer 2 = .ok (.invokestatic 27, 3) := by decide +kernel
theorem dX1_offer_5 : decode cX1_offer 5 = .ok (.ifCond .ne 4, 3) := by decide +kernel
theorem dX1_offer_8 : decode cX1_offer 8 = .ok (.return_, 1) := by decide +kernel
theorem dX1_offer_9 : decode cX1_offer 9 = .ok (.aload_n 0, 1) := by decide +kernel
theorem dX1_offer_10 : decode cX1_offer 10 = .ok (.getfield 16, 3) := by decide +kernel
theorem dX1_offer_13 : decode cX1_offer 13 = .ok (.iload_n 1, 1) := by decide +kernel
theorem dX1_offer_14 : decode cX1_offer 14 = .ok (.iload_n 2, 1) := by decide +kernel
theorem dX1_offer_15 : decode cX1_offer 15 = .ok (.iastore, 1) := by decide +kernel
theorem dX1_offer_16 : decode cX1_offer 16 = .ok (.iconst 0, 1) := by decide +kernel
theorem dX1_offer_17 : decode cX1_offer 17 = .ok (.istore 4, 2) := by decide +kernel
theorem dX1_offer_19 : decode cX1_offer 19 = .ok (.iload 4, 2) := by decide +kernel
theorem dX1_offer_21 : decode cX1_offer 21 = .ok (.bipush 40, 2) := by decide +kernel
theorem dX1_offer_23 : decode cX1_offer 23 = .ok (.if_icmp .gt 66, 3) := by decide +kernel
theorem dX1_offer_26 : decode cX1_offer 26 = .ok (.aload_n 0, 1) := by decide +kernel
theorem dX1_offer_27 : decode cX1_offer 27 = .ok (.getfield 11, 3) := by decide +kernel
theorem dX1_offer_30 : decode cX1_offer 30 = .ok (.iload_n 1, 1) := by decide +kernel
theorem dX1_offer_31 : decode cX1_offer 31 = .ok (.iconst 1, 1) := by decide +kernel
theorem dX1_offer_32 : decode cX1_offer 32 = .ok (.iadd, 1) := by decide +kernel
theorem dX1_offer_33 : decode cX1_offer 33 = .ok (.aaload, 1) := by decide +kernel
theorem dX1_offer_34 : decode cX1_offer 34 = .ok (.iload 4, 2) := by decide +kernel
theorem dX1_offer_36 : decode cX1_offer 36 = .ok (.iaload, 1) := by decide +kernel
theorem dX1_offer_37 : decode cX1_offer 37 = .ok (.istore 5, 2) := by decide +kernel
theorem dX1_offer_39 : decode cX1_offer 39 = .ok (.iload 4, 2) := by decide +kernel
theorem dX1_offer_41 : decode cX1_offer 41 = .ok (.ifCond .le 31, 3) := by decide +kernel
theorem dX1_offer_44 : decode cX1_offer 44 = .ok (.iload_n 2, 1) := by decide +kernel
theorem dX1_offer_45 : decode cX1_offer 45 = .ok (.ifCond .le 27, 3) := by decide +kernel
theorem dX1_offer_48 : decode cX1_offer 48 = .ok (.iload 5, 2) := by decide +kernel
theorem dX1_offer_50 : decode cX1_offer 50 = .ok (.iload_n 3, 1) := by decide +kernel
theorem dX1_offer_51 : decode cX1_offer 51 = .ok (.aload_n 0, 1) := by decide +kernel
theorem dX1_offer_52 : decode cX1_offer 52 = .ok (.getfield 11, 3) := by decide +kernel
theorem dX1_offer_55 : decode cX1_offer 55 = .ok (.iload_n 1, 1) := by decide +kernel
theorem dX1_offer_56 : decode cX1_offer 56 = .ok (.aaload, 1) := by decide +kernel
theorem dX1_offer_57 : decode cX1_offer 57 = .ok (.iconst 0, 1) := by decide +kernel
theorem dX1_offer_58 : decode cX1_offer 58 = .ok (.iload 4, 2) := by decide +kernel
theorem dX1_offer_60 : decode cX1_offer 60 = .ok (.iload_n 2, 1) := by decide +kernel
theorem dX1_offer_61 : decode cX1_offer 61 = .ok (.isub, 1) := by decide +kernel
theorem dX1_offer_62 : decode cX1_offer 62 = .ok (.invokestatic 31, 3) := by decide +kernel
theorem dX1_offer_65 : decode cX1_offer 65 = .ok (.iaload, 1) := by decide +kernel
theorem dX1_offer_66 : decode cX1_offer 66 = .ok (.iadd, 1) := by decide +kernel
theorem dX1_offer_67 : decode cX1_offer 67 = .ok (.invokestatic 37, 3) := by decide +kernel
theorem dX1_offer_70 : decode cX1_offer 70 = .ok (.istore 5, 2) := by decide +kernel
theorem dX1_offer_72 : decode cX1_offer 72 = .ok (.aload_n 0, 1) := by decide +kernel
theorem dX1_offer_73 : decode cX1_offer 73 = .ok (.getfield 11, 3) := by decide +kernel
theorem dX1_offer_76 : decode cX1_offer 76 = .ok (.iload_n 1, 1) := by decide +kernel
theorem dX1_offer_77 : decode cX1_offer 77 = .ok (.aaload, 1) := by decide +kernel
theorem dX1_offer_78 : decode cX1_offer 78 = .ok (.iload 4, 2) := by decide +kernel
theorem dX1_offer_80 : decode cX1_offer 80 = .ok (.iload 5, 2) := by decide +kernel
theorem dX1_offer_82 : decode cX1_offer 82 = .ok (.iastore, 1) := by decide +kernel
theorem dX1_offer_83 : decode cX1_offer 83 = .ok (.iinc 4 1, 3) := by decide +kernel
theorem dX1_offer_86 : decode cX1_offer 86 = .ok (.goto (-67), 3) := by decide +kernel
theorem dX1_offer_89 : decode cX1_offer 89 = .ok (.return_, 1) := by decide +kernel
theorem dX1_leastFor_0 : decode cX1_leastFor 0 = .ok (.iload_n 1, 1) := by decide +kernel
theorem dX1_leastFor_1 : decode cX1_leastFor 1 = .ok (.bipush 40, 2) := by decide +kernel
theorem dX1_leastFor_3 : decode cX1_leastFor 3 = .ok (.invokestatic 40, 3) := by decide +kernel
theorem dX1_leastFor_6 : decode cX1_leastFor 6 = .ok (.ifCond .eq 16, 3) := by decide +kernel
theorem dX1_leastFor_9 : decode cX1_leastFor 9 = .ok (.aload_n 0, 1) := by decide +kernel
theorem dX1_leastFor_10 : decode cX1_leastFor 10 = .ok (.getfield 11, 3) := by decide +kernel
theorem dX1_leastFor_13 : decode cX1_leastFor 13 = .ok (.iconst 0, 1) := by decide +kernel
theorem dX1_leastFor_14 : decode cX1_leastFor 14 = .ok (.aaload, 1) := by decide +kernel
theorem dX1_leastFor_15 : decode cX1_leastFor 15 = .ok (.iload_n 1, 1) := by decide +kernel
theorem dX1_leastFor_16 : decode cX1_leastFor 16 = .ok (.iaload, 1) := by decide +kernel
theorem dX1_leastFor_17 : decode cX1_leastFor 17 = .ok (.ldc 20, 2) := by decide +kernel
theorem dX1_leastFor_19 : decode cX1_leastFor 19 = .ok (.if_icmp .lt 6, 3) := by decide +kernel
theorem dX1_leastFor_22 : decode cX1_leastFor 22 = .ok (.bipush (-9), 2) := by decide +kernel
theorem dX1_leastFor_24 : decode cX1_leastFor 24 = .ok (.ireturn, 1) := by decide +kernel
theorem dX1_leastFor_25 : decode cX1_leastFor 25 = .ok (.aload_n 0, 1) := by decide +kernel
theorem dX1_leastFor_26 : decode cX1_leastFor 26 = .ok (.getfield 11, 3) := by decide +kernel
theorem dX1_leastFor_29 : decode cX1_leastFor 29 = .ok (.iconst 0, 1) := by decide +kernel
theorem dX1_leastFor_30 : decode cX1_leastFor 30 = .ok (.aaload, 1) := by decide +kernel
theorem dX1_leastFor_31 : decode cX1_leastFor 31 = .ok (.iload_n 1, 1) := by decide +kernel
theorem dX1_leastFor_32 : decode cX1_leastFor 32 = .ok (.iaload, 1) := by decide +kernel
theorem dX1_leastFor_33 : decode cX1_leastFor 33 = .ok (.ireturn, 1) := by decide +kernel
theorem dX1_share_0 : decode cX1_share 0 = .ok (.iload_n 1, 1) := by decide +kernel
theorem dX1_share_1 : decode cX1_share 1 = .ok (.bipush 40, 2) := by decide +kernel
theorem dX1_share_3 : decode cX1_share 3 = .ok (.invokestatic 37, 3) := by decide +kernel
theorem dX1_share_6 : decode cX1_share 6 = .ok (.istore_n 3, 1) := by decide +kernel
theorem dX1_share_7 : decode cX1_share 7 = .ok (.iconst 0, 1) := by decide +kernel
theorem dX1_share_8 : decode cX1_share 8 = .ok (.istore 4, 2) := by decide +kernel
theorem dX1_share_10 : decode cX1_share 10 = .ok (.iload 4, 2) := by decide +kernel
theorem dX1_share_12 : decode cX1_share 12 = .ok (.iconst 4, 1) := by decide +kernel
theorem dX1_share_13 : decode cX1_share 13 = .ok (.if_icmp .ge 89, 3) := by decide +kernel
theorem dX1_share_16 : decode cX1_share 16 = .ok (.iload 4, 2) := by decide +kernel
theorem dX1_share_18 : decode cX1_share 18 = .ok (.aload_n 2, 1) := by decide +kernel
theorem dX1_share_19 : decode cX1_share 19 = .ok (.arraylength, 1) := by decide +kernel
theorem dX1_share_20 : decode cX1_share 20 = .ok (.if_icmp .ge 82, 3) := by decide +kernel
theorem dX1_share_23 : decode cX1_share 23 = .ok (.aload_n 2, 1) := by decide +kernel
theorem dX1_share_24 : decode cX1_share 24 = .ok (.iload 4, 2) := by decide +kernel
theorem dX1_share_26 : decode cX1_share 26 = .ok (.iconst 0, 1) := by decide +kernel
theorem dX1_share_27 : decode cX1_share 27 = .ok (.iastore, 1) := by decide +kernel
theorem dX1_share_28 : decode cX1_share 28 = .ok (.iconst 0, 1) := by decide +kernel
theorem dX1_share_29 : decode cX1_share 29 = .ok (.istore 5, 2) := by decide +kernel
theorem dX1_share_31 : decode cX1_share 31 = .ok (.iload 5, 2) := by decide +kernel
theorem dX1_share_33 : decode cX1_share 33 = .ok (.bipush 40, 2) := by decide +kernel
theorem dX1_share_35 : decode cX1_share 35 = .ok (.if_icmp .ge 61, 3) := by decide +kernel
theorem dX1_share_38 : decode cX1_share 38 = .ok (.iload_n 3, 1) := by decide +kernel
theorem dX1_share_39 : decode cX1_share 39 = .ok (.ifCond .le 57, 3) := by decide +kernel
theorem dX1_share_42 : decode cX1_share 42 = .ok (.aload_n 0, 1) := by decide +kernel
theorem dX1_share_43 : decode cX1_share 43 = .ok (.getfield 11, 3) := by decide +kernel
theorem dX1_share_46 : decode cX1_share 46 = .ok (.iload 4, 2) := by decide +kernel
theorem dX1_share_48 : decode cX1_share 48 = .ok (.aaload, 1) := by decide +kernel
theorem dX1_share_49 : decode cX1_share 49 = .ok (.iload_n 3, 1) := by decide +kernel
theorem dX1_share_50 : decode cX1_share 50 = .ok (.iaload, 1) := by decide +kernel
theorem dX1_share_51 : decode cX1_share 51 = .ok (.aload_n 0, 1) := by decide +kernel
theorem dX1_share_52 : decode cX1_share 52 = .ok (.getfield 11, 3) := by decide +kernel
theorem dX1_share_55 : decode cX1_share 55 = .ok (.iload 4, 2) := by decide +kernel
theorem dX1_share_57 : decode cX1_share 57 = .ok (.iconst 1, 1) := by decide +kernel
theorem dX1_share_58 : decode cX1_share 58 = .ok (.iadd, 1) := by decide +kernel
theorem dX1_share_59 : decode cX1_share 59 = .ok (.aaload, 1) := by decide +kernel
theorem dX1_share_60 : decode cX1_share 60 = .ok (.iload_n 3, 1) := by decide +kernel
theorem dX1_share_61 : decode cX1_share 61 = .ok (.iaload, 1) := by decide +kernel
theorem dX1_share_62 : decode cX1_share 62 = .ok (.if_icmp .ne 6, 3) := by decide +kernel
theorem dX1_share_65 : decode cX1_share 65 = .ok (.goto 31, 3) := by decide +kernel
theorem dX1_share_68 : decode cX1_share 68 = .ok (.aload_n 2, 1) := by decide +kernel
theorem dX1_share_69 : decode cX1_share 69 = .ok (.iload 4, 2) := by decide +kernel
theorem dX1_share_71 : decode cX1_share 71 = .ok (.dup2, 1) := by decide +kernel
theorem dX1_share_72 : decode cX1_share 72 = .ok (.iaload, 1) := by decide +kernel
theorem dX1_share_73 : decode cX1_share 73 = .ok (.iconst 1, 1) := by decide +kernel
theorem dX1_share_74 : decode cX1_share 74 = .ok (.iadd, 1) := by decide +kernel
theorem dX1_share_75 : decode cX1_share 75 = .ok (.iastore, 1) := by decide +kernel
theorem dX1_share_76 : decode cX1_share 76 = .ok (.iconst 0, 1) := by decide +kernel
theorem dX1_share_77 : decode cX1_share 77 = .ok (.iload_n 3, 1) := by decide +kernel
theorem dX1_share_78 : decode cX1_share 78 = .ok (.aload_n 0, 1) := by decide +kernel
theorem dX1_share_79 : decode cX1_share 79 = .ok (.getfield 16, 3) := by decide +kernel
theorem dX1_share_82 : decode cX1_share 82 = .ok (.iload 4, 2) := by decide +kernel
theorem dX1_share_84 : decode cX1_share 84 = .ok (.iaload, 1) := by decide +kernel
theorem dX1_share_85 : decode cX1_share 85 = .ok (.isub, 1) := by decide +kernel
theorem dX1_share_86 : decode cX1_share 86 = .ok (.invokestatic 31, 3) := by decide +kernel
theorem dX1_share_89 : decode cX1_share 89 = .ok (.istore_n 3, 1) := by decide +kernel
theorem dX1_share_90 : decode cX1_share 90 = .ok (.iinc 5 1, 3) := by decide +kernel
theorem dX1_share_93 : decode cX1_share 93 = .ok (.goto (-62), 3) := by decide +kernel
theorem dX1_share_96 : decode cX1_share 96 = .ok (.iinc 4 1, 3) := by decide +kernel
theorem dX1_share_99 : decode cX1_share 99 = .ok (.goto (-89), 3) := by decide +kernel
theorem dX1_share_102 : decode cX1_share 102 = .ok (.return_, 1) := by decide +kernel
theorem dX2_init_0 : decode cX2_init 0 = .ok (.aload_n 0, 1) := by decide +kernel
theorem dX2_init_1 : decode cX2_init 1 = .ok (.invokespecial 3, 3) := by decide +kernel
theorem dX2_init_4 : decode cX2_init 4 = .ok (.aload_n 0, 1) := by decide +kernel
theorem dX2_init_5 : decode cX2_init 5 = .ok (.bipush 6, 2) := by decide +kernel
theorem dX2_init_7 : decode cX2_init 7 = .ok (.newarray .int, 2) := by decide +kernel
theorem dX2_init_9 : decode cX2_init 9 = .ok (.putfield 9, 3) := by decide +kernel
theorem dX2_init_12 : decode cX2_init 12 = .ok (.return_, 1) := by decide +kernel
theorem dX2_enter_0 : decode cX2_enter 0 = .ok (.aload_n 0, 1) := by decide +kernel
theorem dX2_enter_1 : decode cX2_enter 1 = .ok (.bipush (-10), 2) := by decide +kernel
theorem dX2_enter_3 : decode cX2_enter 3 = .ok (.iload_n 1, 1) := by decide +kernel
theorem dX2_enter_4 : decode cX2_enter 4 = .ok (.imul, 1) := by decide +kernel
theorem dX2_enter_5 : decode cX2_enter 5 = .ok (.putfield 15, 3) := by decide +kernel
theorem dX2_enter_8 : decode cX2_enter 8 = .ok (.aload_n 0, 1) := by decide +kernel
theorem dX2_enter_9 : decode cX2_enter 9 = .ok (.iload_n 2, 1) := by decide +kernel
theorem dX2_enter_10 : decode cX2_enter 10 = .ok (.putfield 19, 3) := by decide +kernel
theorem dX2_enter_13 : decode cX2_enter 13 = .ok (.aload_n 0, 1) := by decide +kernel
theorem dX2_enter_14 : decode cX2_enter 14 = .ok (.iload_n 3, 1) := by decide +kernel
theorem dX2_enter_15 : decode cX2_enter 15 = .ok (.putfield 22, 3) := by decide +kernel
theorem dX2_enter_18 : decode cX2_enter 18 = .ok (.aload_n 0, 1) := by decide +kernel
theorem dX2_enter_19 : decode cX2_enter 19 = .ok (.iload 4, 2) := by decide +kernel
theorem dX2_enter_21 : decode cX2_enter 21 = .ok (.putfield 25, 3) := by decide +kernel
theorem dX2_enter_24 : decode cX2_enter 24 = .ok (.aload_n 0, 1) := by decide +kernel
theorem dX2_enter_25 : decode cX2_enter 25 = .ok (.iload 5, 2) := by decide +kernel
theorem dX2_enter_27 : decode cX2_enter 27 = .ok (.putfield 28, 3) := by decide +kernel
theorem dX2_enter_30 : decode cX2_enter 30 = .ok (.aload_n 0, 1) := by decide +kernel
theorem dX2_enter_31 : decode cX2_enter 31 = .ok (.bipush 100, 2) := by decide +kernel
theorem dX2_enter_33 : decode cX2_enter 33 = .ok (.putfield 32, 3) := by decide +kernel
theorem dX2_enter_36 : decode cX2_enter 36 = .ok (.aload_n 0, 1) := by decide +kernel
theorem dX2_enter_37 : decode cX2_enter 37 = .ok (.getfield 9, 3) := by decide +kernel
theorem dX2_enter_40 : decode cX2_enter 40 = .ok (.aload_n 0, 1) := by decide +kernel
theorem dX2_enter_41 : decode cX2_enter 41 = .ok (.getfield 15, 3) := by decide +kernel
theorem dX2_enter_44 : decode cX2_enter 44 = .ok (.invokestatic 35, 3) := by decide +kernel
theorem dX2_enter_47 : decode cX2_enter 47 = .ok (.return_, 1) := by decide +kernel
theorem dX2_hour_0 : decode cX2_hour 0 = .ok (.aload_n 0, 1) := by decide +kernel
theorem dX2_hour_1 : decode cX2_hour 1 = .ok (.getfield 9, 3) := by decide +kernel
theorem dX2_hour_4 : decode cX2_hour 4 = .ok (.iconst 5, 1) := by decide +kernel
theorem dX2_hour_5 : decode cX2_hour 5 = .ok (.dup2, 1) := by decide +kernel
theorem dX2_hour_6 : decode cX2_hour 6 = .ok (.iaload, 1) := by decide +kernel
theorem dX2_hour_7 : decode cX2_hour 7 = .ok (.bipush 20, 2) := by decide +kernel
theorem dX2_hour_9 : decode cX2_hour 9 = .ok (.aload_n 0, 1) := by decide +kernel
theorem dX2_hour_10 : decode cX2_hour 10 = .ok (.getfield 19, 3) := by decide +kernel
theorem dX2_hour_13 : decode cX2_hour 13 = .ok (.imul, 1) := by decide +kernel
theorem dX2_hour_14 : decode cX2_hour 14 = .ok (.iadd, 1) := by decide +kernel
theorem dX2_hour_15 : decode cX2_hour 15 = .ok (.iastore, 1) := by decide +kernel
theorem dX2_hour_16 : decode cX2_hour 16 = .ok (.iconst 1, 1) := by decide +kernel
theorem dX2_hour_17 : decode cX2_hour 17 = .ok (.istore_n 1, 1) := by decide +kernel
theorem dX2_hour_18 : decode cX2_hour 18 = .ok (.iload_n 1, 1) := by decide +kernel
theorem dX2_hour_19 : decode cX2_hour 19 = .ok (.iconst 3, 1) := by decide +kernel
theorem dX2_hour_20 : decode cX2_hour 20 = .ok (.if_icmp .gt 25, 3) := by decide +kernel
theorem dX2_hour_23 : decode cX2_hour 23 = .ok (.aload_n 0, 1) := by decide +kernel
theorem dX2_hour_24 : decode cX2_hour 24 = .ok (.getfield 9, 3) := by decide +kernel
theorem dX2_hour_27 : decode cX2_hour 27 = .ok (.iload_n 1, 1) := by decide +kernel
theorem dX2_hour_28 : decode cX2_hour 28 = .ok (.dup2, 1) := by decide +kernel
theorem dX2_hour_29 : decode cX2_hour 29 = .ok (.iaload, 1) := by decide +kernel
theorem dX2_hour_30 : decode cX2_hour 30 = .ok (.bipush 10, 2) := by decide +kernel
theorem dX2_hour_32 : decode cX2_hour 32 = .ok (.aload_n 0, 1) := by decide +kernel
theorem dX2_hour_33 : decode cX2_hour 33 = .ok (.getfield 22, 3) := by decide +kernel
theorem dX2_hour_36 : decode cX2_hour 36 = .ok (.imul, 1) := by decide +kernel
theorem dX2_hour_37 : decode cX2_hour 37 = .ok (.iadd, 1) := by decide +kernel
theorem dX2_hour_38 : decode cX2_hour 38 = .ok (.iastore, 1) := by decide +kernel
theorem dX2_hour_39 : decode cX2_hour 39 = .ok (.iinc 1 1, 3) := by decide +kernel
theorem dX2_hour_42 : decode cX2_hour 42 = .ok (.goto (-24), 3) := by decide +kernel
theorem dX2_hour_45 : decode cX2_hour 45 = .ok (.iconst 0, 1) := by decide +kernel
theorem dX2_hour_46 : decode cX2_hour 46 = .ok (.istore_n 1, 1) := by decide +kernel
theorem dX2_hour_47 : decode cX2_hour 47 = .ok (.iload_n 1, 1) := by decide +kernel
theorem dX2_hour_48 : decode cX2_hour 48 = .ok (.iconst 5, 1) := by decide +kernel
theorem dX2_hour_49 : decode cX2_hour 49 = .ok (.if_icmp .ge 14, 3) := by decide +kernel
theorem dX2_hour_52 : decode cX2_hour 52 = .ok (.aload_n 0, 1) := by decide +kernel
theorem dX2_hour_53 : decode cX2_hour 53 = .ok (.iload_n 1, 1) := by decide +kernel
theorem dX2_hour_54 : decode cX2_hour 54 = .ok (.invokevirtual 41, 3) := by decide +kernel
theorem dX2_hour_57 : decode cX2_hour 57 = .ok (.iinc 1 1, 3) := by decide +kernel
theorem dX2_hour_60 : decode cX2_hour 60 = .ok (.goto (-13), 3) := by decide +kernel
theorem dX2_hour_63 : decode cX2_hour 63 = .ok (.iconst 0, 1) := by decide +kernel
theorem dX2_hour_64 : decode cX2_hour 64 = .ok (.istore_n 1, 1) := by decide +kernel
theorem dX2_hour_65 : decode cX2_hour 65 = .ok (.iload_n 1, 1) := by decide +kernel
theorem dX2_hour_66 : decode cX2_hour 66 = .ok (.bipush 6, 2) := by decide +kernel
theorem dX2_hour_68 : decode cX2_hour 68 = .ok (.if_icmp .ge 32, 3) := by decide +kernel
theorem dX2_hour_71 : decode cX2_hour 71 = .ok (.aload_n 0, 1) := by decide +kernel
theorem dX2_hour_72 : decode cX2_hour 72 = .ok (.getfield 9, 3) := by decide +kernel
theorem dX2_hour_75 : decode cX2_hour 75 = .ok (.iload_n 1, 1) := by decide +kernel
theorem dX2_hour_76 : decode cX2_hour 76 = .ok (.dup2, 1) := by decide +kernel
theorem dX2_hour_77 : decode cX2_hour 77 = .ok (.iaload, 1) := by decide +kernel
theorem dX2_hour_78 : decode cX2_hour 78 = .ok (.aload_n 0, 1) := by decide +kernel
theorem dX2_hour_79 : decode cX2_hour 79 = .ok (.getfield 9, 3) := by decide +kernel
theorem dX2_hour_82 : decode cX2_hour 82 = .ok (.iload_n 1, 1) := by decide +kernel
theorem dX2_hour_83 : decode cX2_hour 83 = .ok (.iaload, 1) := by decide +kernel
theorem dX2_hour_84 : decode cX2_hour 84 = .ok (.aload_n 0, 1) := by decide +kernel
theorem dX2_hour_85 : decode cX2_hour 85 = .ok (.getfield 15, 3) := by decide +kernel
theorem dX2_hour_88 : decode cX2_hour 88 = .ok (.isub, 1) := by decide +kernel
theorem dX2_hour_89 : decode cX2_hour 89 = .ok (.bipush 10, 2) := by decide +kernel
theorem dX2_hour_91 : decode cX2_hour 91 = .ok (.idiv, 1) := by decide +kernel
theorem dX2_hour_92 : decode cX2_hour 92 = .ok (.isub, 1) := by decide +kernel
theorem dX2_hour_93 : decode cX2_hour 93 = .ok (.iastore, 1) := by decide +kernel
theorem dX2_hour_94 : decode cX2_hour 94 = .ok (.iinc 1 1, 3) := by decide +kernel
theorem dX2_hour_97 : decode cX2_hour 97 = .ok (.goto (-32), 3) := by decide +kernel
theorem dX2_hour_100 : decode cX2_hour 100 = .ok (.aload_n 0, 1) := by decide +kernel
theorem dX2_hour_101 : decode cX2_hour 101 = .ok (.getfield 9, 3) := by decide +kernel
theorem dX2_hour_104 : decode cX2_hour 104 = .ok (.iconst 5, 1) := by decide +kernel
theorem dX2_hour_105 : decode cX2_hour 105 = .ok (.dup2, 1) := by decide +kernel
theorem dX2_hour_106 : decode cX2_hour 106 = .ok (.iaload, 1) := by decide +kernel
theorem dX2_hour_107 : decode cX2_hour 107 = .ok (.aload_n 0, 1) := by decide +kernel
theorem dX2_hour_108 : decode cX2_hour 108 = .ok (.getfield 9, 3) := by decide +kernel
theorem dX2_hour_111 : decode cX2_hour 111 = .ok (.iconst 5, 1) := by decide +kernel
theorem dX2_hour_112 : decode cX2_hour 112 = .ok (.iaload, 1) := by decide +kernel
theorem dX2_hour_113 : decode cX2_hour 113 = .ok (.aload_n 0, 1) := by decide +kernel
theorem dX2_hour_114 : decode cX2_hour 114 = .ok (.getfield 15, 3) := by decide +kernel
theorem dX2_hour_117 : decode cX2_hour 117 = .ok (.isub, 1) := by decide +kernel
theorem dX2_hour_118 : decode cX2_hour 118 = .ok (.aload_n 0, 1) := by decide +kernel
theorem dX2_hour_119 : decode cX2_hour 119 = .ok (.getfield 25, 3) := by decide +kernel
theorem dX2_hour_122 : decode cX2_hour 122 = .ok (.imul, 1) := by decide +kernel
theorem dX2_hour_123 : decode cX2_hour 123 = .ok (.bipush 20, 2) := by decide +kernel
theorem dX2_hour_125 : decode cX2_hour 125 = .ok (.idiv, 1) := by decide +kernel
theorem dX2_hour_126 : decode cX2_hour 126 = .ok (.isub, 1) := by decide +kernel
theorem dX2_hour_127 : decode cX2_hour 127 = .ok (.iastore, 1) := by decide +kernel
theorem dX2_hour_128 : decode cX2_hour 128 = .ok (.aload_n 0, 1) := by decide +kernel
theorem dX2_hour_129 : decode cX2_hour 129 = .ok (.getfield 28, 3) := by decide +kernel
theorem dX2_hour_132 : decode cX2_hour 132 = .ok (.ifCond .ne 35, 3) := by decide +kernel
theorem dX2_hour_135 : decode cX2_hour 135 = .ok (.aload_n 0, 1) := by decide +kernel
theorem dX2_hour_136 : decode cX2_hour 136 = .ok (.getfield 9, 3) := by decide +kernel
theorem dX2_hour_139 : decode cX2_hour 139 = .ok (.iconst 0, 1) := by decide +kernel
theorem dX2_hour_140 : decode cX2_hour 140 = .ok (.aload_n 0, 1) := by decide +kernel
theorem dX2_hour_141 : decode cX2_hour 141 = .ok (.getfield 15, 3) := by decide +kernel
theorem dX2_hour_144 : decode cX2_hour 144 = .ok (.iastore, 1) := by decide +kernel
theorem dX2_hour_145 : decode cX2_hour 145 = .ok (.aload_n 0, 1) := by decide +kernel
theorem dX2_hour_146 : decode cX2_hour 146 = .ok (.getfield 9, 3) := by decide +kernel
theorem dX2_hour_149 : decode cX2_hour 149 = .ok (.iconst 1, 1) := by decide +kernel
theorem dX2_hour_150 : decode cX2_hour 150 = .ok (.dup2, 1) := by decide +kernel
theorem dX2_hour_151 : decode cX2_hour 151 = .ok (.iaload, 1) := by decide +kernel
theorem dX2_hour_152 : decode cX2_hour 152 = .ok (.aload_n 0, 1) := by decide +kernel
theorem dX2_hour_153 : decode cX2_hour 153 = .ok (.getfield 9, 3) := by decide +kernel
theorem dX2_hour_156 : decode cX2_hour 156 = .ok (.iconst 1, 1) := by decide +kernel
theorem dX2_hour_157 : decode cX2_hour 157 = .ok (.iaload, 1) := by decide +kernel
theorem dX2_hour_158 : decode cX2_hour 158 = .ok (.aload_n 0, 1) := by decide +kernel
theorem dX2_hour_159 : decode cX2_hour 159 = .ok (.getfield 15, 3) := by decide +kernel
theorem dX2_hour_162 : decode cX2_hour 162 = .ok (.isub, 1) := by decide +kernel
theorem dX2_hour_163 : decode cX2_hour 163 = .ok (.iconst 2, 1) := by decide +kernel
theorem dX2_hour_164 : decode cX2_hour 164 = .ok (.idiv, 1) := by decide +kernel
theorem dX2_hour_165 : decode cX2_hour 165 = .ok (.isub, 1) := by decide +kernel
theorem dX2_hour_166 : decode cX2_hour 166 = .ok (.iastore, 1) := by decide +kernel
theorem dX2_hour_167 : decode cX2_hour 167 = .ok (.aload_n 0, 1) := by decide +kernel
theorem dX2_hour_168 : decode cX2_hour 168 = .ok (.getfield 32, 3) := by decide +kernel
theorem dX2_hour_171 : decode cX2_hour 171 = .ok (.iconst 2, 1) := by decide +kernel
theorem dX2_hour_172 : decode cX2_hour 172 = .ok (.aload_n 0, 1) := by decide +kernel
theorem dX2_hour_173 : decode cX2_hour 173 = .ok (.getfield 22, 3) := by decide +kernel
theorem dX2_hour_176 : decode cX2_hour 176 = .ok (.imul, 1) := by decide +kernel
theorem dX2_hour_177 : decode cX2_hour 177 = .ok (.isub, 1) := by decide +kernel
theorem dX2_hour_178 : decode cX2_hour 178 = .ok (.aload_n 0, 1) := by decide +kernel
theorem dX2_hour_179 : decode cX2_hour 179 = .ok (.getfield 19, 3) := by decide +kernel
theorem dX2_hour_182 : decode cX2_hour 182 = .ok (.isub, 1) := by decide +kernel
theorem dX2_hour_183 : decode cX2_hour 183 = .ok (.iconst 3, 1) := by decide +kernel
theorem dX2_hour_184 : decode cX2_hour 184 = .ok (.aload_n 0, 1) := by decide +kernel
theorem dX2_hour_185 : decode cX2_hour 185 = .ok (.getfield 25, 3) := by decide +kernel
theorem dX2_hour_188 : decode cX2_hour 188 = .ok (.imul, 1) := by decide +kernel
theorem dX2_hour_189 : decode cX2_hour 189 = .ok (.iadd, 1) := by decide +kernel
theorem dX2_hour_190 : decode cX2_hour 190 = .ok (.aload_n 0, 1) := by decide +kernel
theorem dX2_hour_191 : decode cX2_hour 191 = .ok (.getfield 28, 3) := by decide +kernel
theorem dX2_hour_194 : decode cX2_hour 194 = .ok (.ifCond .eq 7, 3) := by decide +kernel
theorem dX2_hour_197 : decode cX2_hour 197 = .ok (.iconst 0, 1) := by decide +kernel
theorem dX2_hour_198 : decode cX2_hour 198 = .ok (.goto 4, 3) := by decide +kernel
theorem dX2_hour_201 : decode cX2_hour 201 = .ok (.iconst 2, 1) := by decide +kernel
theorem dX2_hour_202 : decode cX2_hour 202 = .ok (.iadd, 1) := by decide +kernel
theorem dX2_hour_203 : decode cX2_hour 203 = .ok (.istore_n 1, 1) := by decide +kernel
theorem dX2_hour_204 : decode cX2_hour 204 = .ok (.aload_n 0, 1) := by decide +kernel
theorem dX2_hour_205 : decode cX2_hour 205 = .ok (.iconst 0, 1) := by decide +kernel
theorem dX2_hour_206 : decode cX2_hour 206 = .ok (.bipush 100, 2) := by decide +kernel
theorem dX2_hour_208 : decode cX2_hour 208 = .ok (.iload_n 1, 1) := by decide +kernel
theorem dX2_hour_209 : decode cX2_hour 209 = .ok (.invokestatic 45, 3) := by decide +kernel
theorem dX2_hour_212 : decode cX2_hour 212 = .ok (.invokestatic 51, 3) := by decide +kernel
theorem dX2_hour_215 : decode cX2_hour 215 = .ok (.putfield 32, 3) := by decide +kernel
theorem dX2_hour_218 : decode cX2_hour 218 = .ok (.return_, 1) := by decide +kernel
theorem dX2_riseFrom_0 : decode cX2_riseFrom 0 = .ok (.iload_n 1, 1) := by decide +kernel
theorem dX2_riseFrom_1 : decode cX2_riseFrom 1 = .ok (.iconst 5, 1) := by decide +kernel
theorem dX2_riseFrom_2 : decode cX2_riseFrom 2 = .ok (.invokestatic 54, 3) := by decide +kernel
theorem dX2_riseFrom_5 : decode cX2_riseFrom 5 = .ok (.ifCond .eq 20, 3) := by decide +kernel
theorem dX2_riseFrom_8 : decode cX2_riseFrom 8 = .ok (.aload_n 0, 1) := by decide +kernel
theorem dX2_riseFrom_9 : decode cX2_riseFrom 9 = .ok (.getfield 9, 3) := by decide +kernel
theorem dX2_riseFrom_12 : decode cX2_riseFrom 12 = .ok (.iload_n 1, 1) := by decide +kernel
theorem dX2_riseFrom_13 : decode cX2_riseFrom 13 = .ok (.iaload, 1) := by decide +kernel
theorem dX2_riseFrom_14 : decode cX2_riseFrom 14 = .ok (.aload_n 0, 1) := by decide +kernel
theorem dX2_riseFrom_15 : decode cX2_riseFrom 15 = .ok (.getfield 9, 3) := by decide +kernel
theorem dX2_riseFrom_18 : decode cX2_riseFrom 18 = .ok (.iload_n 1, 1) := by decide +kernel
theorem dX2_riseFrom_19 : decode cX2_riseFrom 19 = .ok (.iconst 1, 1) := by decide +kernel
theorem dX2_riseFrom_20 : decode cX2_riseFrom 20 = .ok (.iadd, 1) := by decide +kernel
theorem dX2_riseFrom_21 : decode cX2_riseFrom 21 = .ok (.iaload, 1) := by decide +kernel
theorem dX2_riseFrom_22 : decode cX2_riseFrom 22 = .ok (.if_icmp .gt 4, 3) := by decide +kernel
theorem dX2_riseFrom_25 : decode cX2_riseFrom 25 = .ok (.return_, 1) := by decide +kernel
theorem dX2_riseFrom_26 : decode cX2_riseFrom 26 = .ok (.aload_n 0, 1) := by decide +kernel
theorem dX2_riseFrom_27 : decode cX2_riseFrom 27 = .ok (.getfield 9, 3) := by decide +kernel
theorem dX2_riseFrom_30 : decode cX2_riseFrom 30 = .ok (.iload_n 1, 1) := by decide +kernel
theorem dX2_riseFrom_31 : decode cX2_riseFrom 31 = .ok (.iaload, 1) := by decide +kernel
theorem dX2_riseFrom_32 : decode cX2_riseFrom 32 = .ok (.istore_n 2, 1) := by decide +kernel
theorem dX2_riseFrom_33 : decode cX2_riseFrom 33 = .ok (.aload_n 0, 1) := by decide +kernel
theorem dX2_riseFrom_34 : decode cX2_riseFrom 34 = .ok (.getfield 9, 3) := by decide +kernel
theorem dX2_riseFrom_37 : decode cX2_riseFrom 37 = .ok (.iload_n 1, 1) := by decide +kernel
theorem dX2_riseFrom_38 : decode cX2_riseFrom 38 = .ok (.aload_n 0, 1) := by decide +kernel
theorem dX2_riseFrom_39 : decode cX2_riseFrom 39 = .ok (.getfield 9, 3) := by decide +kernel
theorem dX2_riseFrom_42 : decode cX2_riseFrom 42 = .ok (.iload_n 1, 1) := by decide +kernel
theorem dX2_riseFrom_43 : decode cX2_riseFrom 43 = .ok (.iconst 1, 1) := by decide +kernel
theorem dX2_riseFrom_44 : decode cX2_riseFrom 44 = .ok (.iadd, 1) := by decide +kernel
theorem dX2_riseFrom_45 : decode cX2_riseFrom 45 = .ok (.iaload, 1) := by decide +kernel
theorem dX2_riseFrom_46 : decode cX2_riseFrom 46 = .ok (.iastore, 1) := by decide +kernel
theorem dX2_riseFrom_47 : decode cX2_riseFrom 47 = .ok (.aload_n 0, 1) := by decide +kernel
theorem dX2_riseFrom_48 : decode cX2_riseFrom 48 = .ok (.getfield 9, 3) := by decide +kernel
theorem dX2_riseFrom_51 : decode cX2_riseFrom 51 = .ok (.iload_n 1, 1) := by decide +kernel
theorem dX2_riseFrom_52 : decode cX2_riseFrom 52 = .ok (.iconst 1, 1) := by decide +kernel
theorem dX2_riseFrom_53 : decode cX2_riseFrom 53 = .ok (.iadd, 1) := by decide +kernel
theorem dX2_riseFrom_54 : decode cX2_riseFrom 54 = .ok (.iload_n 2, 1) := by decide +kernel
theorem dX2_riseFrom_55 : decode cX2_riseFrom 55 = .ok (.iastore, 1) := by decide +kernel
theorem dX2_riseFrom_56 : decode cX2_riseFrom 56 = .ok (.return_, 1) := by decide +kernel
theorem dX2_breathes_0 : decode cX2_breathes 0 = .ok (.iconst 0, 1) := by decide +kernel
theorem dX2_breathes_1 : decode cX2_breathes 1 = .ok (.istore_n 1, 1) := by decide +kernel
theorem dX2_breathes_2 : decode cX2_breathes 2 = .ok (.iload_n 1, 1) := by decide +kernel
theorem dX2_breathes_3 : decode cX2_breathes 3 = .ok (.bipush 12, 2) := by decide +kernel
theorem dX2_breathes_5 : decode cX2_breathes 5 = .ok (.if_icmp .ge 24, 3) := by decide +kernel
theorem dX2_breathes_8 : decode cX2_breathes 8 = .ok (.aload_n 0, 1) := by decide +kernel
theorem dX2_breathes_9 : decode cX2_breathes 9 = .ok (.invokevirtual 58, 3) := by decide +kernel
theorem dX2_breathes_12 : decode cX2_breathes 12 = .ok (.aload_n 0, 1) := by decide +kernel
theorem dX2_breathes_13 : decode cX2_breathes 13 = .ok (.getfield 32, 3) := by decide +kernel
theorem dX2_breathes_16 : decode cX2_breathes 16 = .ok (.bipush 50, 2) := by decide +kernel
theorem dX2_breathes_18 : decode cX2_breathes 18 = .ok (.if_icmp .ge 5, 3) := by decide +kernel
theorem dX2_breathes_21 : decode cX2_breathes 21 = .ok (.iconst 0, 1) := by decide +kernel
theorem dX2_breathes_22 : decode cX2_breathes 22 = .ok (.ireturn, 1) := by decide +kernel
theorem dX2_breathes_23 : decode cX2_breathes 23 = .ok (.iinc 1 1, 3) := by decide +kernel
theorem dX2_breathes_26 : decode cX2_breathes 26 = .ok (.goto (-24), 3) := by decide +kernel
theorem dX2_breathes_29 : decode cX2_breathes 29 = .ok (.iconst 1, 1) := by decide +kernel
theorem dX2_breathes_30 : decode cX2_breathes 30 = .ok (.ireturn, 1) := by decide +kernel
theorem dX2_thawedHours_0 : decode cX2_thawedHours 0 = .ok (.iconst 0, 1) := by decide +kernel
theorem dX2_thawedHours_1 : decode cX2_thawedHours 1 = .ok (.istore_n 1, 1) := by decide +kernel
theorem dX2_thawedHours_2 : decode cX2_thawedHours 2 = .ok (.iconst 0, 1) := by decide +kernel
theorem dX2_thawedHours_3 : decode cX2_thawedHours 3 = .ok (.istore_n 2, 1) := by decide +kernel
theorem dX2_thawedHours_4 : decode cX2_thawedHours 4 = .ok (.iload_n 2, 1) := by decide +kernel
theorem dX2_thawedHours_5 : decode cX2_thawedHours 5 = .ok (.bipush 24, 2) := by decide +kernel
theorem dX2_thawedHours_7 : decode cX2_thawedHours 7 = .ok (.if_icmp .ge 39, 3) := by decide +kernel
theorem dX2_thawedHours_10 : decode cX2_thawedHours 10 = .ok (.aload_n 0, 1) := by decide +kernel
theorem dX2_thawedHours_11 : decode cX2_thawedHours 11 = .ok (.invokevirtual 58, 3) := by decide +kernel
theorem dX2_thawedHours_14 : decode cX2_thawedHours 14 = .ok (.aload_n 0, 1) := by decide +kernel
theorem dX2_thawedHours_15 : decode cX2_thawedHours 15 = .ok (.getfield 9, 3) := by decide +kernel
theorem dX2_thawedHours_18 : decode cX2_thawedHours 18 = .ok (.iconst 5, 1) := by decide +kernel
theorem dX2_thawedHours_19 : decode cX2_thawedHours 19 = .ok (.iaload, 1) := by decide +kernel
theorem dX2_thawedHours_20 : decode cX2_thawedHours 20 = .ok (.bipush 30, 2) := by decide +kernel
theorem dX2_thawedHours_22 : decode cX2_thawedHours 22 = .ok (.if_icmp .le 6, 3) := by decide +kernel
theorem dX2_thawedHours_25 : decode cX2_thawedHours 25 = .ok (.bipush (-9), 2) := by decide +kernel
theorem dX2_thawedHours_27 : decode cX2_thawedHours 27 = .ok (.ireturn, 1) := by decide +kernel
theorem dX2_thawedHours_28 : decode cX2_thawedHours 28 = .ok (.aload_n 0, 1) := by decide +kernel
theorem dX2_thawedHours_29 : decode cX2_thawedHours 29 = .ok (.getfield 9, 3) := by decide +kernel
theorem dX2_thawedHours_32 : decode cX2_thawedHours 32 = .ok (.iconst 5, 1) := by decide +kernel
theorem dX2_thawedHours_33 : decode cX2_thawedHours 33 = .ok (.iaload, 1) := by decide +kernel
theorem dX2_thawedHours_34 : decode cX2_thawedHours 34 = .ok (.ifCond .le 6, 3) := by decide +kernel
theorem dX2_thawedHours_37 : decode cX2_thawedHours 37 = .ok (.iinc 1 1, 3) := by decide +kernel
theorem dX2_thawedHours_40 : decode cX2_thawedHours 40 = .ok (.iinc 2 1, 3) := by decide +kernel
theorem dX2_thawedHours_43 : decode cX2_thawedHours 43 = .ok (.goto (-39), 3) := by decide +kernel
theorem dX2_thawedHours_46 : decode cX2_thawedHours 46 = .ok (.iload_n 1, 1) := by decide +kernel
theorem dX2_thawedHours_47 : decode cX2_thawedHours 47 = .ok (.ireturn, 1) := by decide +kernel
theorem dX3_init_0 : decode cX3_init 0 = .ok (.aload_n 0, 1) := by decide +kernel
theorem dX3_init_1 : decode cX3_init 1 = .ok (.invokespecial 3, 3) := by decide +kernel
theorem dX3_init_4 : decode cX3_init 4 = .ok (.aload_n 0, 1) := by decide +kernel
theorem dX3_init_5 : decode cX3_init 5 = .ok (.bipush 8, 2) := by decide +kernel
theorem dX3_init_7 : decode cX3_init 7 = .ok (.newarray .int, 2) := by decide +kernel
theorem dX3_init_9 : decode cX3_init 9 = .ok (.putfield 9, 3) := by decide +kernel
theorem dX3_init_12 : decode cX3_init 12 = .ok (.aload_n 0, 1) := by decide +kernel
theorem dX3_init_13 : decode cX3_init 13 = .ok (.bipush 8, 2) := by decide +kernel
theorem dX3_init_15 : decode cX3_init 15 = .ok (.newarray .int, 2) := by decide +kernel
theorem dX3_init_17 : decode cX3_init 17 = .ok (.putfield 15, 3) := by decide +kernel
theorem dX3_init_20 : decode cX3_init 20 = .ok (.aload_n 0, 1) := by decide +kernel
theorem dX3_init_21 : decode cX3_init 21 = .ok (.bipush 8, 2) := by decide +kernel
theorem dX3_init_23 : decode cX3_init 23 = .ok (.newarray .int, 2) := by decide +kernel
theorem dX3_init_25 : decode cX3_init 25 = .ok (.putfield 18, 3) := by decide +kernel
theorem dX3_init_28 : decode cX3_init 28 = .ok (.return_, 1) := by decide +kernel
theorem dX3_clear_0 : decode cX3_clear 0 = .ok (.aload_n 0, 1) := by decide +kernel
theorem dX3_clear_1 : decode cX3_clear 1 = .ok (.iconst 1, 1) := by decide +kernel
theorem dX3_clear_2 : decode cX3_clear 2 = .ok (.putfield 21, 3) := by decide +kernel
theorem dX3_clear_5 : decode cX3_clear 5 = .ok (.aload_n 0, 1) := by decide +kernel
theorem dX3_clear_6 : decode cX3_clear 6 = .ok (.iconst 0, 1) := by decide +kernel
theorem dX3_clear_7 : decode cX3_clear 7 = .ok (.putfield 25, 3) := by decide +kernel
theorem dX3_clear_10 : decode cX3_clear 10 = .ok (.aload_n 0, 1) := by decide +kernel
theorem dX3_clear_11 : decode cX3_clear 11 = .ok (.iconst 0, 1) := by decide +kernel
theorem dX3_clear_12 : decode cX3_clear 12 = .ok (.putfield 29, 3) := by decide +kernel
theorem dX3_clear_15 : decode cX3_clear 15 = .ok (.aload_n 0, 1) := by decide +kernel
theorem dX3_clear_16 : decode cX3_clear 16 = .ok (.iconst 2, 1) := by decide +kernel
theorem dX3_clear_17 : decode cX3_clear 17 = .ok (.putfield 32, 3) := by decide +kernel
theorem dX3_clear_20 : decode cX3_clear 20 = .ok (.return_, 1) := by decide +kernel
theorem dX3_addCourse_0 : decode cX3_addCourse 0 = .ok (.aload_n 0, 1) := by decide +kernel
theorem dX3_addCourse_1 : decode cX3_addCourse 1 = .ok (.getfield 25, 3) := by decide +kernel
theorem dX3_addCourse_4 : decode cX3_addCourse 4 = .ok (.bipush 8, 2) := by decide +kernel
theorem dX3_addCourse_6 : decode cX3_addCourse 6 = .ok (.if_icmp .lt 4, 3) := by decide +kernel
theorem dX3_addCourse_9 : decode cX3_addCourse 9 = .ok (.return_, 1) := by decide +kernel
theorem dX3_addCourse_10 : decode cX3_addCourse 10 = .ok (.aload_n 0, 1) := by decide +kernel
theorem dX3_addCourse_11 : decode cX3_addCourse 11 = .ok (.getfield 9, 3) := by decide +kernel
theorem dX3_addCourse_14 : decode cX3_addCourse 14 = .ok (.aload_n 0, 1) := by decide +kernel
theorem dX3_addCourse_15 : decode cX3_addCourse 15 = .ok (.getfield 25, 3) := by decide +kernel
theorem dX3_addCourse_18 : decode cX3_addCourse 18 = .ok (.iload_n 1, 1) := by decide +kernel
theorem dX3_addCourse_19 : decode cX3_addCourse 19 = .ok (.iastore, 1) := by decide +kernel
theorem dX3_addCourse_20 : decode cX3_addCourse 20 = .ok (.aload_n 0, 1) := by decide +kernel
theorem dX3_addCourse_21 : decode cX3_addCourse 21 = .ok (.getfield 15, 3) := by decide +kernel
theorem dX3_addCourse_24 : decode cX3_addCourse 24 = .ok (.aload_n 0, 1) := by decide +kernel
theorem dX3_addCourse_25 : decode cX3_addCourse 25 = .ok (.getfield 25, 3) := by decide +kernel
theorem dX3_addCourse_28 : decode cX3_addCourse 28 = .ok (.iload_n 2, 1) := by decide +kernel
theorem dX3_addCourse_29 : decode cX3_addCourse 29 = .ok (.iastore, 1) := by decide +kernel
theorem dX3_addCourse_30 : decode cX3_addCourse 30 = .ok (.aload_n 0, 1) := by decide +kernel
theorem dX3_addCourse_31 : decode cX3_addCourse 31 = .ok (.getfield 18, 3) := by decide +kernel
theorem dX3_addCourse_34 : decode cX3_addCourse 34 = .ok (.aload_n 0, 1) := by decide +kernel
theorem dX3_addCourse_35 : decode cX3_addCourse 35 = .ok (.getfield 25, 3) := by decide +kernel
theorem dX3_addCourse_38 : decode cX3_addCourse 38 = .ok (.iload_n 3, 1) := by decide +kernel
theorem dX3_addCourse_39 : decode cX3_addCourse 39 = .ok (.iastore, 1) := by decide +kernel
theorem dX3_addCourse_40 : decode cX3_addCourse 40 = .ok (.aload_n 0, 1) := by decide +kernel
theorem dX3_addCourse_41 : decode cX3_addCourse 41 = .ok (.dup, 1) := by decide +kernel
theorem dX3_addCourse_42 : decode cX3_addCourse 42 = .ok (.getfield 25, 3) := by decide +kernel
theorem dX3_addCourse_45 : decode cX3_addCourse 45 = .ok (.iconst 1, 1) := by decide +kernel
theorem dX3_addCourse_46 : decode cX3_addCourse 46 = .ok (.iadd, 1) := by decide +kernel
theorem dX3_addCourse_47 : decode cX3_addCourse 47 = .ok (.putfield 25, 3) := by decide +kernel
theorem dX3_addCourse_50 : decode cX3_addCourse 50 = .ok (.aload_n 0, 1) := by decide +kernel
theorem dX3_addCourse_51 : decode cX3_addCourse 51 = .ok (.dup, 1) := by decide +kernel
theorem dX3_addCourse_52 : decode cX3_addCourse 52 = .ok (.getfield 29, 3) := by decide +kernel
theorem dX3_addCourse_55 : decode cX3_addCourse 55 = .ok (.iload_n 2, 1) := by decide +kernel
theorem dX3_addCourse_56 : decode cX3_addCourse 56 = .ok (.iadd, 1) := by decide +kernel
theorem dX3_addCourse_57 : decode cX3_addCourse 57 = .ok (.putfield 29, 3) := by decide +kernel
theorem dX3_addCourse_60 : decode cX3_addCourse 60 = .ok (.return_, 1) := by decide +kernel
theorem dX3_takeFrom_0 : decode cX3_takeFrom 0 = .ok (.aload_n 0, 1) := by decide +kernel
theorem dX3_takeFrom_1 : decode cX3_takeFrom 1 = .ok (.aload_n 1, 1) := by decide +kernel
theorem dX3_takeFrom_2 : decode cX3_takeFrom 2 = .ok (.getfield 21, 3) := by decide +kernel
theorem dX3_takeFrom_5 : decode cX3_takeFrom 5 = .ok (.putfield 21, 3) := by decide +kernel
theorem dX3_takeFrom_8 : decode cX3_takeFrom 8 = .ok (.aload_n 0, 1) := by decide +kernel
theorem dX3_takeFrom_9 : decode cX3_takeFrom 9 = .ok (.aload_n 1, 1) := by decide +kernel
theorem dX3_takeFrom_10 : decode cX3_takeFrom 10 = .ok (.getfield 25, 3) := by decide +kernel
theorem dX3_takeFrom_13 : decode cX3_takeFrom 13 = .ok (.putfield 25, 3) := by decide +kernel
theorem dX3_takeFrom_16 : decode cX3_takeFrom 16 = .ok (.aload_n 0, 1) := by decide +kernel
theorem dX3_takeFrom_17 : decode cX3_takeFrom 17 = .ok (.aload_n 1, 1) := by decide +kernel
theorem dX3_takeFrom_18 : decode cX3_takeFrom 18 = .ok (.getfield 29, 3) := by decide +kernel
theorem dX3_takeFrom_21 : decode cX3_takeFrom 21 = .ok (.putfield 29, 3) := by decide +kernel
theorem dX3_takeFrom_24 : decode cX3_takeFrom 24 = .ok (.aload_n 0, 1) := by decide +kernel
theorem dX3_takeFrom_25 : decode cX3_takeFrom 25 = .ok (.aload_n 1, 1) := by decide +kernel
theorem dX3_takeFrom_26 : decode cX3_takeFrom 26 = .ok (.getfield 32, 3) := by decide +kernel
theorem dX3_takeFrom_29 : decode cX3_takeFrom 29 = .ok (.putfield 32, 3) := by decide +kernel
theorem dX3_takeFrom_32 : decode cX3_takeFrom 32 = .ok (.aload_n 1, 1) := by decide +kernel
theorem dX3_takeFrom_33 : decode cX3_takeFrom 33 = .ok (.getfield 9, 3) := by decide +kernel
theorem dX3_takeFrom_36 : decode cX3_takeFrom 36 = .ok (.iconst 0, 1) := by decide +kernel
theorem dX3_takeFrom_37 : decode cX3_takeFrom 37 = .ok (.aload_n 0, 1) := by decide +kernel
theorem dX3_takeFrom_38 : decode cX3_takeFrom 38 = .ok (.getfield 9, 3) := by decide +kernel
theorem dX3_takeFrom_41 : decode cX3_takeFrom 41 = .ok (.iconst 0, 1) := by decide +kernel
theorem dX3_takeFrom_42 : decode cX3_takeFrom 42 = .ok (.bipush 8, 2) := by decide +kernel
theorem dX3_takeFrom_44 : decode cX3_takeFrom 44 = .ok (.invokestatic 35, 3) := by decide +kernel
theorem dX3_takeFrom_47 : decode cX3_takeFrom 47 = .ok (.aload_n 1, 1) := by decide +kernel
theorem dX3_takeFrom_48 : decode cX3_takeFrom 48 = .ok (.getfield 15, 3) := by decide +kernel
theorem dX3_takeFrom_51 : decode cX3_takeFrom 51 = .ok (.iconst 0, 1) := by decide +kernel
theorem dX3_takeFrom_52 : decode cX3_takeFrom 52 = .ok (.aload_n 0, 1) := by decide +kernel
theorem dX3_takeFrom_53 : decode cX3_takeFrom 53 = .ok (.getfield 15, 3) := by decide +kernel
theorem dX3_takeFrom_56 : decode cX3_takeFrom 56 = .ok (.iconst 0, 1) := by decide +kernel
theorem dX3_takeFrom_57 : decode cX3_takeFrom 57 = .ok (.bipush 8, 2) := by decide +kernel
theorem dX3_takeFrom_59 : decode cX3_takeFrom 59 = .ok (.invokestatic 35, 3) := by decide +kernel
theorem dX3_takeFrom_62 : decode cX3_takeFrom 62 = .ok (.aload_n 1, 1) := by decide +kernel
theorem dX3_takeFrom_63 : decode cX3_takeFrom 63 = .ok (.getfield 18, 3) := by decide +kernel
theorem dX3_takeFrom_66 : decode cX3_takeFrom 66 = .ok (.iconst 0, 1) := by decide +kernel
theorem dX3_takeFrom_67 : decode cX3_takeFrom 67 = .ok (.aload_n 0, 1) := by decide +kernel
theorem dX3_takeFrom_68 : decode cX3_takeFrom 68 = .ok (.getfield 18, 3) := by decide +kernel
theorem dX3_takeFrom_71 : decode cX3_takeFrom 71 = .ok (.iconst 0, 1) := by decide +kernel
theorem dX3_takeFrom_72 : decode cX3_takeFrom 72 = .ok (.bipush 8, 2) := by decide +kernel
theorem dX3_takeFrom_74 : decode cX3_takeFrom 74 = .ok (.invokestatic 35, 3) := by decide +kernel
theorem dX3_takeFrom_77 : decode cX3_takeFrom 77 = .ok (.return_, 1) := by decide +kernel
theorem dX3_sleepers_0 : decode cX3_sleepers 0 = .ok (.aload_n 0, 1) := by decide +kernel
theorem dX3_sleepers_1 : decode cX3_sleepers 1 = .ok (.getfield 15, 3) := by decide +kernel
theorem dX3_sleepers_4 : decode cX3_sleepers 4 = .ok (.iconst 0, 1) := by decide +kernel
theorem dX3_sleepers_5 : decode cX3_sleepers 5 = .ok (.iaload, 1) := by decide +kernel
theorem dX3_sleepers_6 : decode cX3_sleepers 6 = .ok (.iconst 2, 1) := by decide +kernel
theorem dX3_sleepers_7 : decode cX3_sleepers 7 = .ok (.idiv, 1) := by decide +kernel
theorem dX3_sleepers_8 : decode cX3_sleepers 8 = .ok (.ireturn, 1) := by decide +kernel
theorem dX3_minutesBy_0 : decode cX3_minutesBy 0 = .ok (.aload_n 0, 1) := by decide +kernel
theorem dX3_minutesBy_1 : decode cX3_minutesBy 1 = .ok (.getfield 32, 3) := by decide +kernel
theorem dX3_minutesBy_4 : decode cX3_minutesBy 4 = .ok (.aload_n 0, 1) := by decide +kernel
theorem dX3_minutesBy_5 : decode cX3_minutesBy 5 = .ok (.getfield 29, 3) := by decide +kernel
theorem dX3_minutesBy_8 : decode cX3_minutesBy 8 = .ok (.imul, 1) := by decide +kernel
theorem dX3_minutesBy_9 : decode cX3_minutesBy 9 = .ok (.istore_n 2, 1) := by decide +kernel
theorem dX3_minutesBy_10 : decode cX3_minutesBy 10 = .ok (.iload_n 1, 1) := by decide +kernel
theorem dX3_minutesBy_11 : decode cX3_minutesBy 11 = .ok (.iconst 2, 1) := by decide +kernel
theorem dX3_minutesBy_12 : decode cX3_minutesBy 12 = .ok (.if_icmp .ne 11, 3) := by decide +kernel
theorem dX3_minutesBy_15 : decode cX3_minutesBy 15 = .ok (.iload_n 2, 1) := by decide +kernel
theorem dX3_minutesBy_16 : decode cX3_minutesBy 16 = .ok (.iconst 1, 1) := by decide +kernel
theorem dX3_minutesBy_17 : decode cX3_minutesBy 17 = .ok (.iadd, 1) := by decide +kernel
theorem dX3_minutesBy_18 : decode cX3_minutesBy 18 = .ok (.iconst 2, 1) := by decide +kernel
theorem dX3_minutesBy_19 : decode cX3_minutesBy 19 = .ok (.idiv, 1) := by decide +kernel
theorem dX3_minutesBy_20 : decode cX3_minutesBy 20 = .ok (.goto 4, 3) := by decide +kernel
theorem dX3_minutesBy_23 : decode cX3_minutesBy 23 = .ok (.iload_n 2, 1) := by decide +kernel
theorem dX3_minutesBy_24 : decode cX3_minutesBy 24 = .ok (.ireturn, 1) := by decide +kernel
theorem dX3_sizeAndLean_0 : decode cX3_sizeAndLean 0 = .ok (.iload_n 1, 1) := by decide +kernel
theorem dX3_sizeAndLean_1 : decode cX3_sizeAndLean 1 = .ok (.aload_n 0, 1) := by decide +kernel
theorem dX3_sizeAndLean_2 : decode cX3_sizeAndLean 2 = .ok (.getfield 25, 3) := by decide +kernel
theorem dX3_sizeAndLean_5 : decode cX3_sizeAndLean 5 = .ok (.invokestatic 41, 3) := by decide +kernel
theorem dX3_sizeAndLean_8 : decode cX3_sizeAndLean 8 = .ok (.ifCond .eq 22, 3) := by decide +kernel
theorem dX3_sizeAndLean_11 : decode cX3_sizeAndLean 11 = .ok (.bipush 10, 2) := by decide +kernel
theorem dX3_sizeAndLean_13 : decode cX3_sizeAndLean 13 = .ok (.aload_n 0, 1) := by decide +kernel
theorem dX3_sizeAndLean_14 : decode cX3_sizeAndLean 14 = .ok (.getfield 15, 3) := by decide +kernel
theorem dX3_sizeAndLean_17 : decode cX3_sizeAndLean 17 = .ok (.iload_n 1, 1) := by decide +kernel
theorem dX3_sizeAndLean_18 : decode cX3_sizeAndLean 18 = .ok (.iaload, 1) := by decide +kernel
theorem dX3_sizeAndLean_19 : decode cX3_sizeAndLean 19 = .ok (.imul, 1) := by decide +kernel
theorem dX3_sizeAndLean_20 : decode cX3_sizeAndLean 20 = .ok (.aload_n 0, 1) := by decide +kernel
theorem dX3_sizeAndLean_21 : decode cX3_sizeAndLean 21 = .ok (.getfield 18, 3) := by decide +kernel
theorem dX3_sizeAndLean_24 : decode cX3_sizeAndLean 24 = .ok (.iload_n 1, 1) := by decide +kernel
theorem dX3_sizeAndLean_25 : decode cX3_sizeAndLean 25 = .ok (.iaload, 1) := by decide +kernel
theorem dX3_sizeAndLean_26 : decode cX3_sizeAndLean 26 = .ok (.iadd, 1) := by decide +kernel
theorem dX3_sizeAndLean_27 : decode cX3_sizeAndLean 27 = .ok (.goto 4, 3) := by decide +kernel
theorem dX3_sizeAndLean_30 : decode cX3_sizeAndLean 30 = .ok (.iconst 0, 1) := by decide +kernel
theorem dX3_sizeAndLean_31 : decode cX3_sizeAndLean 31 = .ok (.ireturn, 1) := by decide +kernel
theorem dX3_fact_0 : decode cX3_fact 0 = .ok (.iload_n 1, 1) := by decide +kernel
theorem dX3_fact_1 : decode cX3_fact 1 = .ok (.tableswitch 42 0 2 #[27, 32, 37], 27) := by decide +kernel
theorem dX3_fact_28 : decode cX3_fact 28 = .ok (.aload_n 0, 1) := by decide +kernel
theorem dX3_fact_29 : decode cX3_fact 29 = .ok (.getfield 25, 3) := by decide +kernel
theorem dX3_fact_32 : decode cX3_fact 32 = .ok (.ireturn, 1) := by decide +kernel
theorem dX3_fact_33 : decode cX3_fact 33 = .ok (.aload_n 0, 1) := by decide +kernel
theorem dX3_fact_34 : decode cX3_fact 34 = .ok (.getfield 32, 3) := by decide +kernel
theorem dX3_fact_37 : decode cX3_fact 37 = .ok (.ireturn, 1) := by decide +kernel
theorem dX3_fact_38 : decode cX3_fact 38 = .ok (.aload_n 0, 1) := by decide +kernel
theorem dX3_fact_39 : decode cX3_fact 39 = .ok (.getfield 29, 3) := by decide +kernel
theorem dX3_fact_42 : decode cX3_fact 42 = .ok (.ireturn, 1) := by decide +kernel
theorem dX3_fact_43 : decode cX3_fact 43 = .ok (.aload_n 0, 1) := by decide +kernel
theorem dX3_fact_44 : decode cX3_fact 44 = .ok (.invokevirtual 45, 3) := by decide +kernel
theorem dX3_fact_47 : decode cX3_fact 47 = .ok (.ireturn, 1) := by decide +kernel
theorem dX3_slipFrom_0 : decode cX3_slipFrom 0 = .ok (.aload_n 0, 1) := by decide +kernel
theorem dX3_slipFrom_1 : decode cX3_slipFrom 1 = .ok (.aload_n 1, 1) := by decide +kernel
theorem dX3_slipFrom_2 : decode cX3_slipFrom 2 = .ok (.invokevirtual 49, 3) := by decide +kernel
theorem dX3_slipFrom_5 : decode cX3_slipFrom 5 = .ok (.iload_n 2, 1) := by decide +kernel
theorem dX3_slipFrom_6 : decode cX3_slipFrom 6 = .ok (.bipush 80, 2) := by decide +kernel
theorem dX3_slipFrom_8 : decode cX3_slipFrom 8 = .ok (.if_icmp .eq 9, 3) := by decide +kernel
theorem dX3_slipFrom_11 : decode cX3_slipFrom 11 = .ok (.iload_n 2, 1) := by decide +kernel
theorem dX3_slipFrom_12 : decode cX3_slipFrom 12 = .ok (.bipush 90, 2) := by decide +kernel
theorem dX3_slipFrom_14 : decode cX3_slipFrom 14 = .ok (.if_icmp .ne 46, 3) := by decide +kernel
theorem dX3_slipFrom_17 : decode cX3_slipFrom 17 = .ok (.aload_n 0, 1) := by decide +kernel
theorem dX3_slipFrom_18 : decode cX3_slipFrom 18 = .ok (.dup, 1) := by decide +kernel
theorem dX3_slipFrom_19 : decode cX3_slipFrom 19 = .ok (.getfield 32, 3) := by decide +kernel
theorem dX3_slipFrom_22 : decode cX3_slipFrom 22 = .ok (.iload_n 2, 1) := by decide +kernel
theorem dX3_slipFrom_23 : decode cX3_slipFrom 23 = .ok (.bipush 80, 2) := by decide +kernel
theorem dX3_slipFrom_25 : decode cX3_slipFrom 25 = .ok (.if_icmp .ne 7, 3) := by decide +kernel
theorem dX3_slipFrom_28 : decode cX3_slipFrom 28 = .ok (.iconst (-1), 1) := by decide +kernel
theorem dX3_slipFrom_29 : decode cX3_slipFrom 29 = .ok (.goto 4, 3) := by decide +kernel
theorem dX3_slipFrom_32 : decode cX3_slipFrom 32 = .ok (.iconst 1, 1) := by decide +kernel
theorem dX3_slipFrom_33 : decode cX3_slipFrom 33 = .ok (.iadd, 1) := by decide +kernel
theorem dX3_slipFrom_34 : decode cX3_slipFrom 34 = .ok (.putfield 32, 3) := by decide +kernel
theorem dX3_slipFrom_37 : decode cX3_slipFrom 37 = .ok (.aload_n 0, 1) := by decide +kernel
theorem dX3_slipFrom_38 : decode cX3_slipFrom 38 = .ok (.getfield 32, 3) := by decide +kernel
theorem dX3_slipFrom_41 : decode cX3_slipFrom 41 = .ok (.iconst 1, 1) := by decide +kernel
theorem dX3_slipFrom_42 : decode cX3_slipFrom 42 = .ok (.if_icmp .lt 16, 3) := by decide +kernel
theorem dX3_slipFrom_45 : decode cX3_slipFrom 45 = .ok (.aload_n 0, 1) := by decide +kernel
theorem dX3_slipFrom_46 : decode cX3_slipFrom 46 = .ok (.getfield 32, 3) := by decide +kernel
theorem dX3_slipFrom_49 : decode cX3_slipFrom 49 = .ok (.bipush 9, 2) := by decide +kernel
theorem dX3_slipFrom_51 : decode cX3_slipFrom 51 = .ok (.if_icmp .gt 7, 3) := by decide +kernel
theorem dX3_slipFrom_54 : decode cX3_slipFrom 54 = .ok (.iconst 1, 1) := by decide +kernel
theorem dX3_slipFrom_55 : decode cX3_slipFrom 55 = .ok (.goto 4, 3) := by decide +kernel
theorem dX3_slipFrom_58 : decode cX3_slipFrom 58 = .ok (.iconst 0, 1) := by decide +kernel
theorem dX3_slipFrom_59 : decode cX3_slipFrom 59 = .ok (.ireturn, 1) := by decide +kernel
theorem dX3_slipFrom_60 : decode cX3_slipFrom 60 = .ok (.iload_n 2, 1) := by decide +kernel
theorem dX3_slipFrom_61 : decode cX3_slipFrom 61 = .ok (.bipush 10, 2) := by decide +kernel
theorem dX3_slipFrom_63 : decode cX3_slipFrom 63 = .ok (.idiv, 1) := by decide +kernel
theorem dX3_slipFrom_64 : decode cX3_slipFrom 64 = .ok (.istore_n 3, 1) := by decide +kernel
theorem dX3_slipFrom_65 : decode cX3_slipFrom 65 = .ok (.iload_n 2, 1) := by decide +kernel
theorem dX3_slipFrom_66 : decode cX3_slipFrom 66 = .ok (.bipush 10, 2) := by decide +kernel
theorem dX3_slipFrom_68 : decode cX3_slipFrom 68 = .ok (.irem, 1) := by decide +kernel
theorem dX3_slipFrom_69 : decode cX3_slipFrom 69 = .ok (.istore 4, 2) := by decide +kernel
theorem dX3_slipFrom_71 : decode cX3_slipFrom 71 = .ok (.iload_n 3, 1) := by decide +kernel
theorem dX3_slipFrom_72 : decode cX3_slipFrom 72 = .ok (.aload_n 0, 1) := by decide +kernel
theorem dX3_slipFrom_73 : decode cX3_slipFrom 73 = .ok (.getfield 25, 3) := by decide +kernel
theorem dX3_slipFrom_76 : decode cX3_slipFrom 76 = .ok (.invokestatic 41, 3) := by decide +kernel
theorem dX3_slipFrom_79 : decode cX3_slipFrom 79 = .ok (.ifCond .eq 12, 3) := by decide +kernel
theorem dX3_slipFrom_82 : decode cX3_slipFrom 82 = .ok (.iload 4, 2) := by decide +kernel
theorem dX3_slipFrom_84 : decode cX3_slipFrom 84 = .ok (.iconst 2, 1) := by decide +kernel
theorem dX3_slipFrom_85 : decode cX3_slipFrom 85 = .ok (.invokestatic 53, 3) := by decide +kernel
theorem dX3_slipFrom_88 : decode cX3_slipFrom 88 = .ok (.ifCond .ne 5, 3) := by decide +kernel
theorem dX3_slipFrom_91 : decode cX3_slipFrom 91 = .ok (.iconst 0, 1) := by decide +kernel
theorem dX3_slipFrom_92 : decode cX3_slipFrom 92 = .ok (.ireturn, 1) := by decide +kernel
theorem dX3_slipFrom_93 : decode cX3_slipFrom 93 = .ok (.aload_n 0, 1) := by decide +kernel
theorem dX3_slipFrom_94 : decode cX3_slipFrom 94 = .ok (.getfield 18, 3) := by decide +kernel
theorem dX3_slipFrom_97 : decode cX3_slipFrom 97 = .ok (.iload_n 3, 1) := by decide +kernel
theorem dX3_slipFrom_98 : decode cX3_slipFrom 98 = .ok (.dup2, 1) := by decide +kernel
theorem dX3_slipFrom_99 : decode cX3_slipFrom 99 = .ok (.iaload, 1) := by decide +kernel
theorem dX3_slipFrom_100 : decode cX3_slipFrom 100 = .ok (.iload 4, 2) := by decide +kernel
theorem dX3_slipFrom_102 : decode cX3_slipFrom 102 = .ok (.iconst 2, 1) := by decide +kernel
theorem dX3_slipFrom_103 : decode cX3_slipFrom 103 = .ok (.if_icmp .ne 7, 3) := by decide +kernel
theorem dX3_slipFrom_106 : decode cX3_slipFrom 106 = .ok (.iconst (-1), 1) := by decide +kernel
theorem dX3_slipFrom_107 : decode cX3_slipFrom 107 = .ok (.goto 7, 3) := by decide +kernel
theorem dX3_slipFrom_110 : decode cX3_slipFrom 110 = .ok (.iload 4, 2) := by decide +kernel
theorem dX3_slipFrom_112 : decode cX3_slipFrom 112 = .ok (.iconst 1, 1) := by decide +kernel
theorem dX3_slipFrom_113 : decode cX3_slipFrom 113 = .ok (.iadd, 1) := by decide +kernel
theorem dX3_slipFrom_114 : decode cX3_slipFrom 114 = .ok (.iadd, 1) := by decide +kernel
theorem dX3_slipFrom_115 : decode cX3_slipFrom 115 = .ok (.iastore, 1) := by decide +kernel
theorem dX3_slipFrom_116 : decode cX3_slipFrom 116 = .ok (.aload_n 0, 1) := by decide +kernel
theorem dX3_slipFrom_117 : decode cX3_slipFrom 117 = .ok (.getfield 18, 3) := by decide +kernel
theorem dX3_slipFrom_120 : decode cX3_slipFrom 120 = .ok (.iload_n 3, 1) := by decide +kernel
theorem dX3_slipFrom_121 : decode cX3_slipFrom 121 = .ok (.iaload, 1) := by decide +kernel
theorem dX3_slipFrom_122 : decode cX3_slipFrom 122 = .ok (.bipush 9, 2) := by decide +kernel
theorem dX3_slipFrom_124 : decode cX3_slipFrom 124 = .ok (.invokestatic 53, 3) := by decide +kernel
theorem dX3_slipFrom_127 : decode cX3_slipFrom 127 = .ok (.ireturn, 1) := by decide +kernel
theorem dX3_mixInto_0 : decode cX3_mixInto 0 = .ok (.aload_n 0, 1) := by decide +kernel
theorem dX3_mixInto_1 : decode cX3_mixInto 1 = .ok (.getfield 21, 3) := by decide +kernel
theorem dX3_mixInto_4 : decode cX3_mixInto 4 = .ok (.ifCond .ne 11, 3) := by decide +kernel
theorem dX3_mixInto_7 : decode cX3_mixInto 7 = .ok (.ldc2_w 56, 3) := by decide +kernel
theorem dX3_mixInto_10 : decode cX3_mixInto 10 = .ok (.lload_n 1, 1) := by decide +kernel
theorem dX3_mixInto_11 : decode cX3_mixInto 11 = .ok (.lmul, 1) := by decide +kernel
theorem dX3_mixInto_12 : decode cX3_mixInto 12 = .ok (.lconst 1, 1) := by decide +kernel
theorem dX3_mixInto_13 : decode cX3_mixInto 13 = .ok (.lsub, 1) := by decide +kernel
theorem dX3_mixInto_14 : decode cX3_mixInto 14 = .ok (.lreturn, 1) := by decide +kernel
theorem dX3_mixInto_15 : decode cX3_mixInto 15 = .ok (.iconst 0, 1) := by decide +kernel
theorem dX3_mixInto_16 : decode cX3_mixInto 16 = .ok (.istore_n 3, 1) := by decide +kernel
theorem dX3_mixInto_17 : decode cX3_mixInto 17 = .ok (.iload_n 3, 1) := by decide +kernel
theorem dX3_mixInto_18 : decode cX3_mixInto 18 = .ok (.iconst 4, 1) := by decide +kernel
theorem dX3_mixInto_19 : decode cX3_mixInto 19 = .ok (.if_icmp .ge 22, 3) := by decide +kernel
theorem dX3_mixInto_22 : decode cX3_mixInto 22 = .ok (.ldc2_w 56, 3) := by decide +kernel
theorem dX3_mixInto_25 : decode cX3_mixInto 25 = .ok (.lload_n 1, 1) := by decide +kernel
theorem dX3_mixInto_26 : decode cX3_mixInto 26 = .ok (.lmul, 1) := by decide +kernel
theorem dX3_mixInto_27 : decode cX3_mixInto 27 = .ok (.aload_n 0, 1) := by decide +kernel
theorem dX3_mixInto_28 : decode cX3_mixInto 28 = .ok (.iload_n 3, 1) := by decide +kernel
theorem dX3_mixInto_29 : decode cX3_mixInto 29 = .ok (.invokevirtual 58, 3) := by decide +kernel
theorem dX3_mixInto_32 : decode cX3_mixInto 32 = .ok (.i2l, 1) := by decide +kernel
theorem dX3_mixInto_33 : decode cX3_mixInto 33 = .ok (.ladd, 1) := by decide +kernel
theorem dX3_mixInto_34 : decode cX3_mixInto 34 = .ok (.lstore_n 1, 1) := by decide +kernel
theorem dX3_mixInto_35 : decode cX3_mixInto 35 = .ok (.iinc 3 1, 3) := by decide +kernel
theorem dX3_mixInto_38 : decode cX3_mixInto 38 = .ok (.goto (-21), 3) := by decide +kernel
theorem dX3_mixInto_41 : decode cX3_mixInto 41 = .ok (.iconst 0, 1) := by decide +kernel
theorem dX3_mixInto_42 : decode cX3_mixInto 42 = .ok (.istore_n 3, 1) := by decide +kernel
theorem dX3_mixInto_43 : decode cX3_mixInto 43 = .ok (.iload_n 3, 1) := by decide +kernel
theorem dX3_mixInto_44 : decode cX3_mixInto 44 = .ok (.aload_n 0, 1) := by decide +kernel
theorem dX3_mixInto_45 : decode cX3_mixInto 45 = .ok (.getfield 25, 3) := by decide +kernel
theorem dX3_mixInto_48 : decode cX3_mixInto 48 = .ok (.if_icmp .ge 36, 3) := by decide +kernel
theorem dX3_mixInto_51 : decode cX3_mixInto 51 = .ok (.ldc2_w 56, 3) := by decide +kernel
theorem dX3_mixInto_54 : decode cX3_mixInto 54 = .ok (.lload_n 1, 1) := by decide +kernel
theorem dX3_mixInto_55 : decode cX3_mixInto 55 = .ok (.lmul, 1) := by decide +kernel
theorem dX3_mixInto_56 : decode cX3_mixInto 56 = .ok (.aload_n 0, 1) := by decide +kernel
theorem dX3_mixInto_57 : decode cX3_mixInto 57 = .ok (.getfield 9, 3) := by decide +kernel
theorem dX3_mixInto_60 : decode cX3_mixInto 60 = .ok (.iload_n 3, 1) := by decide +kernel
theorem dX3_mixInto_61 : decode cX3_mixInto 61 = .ok (.iaload, 1) := by decide +kernel
theorem dX3_mixInto_62 : decode cX3_mixInto 62 = .ok (.i2l, 1) := by decide +kernel
theorem dX3_mixInto_63 : decode cX3_mixInto 63 = .ok (.ladd, 1) := by decide +kernel
theorem dX3_mixInto_64 : decode cX3_mixInto 64 = .ok (.lstore_n 1, 1) := by decide +kernel
theorem dX3_mixInto_65 : decode cX3_mixInto 65 = .ok (.ldc2_w 56, 3) := by decide +kernel
theorem dX3_mixInto_68 : decode cX3_mixInto 68 = .ok (.lload_n 1, 1) := by decide +kernel
theorem dX3_mixInto_69 : decode cX3_mixInto 69 = .ok (.lmul, 1) := by decide +kernel
theorem dX3_mixInto_70 : decode cX3_mixInto 70 = .ok (.aload_n 0, 1) := by decide +kernel
theorem dX3_mixInto_71 : decode cX3_mixInto 71 = .ok (.iload_n 3, 1) := by decide +kernel
theorem dX3_mixInto_72 : decode cX3_mixInto 72 = .ok (.invokevirtual 62, 3) := by decide +kernel
theorem dX3_mixInto_75 : decode cX3_mixInto 75 = .ok (.i2l, 1) := by decide +kernel
theorem dX3_mixInto_76 : decode cX3_mixInto 76 = .ok (.ladd, 1) := by decide +kernel
theorem dX3_mixInto_77 : decode cX3_mixInto 77 = .ok (.lstore_n 1, 1) := by decide +kernel
theorem dX3_mixInto_78 : decode cX3_mixInto 78 = .ok (.iinc 3 1, 3) := by decide +kernel
theorem dX3_mixInto_81 : decode cX3_mixInto 81 = .ok (.goto (-38), 3) := by decide +kernel
theorem dX3_mixInto_84 : decode cX3_mixInto 84 = .ok (.lload_n 1, 1) := by decide +kernel
theorem dX3_mixInto_85 : decode cX3_mixInto 85 = .ok (.lreturn, 1) := by decide +kernel
theorem dX4_init_0 : decode cX4_init 0 = .ok (.aload_n 0, 1) := by decide +kernel
theorem dX4_init_1 : decode cX4_init 1 = .ok (.invokespecial 3, 3) := by decide +kernel
theorem dX4_init_4 : decode cX4_init 4 = .ok (.aload_n 0, 1) := by decide +kernel
theorem dX4_init_5 : decode cX4_init 5 = .ok (.new 9, 3) := by decide +kernel
theorem dX4_init_8 : decode cX4_init 8 = .ok (.dup, 1) := by decide +kernel
theorem dX4_init_9 : decode cX4_init 9 = .ok (.invokespecial 11, 3) := by decide +kernel
theorem dX4_init_12 : decode cX4_init 12 = .ok (.putfield 12, 3) := by decide +kernel
theorem dX4_init_15 : decode cX4_init 15 = .ok (.aload_n 0, 1) := by decide +kernel
theorem dX4_init_16 : decode cX4_init 16 = .ok (.new 18, 3) := by decide +kernel
theorem dX4_init_19 : decode cX4_init 19 = .ok (.dup, 1) := by decide +kernel
theorem dX4_init_20 : decode cX4_init 20 = .ok (.invokespecial 20, 3) := by decide +kernel
theorem dX4_init_23 : decode cX4_init 23 = .ok (.putfield 21, 3) := by decide +kernel
theorem dX4_init_26 : decode cX4_init 26 = .ok (.aload_n 0, 1) := by decide +kernel
theorem dX4_init_27 : decode cX4_init 27 = .ok (.iconst 0, 1) := by decide +kernel
theorem dX4_init_28 : decode cX4_init 28 = .ok (.newarray .byte, 2) := by decide +kernel
theorem dX4_init_30 : decode cX4_init 30 = .ok (.putfield 25, 3) := by decide +kernel
theorem dX4_init_33 : decode cX4_init 33 = .ok (.return_, 1) := by decide +kernel
theorem dX4_readSnow_0 : decode cX4_readSnow 0 = .ok (.aload_n 0, 1) := by decide +kernel
theorem dX4_readSnow_1 : decode cX4_readSnow 1 = .ok (.aload_n 1, 1) := by decide +kernel
theorem dX4_readSnow_2 : decode cX4_readSnow 2 = .ok (.iload_n 2, 1) := by decide +kernel
theorem dX4_readSnow_3 : decode cX4_readSnow 3 = .ok (.invokevirtual 29, 3) := by decide +kernel
theorem dX4_readSnow_6 : decode cX4_readSnow 6 = .ok (.aload_n 0, 1) := by decide +kernel
theorem dX4_readSnow_7 : decode cX4_readSnow 7 = .ok (.getfield 12, 3) := by decide +kernel
theorem dX4_readSnow_10 : decode cX4_readSnow 10 = .ok (.iconst 1, 1) := by decide +kernel
theorem dX4_readSnow_11 : decode cX4_readSnow 11 = .ok (.putfield 33, 3) := by decide +kernel
theorem dX4_readSnow_14 : decode cX4_readSnow 14 = .ok (.getstatic 37, 3) := by decide +kernel
theorem dX4_readSnow_17 : decode cX4_readSnow 17 = .ok (.iconst 0, 1) := by decide +kernel
theorem dX4_readSnow_18 : decode cX4_readSnow 18 = .ok (.aload_n 0, 1) := by decide +kernel
theorem dX4_readSnow_19 : decode cX4_readSnow 19 = .ok (.getfield 12, 3) := by decide +kernel
theorem dX4_readSnow_22 : decode cX4_readSnow 22 = .ok (.getfield 41, 3) := by decide +kernel
theorem dX4_readSnow_25 : decode cX4_readSnow 25 = .ok (.iconst 0, 1) := by decide +kernel
theorem dX4_readSnow_26 : decode cX4_readSnow 26 = .ok (.iconst 4, 1) := by decide +kernel
theorem dX4_readSnow_27 : decode cX4_readSnow 27 = .ok (.invokestatic 44, 3) := by decide +kernel
theorem dX4_readSnow_30 : decode cX4_readSnow 30 = .ok (.iconst 0, 1) := by decide +kernel
theorem dX4_readSnow_31 : decode cX4_readSnow 31 = .ok (.istore_n 3, 1) := by decide +kernel
theorem dX4_readSnow_32 : decode cX4_readSnow 32 = .ok (.iload_n 3, 1) := by decide +kernel
theorem dX4_readSnow_33 : decode cX4_readSnow 33 = .ok (.bipush 80, 2) := by decide +kernel
theorem dX4_readSnow_35 : decode cX4_readSnow 35 = .ok (.if_icmp .gt 28, 3) := by decide +kernel
theorem dX4_readSnow_38 : decode cX4_readSnow 38 = .ok (.aload_n 0, 1) := by decide +kernel
theorem dX4_readSnow_39 : decode cX4_readSnow 39 = .ok (.invokevirtual 50, 3) := by decide +kernel
theorem dX4_readSnow_42 : decode cX4_readSnow 42 = .ok (.ifCond .eq 21, 3) := by decide +kernel
theorem dX4_readSnow_45 : decode cX4_readSnow 45 = .ok (.aload_n 0, 1) := by decide +kernel
theorem dX4_readSnow_46 : decode cX4_readSnow 46 = .ok (.invokevirtual 54, 3) := by decide +kernel
theorem dX4_readSnow_49 : decode cX4_readSnow 49 = .ok (.ifCond .ne 8, 3) := by decide +kernel
theorem dX4_readSnow_52 : decode cX4_readSnow 52 = .ok (.aload_n 0, 1) := by decide +kernel
theorem dX4_readSnow_53 : decode cX4_readSnow 53 = .ok (.getfield 57, 3) := by decide +kernel
theorem dX4_readSnow_56 : decode cX4_readSnow 56 = .ok (.ireturn, 1) := by decide +kernel
theorem dX4_readSnow_57 : decode cX4_readSnow 57 = .ok (.iinc 3 1, 3) := by decide +kernel
theorem dX4_readSnow_60 : decode cX4_readSnow 60 = .ok (.goto (-28), 3) := by decide +kernel
theorem dX4_readSnow_63 : decode cX4_readSnow 63 = .ok (.bipush (-9), 2) := by decide +kernel
theorem dX4_readSnow_65 : decode cX4_readSnow 65 = .ok (.ireturn, 1) := by decide +kernel
theorem dX4_readPlan_0 : decode cX4_readPlan 0 = .ok (.aload_n 0, 1) := by decide +kernel
theorem dX4_readPlan_1 : decode cX4_readPlan 1 = .ok (.aload_n 1, 1) := by decide +kernel
theorem dX4_readPlan_2 : decode cX4_readPlan 2 = .ok (.iload_n 2, 1) := by decide +kernel
theorem dX4_readPlan_3 : decode cX4_readPlan 3 = .ok (.invokevirtual 29, 3) := by decide +kernel
theorem dX4_readPlan_6 : decode cX4_readPlan 6 = .ok (.aload_n 0, 1) := by decide +kernel
theorem dX4_readPlan_7 : decode cX4_readPlan 7 = .ok (.getfield 21, 3) := by decide +kernel
theorem dX4_readPlan_10 : decode cX4_readPlan 10 = .ok (.invokevirtual 61, 3) := by decide +kernel
theorem dX4_readPlan_13 : decode cX4_readPlan 13 = .ok (.iconst 0, 1) := by decide +kernel
theorem dX4_readPlan_14 : decode cX4_readPlan 14 = .ok (.istore_n 3, 1) := by decide +kernel
theorem dX4_readPlan_15 : decode cX4_readPlan 15 = .ok (.iload_n 3, 1) := by decide +kernel
theorem dX4_readPlan_16 : decode cX4_readPlan 16 = .ok (.bipush 80, 2) := by decide +kernel
theorem dX4_readPlan_18 : decode cX4_readPlan 18 = .ok (.if_icmp .gt 48, 3) := by decide +kernel
theorem dX4_readPlan_21 : decode cX4_readPlan 21 = .ok (.aload_n 0, 1) := by decide +kernel
theorem dX4_readPlan_22 : decode cX4_readPlan 22 = .ok (.invokevirtual 50, 3) := by decide +kernel
theorem dX4_readPlan_25 : decode cX4_readPlan 25 = .ok (.ifCond .eq 41, 3) := by decide +kernel
theorem dX4_readPlan_28 : decode cX4_readPlan 28 = .ok (.aload_n 0, 1) := by decide +kernel
theorem dX4_readPlan_29 : decode cX4_readPlan 29 = .ok (.invokevirtual 64, 3) := by decide +kernel
theorem dX4_readPlan_32 : decode cX4_readPlan 32 = .ok (.bipush 109, 2) := by decide +kernel
theorem dX4_readPlan_34 : decode cX4_readPlan 34 = .ok (.if_icmp .ne 10, 3) := by decide +kernel
theorem dX4_readPlan_37 : decode cX4_readPlan 37 = .ok (.aload_n 0, 1) := by decide +kernel
theorem dX4_readPlan_38 : decode cX4_readPlan 38 = .ok (.invokevirtual 68, 3) := by decide +kernel
theorem dX4_readPlan_41 : decode cX4_readPlan 41 = .ok (.goto 7, 3) := by decide +kernel
theorem dX4_readPlan_44 : decode cX4_readPlan 44 = .ok (.aload_n 0, 1) := by decide +kernel
theorem dX4_readPlan_45 : decode cX4_readPlan 45 = .ok (.invokevirtual 71, 3) := by decide +kernel
theorem dX4_readPlan_48 : decode cX4_readPlan 48 = .ok (.istore 4, 2) := by decide +kernel
theorem dX4_readPlan_50 : decode cX4_readPlan 50 = .ok (.iload 4, 2) := by decide +kernel
theorem dX4_readPlan_52 : decode cX4_readPlan 52 = .ok (.ifCond .ne 8, 3) := by decide +kernel
theorem dX4_readPlan_55 : decode cX4_readPlan 55 = .ok (.aload_n 0, 1) := by decide +kernel
theorem dX4_readPlan_56 : decode cX4_readPlan 56 = .ok (.getfield 57, 3) := by decide +kernel
theorem dX4_readPlan_59 : decode cX4_readPlan 59 = .ok (.ireturn, 1) := by decide +kernel
theorem dX4_readPlan_60 : decode cX4_readPlan 60 = .ok (.iinc 3 1, 3) := by decide +kernel
theorem dX4_readPlan_63 : decode cX4_readPlan 63 = .ok (.goto (-48), 3) := by decide +kernel
theorem dX4_readPlan_66 : decode cX4_readPlan 66 = .ok (.aload_n 0, 1) := by decide +kernel
theorem dX4_readPlan_67 : decode cX4_readPlan 67 = .ok (.getfield 21, 3) := by decide +kernel
theorem dX4_readPlan_70 : decode cX4_readPlan 70 = .ok (.getfield 74, 3) := by decide +kernel
theorem dX4_readPlan_73 : decode cX4_readPlan 73 = .ok (.ifCond .ne 10, 3) := by decide +kernel
theorem dX4_readPlan_76 : decode cX4_readPlan 76 = .ok (.aload_n 0, 1) := by decide +kernel
theorem dX4_readPlan_77 : decode cX4_readPlan 77 = .ok (.getfield 77, 3) := by decide +kernel
theorem dX4_readPlan_80 : decode cX4_readPlan 80 = .ok (.goto 5, 3) := by decide +kernel
theorem dX4_readPlan_83 : decode cX4_readPlan 83 = .ok (.bipush (-9), 2) := by decide +kernel
theorem dX4_readPlan_85 : decode cX4_readPlan 85 = .ok (.ireturn, 1) := by decide +kernel
theorem dX4_open_0 : decode cX4_open 0 = .ok (.aload_n 0, 1) := by decide +kernel
theorem dX4_open_1 : decode cX4_open 1 = .ok (.aload_n 1, 1) := by decide +kernel
theorem dX4_open_2 : decode cX4_open 2 = .ok (.putfield 25, 3) := by decide +kernel
theorem dX4_open_5 : decode cX4_open 5 = .ok (.aload_n 0, 1) := by decide +kernel
theorem dX4_open_6 : decode cX4_open 6 = .ok (.iload_n 2, 1) := by decide +kernel
theorem dX4_open_7 : decode cX4_open 7 = .ok (.aload_n 1, 1) := by decide +kernel
theorem dX4_open_8 : decode cX4_open 8 = .ok (.arraylength, 1) := by decide +kernel
theorem dX4_open_9 : decode cX4_open 9 = .ok (.invokestatic 80, 3) := by decide +kernel
theorem dX4_open_12 : decode cX4_open 12 = .ok (.putfield 77, 3) := by decide +kernel
theorem dX4_open_15 : decode cX4_open 15 = .ok (.aload_n 0, 1) := by decide +kernel
theorem dX4_open_16 : decode cX4_open 16 = .ok (.iconst 0, 1) := by decide +kernel
theorem dX4_open_17 : decode cX4_open 17 = .ok (.putfield 57, 3) := by decide +kernel
theorem dX4_open_20 : decode cX4_open 20 = .ok (.aload_n 0, 1) := by decide +kernel
theorem dX4_open_21 : decode cX4_open 21 = .ok (.iconst 0, 1) := by decide +kernel
theorem dX4_open_22 : decode cX4_open 22 = .ok (.putfield 86, 3) := by decide +kernel
theorem dX4_open_25 : decode cX4_open 25 = .ok (.return_, 1) := by decide +kernel
theorem dX4_comesMore_0 : decode cX4_comesMore 0 = .ok (.aload_n 0, 1) := by decide +kernel
theorem dX4_comesMore_1 : decode cX4_comesMore 1 = .ok (.getfield 57, 3) := by decide +kernel
theorem dX4_comesMore_4 : decode cX4_comesMore 4 = .ok (.aload_n 0, 1) := by decide +kernel
theorem dX4_comesMore_5 : decode cX4_comesMore 5 = .ok (.getfield 77, 3) := by decide +kernel
theorem dX4_comesMore_8 : decode cX4_comesMore 8 = .ok (.if_icmp .ge 25, 3) := by decide +kernel
theorem dX4_comesMore_11 : decode cX4_comesMore 11 = .ok (.aload_n 0, 1) := by decide +kernel
theorem dX4_comesMore_12 : decode cX4_comesMore 12 = .ok (.invokevirtual 64, 3) := by decide +kernel
theorem dX4_comesMore_15 : decode cX4_comesMore 15 = .ok (.bipush 32, 2) := by decide +kernel
theorem dX4_comesMore_17 : decode cX4_comesMore 17 = .ok (.if_icmp .ne 16, 3) := by decide +kernel
theorem dX4_comesMore_20 : decode cX4_comesMore 20 = .ok (.aload_n 0, 1) := by decide +kernel
theorem dX4_comesMore_21 : decode cX4_comesMore 21 = .ok (.dup, 1) := by decide +kernel
theorem dX4_comesMore_22 : decode cX4_comesMore 22 = .ok (.getfield 57, 3) := by decide +kernel
theorem dX4_comesMore_25 : decode cX4_comesMore 25 = .ok (.iconst 1, 1) := by decide +kernel
theorem dX4_comesMore_26 : decode cX4_comesMore 26 = .ok (.iadd, 1) := by decide +kernel
theorem dX4_comesMore_27 : decode cX4_comesMore 27 = .ok (.putfield 57, 3) := by decide +kernel
theorem dX4_comesMore_30 : decode cX4_comesMore 30 = .ok (.goto (-30), 3) := by decide +kernel
theorem dX4_comesMore_33 : decode cX4_comesMore 33 = .ok (.aload_n 0, 1) := by decide +kernel
theorem dX4_comesMore_34 : decode cX4_comesMore 34 = .ok (.getfield 57, 3) := by decide +kernel
theorem dX4_comesMore_37 : decode cX4_comesMore 37 = .ok (.aload_n 0, 1) := by decide +kernel
theorem dX4_comesMore_38 : decode cX4_comesMore 38 = .ok (.getfield 77, 3) := by decide +kernel
theorem dX4_comesMore_41 : decode cX4_comesMore 41 = .ok (.if_icmp .ge 7, 3) := by decide +kernel
theorem dX4_comesMore_44 : decode cX4_comesMore 44 = .ok (.iconst 1, 1) := by decide +kernel
theorem dX4_comesMore_45 : decode cX4_comesMore 45 = .ok (.goto 4, 3) := by decide +kernel
theorem dX4_comesMore_48 : decode cX4_comesMore 48 = .ok (.iconst 0, 1) := by decide +kernel
theorem dX4_comesMore_49 : decode cX4_comesMore 49 = .ok (.ireturn, 1) := by decide +kernel
theorem dX4_sign_0 : decode cX4_sign 0 = .ok (.aload_n 0, 1) := by decide +kernel
theorem dX4_sign_1 : decode cX4_sign 1 = .ok (.getfield 57, 3) := by decide +kernel
theorem dX4_sign_4 : decode cX4_sign 4 = .ok (.aload_n 0, 1) := by decide +kernel
theorem dX4_sign_5 : decode cX4_sign 5 = .ok (.getfield 77, 3) := by decide +kernel
theorem dX4_sign_8 : decode cX4_sign 8 = .ok (.invokestatic 89, 3) := by decide +kernel
theorem dX4_sign_11 : decode cX4_sign 11 = .ok (.ifCond .eq 15, 3) := by decide +kernel
theorem dX4_sign_14 : decode cX4_sign 14 = .ok (.aload_n 0, 1) := by decide +kernel
theorem dX4_sign_15 : decode cX4_sign 15 = .ok (.getfield 25, 3) := by decide +kernel
theorem dX4_sign_18 : decode cX4_sign 18 = .ok (.aload_n 0, 1) := by decide +kernel
theorem dX4_sign_19 : decode cX4_sign 19 = .ok (.getfield 57, 3) := by decide +kernel
theorem dX4_sign_22 : decode cX4_sign 22 = .ok (.baload, 1) := by decide +kernel
theorem dX4_sign_23 : decode cX4_sign 23 = .ok (.goto 4, 3) := by decide +kernel
theorem dX4_sign_26 : decode cX4_sign 26 = .ok (.iconst (-1), 1) := by decide +kernel
theorem dX4_sign_27 : decode cX4_sign 27 = .ok (.ireturn, 1) := by decide +kernel
theorem dX4_isFigure_0 : decode cX4_isFigure 0 = .ok (.aload_n 0, 1) := by decide +kernel
theorem dX4_isFigure_1 : decode cX4_isFigure 1 = .ok (.invokevirtual 64, 3) := by decide +kernel
theorem dX4_isFigure_4 : decode cX4_isFigure 4 = .ok (.istore_n 1, 1) := by decide +kernel
theorem dX4_isFigure_5 : decode cX4_isFigure 5 = .ok (.iload_n 1, 1) := by decide +kernel
theorem dX4_isFigure_6 : decode cX4_isFigure 6 = .ok (.bipush 48, 2) := by decide +kernel
theorem dX4_isFigure_8 : decode cX4_isFigure 8 = .ok (.if_icmp .lt 13, 3) := by decide +kernel
theorem dX4_isFigure_11 : decode cX4_isFigure 11 = .ok (.iload_n 1, 1) := by decide +kernel
theorem dX4_isFigure_12 : decode cX4_isFigure 12 = .ok (.bipush 57, 2) := by decide +kernel
theorem dX4_isFigure_14 : decode cX4_isFigure 14 = .ok (.if_icmp .gt 7, 3) := by decide +kernel
theorem dX4_isFigure_17 : decode cX4_isFigure 17 = .ok (.iconst 1, 1) := by decide +kernel
theorem dX4_isFigure_18 : decode cX4_isFigure 18 = .ok (.goto 4, 3) := by decide +kernel
theorem dX4_isFigure_21 : decode cX4_isFigure 21 = .ok (.iconst 0, 1) := by decide +kernel
theorem dX4_isFigure_22 : decode cX4_isFigure 22 = .ok (.ireturn, 1) := by decide +kernel
theorem dX4_readNumber_0 : decode cX4_readNumber 0 = .ok (.aload_n 0, 1) := by decide +kernel
theorem dX4_readNumber_1 : decode cX4_readNumber 1 = .ok (.invokevirtual 93, 3) := by decide +kernel
theorem dX4_readNumber_4 : decode cX4_readNumber 4 = .ok (.ifCond .ne 5, 3) := by decide +kernel
theorem dX4_readNumber_7 : decode cX4_readNumber 7 = .ok (.iconst 0, 1) := by decide +kernel
theorem dX4_readNumber_8 : decode cX4_readNumber 8 = .ok (.ireturn, 1) := by decide +kernel
theorem dX4_readNumber_9 : decode cX4_readNumber 9 = .ok (.aload_n 0, 1) := by decide +kernel
theorem dX4_readNumber_10 : decode cX4_readNumber 10 = .ok (.aload_n 0, 1) := by decide +kernel
theorem dX4_readNumber_11 : decode cX4_readNumber 11 = .ok (.invokevirtual 64, 3) := by decide +kernel
theorem dX4_readNumber_14 : decode cX4_readNumber 14 = .ok (.bipush 48, 2) := by decide +kernel
theorem dX4_readNumber_16 : decode cX4_readNumber 16 = .ok (.isub, 1) := by decide +kernel
theorem dX4_readNumber_17 : decode cX4_readNumber 17 = .ok (.putfield 96, 3) := by decide +kernel
theorem dX4_readNumber_20 : decode cX4_readNumber 20 = .ok (.aload_n 0, 1) := by decide +kernel
theorem dX4_readNumber_21 : decode cX4_readNumber 21 = .ok (.dup, 1) := by decide +kernel
theorem dX4_readNumber_22 : decode cX4_readNumber 22 = .ok (.getfield 57, 3) := by decide +kernel
theorem dX4_readNumber_25 : decode cX4_readNumber 25 = .ok (.iconst 1, 1) := by decide +kernel
theorem dX4_readNumber_26 : decode cX4_readNumber 26 = .ok (.iadd, 1) := by decide +kernel
theorem dX4_readNumber_27 : decode cX4_readNumber 27 = .ok (.putfield 57, 3) := by decide +kernel
theorem dX4_readNumber_30 : decode cX4_readNumber 30 = .ok (.aload_n 0, 1) := by decide +kernel
theorem dX4_readNumber_31 : decode cX4_readNumber 31 = .ok (.invokevirtual 93, 3) := by decide +kernel
theorem dX4_readNumber_34 : decode cX4_readNumber 34 = .ok (.ifCond .eq 32, 3) := by decide +kernel
theorem dX4_readNumber_37 : decode cX4_readNumber 37 = .ok (.aload_n 0, 1) := by decide +kernel
theorem dX4_readNumber_38 : decode cX4_readNumber 38 = .ok (.bipush 10, 2) := by decide +kernel
theorem dX4_readNumber_40 : decode cX4_readNumber 40 = .ok (.aload_n 0, 1) := by decide +kernel
theorem dX4_readNumber_41 : decode cX4_readNumber 41 = .ok (.getfield 96, 3) := by decide +kernel
theorem dX4_readNumber_44 : decode cX4_readNumber 44 = .ok (.imul, 1) := by decide +kernel
theorem dX4_readNumber_45 : decode cX4_readNumber 45 = .ok (.aload_n 0, 1) := by decide +kernel
theorem dX4_readNumber_46 : decode cX4_readNumber 46 = .ok (.invokevirtual 64, 3) := by decide +kernel
theorem dX4_readNumber_49 : decode cX4_readNumber 49 = .ok (.iadd, 1) := by decide +kernel
theorem dX4_readNumber_50 : decode cX4_readNumber 50 = .ok (.bipush 48, 2) := by decide +kernel
theorem dX4_readNumber_52 : decode cX4_readNumber 52 = .ok (.isub, 1) := by decide +kernel
theorem dX4_readNumber_53 : decode cX4_readNumber 53 = .ok (.putfield 96, 3) := by decide +kernel
theorem dX4_readNumber_56 : decode cX4_readNumber 56 = .ok (.aload_n 0, 1) := by decide +kernel
theorem dX4_readNumber_57 : decode cX4_readNumber 57 = .ok (.dup, 1) := by decide +kernel
theorem dX4_readNumber_58 : decode cX4_readNumber 58 = .ok (.getfield 57, 3) := by decide +kernel
theorem dX4_readNumber_61 : decode cX4_readNumber 61 = .ok (.iconst 1, 1) := by decide +kernel
theorem dX4_readNumber_62 : decode cX4_readNumber 62 = .ok (.iadd, 1) := by decide +kernel
theorem dX4_readNumber_63 : decode cX4_readNumber 63 = .ok (.putfield 57, 3) := by decide +kernel
theorem dX4_readNumber_66 : decode cX4_readNumber 66 = .ok (.iconst 1, 1) := by decide +kernel
theorem dX4_readNumber_67 : decode cX4_readNumber 67 = .ok (.ireturn, 1) := by decide +kernel
theorem dX4_readSign_0 : decode cX4_readSign 0 = .ok (.aload_n 0, 1) := by decide +kernel
theorem dX4_readSign_1 : decode cX4_readSign 1 = .ok (.invokevirtual 64, 3) := by decide +kernel
theorem dX4_readSign_4 : decode cX4_readSign 4 = .ok (.iload_n 1, 1) := by decide +kernel
theorem dX4_readSign_5 : decode cX4_readSign 5 = .ok (.if_icmp .eq 5, 3) := by decide +kernel
theorem dX4_readSign_8 : decode cX4_readSign 8 = .ok (.iconst 0, 1) := by decide +kernel
theorem dX4_readSign_9 : decode cX4_readSign 9 = .ok (.ireturn, 1) := by decide +kernel
theorem dX4_readSign_10 : decode cX4_readSign 10 = .ok (.aload_n 0, 1) := by decide +kernel
theorem dX4_readSign_11 : decode cX4_readSign 11 = .ok (.dup, 1) := by decide +kernel
theorem dX4_readSign_12 : decode cX4_readSign 12 = .ok (.getfield 57, 3) := by decide +kernel
theorem dX4_readSign_15 : decode cX4_readSign 15 = .ok (.iconst 1, 1) := by decide +kernel
theorem dX4_readSign_16 : decode cX4_readSign 16 = .ok (.iadd, 1) := by decide +kernel
theorem dX4_readSign_17 : decode cX4_readSign 17 = .ok (.putfield 57, 3) := by decide +kernel
theorem dX4_readSign_20 : decode cX4_readSign 20 = .ok (.iconst 1, 1) := by decide +kernel
theorem dX4_readSign_21 : decode cX4_readSign 21 = .ok (.ireturn, 1) := by decide +kernel
theorem dX4_readWorth_0 : decode cX4_readWorth 0 = .ok (.iconst 0, 1) := by decide +kernel
theorem dX4_readWorth_1 : decode cX4_readWorth 1 = .ok (.istore_n 1, 1) := by decide +kernel
theorem dX4_readWorth_2 : decode cX4_readWorth 2 = .ok (.iload_n 1, 1) := by decide +kernel
theorem dX4_readWorth_3 : decode cX4_readWorth 3 = .ok (.iconst 4, 1) := by decide +kernel
theorem dX4_readWorth_4 : decode cX4_readWorth 4 = .ok (.if_icmp .ge 21, 3) := by decide +kernel
theorem dX4_readWorth_7 : decode cX4_readWorth 7 = .ok (.getstatic 99, 3) := by decide +kernel
theorem dX4_readWorth_10 : decode cX4_readWorth 10 = .ok (.iload_n 1, 1) := by decide +kernel
theorem dX4_readWorth_11 : decode cX4_readWorth 11 = .ok (.iaload, 1) := by decide +kernel
theorem dX4_readWorth_12 : decode cX4_readWorth 12 = .ok (.aload_n 0, 1) := by decide +kernel
theorem dX4_readWorth_13 : decode cX4_readWorth 13 = .ok (.invokevirtual 64, 3) := by decide +kernel
theorem dX4_readWorth_16 : decode cX4_readWorth 16 = .ok (.if_icmp .eq 9, 3) := by decide +kernel
theorem dX4_readWorth_19 : decode cX4_readWorth 19 = .ok (.iinc 1 1, 3) := by decide +kernel
theorem dX4_readWorth_22 : decode cX4_readWorth 22 = .ok (.goto (-20), 3) := by decide +kernel
theorem dX4_readWorth_25 : decode cX4_readWorth 25 = .ok (.iload_n 1, 1) := by decide +kernel
theorem dX4_readWorth_26 : decode cX4_readWorth 26 = .ok (.iconst 4, 1) := by decide +kernel
theorem dX4_readWorth_27 : decode cX4_readWorth 27 = .ok (.if_icmp .lt 5, 3) := by decide +kernel
theorem dX4_readWorth_30 : decode cX4_readWorth 30 = .ok (.iconst 0, 1) := by decide +kernel
theorem dX4_readWorth_31 : decode cX4_readWorth 31 = .ok (.ireturn, 1) := by decide +kernel
theorem dX4_readWorth_32 : decode cX4_readWorth 32 = .ok (.aload_n 0, 1) := by decide +kernel
theorem dX4_readWorth_33 : decode cX4_readWorth 33 = .ok (.dup, 1) := by decide +kernel
theorem dX4_readWorth_34 : decode cX4_readWorth 34 = .ok (.getfield 57, 3) := by decide +kernel
theorem dX4_readWorth_37 : decode cX4_readWorth 37 = .ok (.iconst 1, 1) := by decide +kernel
theorem dX4_readWorth_38 : decode cX4_readWorth 38 = .ok (.iadd, 1) := by decide +kernel
theorem dX4_readWorth_39 : decode cX4_readWorth 39 = .ok (.putfield 57, 3) := by decide +kernel
theorem dX4_readWorth_42 : decode cX4_readWorth 42 = .ok (.aload_n 0, 1) := by decide +kernel
theorem dX4_readWorth_43 : decode cX4_readWorth 43 = .ok (.invokevirtual 102, 3) := by decide +kernel
theorem dX4_readWorth_46 : decode cX4_readWorth 46 = .ok (.ifCond .ne 5, 3) := by decide +kernel
theorem dX4_readWorth_49 : decode cX4_readWorth 49 = .ok (.iconst 0, 1) := by decide +kernel
theorem dX4_readWorth_50 : decode cX4_readWorth 50 = .ok (.ireturn, 1) := by decide +kernel
theorem dX4_readWorth_51 : decode cX4_readWorth 51 = .ok (.aload_n 0, 1) := by decide +kernel
theorem dX4_readWorth_52 : decode cX4_readWorth 52 = .ok (.getfield 96, 3) := by decide +kernel
theorem dX4_readWorth_55 : decode cX4_readWorth 55 = .ok (.getstatic 105, 3) := by decide +kernel
theorem dX4_readWorth_58 : decode cX4_readWorth 58 = .ok (.iload_n 1, 1) := by decide +kernel
theorem dX4_readWorth_59 : decode cX4_readWorth 59 = .ok (.iaload, 1) := by decide +kernel
theorem dX4_readWorth_60 : decode cX4_readWorth 60 = .ok (.if_icmp .lt 15, 3) := by decide +kernel
theorem dX4_readWorth_63 : decode cX4_readWorth 63 = .ok (.aload_n 0, 1) := by decide +kernel
theorem dX4_readWorth_64 : decode cX4_readWorth 64 = .ok (.getfield 96, 3) := by decide +kernel
theorem dX4_readWorth_67 : decode cX4_readWorth 67 = .ok (.getstatic 108, 3) := by decide +kernel
theorem dX4_readWorth_70 : decode cX4_readWorth 70 = .ok (.iload_n 1, 1) := by decide +kernel
theorem dX4_readWorth_71 : decode cX4_readWorth 71 = .ok (.iaload, 1) := by decide +kernel
theorem dX4_readWorth_72 : decode cX4_readWorth 72 = .ok (.if_icmp .le 5, 3) := by decide +kernel
theorem dX4_readWorth_75 : decode cX4_readWorth 75 = .ok (.iconst 0, 1) := by decide +kernel
theorem dX4_readWorth_76 : decode cX4_readWorth 76 = .ok (.ireturn, 1) := by decide +kernel
theorem dX4_readWorth_77 : decode cX4_readWorth 77 = .ok (.aload_n 0, 1) := by decide +kernel
theorem dX4_readWorth_78 : decode cX4_readWorth 78 = .ok (.getfield 12, 3) := by decide +kernel
theorem dX4_readWorth_81 : decode cX4_readWorth 81 = .ok (.getfield 41, 3) := by decide +kernel
theorem dX4_readWorth_84 : decode cX4_readWorth 84 = .ok (.iload_n 1, 1) := by decide +kernel
theorem dX4_readWorth_85 : decode cX4_readWorth 85 = .ok (.aload_n 0, 1) := by decide +kernel
theorem dX4_readWorth_86 : decode cX4_readWorth 86 = .ok (.getfield 96, 3) := by decide +kernel
theorem dX4_readWorth_89 : decode cX4_readWorth 89 = .ok (.iastore, 1) := by decide +kernel
theorem dX4_readWorth_90 : decode cX4_readWorth 90 = .ok (.aload_n 0, 1) := by decide +kernel
theorem dX4_readWorth_91 : decode cX4_readWorth 91 = .ok (.dup, 1) := by decide +kernel
theorem dX4_readWorth_92 : decode cX4_readWorth 92 = .ok (.getfield 86, 3) := by decide +kernel
theorem dX4_readWorth_95 : decode cX4_readWorth 95 = .ok (.iconst 1, 1) := by decide +kernel
theorem dX4_readWorth_96 : decode cX4_readWorth 96 = .ok (.iadd, 1) := by decide +kernel
theorem dX4_readWorth_97 : decode cX4_readWorth 97 = .ok (.putfield 86, 3) := by decide +kernel
theorem dX4_readWorth_100 : decode cX4_readWorth 100 = .ok (.iconst 1, 1) := by decide +kernel
theorem dX4_readWorth_101 : decode cX4_readWorth 101 = .ok (.ireturn, 1) := by decide +kernel
theorem dX4_readMinutes_0 : decode cX4_readMinutes 0 = .ok (.aload_n 0, 1) := by decide +kernel
theorem dX4_readMinutes_1 : decode cX4_readMinutes 1 = .ok (.dup, 1) := by decide +kernel
theorem dX4_readMinutes_2 : decode cX4_readMinutes 2 = .ok (.getfield 57, 3) := by decide +kernel
theorem dX4_readMinutes_5 : decode cX4_readMinutes 5 = .ok (.iconst 1, 1) := by decide +kernel
theorem dX4_readMinutes_6 : decode cX4_readMinutes 6 = .ok (.iadd, 1) := by decide +kernel
theorem dX4_readMinutes_7 : decode cX4_readMinutes 7 = .ok (.putfield 57, 3) := by decide +kernel
theorem dX4_readMinutes_10 : decode cX4_readMinutes 10 = .ok (.aload_n 0, 1) := by decide +kernel
theorem dX4_readMinutes_11 : decode cX4_readMinutes 11 = .ok (.bipush 58, 2) := by decide +kernel
theorem dX4_readMinutes_13 : decode cX4_readMinutes 13 = .ok (.invokevirtual 111, 3) := by decide +kernel
theorem dX4_readMinutes_16 : decode cX4_readMinutes 16 = .ok (.ifCond .ne 5, 3) := by decide +kernel
theorem dX4_readMinutes_19 : decode cX4_readMinutes 19 = .ok (.iconst 0, 1) := by decide +kernel
theorem dX4_readMinutes_20 : decode cX4_readMinutes 20 = .ok (.ireturn, 1) := by decide +kernel
theorem dX4_readMinutes_21 : decode cX4_readMinutes 21 = .ok (.aload_n 0, 1) := by decide +kernel
theorem dX4_readMinutes_22 : decode cX4_readMinutes 22 = .ok (.invokevirtual 93, 3) := by decide +kernel
theorem dX4_readMinutes_25 : decode cX4_readMinutes 25 = .ok (.ifCond .eq 12, 3) := by decide +kernel
theorem dX4_readMinutes_28 : decode cX4_readMinutes 28 = .ok (.aload_n 0, 1) := by decide +kernel
theorem dX4_readMinutes_29 : decode cX4_readMinutes 29 = .ok (.invokevirtual 64, 3) := by decide +kernel
theorem dX4_readMinutes_32 : decode cX4_readMinutes 32 = .ok (.bipush 48, 2) := by decide +kernel
theorem dX4_readMinutes_34 : decode cX4_readMinutes 34 = .ok (.if_icmp .ne 5, 3) := by decide +kernel
theorem dX4_readMinutes_37 : decode cX4_readMinutes 37 = .ok (.iconst 0, 1) := by decide +kernel
theorem dX4_readMinutes_38 : decode cX4_readMinutes 38 = .ok (.ireturn, 1) := by decide +kernel
theorem dX4_readMinutes_39 : decode cX4_readMinutes 39 = .ok (.aload_n 0, 1) := by decide +kernel
theorem dX4_readMinutes_40 : decode cX4_readMinutes 40 = .ok (.getfield 21, 3) := by decide +kernel
theorem dX4_readMinutes_43 : decode cX4_readMinutes 43 = .ok (.aload_n 0, 1) := by decide +kernel
theorem dX4_readMinutes_44 : decode cX4_readMinutes 44 = .ok (.invokevirtual 64, 3) := by decide +kernel
theorem dX4_readMinutes_47 : decode cX4_readMinutes 47 = .ok (.bipush 48, 2) := by decide +kernel
theorem dX4_readMinutes_49 : decode cX4_readMinutes 49 = .ok (.isub, 1) := by decide +kernel
theorem dX4_readMinutes_50 : decode cX4_readMinutes 50 = .ok (.putfield 115, 3) := by decide +kernel
theorem dX4_readMinutes_53 : decode cX4_readMinutes 53 = .ok (.aload_n 0, 1) := by decide +kernel
theorem dX4_readMinutes_54 : decode cX4_readMinutes 54 = .ok (.dup, 1) := by decide +kernel
theorem dX4_readMinutes_55 : decode cX4_readMinutes 55 = .ok (.getfield 57, 3) := by decide +kernel
theorem dX4_readMinutes_58 : decode cX4_readMinutes 58 = .ok (.iconst 1, 1) := by decide +kernel
theorem dX4_readMinutes_59 : decode cX4_readMinutes 59 = .ok (.iadd, 1) := by decide +kernel
theorem dX4_readMinutes_60 : decode cX4_readMinutes 60 = .ok (.putfield 57, 3) := by decide +kernel
theorem dX4_readMinutes_63 : decode cX4_readMinutes 63 = .ok (.iconst 1, 1) := by decide +kernel
theorem dX4_readMinutes_64 : decode cX4_readMinutes 64 = .ok (.ireturn, 1) := by decide +kernel
theorem dX4_readCourse_0 : decode cX4_readCourse 0 = .ok (.aload_n 0, 1) := by decide +kernel
theorem dX4_readCourse_1 : decode cX4_readCourse 1 = .ok (.invokevirtual 64, 3) := by decide +kernel
theorem dX4_readCourse_4 : decode cX4_readCourse 4 = .ok (.istore_n 1, 1) := by decide +kernel
theorem dX4_readCourse_5 : decode cX4_readCourse 5 = .ok (.iload_n 1, 1) := by decide +kernel
theorem dX4_readCourse_6 : decode cX4_readCourse 6 = .ok (.bipush 114, 2) := by decide +kernel
theorem dX4_readCourse_8 : decode cX4_readCourse 8 = .ok (.if_icmp .eq 11, 3) := by decide +kernel
theorem dX4_readCourse_11 : decode cX4_readCourse 11 = .ok (.iload_n 1, 1) := by decide +kernel
theorem dX4_readCourse_12 : decode cX4_readCourse 12 = .ok (.bipush 115, 2) := by decide +kernel
theorem dX4_readCourse_14 : decode cX4_readCourse 14 = .ok (.if_icmp .eq 5, 3) := by decide +kernel
theorem dX4_readCourse_17 : decode cX4_readCourse 17 = .ok (.iconst 0, 1) := by decide +kernel
theorem dX4_readCourse_18 : decode cX4_readCourse 18 = .ok (.ireturn, 1) := by decide +kernel
theorem dX4_readCourse_19 : decode cX4_readCourse 19 = .ok (.aload_n 0, 1) := by decide +kernel
theorem dX4_readCourse_20 : decode cX4_readCourse 20 = .ok (.getfield 21, 3) := by decide +kernel
theorem dX4_readCourse_23 : decode cX4_readCourse 23 = .ok (.getfield 74, 3) := by decide +kernel
theorem dX4_readCourse_26 : decode cX4_readCourse 26 = .ok (.bipush 8, 2) := by decide +kernel
theorem dX4_readCourse_28 : decode cX4_readCourse 28 = .ok (.if_icmp .lt 5, 3) := by decide +kernel
theorem dX4_readCourse_31 : decode cX4_readCourse 31 = .ok (.iconst 0, 1) := by decide +kernel
theorem dX4_readCourse_32 : decode cX4_readCourse 32 = .ok (.ireturn, 1) := by decide +kernel
theorem dX4_readCourse_33 : decode cX4_readCourse 33 = .ok (.aload_n 0, 1) := by decide +kernel
theorem dX4_readCourse_34 : decode cX4_readCourse 34 = .ok (.dup, 1) := by decide +kernel
theorem dX4_readCourse_35 : decode cX4_readCourse 35 = .ok (.getfield 57, 3) := by decide +kernel
theorem dX4_readCourse_38 : decode cX4_readCourse 38 = .ok (.iconst 1, 1) := by decide +kernel
theorem dX4_readCourse_39 : decode cX4_readCourse 39 = .ok (.iadd, 1) := by decide +kernel
theorem dX4_readCourse_40 : decode cX4_readCourse 40 = .ok (.putfield 57, 3) := by decide +kernel
theorem dX4_readCourse_43 : decode cX4_readCourse 43 = .ok (.aload_n 0, 1) := by decide +kernel
theorem dX4_readCourse_44 : decode cX4_readCourse 44 = .ok (.invokevirtual 102, 3) := by decide +kernel
theorem dX4_readCourse_47 : decode cX4_readCourse 47 = .ok (.ifCond .ne 5, 3) := by decide +kernel
theorem dX4_readCourse_50 : decode cX4_readCourse 50 = .ok (.iconst 0, 1) := by decide +kernel
theorem dX4_readCourse_51 : decode cX4_readCourse 51 = .ok (.ireturn, 1) := by decide +kernel
theorem dX4_readCourse_52 : decode cX4_readCourse 52 = .ok (.aload_n 0, 1) := by decide +kernel
theorem dX4_readCourse_53 : decode cX4_readCourse 53 = .ok (.getfield 96, 3) := by decide +kernel
theorem dX4_readCourse_56 : decode cX4_readCourse 56 = .ok (.iconst 1, 1) := by decide +kernel
theorem dX4_readCourse_57 : decode cX4_readCourse 57 = .ok (.if_icmp .lt 29, 3) := by decide +kernel
theorem dX4_readCourse_60 : decode cX4_readCourse 60 = .ok (.aload_n 0, 1) := by decide +kernel
theorem dX4_readCourse_61 : decode cX4_readCourse 61 = .ok (.getfield 96, 3) := by decide +kernel
theorem dX4_readCourse_64 : decode cX4_readCourse 64 = .ok (.bipush 12, 2) := by decide +kernel
theorem dX4_readCourse_66 : decode cX4_readCourse 66 = .ok (.if_icmp .gt 20, 3) := by decide +kernel
theorem dX4_readCourse_69 : decode cX4_readCourse 69 = .ok (.aload_n 0, 1) := by decide +kernel
theorem dX4_readCourse_70 : decode cX4_readCourse 70 = .ok (.getfield 21, 3) := by decide +kernel
theorem dX4_readCourse_73 : decode cX4_readCourse 73 = .ok (.getfield 118, 3) := by decide +kernel
theorem dX4_readCourse_76 : decode cX4_readCourse 76 = .ok (.aload_n 0, 1) := by decide +kernel
theorem dX4_readCourse_77 : decode cX4_readCourse 77 = .ok (.getfield 96, 3) := by decide +kernel
theorem dX4_readCourse_80 : decode cX4_readCourse 80 = .ok (.iadd, 1) := by decide +kernel
theorem dX4_readCourse_81 : decode cX4_readCourse 81 = .ok (.bipush 60, 2) := by decide +kernel
theorem dX4_readCourse_83 : decode cX4_readCourse 83 = .ok (.if_icmp .le 5, 3) := by decide +kernel
theorem dX4_readCourse_86 : decode cX4_readCourse 86 = .ok (.iconst 0, 1) := by decide +kernel
theorem dX4_readCourse_87 : decode cX4_readCourse 87 = .ok (.ireturn, 1) := by decide +kernel
theorem dX4_readCourse_88 : decode cX4_readCourse 88 = .ok (.aload_n 0, 1) := by decide +kernel
theorem dX4_readCourse_89 : decode cX4_readCourse 89 = .ok (.bipush 58, 2) := by decide +kernel
theorem dX4_readCourse_91 : decode cX4_readCourse 91 = .ok (.invokevirtual 111, 3) := by decide +kernel
theorem dX4_readCourse_94 : decode cX4_readCourse 94 = .ok (.ifCond .eq 10, 3) := by decide +kernel
theorem dX4_readCourse_97 : decode cX4_readCourse 97 = .ok (.aload_n 0, 1) := by decide +kernel
theorem dX4_readCourse_98 : decode cX4_readCourse 98 = .ok (.invokevirtual 93, 3) := by decide +kernel
theorem dX4_readCourse_101 : decode cX4_readCourse 101 = .ok (.ifCond .ne 5, 3) := by decide +kernel
theorem dX4_readCourse_104 : decode cX4_readCourse 104 = .ok (.iconst 0, 1) := by decide +kernel
theorem dX4_readCourse_105 : decode cX4_readCourse 105 = .ok (.ireturn, 1) := by decide +kernel
theorem dX4_readCourse_106 : decode cX4_readCourse 106 = .ok (.aload_n 0, 1) := by decide +kernel
theorem dX4_readCourse_107 : decode cX4_readCourse 107 = .ok (.getfield 21, 3) := by decide +kernel
theorem dX4_readCourse_110 : decode cX4_readCourse 110 = .ok (.iload_n 1, 1) := by decide +kernel
theorem dX4_readCourse_111 : decode cX4_readCourse 111 = .ok (.bipush 114, 2) := by decide +kernel
theorem dX4_readCourse_113 : decode cX4_readCourse 113 = .ok (.if_icmp .ne 7, 3) := by decide +kernel
theorem dX4_readCourse_116 : decode cX4_readCourse 116 = .ok (.iconst 1, 1) := by decide +kernel
theorem dX4_readCourse_117 : decode cX4_readCourse 117 = .ok (.goto 4, 3) := by decide +kernel
theorem dX4_readCourse_120 : decode cX4_readCourse 120 = .ok (.iconst 2, 1) := by decide +kernel
theorem dX4_readCourse_121 : decode cX4_readCourse 121 = .ok (.aload_n 0, 1) := by decide +kernel
theorem dX4_readCourse_122 : decode cX4_readCourse 122 = .ok (.getfield 96, 3) := by decide +kernel
theorem dX4_readCourse_125 : decode cX4_readCourse 125 = .ok (.aload_n 0, 1) := by decide +kernel
theorem dX4_readCourse_126 : decode cX4_readCourse 126 = .ok (.invokevirtual 64, 3) := by decide +kernel
theorem dX4_readCourse_129 : decode cX4_readCourse 129 = .ok (.bipush 48, 2) := by decide +kernel
theorem dX4_readCourse_131 : decode cX4_readCourse 131 = .ok (.isub, 1) := by decide +kernel
theorem dX4_readCourse_132 : decode cX4_readCourse 132 = .ok (.invokevirtual 121, 3) := by decide +kernel
theorem dX4_readCourse_135 : decode cX4_readCourse 135 = .ok (.aload_n 0, 1) := by decide +kernel
theorem dX4_readCourse_136 : decode cX4_readCourse 136 = .ok (.dup, 1) := by decide +kernel
theorem dX4_readCourse_137 : decode cX4_readCourse 137 = .ok (.getfield 57, 3) := by decide +kernel
theorem dX4_readCourse_140 : decode cX4_readCourse 140 = .ok (.iconst 1, 1) := by decide +kernel
theorem dX4_readCourse_141 : decode cX4_readCourse 141 = .ok (.iadd, 1) := by decide +kernel
theorem dX4_readCourse_142 : decode cX4_readCourse 142 = .ok (.putfield 57, 3) := by decide +kernel
theorem dX4_readCourse_145 : decode cX4_readCourse 145 = .ok (.iconst 1, 1) := by decide +kernel
theorem dX4_readCourse_146 : decode cX4_readCourse 146 = .ok (.ireturn, 1) := by decide +kernel
theorem dX5_init_0 : decode cX5_init 0 = .ok (.aload_n 0, 1) := by decide +kernel
theorem dX5_init_1 : decode cX5_init 1 = .ok (.invokespecial 3, 3) := by decide +kernel
theorem dX5_init_4 : decode cX5_init 4 = .ok (.aload_n 0, 1) := by decide +kernel
theorem dX5_init_5 : decode cX5_init 5 = .ok (.iconst 4, 1) := by decide +kernel
theorem dX5_init_6 : decode cX5_init 6 = .ok (.newarray .int, 2) := by decide +kernel
theorem dX5_init_8 : decode cX5_init 8 = .ok (.putfield 9, 3) := by decide +kernel
theorem dX5_init_11 : decode cX5_init 11 = .ok (.return_, 1) := by decide +kernel
theorem dX5_takeFrom_0 : decode cX5_takeFrom 0 = .ok (.aload_n 0, 1) := by decide +kernel
theorem dX5_takeFrom_1 : decode cX5_takeFrom 1 = .ok (.aload_n 1, 1) := by decide +kernel
theorem dX5_takeFrom_2 : decode cX5_takeFrom 2 = .ok (.getfield 15, 3) := by decide +kernel
theorem dX5_takeFrom_5 : decode cX5_takeFrom 5 = .ok (.putfield 15, 3) := by decide +kernel
theorem dX5_takeFrom_8 : decode cX5_takeFrom 8 = .ok (.aload_n 1, 1) := by decide +kernel
theorem dX5_takeFrom_9 : decode cX5_takeFrom 9 = .ok (.getfield 9, 3) := by decide +kernel
theorem dX5_takeFrom_12 : decode cX5_takeFrom 12 = .ok (.iconst 0, 1) := by decide +kernel
theorem dX5_takeFrom_13 : decode cX5_takeFrom 13 = .ok (.aload_n 0, 1) := by decide +kernel
theorem dX5_takeFrom_14 : decode cX5_takeFrom 14 = .ok (.getfield 9, 3) := by decide +kernel
theorem dX5_takeFrom_17 : decode cX5_takeFrom 17 = .ok (.iconst 0, 1) := by decide +kernel
theorem dX5_takeFrom_18 : decode cX5_takeFrom 18 = .ok (.iconst 4, 1) := by decide +kernel
theorem dX5_takeFrom_19 : decode cX5_takeFrom 19 = .ok (.invokestatic 19, 3) := by decide +kernel
theorem dX5_takeFrom_22 : decode cX5_takeFrom 22 = .ok (.return_, 1) := by decide +kernel
theorem dX5_mixInto_0 : decode cX5_mixInto 0 = .ok (.aload_n 0, 1) := by decide +kernel
theorem dX5_mixInto_1 : decode cX5_mixInto 1 = .ok (.getfield 15, 3) := by decide +kernel
theorem dX5_mixInto_4 : decode cX5_mixInto 4 = .ok (.ifCond .ne 11, 3) := by decide +kernel
theorem dX5_mixInto_7 : decode cX5_mixInto 7 = .ok (.ldc2_w 25, 3) := by decide +kernel
theorem dX5_mixInto_10 : decode cX5_mixInto 10 = .ok (.lload_n 1, 1) := by decide +kernel
theorem dX5_mixInto_11 : decode cX5_mixInto 11 = .ok (.lmul, 1) := by decide +kernel
theorem dX5_mixInto_12 : decode cX5_mixInto 12 = .ok (.lconst 1, 1) := by decide +kernel
theorem dX5_mixInto_13 : decode cX5_mixInto 13 = .ok (.lsub, 1) := by decide +kernel
theorem dX5_mixInto_14 : decode cX5_mixInto 14 = .ok (.lreturn, 1) := by decide +kernel
theorem dX5_mixInto_15 : decode cX5_mixInto 15 = .ok (.iconst 0, 1) := by decide +kernel
theorem dX5_mixInto_16 : decode cX5_mixInto 16 = .ok (.istore_n 3, 1) := by decide +kernel
theorem dX5_mixInto_17 : decode cX5_mixInto 17 = .ok (.iload_n 3, 1) := by decide +kernel
theorem dX5_mixInto_18 : decode cX5_mixInto 18 = .ok (.iconst 4, 1) := by decide +kernel
theorem dX5_mixInto_19 : decode cX5_mixInto 19 = .ok (.if_icmp .ge 23, 3) := by decide +kernel
theorem dX5_mixInto_22 : decode cX5_mixInto 22 = .ok (.ldc2_w 25, 3) := by decide +kernel
theorem dX5_mixInto_25 : decode cX5_mixInto 25 = .ok (.lload_n 1, 1) := by decide +kernel
theorem dX5_mixInto_26 : decode cX5_mixInto 26 = .ok (.lmul, 1) := by decide +kernel
theorem dX5_mixInto_27 : decode cX5_mixInto 27 = .ok (.aload_n 0, 1) := by decide +kernel
theorem dX5_mixInto_28 : decode cX5_mixInto 28 = .ok (.getfield 9, 3) := by decide +kernel
theorem dX5_mixInto_31 : decode cX5_mixInto 31 = .ok (.iload_n 3, 1) := by decide +kernel
theorem dX5_mixInto_32 : decode cX5_mixInto 32 = .ok (.iaload, 1) := by decide +kernel
theorem dX5_mixInto_33 : decode cX5_mixInto 33 = .ok (.i2l, 1) := by decide +kernel
theorem dX5_mixInto_34 : decode cX5_mixInto 34 = .ok (.ladd, 1) := by decide +kernel
theorem dX5_mixInto_35 : decode cX5_mixInto 35 = .ok (.lstore_n 1, 1) := by decide +kernel
theorem dX5_mixInto_36 : decode cX5_mixInto 36 = .ok (.iinc 3 1, 3) := by decide +kernel
theorem dX5_mixInto_39 : decode cX5_mixInto 39 = .ok (.goto (-22), 3) := by decide +kernel
theorem dX5_mixInto_42 : decode cX5_mixInto 42 = .ok (.lload_n 1, 1) := by decide +kernel
theorem dX5_mixInto_43 : decode cX5_mixInto 43 = .ok (.lreturn, 1) := by decide +kernel
theorem dX6_init_0 : decode cX6_init 0 = .ok (.aload_n 0, 1) := by decide +kernel
theorem dX6_init_1 : decode cX6_init 1 = .ok (.invokespecial 3, 3) := by decide +kernel
theorem dX6_init_4 : decode cX6_init 4 = .ok (.return_, 1) := by decide +kernel
theorem dX6_daysOf_0 : decode cX6_daysOf 0 = .ok (.bipush 100, 2) := by decide +kernel
theorem dX6_daysOf_2 : decode cX6_daysOf 2 = .ok (.istore 4, 2) := by decide +kernel
theorem dX6_daysOf_4 : decode cX6_daysOf 4 = .ok (.iconst 0, 1) := by decide +kernel
theorem dX6_daysOf_5 : decode cX6_daysOf 5 = .ok (.istore 5, 2) := by decide +kernel
theorem dX6_daysOf_7 : decode cX6_daysOf 7 = .ok (.aload_n 0, 1) := by decide +kernel
theorem dX6_daysOf_8 : decode cX6_daysOf 8 = .ok (.iconst 0, 1) := by decide +kernel
theorem dX6_daysOf_9 : decode cX6_daysOf 9 = .ok (.putfield 9, 3) := by decide +kernel
theorem dX6_daysOf_12 : decode cX6_daysOf 12 = .ok (.iconst 1, 1) := by decide +kernel
theorem dX6_daysOf_13 : decode cX6_daysOf 13 = .ok (.istore 6, 2) := by decide +kernel
theorem dX6_daysOf_15 : decode cX6_daysOf 15 = .ok (.iload 6, 2) := by decide +kernel
theorem dX6_daysOf_17 : decode cX6_daysOf 17 = .ok (.bipush 60, 2) := by decide +kernel
theorem dX6_daysOf_19 : decode cX6_daysOf 19 = .ok (.if_icmp .gt 87, 3) := by decide +kernel
theorem dX6_daysOf_22 : decode cX6_daysOf 22 = .ok (.iload 4, 2) := by decide +kernel
theorem dX6_daysOf_24 : decode cX6_daysOf 24 = .ok (.iconst 3, 1) := by decide +kernel
theorem dX6_daysOf_25 : decode cX6_daysOf 25 = .ok (.iload_n 2, 1) := by decide +kernel
theorem dX6_daysOf_26 : decode cX6_daysOf 26 = .ok (.imul, 1) := by decide +kernel
theorem dX6_daysOf_27 : decode cX6_daysOf 27 = .ok (.iload_n 1, 1) := by decide +kernel
theorem dX6_daysOf_28 : decode cX6_daysOf 28 = .ok (.iadd, 1) := by decide +kernel
theorem dX6_daysOf_29 : decode cX6_daysOf 29 = .ok (.iload 6, 2) := by decide +kernel
theorem dX6_daysOf_31 : decode cX6_daysOf 31 = .ok (.iconst 5, 1) := by decide +kernel
theorem dX6_daysOf_32 : decode cX6_daysOf 32 = .ok (.if_icmp .lt 7, 3) := by decide +kernel
theorem dX6_daysOf_35 : decode cX6_daysOf 35 = .ok (.iconst 2, 1) := by decide +kernel
theorem dX6_daysOf_36 : decode cX6_daysOf 36 = .ok (.goto 4, 3) := by decide +kernel
theorem dX6_daysOf_39 : decode cX6_daysOf 39 = .ok (.iconst 0, 1) := by decide +kernel
theorem dX6_daysOf_40 : decode cX6_daysOf 40 = .ok (.iadd, 1) := by decide +kernel
theorem dX6_daysOf_41 : decode cX6_daysOf 41 = .ok (.isub, 1) := by decide +kernel
theorem dX6_daysOf_42 : decode cX6_daysOf 42 = .ok (.istore 4, 2) := by decide +kernel
theorem dX6_daysOf_44 : decode cX6_daysOf 44 = .ok (.iload 5, 2) := by decide +kernel
theorem dX6_daysOf_46 : decode cX6_daysOf 46 = .ok (.iload_n 1, 1) := by decide +kernel
theorem dX6_daysOf_47 : decode cX6_daysOf 47 = .ok (.iconst 1, 1) := by decide +kernel
theorem dX6_daysOf_48 : decode cX6_daysOf 48 = .ok (.iadd, 1) := by decide +kernel
theorem dX6_daysOf_49 : decode cX6_daysOf 49 = .ok (.iadd, 1) := by decide +kernel
theorem dX6_daysOf_50 : decode cX6_daysOf 50 = .ok (.istore 5, 2) := by decide +kernel
theorem dX6_daysOf_52 : decode cX6_daysOf 52 = .ok (.iload_n 3, 1) := by decide +kernel
theorem dX6_daysOf_53 : decode cX6_daysOf 53 = .ok (.ifCond .le 22, 3) := by decide +kernel
theorem dX6_daysOf_56 : decode cX6_daysOf 56 = .ok (.iload 6, 2) := by decide +kernel
theorem dX6_daysOf_58 : decode cX6_daysOf 58 = .ok (.iload_n 3, 1) := by decide +kernel
theorem dX6_daysOf_59 : decode cX6_daysOf 59 = .ok (.irem, 1) := by decide +kernel
theorem dX6_daysOf_60 : decode cX6_daysOf 60 = .ok (.ifCond .ne 15, 3) := by decide +kernel
theorem dX6_daysOf_63 : decode cX6_daysOf 63 = .ok (.iload 5, 2) := by decide +kernel
theorem dX6_daysOf_65 : decode cX6_daysOf 65 = .ok (.iload 5, 2) := by decide +kernel
theorem dX6_daysOf_67 : decode cX6_daysOf 67 = .ok (.iconst 2, 1) := by decide +kernel
theorem dX6_daysOf_68 : decode cX6_daysOf 68 = .ok (.idiv, 1) := by decide +kernel
theorem dX6_daysOf_69 : decode cX6_daysOf 69 = .ok (.isub, 1) := by decide +kernel
theorem dX6_daysOf_70 : decode cX6_daysOf 70 = .ok (.istore 5, 2) := by decide +kernel
theorem dX6_daysOf_72 : decode cX6_daysOf 72 = .ok (.iinc 4 (-5), 3) := by decide +kernel
theorem dX6_daysOf_75 : decode cX6_daysOf 75 = .ok (.iload 4, 2) := by decide +kernel
theorem dX6_daysOf_77 : decode cX6_daysOf 77 = .ok (.bipush 30, 2) := by decide +kernel
theorem dX6_daysOf_79 : decode cX6_daysOf 79 = .ok (.if_icmp .lt 10, 3) := by decide +kernel
theorem dX6_daysOf_82 : decode cX6_daysOf 82 = .ok (.iload 5, 2) := by decide +kernel
theorem dX6_daysOf_84 : decode cX6_daysOf 84 = .ok (.bipush 40, 2) := by decide +kernel
theorem dX6_daysOf_86 : decode cX6_daysOf 86 = .ok (.if_icmp .le 8, 3) := by decide +kernel
theorem dX6_daysOf_89 : decode cX6_daysOf 89 = .ok (.iload 6, 2) := by decide +kernel
theorem dX6_daysOf_91 : decode cX6_daysOf 91 = .ok (.iconst 1, 1) := by decide +kernel
theorem dX6_daysOf_92 : decode cX6_daysOf 92 = .ok (.isub, 1) := by decide +kernel
theorem dX6_daysOf_93 : decode cX6_daysOf 93 = .ok (.ireturn, 1) := by decide +kernel
theorem dX6_daysOf_94 : decode cX6_daysOf 94 = .ok (.aload_n 0, 1) := by decide +kernel
theorem dX6_daysOf_95 : decode cX6_daysOf 95 = .ok (.iload 5, 2) := by decide +kernel
theorem dX6_daysOf_97 : decode cX6_daysOf 97 = .ok (.putfield 9, 3) := by decide +kernel
theorem dX6_daysOf_100 : decode cX6_daysOf 100 = .ok (.iinc 6 1, 3) := by decide +kernel
theorem dX6_daysOf_103 : decode cX6_daysOf 103 = .ok (.goto (-88), 3) := by decide +kernel
theorem dX6_daysOf_106 : decode cX6_daysOf 106 = .ok (.bipush 60, 2) := by decide +kernel
theorem dX6_daysOf_108 : decode cX6_daysOf 108 = .ok (.ireturn, 1) := by decide +kernel
theorem dX7_init_0 : decode cX7_init 0 = .ok (.aload_n 0, 1) := by decide +kernel
theorem dX7_init_1 : decode cX7_init 1 = .ok (.invokespecial 1, 3) := by decide +kernel
theorem dX7_init_4 : decode cX7_init 4 = .ok (.aload_n 0, 1) := by decide +kernel
theorem dX7_init_5 : decode cX7_init 5 = .ok (.bipush 6, 2) := by decide +kernel
theorem dX7_init_7 : decode cX7_init 7 = .ok (.bipush 60, 2) := by decide +kernel
theorem dX7_init_9 : decode cX7_init 9 = .ok (.multianewarray 9 2, 4) := by decide +kernel
theorem dX7_init_13 : decode cX7_init 13 = .ok (.putfield 11, 3) := by decide +kernel
theorem dX7_init_16 : decode cX7_init 16 = .ok (.aload_n 0, 1) := by decide +kernel
theorem dX7_init_17 : decode cX7_init 17 = .ok (.bipush 6, 2) := by decide +kernel
theorem dX7_init_19 : decode cX7_init 19 = .ok (.newarray .int, 2) := by decide +kernel
theorem dX7_init_21 : decode cX7_init 21 = .ok (.putfield 14, 3) := by decide +kernel
theorem dX7_init_24 : decode cX7_init 24 = .ok (.aload_n 0, 1) := by decide +kernel
theorem dX7_init_25 : decode cX7_init 25 = .ok (.getfield 14, 3) := by decide +kernel
theorem dX7_init_28 : decode cX7_init 28 = .ok (.iconst (-1), 1) := by decide +kernel
theorem dX7_init_29 : decode cX7_init 29 = .ok (.invokestatic 18, 3) := by decide +kernel
theorem dX7_init_32 : decode cX7_init 32 = .ok (.aload_n 0, 1) := by decide +kernel
theorem dX7_init_33 : decode cX7_init 33 = .ok (.iconst 4, 1) := by decide +kernel
theorem dX7_init_34 : decode cX7_init 34 = .ok (.bipush 80, 2) := by decide +kernel
theorem dX7_init_36 : decode cX7_init 36 = .ok (.multianewarray 24 2, 4) := by decide +kernel
theorem dX7_init_40 : decode cX7_init 40 = .ok (.putfield 26, 3) := by decide +kernel
theorem dX7_init_43 : decode cX7_init 43 = .ok (.aload_n 0, 1) := by decide +kernel
theorem dX7_init_44 : decode cX7_init 44 = .ok (.iconst 4, 1) := by decide +kernel
theorem dX7_init_45 : decode cX7_init 45 = .ok (.newarray .int, 2) := by decide +kernel
theorem dX7_init_47 : decode cX7_init 47 = .ok (.putfield 29, 3) := by decide +kernel
theorem dX7_init_50 : decode cX7_init 50 = .ok (.aload_n 0, 1) := by decide +kernel
theorem dX7_init_51 : decode cX7_init 51 = .ok (.getfield 29, 3) := by decide +kernel
theorem dX7_init_54 : decode cX7_init 54 = .ok (.iconst (-1), 1) := by decide +kernel
theorem dX7_init_55 : decode cX7_init 55 = .ok (.invokestatic 18, 3) := by decide +kernel
theorem dX7_init_58 : decode cX7_init 58 = .ok (.aload_n 0, 1) := by decide +kernel
theorem dX7_init_59 : decode cX7_init 59 = .ok (.iconst 4, 1) := by decide +kernel
theorem dX7_init_60 : decode cX7_init 60 = .ok (.anewarray 32, 3) := by decide +kernel
theorem dX7_init_63 : decode cX7_init 63 = .ok (.putfield 34, 3) := by decide +kernel
theorem dX7_init_66 : decode cX7_init 66 = .ok (.iconst 0, 1) := by decide +kernel
theorem dX7_init_67 : decode cX7_init 67 = .ok (.istore_n 1, 1) := by decide +kernel
theorem dX7_init_68 : decode cX7_init 68 = .ok (.iload_n 1, 1) := by decide +kernel
theorem dX7_init_69 : decode cX7_init 69 = .ok (.iconst 4, 1) := by decide +kernel
theorem dX7_init_70 : decode cX7_init 70 = .ok (.if_icmp .ge 22, 3) := by decide +kernel
theorem dX7_init_73 : decode cX7_init 73 = .ok (.aload_n 0, 1) := by decide +kernel
theorem dX7_init_74 : decode cX7_init 74 = .ok (.getfield 34, 3) := by decide +kernel
theorem dX7_init_77 : decode cX7_init 77 = .ok (.iload_n 1, 1) := by decide +kernel
theorem dX7_init_78 : decode cX7_init 78 = .ok (.new 32, 3) := by decide +kernel
theorem dX7_init_81 : decode cX7_init 81 = .ok (.dup, 1) := by decide +kernel
theorem dX7_init_82 : decode cX7_init 82 = .ok (.invokespecial 38, 3) := by decide +kernel
theorem dX7_init_85 : decode cX7_init 85 = .ok (.aastore, 1) := by decide +kernel
theorem dX7_init_86 : decode cX7_init 86 = .ok (.iinc 1 1, 3) := by decide +kernel
theorem dX7_init_89 : decode cX7_init 89 = .ok (.goto (-21), 3) := by decide +kernel
theorem dX7_init_92 : decode cX7_init 92 = .ok (.aload_n 0, 1) := by decide +kernel
theorem dX7_init_93 : decode cX7_init 93 = .ok (.iconst 4, 1) := by decide +kernel
theorem dX7_init_94 : decode cX7_init 94 = .ok (.anewarray 39, 3) := by decide +kernel
theorem dX7_init_97 : decode cX7_init 97 = .ok (.putfield 41, 3) := by decide +kernel
theorem dX7_init_100 : decode cX7_init 100 = .ok (.iconst 0, 1) := by decide +kernel
theorem dX7_init_101 : decode cX7_init 101 = .ok (.istore_n 1, 1) := by decide +kernel
theorem dX7_init_102 : decode cX7_init 102 = .ok (.iload_n 1, 1) := by decide +kernel
theorem dX7_init_103 : decode cX7_init 103 = .ok (.iconst 4, 1) := by decide +kernel
theorem dX7_init_104 : decode cX7_init 104 = .ok (.if_icmp .ge 22, 3) := by decide +kernel
theorem dX7_init_107 : decode cX7_init 107 = .ok (.aload_n 0, 1) := by decide +kernel
theorem dX7_init_108 : decode cX7_init 108 = .ok (.getfield 41, 3) := by decide +kernel
theorem dX7_init_111 : decode cX7_init 111 = .ok (.iload_n 1, 1) := by decide +kernel
theorem dX7_init_112 : decode cX7_init 112 = .ok (.new 39, 3) := by decide +kernel
theorem dX7_init_115 : decode cX7_init 115 = .ok (.dup, 1) := by decide +kernel
theorem dX7_init_116 : decode cX7_init 116 = .ok (.invokespecial 45, 3) := by decide +kernel
theorem dX7_init_119 : decode cX7_init 119 = .ok (.aastore, 1) := by decide +kernel
theorem dX7_init_120 : decode cX7_init 120 = .ok (.iinc 1 1, 3) := by decide +kernel
theorem dX7_init_123 : decode cX7_init 123 = .ok (.goto (-21), 3) := by decide +kernel
theorem dX7_init_126 : decode cX7_init 126 = .ok (.aload_n 0, 1) := by decide +kernel
theorem dX7_init_127 : decode cX7_init 127 = .ok (.new 46, 3) := by decide +kernel
theorem dX7_init_130 : decode cX7_init 130 = .ok (.dup, 1) := by decide +kernel
theorem dX7_init_131 : decode cX7_init 131 = .ok (.invokespecial 48, 3) := by decide +kernel
theorem dX7_init_134 : decode cX7_init 134 = .ok (.putfield 49, 3) := by decide +kernel
theorem dX7_init_137 : decode cX7_init 137 = .ok (.aload_n 0, 1) := by decide +kernel
theorem dX7_init_138 : decode cX7_init 138 = .ok (.iconst 3, 1) := by decide +kernel
theorem dX7_init_139 : decode cX7_init 139 = .ok (.anewarray 46, 3) := by decide +kernel
theorem dX7_init_142 : decode cX7_init 142 = .ok (.putfield 53, 3) := by decide +kernel
theorem dX7_init_145 : decode cX7_init 145 = .ok (.iconst 0, 1) := by decide +kernel
theorem dX7_init_146 : decode cX7_init 146 = .ok (.istore_n 1, 1) := by decide +kernel
theorem dX7_init_147 : decode cX7_init 147 = .ok (.iload_n 1, 1) := by decide +kernel
theorem dX7_init_148 : decode cX7_init 148 = .ok (.iconst 3, 1) := by decide +kernel
theorem dX7_init_149 : decode cX7_init 149 = .ok (.if_icmp .ge 22, 3) := by decide +kernel
theorem dX7_init_152 : decode cX7_init 152 = .ok (.aload_n 0, 1) := by decide +kernel
theorem dX7_init_153 : decode cX7_init 153 = .ok (.getfield 53, 3) := by decide +kernel
theorem dX7_init_156 : decode cX7_init 156 = .ok (.iload_n 1, 1) := by decide +kernel
theorem dX7_init_157 : decode cX7_init 157 = .ok (.new 46, 3) := by decide +kernel
theorem dX7_init_160 : decode cX7_init 160 = .ok (.dup, 1) := by decide +kernel
theorem dX7_init_161 : decode cX7_init 161 = .ok (.invokespecial 48, 3) := by decide +kernel
theorem dX7_init_164 : decode cX7_init 164 = .ok (.aastore, 1) := by decide +kernel
theorem dX7_init_165 : decode cX7_init 165 = .ok (.iinc 1 1, 3) := by decide +kernel
theorem dX7_init_168 : decode cX7_init 168 = .ok (.goto (-21), 3) := by decide +kernel
theorem dX7_init_171 : decode cX7_init 171 = .ok (.aload_n 0, 1) := by decide +kernel
theorem dX7_init_172 : decode cX7_init 172 = .ok (.new 46, 3) := by decide +kernel
theorem dX7_init_175 : decode cX7_init 175 = .ok (.dup, 1) := by decide +kernel
theorem dX7_init_176 : decode cX7_init 176 = .ok (.invokespecial 48, 3) := by decide +kernel
theorem dX7_init_179 : decode cX7_init 179 = .ok (.putfield 57, 3) := by decide +kernel
theorem dX7_init_182 : decode cX7_init 182 = .ok (.aload_n 0, 1) := by decide +kernel
theorem dX7_init_183 : decode cX7_init 183 = .ok (.new 60, 3) := by decide +kernel
theorem dX7_init_186 : decode cX7_init 186 = .ok (.dup, 1) := by decide +kernel
theorem dX7_init_187 : decode cX7_init 187 = .ok (.invokespecial 62, 3) := by decide +kernel
theorem dX7_init_190 : decode cX7_init 190 = .ok (.putfield 63, 3) := by decide +kernel
theorem dX7_init_193 : decode cX7_init 193 = .ok (.aload_n 0, 1) := by decide +kernel
theorem dX7_init_194 : decode cX7_init 194 = .ok (.new 67, 3) := by decide +kernel
theorem dX7_init_197 : decode cX7_init 197 = .ok (.dup, 1) := by decide +kernel
theorem dX7_init_198 : decode cX7_init 198 = .ok (.invokespecial 69, 3) := by decide +kernel
theorem dX7_init_201 : decode cX7_init 201 = .ok (.putfield 70, 3) := by decide +kernel
theorem dX7_init_204 : decode cX7_init 204 = .ok (.aload_n 0, 1) := by decide +kernel
theorem dX7_init_205 : decode cX7_init 205 = .ok (.new 74, 3) := by decide +kernel
theorem dX7_init_208 : decode cX7_init 208 = .ok (.dup, 1) := by decide +kernel
theorem dX7_init_209 : decode cX7_init 209 = .ok (.invokespecial 76, 3) := by decide +kernel
theorem dX7_init_212 : decode cX7_init 212 = .ok (.putfield 77, 3) := by decide +kernel
theorem dX7_init_215 : decode cX7_init 215 = .ok (.aload_n 0, 1) := by decide +kernel
theorem dX7_init_216 : decode cX7_init 216 = .ok (.new 81, 3) := by decide +kernel
theorem dX7_init_219 : decode cX7_init 219 = .ok (.dup, 1) := by decide +kernel
theorem dX7_init_220 : decode cX7_init 220 = .ok (.invokespecial 83, 3) := by decide +kernel
theorem dX7_init_223 : decode cX7_init 223 = .ok (.putfield 84, 3) := by decide +kernel
theorem dX7_init_226 : decode cX7_init 226 = .ok (.aload_n 0, 1) := by decide +kernel
theorem dX7_init_227 : decode cX7_init 227 = .ok (.iconst 0, 1) := by decide +kernel
theorem dX7_init_228 : decode cX7_init 228 = .ok (.putfield 88, 3) := by decide +kernel
theorem dX7_init_231 : decode cX7_init 231 = .ok (.aload_n 0, 1) := by decide +kernel
theorem dX7_init_232 : decode cX7_init 232 = .ok (.lconst 0, 1) := by decide +kernel
theorem dX7_init_233 : decode cX7_init 233 = .ok (.putfield 92, 3) := by decide +kernel
theorem dX7_init_236 : decode cX7_init 236 = .ok (.aload_n 0, 1) := by decide +kernel
theorem dX7_init_237 : decode cX7_init 237 = .ok (.lconst 1, 1) := by decide +kernel
theorem dX7_init_238 : decode cX7_init 238 = .ok (.putfield 96, 3) := by decide +kernel
theorem dX7_init_241 : decode cX7_init 241 = .ok (.aload_n 0, 1) := by decide +kernel
theorem dX7_init_242 : decode cX7_init 242 = .ok (.iconst 0, 1) := by decide +kernel
theorem dX7_init_243 : decode cX7_init 243 = .ok (.putfield 99, 3) := by decide +kernel
theorem dX7_init_246 : decode cX7_init 246 = .ok (.aload_n 0, 1) := by decide +kernel
theorem dX7_init_247 : decode cX7_init 247 = .ok (.bipush 6, 2) := by decide +kernel
theorem dX7_init_249 : decode cX7_init 249 = .ok (.newarray .int, 2) := by decide +kernel
theorem dX7_init_251 : decode cX7_init 251 = .ok (.putfield 102, 3) := by decide +kernel
theorem dX7_init_254 : decode cX7_init 254 = .ok (.return_, 1) := by decide +kernel
theorem dX7_row_0 : decode cX7_row 0 = .ok (.iload_n 1, 1) := by decide +kernel
theorem dX7_row_1 : decode cX7_row 1 = .ok (.bipush 6, 2) := by decide +kernel
theorem dX7_row_3 : decode cX7_row 3 = .ok (.invokestatic 105, 3) := by decide +kernel
theorem dX7_row_6 : decode cX7_row 6 = .ok (.ifCond .eq 9, 3) := by decide +kernel
theorem dX7_row_9 : decode cX7_row 9 = .ok (.iload_n 2, 1) := by decide +kernel
theorem dX7_row_10 : decode cX7_row 10 = .ok (.bipush 60, 2) := by decide +kernel
theorem dX7_row_12 : decode cX7_row 12 = .ok (.if_icmp .le 5, 3) := by decide +kernel
theorem dX7_row_15 : decode cX7_row 15 = .ok (.iconst (-1), 1) := by decide +kernel
theorem dX7_row_16 : decode cX7_row 16 = .ok (.ireturn, 1) := by decide +kernel
theorem dX7_row_17 : decode cX7_row 17 = .ok (.iload_n 2, 1) := by decide +kernel
theorem dX7_row_18 : decode cX7_row 18 = .ok (.ifCond .ge 9, 3) := by decide +kernel
theorem dX7_row_21 : decode cX7_row 21 = .ok (.aload_n 0, 1) := by decide +kernel
theorem dX7_row_22 : decode cX7_row 22 = .ok (.iconst 5, 1) := by decide +kernel
theorem dX7_row_23 : decode cX7_row 23 = .ok (.invokevirtual 109, 3) := by decide +kernel
theorem dX7_row_26 : decode cX7_row 26 = .ok (.ireturn, 1) := by decide +kernel
theorem dX7_row_27 : decode cX7_row 27 = .ok (.aload_n 0, 1) := by decide +kernel
theorem dX7_row_28 : decode cX7_row 28 = .ok (.getfield 11, 3) := by decide +kernel
theorem dX7_row_31 : decode cX7_row 31 = .ok (.iload_n 1, 1) := by decide +kernel
theorem dX7_row_32 : decode cX7_row 32 = .ok (.aaload, 1) := by decide +kernel
theorem dX7_row_33 : decode cX7_row 33 = .ok (.iconst 0, 1) := by decide +kernel
theorem dX7_row_34 : decode cX7_row 34 = .ok (.invokestatic 18, 3) := by decide +kernel
theorem dX7_row_37 : decode cX7_row 37 = .ok (.aload_n 0, 1) := by decide +kernel
theorem dX7_row_38 : decode cX7_row 38 = .ok (.getfield 14, 3) := by decide +kernel
theorem dX7_row_41 : decode cX7_row 41 = .ok (.iload_n 1, 1) := by decide +kernel
theorem dX7_row_42 : decode cX7_row 42 = .ok (.iload_n 2, 1) := by decide +kernel
theorem dX7_row_43 : decode cX7_row 43 = .ok (.iastore, 1) := by decide +kernel
theorem dX7_row_44 : decode cX7_row 44 = .ok (.iload_n 2, 1) := by decide +kernel
theorem dX7_row_45 : decode cX7_row 45 = .ok (.ireturn, 1) := by decide +kernel
theorem dX7_lay_0 : decode cX7_lay 0 = .ok (.iload_n 1, 1) := by decide +kernel
theorem dX7_lay_1 : decode cX7_lay 1 = .ok (.bipush 6, 2) := by decide +kernel
theorem dX7_lay_3 : decode cX7_lay 3 = .ok (.invokestatic 105, 3) := by decide +kernel
theorem dX7_lay_6 : decode cX7_lay 6 = .ok (.ifCond .ne 5, 3) := by decide +kernel
theorem dX7_lay_9 : decode cX7_lay 9 = .ok (.iconst (-1), 1) := by decide +kernel
theorem dX7_lay_10 : decode cX7_lay 10 = .ok (.ireturn, 1) := by decide +kernel
theorem dX7_lay_11 : decode cX7_lay 11 = .ok (.aload_n 0, 1) := by decide +kernel
theorem dX7_lay_12 : decode cX7_lay 12 = .ok (.getfield 14, 3) := by decide +kernel
theorem dX7_lay_15 : decode cX7_lay 15 = .ok (.iload_n 1, 1) := by decide +kernel
theorem dX7_lay_16 : decode cX7_lay 16 = .ok (.iaload, 1) := by decide +kernel
theorem dX7_lay_17 : decode cX7_lay 17 = .ok (.ifCond .ge 9, 3) := by decide +kernel
theorem dX7_lay_20 : decode cX7_lay 20 = .ok (.aload_n 0, 1) := by decide +kernel
theorem dX7_lay_21 : decode cX7_lay 21 = .ok (.iconst 1, 1) := by decide +kernel
theorem dX7_lay_22 : decode cX7_lay 22 = .ok (.invokevirtual 109, 3) := by decide +kernel
theorem dX7_lay_25 : decode cX7_lay 25 = .ok (.ireturn, 1) := by decide +kernel
theorem dX7_lay_26 : decode cX7_lay 26 = .ok (.iload_n 2, 1) := by decide +kernel
theorem dX7_lay_27 : decode cX7_lay 27 = .ok (.aload_n 0, 1) := by decide +kernel
theorem dX7_lay_28 : decode cX7_lay 28 = .ok (.getfield 14, 3) := by decide +kernel
theorem dX7_lay_31 : decode cX7_lay 31 = .ok (.iload_n 1, 1) := by decide +kernel
theorem dX7_lay_32 : decode cX7_lay 32 = .ok (.iaload, 1) := by decide +kernel
theorem dX7_lay_33 : decode cX7_lay 33 = .ok (.invokestatic 105, 3) := by decide +kernel
theorem dX7_lay_36 : decode cX7_lay 36 = .ok (.ifCond .ne 9, 3) := by decide +kernel
theorem dX7_lay_39 : decode cX7_lay 39 = .ok (.aload_n 0, 1) := by decide +kernel
theorem dX7_lay_40 : decode cX7_lay 40 = .ok (.iconst 2, 1) := by decide +kernel
theorem dX7_lay_41 : decode cX7_lay 41 = .ok (.invokevirtual 109, 3) := by decide +kernel
theorem dX7_lay_44 : decode cX7_lay 44 = .ok (.ireturn, 1) := by decide +kernel
theorem dX7_lay_45 : decode cX7_lay 45 = .ok (.aload_n 0, 1) := by decide +kernel
theorem dX7_lay_46 : decode cX7_lay 46 = .ok (.getfield 11, 3) := by decide +kernel
theorem dX7_lay_49 : decode cX7_lay 49 = .ok (.iload_n 1, 1) := by decide +kernel
theorem dX7_lay_50 : decode cX7_lay 50 = .ok (.aaload, 1) := by decide +kernel
theorem dX7_lay_51 : decode cX7_lay 51 = .ok (.iload_n 2, 1) := by decide +kernel
theorem dX7_lay_52 : decode cX7_lay 52 = .ok (.iaload, 1) := by decide +kernel
theorem dX7_lay_53 : decode cX7_lay 53 = .ok (.istore 4, 2) := by decide +kernel
theorem dX7_lay_55 : decode cX7_lay 55 = .ok (.aload_n 0, 1) := by decide +kernel
theorem dX7_lay_56 : decode cX7_lay 56 = .ok (.getfield 11, 3) := by decide +kernel
theorem dX7_lay_59 : decode cX7_lay 59 = .ok (.iload_n 1, 1) := by decide +kernel
theorem dX7_lay_60 : decode cX7_lay 60 = .ok (.aaload, 1) := by decide +kernel
theorem dX7_lay_61 : decode cX7_lay 61 = .ok (.iload_n 2, 1) := by decide +kernel
theorem dX7_lay_62 : decode cX7_lay 62 = .ok (.iload_n 3, 1) := by decide +kernel
theorem dX7_lay_63 : decode cX7_lay 63 = .ok (.iastore, 1) := by decide +kernel
theorem dX7_lay_64 : decode cX7_lay 64 = .ok (.aload_n 0, 1) := by decide +kernel
theorem dX7_lay_65 : decode cX7_lay 65 = .ok (.iload 4, 2) := by decide +kernel
theorem dX7_lay_67 : decode cX7_lay 67 = .ok (.invokevirtual 113, 3) := by decide +kernel
theorem dX7_lay_70 : decode cX7_lay 70 = .ok (.ireturn, 1) := by decide +kernel
theorem dX7_at_0 : decode cX7_at 0 = .ok (.iload_n 1, 1) := by decide +kernel
theorem dX7_at_1 : decode cX7_at 1 = .ok (.bipush 6, 2) := by decide +kernel
theorem dX7_at_3 : decode cX7_at 3 = .ok (.invokestatic 105, 3) := by decide +kernel
theorem dX7_at_6 : decode cX7_at 6 = .ok (.ifCond .ne 5, 3) := by decide +kernel
theorem dX7_at_9 : decode cX7_at 9 = .ok (.iconst (-1), 1) := by decide +kernel
theorem dX7_at_10 : decode cX7_at 10 = .ok (.ireturn, 1) := by decide +kernel
theorem dX7_at_11 : decode cX7_at 11 = .ok (.aload_n 0, 1) := by decide +kernel
theorem dX7_at_12 : decode cX7_at 12 = .ok (.getfield 14, 3) := by decide +kernel
theorem dX7_at_15 : decode cX7_at 15 = .ok (.iload_n 1, 1) := by decide +kernel
theorem dX7_at_16 : decode cX7_at 16 = .ok (.iaload, 1) := by decide +kernel
theorem dX7_at_17 : decode cX7_at 17 = .ok (.ifCond .ge 9, 3) := by decide +kernel
theorem dX7_at_20 : decode cX7_at 20 = .ok (.aload_n 0, 1) := by decide +kernel
theorem dX7_at_21 : decode cX7_at 21 = .ok (.iconst 1, 1) := by decide +kernel
theorem dX7_at_22 : decode cX7_at 22 = .ok (.invokevirtual 109, 3) := by decide +kernel
theorem dX7_at_25 : decode cX7_at 25 = .ok (.ireturn, 1) := by decide +kernel
theorem dX7_at_26 : decode cX7_at 26 = .ok (.iload_n 2, 1) := by decide +kernel
theorem dX7_at_27 : decode cX7_at 27 = .ok (.aload_n 0, 1) := by decide +kernel
theorem dX7_at_28 : decode cX7_at 28 = .ok (.getfield 14, 3) := by decide +kernel
theorem dX7_at_31 : decode cX7_at 31 = .ok (.iload_n 1, 1) := by decide +kernel
theorem dX7_at_32 : decode cX7_at 32 = .ok (.iaload, 1) := by decide +kernel
theorem dX7_at_33 : decode cX7_at 33 = .ok (.invokestatic 105, 3) := by decide +kernel
theorem dX7_at_36 : decode cX7_at 36 = .ok (.ifCond .ne 9, 3) := by decide +kernel
theorem dX7_at_39 : decode cX7_at 39 = .ok (.aload_n 0, 1) := by decide +kernel
theorem dX7_at_40 : decode cX7_at 40 = .ok (.iconst 2, 1) := by decide +kernel
theorem dX7_at_41 : decode cX7_at 41 = .ok (.invokevirtual 109, 3) := by decide +kernel
theorem dX7_at_44 : decode cX7_at 44 = .ok (.ireturn, 1) := by decide +kernel
theorem dX7_at_45 : decode cX7_at 45 = .ok (.aload_n 0, 1) := by decide +kernel
theorem dX7_at_46 : decode cX7_at 46 = .ok (.aload_n 0, 1) := by decide +kernel
theorem dX7_at_47 : decode cX7_at 47 = .ok (.getfield 11, 3) := by decide +kernel
theorem dX7_at_50 : decode cX7_at 50 = .ok (.iload_n 1, 1) := by decide +kernel
theorem dX7_at_51 : decode cX7_at 51 = .ok (.aaload, 1) := by decide +kernel
theorem dX7_at_52 : decode cX7_at 52 = .ok (.iload_n 2, 1) := by decide +kernel
theorem dX7_at_53 : decode cX7_at 53 = .ok (.iaload, 1) := by decide +kernel
theorem dX7_at_54 : decode cX7_at 54 = .ok (.invokevirtual 113, 3) := by decide +kernel
theorem dX7_at_57 : decode cX7_at 57 = .ok (.ireturn, 1) := by decide +kernel
theorem dX7_tear_0 : decode cX7_tear 0 = .ok (.iload_n 1, 1) := by decide +kernel
theorem dX7_tear_1 : decode cX7_tear 1 = .ok (.bipush 6, 2) := by decide +kernel
theorem dX7_tear_3 : decode cX7_tear 3 = .ok (.invokestatic 105, 3) := by decide +kernel
theorem dX7_tear_6 : decode cX7_tear 6 = .ok (.ifCond .ne 5, 3) := by decide +kernel
theorem dX7_tear_9 : decode cX7_tear 9 = .ok (.iconst (-1), 1) := by decide +kernel
theorem dX7_tear_10 : decode cX7_tear 10 = .ok (.ireturn, 1) := by decide +kernel
theorem dX7_tear_11 : decode cX7_tear 11 = .ok (.aload_n 0, 1) := by decide +kernel
theorem dX7_tear_12 : decode cX7_tear 12 = .ok (.getfield 14, 3) := by decide +kernel
theorem dX7_tear_15 : decode cX7_tear 15 = .ok (.iload_n 1, 1) := by decide +kernel
theorem dX7_tear_16 : decode cX7_tear 16 = .ok (.iaload, 1) := by decide +kernel
theorem dX7_tear_17 : decode cX7_tear 17 = .ok (.ifCond .ge 9, 3) := by decide +kernel
theorem dX7_tear_20 : decode cX7_tear 20 = .ok (.aload_n 0, 1) := by decide +kernel
theorem dX7_tear_21 : decode cX7_tear 21 = .ok (.iconst 1, 1) := by decide +kernel
theorem dX7_tear_22 : decode cX7_tear 22 = .ok (.invokevirtual 109, 3) := by decide +kernel
theorem dX7_tear_25 : decode cX7_tear 25 = .ok (.ireturn, 1) := by decide +kernel
theorem dX7_tear_26 : decode cX7_tear 26 = .ok (.aload_n 0, 1) := by decide +kernel
theorem dX7_tear_27 : decode cX7_tear 27 = .ok (.getfield 14, 3) := by decide +kernel
theorem dX7_tear_30 : decode cX7_tear 30 = .ok (.iload_n 1, 1) := by decide +kernel
theorem dX7_tear_31 : decode cX7_tear 31 = .ok (.iconst (-1), 1) := by decide +kernel
theorem dX7_tear_32 : decode cX7_tear 32 = .ok (.iastore, 1) := by decide +kernel
theorem dX7_tear_33 : decode cX7_tear 33 = .ok (.iconst 1, 1) := by decide +kernel
theorem dX7_tear_34 : decode cX7_tear 34 = .ok (.ireturn, 1) := by decide +kernel
theorem dX7_copy_0 : decode cX7_copy 0 = .ok (.iload_n 1, 1) := by decide +kernel
theorem dX7_copy_1 : decode cX7_copy 1 = .ok (.bipush 6, 2) := by decide +kernel
theorem dX7_copy_3 : decode cX7_copy 3 = .ok (.invokestatic 105, 3) := by decide +kernel
theorem dX7_copy_6 : decode cX7_copy 6 = .ok (.ifCond .eq 12, 3) := by decide +kernel
theorem dX7_copy_9 : decode cX7_copy 9 = .ok (.iload_n 3, 1) := by decide +kernel
theorem dX7_copy_10 : decode cX7_copy 10 = .ok (.bipush 6, 2) := by decide +kernel
theorem dX7_copy_12 : decode cX7_copy 12 = .ok (.invokestatic 105, 3) := by decide +kernel
theorem dX7_copy_15 : decode cX7_copy 15 = .ok (.ifCond .ne 5, 3) := by decide +kernel
theorem dX7_copy_18 : decode cX7_copy 18 = .ok (.iconst (-1), 1) := by decide +kernel
theorem dX7_copy_19 : decode cX7_copy 19 = .ok (.ireturn, 1) := by decide +kernel
theorem dX7_copy_20 : decode cX7_copy 20 = .ok (.iload 5, 2) := by decide +kernel
theorem dX7_copy_22 : decode cX7_copy 22 = .ok (.ifCond .ge 9, 3) := by decide +kernel
theorem dX7_copy_25 : decode cX7_copy 25 = .ok (.aload_n 0, 1) := by decide +kernel
theorem dX7_copy_26 : decode cX7_copy 26 = .ok (.iconst 5, 1) := by decide +kernel
theorem dX7_copy_27 : decode cX7_copy 27 = .ok (.invokevirtual 109, 3) := by decide +kernel
theorem dX7_copy_30 : decode cX7_copy 30 = .ok (.ireturn, 1) := by decide +kernel
theorem dX7_copy_31 : decode cX7_copy 31 = .ok (.aload_n 0, 1) := by decide +kernel
theorem dX7_copy_32 : decode cX7_copy 32 = .ok (.getfield 14, 3) := by decide +kernel
theorem dX7_copy_35 : decode cX7_copy 35 = .ok (.iload_n 1, 1) := by decide +kernel
theorem dX7_copy_36 : decode cX7_copy 36 = .ok (.iaload, 1) := by decide +kernel
theorem dX7_copy_37 : decode cX7_copy 37 = .ok (.ifCond .lt 12, 3) := by decide +kernel
theorem dX7_copy_40 : decode cX7_copy 40 = .ok (.aload_n 0, 1) := by decide +kernel
theorem dX7_copy_41 : decode cX7_copy 41 = .ok (.getfield 14, 3) := by decide +kernel
theorem dX7_copy_44 : decode cX7_copy 44 = .ok (.iload_n 3, 1) := by decide +kernel
theorem dX7_copy_45 : decode cX7_copy 45 = .ok (.iaload, 1) := by decide +kernel
theorem dX7_copy_46 : decode cX7_copy 46 = .ok (.ifCond .ge 9, 3) := by decide +kernel
theorem dX7_copy_49 : decode cX7_copy 49 = .ok (.aload_n 0, 1) := by decide +kernel
theorem dX7_copy_50 : decode cX7_copy 50 = .ok (.iconst 1, 1) := by decide +kernel
theorem dX7_copy_51 : decode cX7_copy 51 = .ok (.invokevirtual 109, 3) := by decide +kernel
theorem dX7_copy_54 : decode cX7_copy 54 = .ok (.ireturn, 1) := by decide +kernel
theorem dX7_copy_55 : decode cX7_copy 55 = .ok (.aload_n 0, 1) := by decide +kernel
theorem dX7_copy_56 : decode cX7_copy 56 = .ok (.getfield 14, 3) := by decide +kernel
theorem dX7_copy_59 : decode cX7_copy 59 = .ok (.iload_n 1, 1) := by decide +kernel
theorem dX7_copy_60 : decode cX7_copy 60 = .ok (.iaload, 1) := by decide +kernel
theorem dX7_copy_61 : decode cX7_copy 61 = .ok (.iload_n 2, 1) := by decide +kernel
theorem dX7_copy_62 : decode cX7_copy 62 = .ok (.iload 5, 2) := by decide +kernel
theorem dX7_copy_64 : decode cX7_copy 64 = .ok (.invokestatic 116, 3) := by decide +kernel
theorem dX7_copy_67 : decode cX7_copy 67 = .ok (.ifCond .eq 19, 3) := by decide +kernel
theorem dX7_copy_70 : decode cX7_copy 70 = .ok (.aload_n 0, 1) := by decide +kernel
theorem dX7_copy_71 : decode cX7_copy 71 = .ok (.getfield 14, 3) := by decide +kernel
theorem dX7_copy_74 : decode cX7_copy 74 = .ok (.iload_n 3, 1) := by decide +kernel
theorem dX7_copy_75 : decode cX7_copy 75 = .ok (.iaload, 1) := by decide +kernel
theorem dX7_copy_76 : decode cX7_copy 76 = .ok (.iload 4, 2) := by decide +kernel
theorem dX7_copy_78 : decode cX7_copy 78 = .ok (.iload 5, 2) := by decide +kernel
theorem dX7_copy_80 : decode cX7_copy 80 = .ok (.invokestatic 116, 3) := by decide +kernel
theorem dX7_copy_83 : decode cX7_copy 83 = .ok (.ifCond .ne 9, 3) := by decide +kernel
theorem dX7_copy_86 : decode cX7_copy 86 = .ok (.aload_n 0, 1) := by decide +kernel
theorem dX7_copy_87 : decode cX7_copy 87 = .ok (.iconst 2, 1) := by decide +kernel
theorem dX7_copy_88 : decode cX7_copy 88 = .ok (.invokevirtual 109, 3) := by decide +kernel
theorem dX7_copy_91 : decode cX7_copy 91 = .ok (.ireturn, 1) := by decide +kernel
theorem dX7_copy_92 : decode cX7_copy 92 = .ok (.aload_n 0, 1) := by decide +kernel
theorem dX7_copy_93 : decode cX7_copy 93 = .ok (.getfield 11, 3) := by decide +kernel
theorem dX7_copy_96 : decode cX7_copy 96 = .ok (.iload_n 1, 1) := by decide +kernel
theorem dX7_copy_97 : decode cX7_copy 97 = .ok (.aaload, 1) := by decide +kernel
theorem dX7_copy_98 : decode cX7_copy 98 = .ok (.iload_n 2, 1) := by decide +kernel
theorem dX7_copy_99 : decode cX7_copy 99 = .ok (.aload_n 0, 1) := by decide +kernel
theorem dX7_copy_100 : decode cX7_copy 100 = .ok (.getfield 11, 3) := by decide +kernel
