theorem dX5_init_0 : decode cX5_init 0 = .ok (.aload_n 0, 1) := by decide +kernel
theorem dX5_init_1 : decode cX5_init 1 = .ok (.invokespecial 1, 3) := by decide +kernel
theorem dX5_init_4 : decode cX5_init 4 = .ok (.aload_n 0, 1) := by decide +kernel
theorem dX5_init_5 : decode cX5_init 5 = .ok (.bipush 8, 2) := by decide +kernel
theorem dX5_init_7 : decode cX5_init 7 = .ok (.newarray .int, 2) := by decide +kernel
theorem dX5_init_9 : decode cX5_init 9 = .ok (.putfield 7, 3) := by decide +kernel
theorem dX5_init_12 : decode cX5_init 12 = .ok (.aload_n 0, 1) := by decide +kernel
theorem dX5_init_13 : decode cX5_init 13 = .ok (.bipush 24, 2) := by decide +kernel
theorem dX5_init_15 : decode cX5_init 15 = .ok (.newarray .int, 2) := by decide +kernel
theorem dX5_init_17 : decode cX5_init 17 = .ok (.putfield 13, 3) := by decide +kernel
theorem dX5_init_20 : decode cX5_init 20 = .ok (.aload_n 0, 1) := by decide +kernel
theorem dX5_init_21 : decode cX5_init 21 = .ok (.bipush 8, 2) := by decide +kernel
theorem dX5_init_23 : decode cX5_init 23 = .ok (.newarray .int, 2) := by decide +kernel
theorem dX5_init_25 : decode cX5_init 25 = .ok (.putfield 16, 3) := by decide +kernel
theorem dX5_init_28 : decode cX5_init 28 = .ok (.aload_n 0, 1) := by decide +kernel
theorem dX5_init_29 : decode cX5_init 29 = .ok (.bipush 8, 2) := by decide +kernel
theorem dX5_init_31 : decode cX5_init 31 = .ok (.newarray .int, 2) := by decide +kernel
theorem dX5_init_33 : decode cX5_init 33 = .ok (.putfield 19, 3) := by decide +kernel
theorem dX5_init_36 : decode cX5_init 36 = .ok (.aload_n 0, 1) := by decide +kernel
theorem dX5_init_37 : decode cX5_init 37 = .ok (.bipush 15, 2) := by decide +kernel
theorem dX5_init_39 : decode cX5_init 39 = .ok (.newarray .int, 2) := by decide +kernel
theorem dX5_init_41 : decode cX5_init 41 = .ok (.putfield 22, 3) := by decide +kernel
theorem dX5_init_44 : decode cX5_init 44 = .ok (.aload_n 0, 1) := by decide +kernel
theorem dX5_init_45 : decode cX5_init 45 = .ok (.iconst 3, 1) := by decide +kernel
theorem dX5_init_46 : decode cX5_init 46 = .ok (.newarray .int, 2) := by decide +kernel
theorem dX5_init_48 : decode cX5_init 48 = .ok (.putfield 25, 3) := by decide +kernel
theorem dX5_init_51 : decode cX5_init 51 = .ok (.aload_n 0, 1) := by decide +kernel
theorem dX5_init_52 : decode cX5_init 52 = .ok (.bipush 14, 2) := by decide +kernel
theorem dX5_init_54 : decode cX5_init 54 = .ok (.newarray .int, 2) := by decide +kernel
theorem dX5_init_56 : decode cX5_init 56 = .ok (.putfield 28, 3) := by decide +kernel
theorem dX5_init_59 : decode cX5_init 59 = .ok (.aload_n 0, 1) := by decide +kernel
theorem dX5_init_60 : decode cX5_init 60 = .ok (.bipush 112, 2) := by decide +kernel
theorem dX5_init_62 : decode cX5_init 62 = .ok (.newarray .int, 2) := by decide +kernel
theorem dX5_init_64 : decode cX5_init 64 = .ok (.putfield 31, 3) := by decide +kernel
theorem dX5_init_67 : decode cX5_init 67 = .ok (.aload_n 0, 1) := by decide +kernel
theorem dX5_init_68 : decode cX5_init 68 = .ok (.bipush 28, 2) := by decide +kernel
theorem dX5_init_70 : decode cX5_init 70 = .ok (.newarray .int, 2) := by decide +kernel
theorem dX5_init_72 : decode cX5_init 72 = .ok (.putfield 34, 3) := by decide +kernel
theorem dX5_init_75 : decode cX5_init 75 = .ok (.aload_n 0, 1) := by decide +kernel
theorem dX5_init_76 : decode cX5_init 76 = .ok (.bipush 12, 2) := by decide +kernel
theorem dX5_init_78 : decode cX5_init 78 = .ok (.newarray .int, 2) := by decide +kernel
theorem dX5_init_80 : decode cX5_init 80 = .ok (.putfield 37, 3) := by decide +kernel
theorem dX5_init_83 : decode cX5_init 83 = .ok (.aload_n 0, 1) := by decide +kernel
theorem dX5_init_84 : decode cX5_init 84 = .ok (.sipush 200, 3) := by decide +kernel
theorem dX5_init_87 : decode cX5_init 87 = .ok (.newarray .int, 2) := by decide +kernel
theorem dX5_init_89 : decode cX5_init 89 = .ok (.putfield 40, 3) := by decide +kernel
theorem dX5_init_92 : decode cX5_init 92 = .ok (.aload_n 0, 1) := by decide +kernel
theorem dX5_init_93 : decode cX5_init 93 = .ok (.iconst 3, 1) := by decide +kernel
theorem dX5_init_94 : decode cX5_init 94 = .ok (.newarray .int, 2) := by decide +kernel
theorem dX5_init_96 : decode cX5_init 96 = .ok (.putfield 43, 3) := by decide +kernel
theorem dX5_init_99 : decode cX5_init 99 = .ok (.aload_n 0, 1) := by decide +kernel
theorem dX5_init_100 : decode cX5_init 100 = .ok (.bipush 8, 2) := by decide +kernel
theorem dX5_init_102 : decode cX5_init 102 = .ok (.newarray .int, 2) := by decide +kernel
theorem dX5_init_104 : decode cX5_init 104 = .ok (.putfield 46, 3) := by decide +kernel
theorem dX5_init_107 : decode cX5_init 107 = .ok (.aload_n 0, 1) := by decide +kernel
theorem dX5_init_108 : decode cX5_init 108 = .ok (.bipush 24, 2) := by decide +kernel
theorem dX5_init_110 : decode cX5_init 110 = .ok (.newarray .int, 2) := by decide +kernel
theorem dX5_init_112 : decode cX5_init 112 = .ok (.putfield 49, 3) := by decide +kernel
theorem dX5_init_115 : decode cX5_init 115 = .ok (.aload_n 0, 1) := by decide +kernel
theorem dX5_init_116 : decode cX5_init 116 = .ok (.bipush 8, 2) := by decide +kernel
theorem dX5_init_118 : decode cX5_init 118 = .ok (.newarray .int, 2) := by decide +kernel
theorem dX5_init_120 : decode cX5_init 120 = .ok (.putfield 52, 3) := by decide +kernel
theorem dX5_init_123 : decode cX5_init 123 = .ok (.aload_n 0, 1) := by decide +kernel
theorem dX5_init_124 : decode cX5_init 124 = .ok (.bipush 8, 2) := by decide +kernel
theorem dX5_init_126 : decode cX5_init 126 = .ok (.newarray .int, 2) := by decide +kernel
theorem dX5_init_128 : decode cX5_init 128 = .ok (.putfield 55, 3) := by decide +kernel
theorem dX5_init_131 : decode cX5_init 131 = .ok (.aload_n 0, 1) := by decide +kernel
theorem dX5_init_132 : decode cX5_init 132 = .ok (.bipush 15, 2) := by decide +kernel
theorem dX5_init_134 : decode cX5_init 134 = .ok (.newarray .int, 2) := by decide +kernel
theorem dX5_init_136 : decode cX5_init 136 = .ok (.putfield 58, 3) := by decide +kernel
theorem dX5_init_139 : decode cX5_init 139 = .ok (.aload_n 0, 1) := by decide +kernel
theorem dX5_init_140 : decode cX5_init 140 = .ok (.bipush 9, 2) := by decide +kernel
theorem dX5_init_142 : decode cX5_init 142 = .ok (.newarray .int, 2) := by decide +kernel
theorem dX5_init_144 : decode cX5_init 144 = .ok (.putfield 61, 3) := by decide +kernel
theorem dX5_init_147 : decode cX5_init 147 = .ok (.aload_n 0, 1) := by decide +kernel
theorem dX5_init_148 : decode cX5_init 148 = .ok (.iconst 3, 1) := by decide +kernel
theorem dX5_init_149 : decode cX5_init 149 = .ok (.newarray .int, 2) := by decide +kernel
theorem dX5_init_151 : decode cX5_init 151 = .ok (.putfield 64, 3) := by decide +kernel
theorem dX5_init_154 : decode cX5_init 154 = .ok (.aload_n 0, 1) := by decide +kernel
theorem dX5_init_155 : decode cX5_init 155 = .ok (.bipush 9, 2) := by decide +kernel
theorem dX5_init_157 : decode cX5_init 157 = .ok (.newarray .int, 2) := by decide +kernel
theorem dX5_init_159 : decode cX5_init 159 = .ok (.putfield 67, 3) := by decide +kernel
theorem dX5_init_162 : decode cX5_init 162 = .ok (.aload_n 0, 1) := by decide +kernel
theorem dX5_init_163 : decode cX5_init 163 = .ok (.bipush 9, 2) := by decide +kernel
theorem dX5_init_165 : decode cX5_init 165 = .ok (.newarray .int, 2) := by decide +kernel
theorem dX5_init_167 : decode cX5_init 167 = .ok (.putfield 70, 3) := by decide +kernel
theorem dX5_init_170 : decode cX5_init 170 = .ok (.aload_n 0, 1) := by decide +kernel
theorem dX5_init_171 : decode cX5_init 171 = .ok (.bipush 10, 2) := by decide +kernel
theorem dX5_init_173 : decode cX5_init 173 = .ok (.newarray .int, 2) := by decide +kernel
theorem dX5_init_175 : decode cX5_init 175 = .ok (.putfield 73, 3) := by decide +kernel
theorem dX5_init_178 : decode cX5_init 178 = .ok (.aload_n 0, 1) := by decide +kernel
theorem dX5_init_179 : decode cX5_init 179 = .ok (.invokevirtual 76, 3) := by decide +kernel
theorem dX5_init_182 : decode cX5_init 182 = .ok (.aload_n 0, 1) := by decide +kernel
theorem dX5_init_183 : decode cX5_init 183 = .ok (.invokevirtual 79, 3) := by decide +kernel
theorem dX5_init_186 : decode cX5_init 186 = .ok (.aload_n 0, 1) := by decide +kernel
theorem dX5_init_187 : decode cX5_init 187 = .ok (.invokevirtual 82, 3) := by decide +kernel
theorem dX5_init_190 : decode cX5_init 190 = .ok (.return_, 1) := by decide +kernel
theorem dX5_tellsRoot_0 : decode cX5_tellsRoot 0 = .ok (.aload_n 0, 1) := by decide +kernel
theorem dX5_tellsRoot_1 : decode cX5_tellsRoot 1 = .ok (.getfield 46, 3) := by decide +kernel
theorem dX5_tellsRoot_4 : decode cX5_tellsRoot 4 = .ok (.aload_n 0, 1) := by decide +kernel
theorem dX5_tellsRoot_5 : decode cX5_tellsRoot 5 = .ok (.getfield 85, 3) := by decide +kernel
theorem dX5_tellsRoot_8 : decode cX5_tellsRoot 8 = .ok (.iload_n 1, 1) := by decide +kernel
theorem dX5_tellsRoot_9 : decode cX5_tellsRoot 9 = .ok (.iastore, 1) := by decide +kernel
theorem dX5_tellsRoot_10 : decode cX5_tellsRoot 10 = .ok (.iconst 0, 1) := by decide +kernel
theorem dX5_tellsRoot_11 : decode cX5_tellsRoot 11 = .ok (.istore 5, 2) := by decide +kernel
theorem dX5_tellsRoot_13 : decode cX5_tellsRoot 13 = .ok (.iload 5, 2) := by decide +kernel
theorem dX5_tellsRoot_15 : decode cX5_tellsRoot 15 = .ok (.iconst 3, 1) := by decide +kernel
theorem dX5_tellsRoot_16 : decode cX5_tellsRoot 16 = .ok (.if_icmp .ge 32, 3) := by decide +kernel
theorem dX5_tellsRoot_19 : decode cX5_tellsRoot 19 = .ok (.aload_n 0, 1) := by decide +kernel
theorem dX5_tellsRoot_20 : decode cX5_tellsRoot 20 = .ok (.getfield 49, 3) := by decide +kernel
theorem dX5_tellsRoot_23 : decode cX5_tellsRoot 23 = .ok (.iconst 3, 1) := by decide +kernel
theorem dX5_tellsRoot_24 : decode cX5_tellsRoot 24 = .ok (.aload_n 0, 1) := by decide +kernel
theorem dX5_tellsRoot_25 : decode cX5_tellsRoot 25 = .ok (.getfield 85, 3) := by decide +kernel
theorem dX5_tellsRoot_28 : decode cX5_tellsRoot 28 = .ok (.imul, 1) := by decide +kernel
theorem dX5_tellsRoot_29 : decode cX5_tellsRoot 29 = .ok (.iload 5, 2) := by decide +kernel
theorem dX5_tellsRoot_31 : decode cX5_tellsRoot 31 = .ok (.iadd, 1) := by decide +kernel
theorem dX5_tellsRoot_32 : decode cX5_tellsRoot 32 = .ok (.iload_n 2, 1) := by decide +kernel
theorem dX5_tellsRoot_33 : decode cX5_tellsRoot 33 = .ok (.iconst 3, 1) := by decide +kernel
theorem dX5_tellsRoot_34 : decode cX5_tellsRoot 34 = .ok (.iload 5, 2) := by decide +kernel
theorem dX5_tellsRoot_36 : decode cX5_tellsRoot 36 = .ok (.imul, 1) := by decide +kernel
theorem dX5_tellsRoot_37 : decode cX5_tellsRoot 37 = .ok (.ishr, 1) := by decide +kernel
theorem dX5_tellsRoot_38 : decode cX5_tellsRoot 38 = .ok (.bipush 7, 2) := by decide +kernel
theorem dX5_tellsRoot_40 : decode cX5_tellsRoot 40 = .ok (.iand, 1) := by decide +kernel
theorem dX5_tellsRoot_41 : decode cX5_tellsRoot 41 = .ok (.iastore, 1) := by decide +kernel
theorem dX5_tellsRoot_42 : decode cX5_tellsRoot 42 = .ok (.iinc 5 1, 3) := by decide +kernel
theorem dX5_tellsRoot_45 : decode cX5_tellsRoot 45 = .ok (.goto (-32), 3) := by decide +kernel
theorem dX5_tellsRoot_48 : decode cX5_tellsRoot 48 = .ok (.aload_n 0, 1) := by decide +kernel
theorem dX5_tellsRoot_49 : decode cX5_tellsRoot 49 = .ok (.getfield 52, 3) := by decide +kernel
theorem dX5_tellsRoot_52 : decode cX5_tellsRoot 52 = .ok (.aload_n 0, 1) := by decide +kernel
theorem dX5_tellsRoot_53 : decode cX5_tellsRoot 53 = .ok (.getfield 85, 3) := by decide +kernel
theorem dX5_tellsRoot_56 : decode cX5_tellsRoot 56 = .ok (.iload_n 3, 1) := by decide +kernel
theorem dX5_tellsRoot_57 : decode cX5_tellsRoot 57 = .ok (.iastore, 1) := by decide +kernel
theorem dX5_tellsRoot_58 : decode cX5_tellsRoot 58 = .ok (.aload_n 0, 1) := by decide +kernel
theorem dX5_tellsRoot_59 : decode cX5_tellsRoot 59 = .ok (.getfield 55, 3) := by decide +kernel
theorem dX5_tellsRoot_62 : decode cX5_tellsRoot 62 = .ok (.aload_n 0, 1) := by decide +kernel
theorem dX5_tellsRoot_63 : decode cX5_tellsRoot 63 = .ok (.getfield 85, 3) := by decide +kernel
theorem dX5_tellsRoot_66 : decode cX5_tellsRoot 66 = .ok (.iload 4, 2) := by decide +kernel
theorem dX5_tellsRoot_68 : decode cX5_tellsRoot 68 = .ok (.iastore, 1) := by decide +kernel
theorem dX5_tellsRoot_69 : decode cX5_tellsRoot 69 = .ok (.aload_n 0, 1) := by decide +kernel
theorem dX5_tellsRoot_70 : decode cX5_tellsRoot 70 = .ok (.dup, 1) := by decide +kernel
theorem dX5_tellsRoot_71 : decode cX5_tellsRoot 71 = .ok (.getfield 85, 3) := by decide +kernel
theorem dX5_tellsRoot_74 : decode cX5_tellsRoot 74 = .ok (.iconst 1, 1) := by decide +kernel
theorem dX5_tellsRoot_75 : decode cX5_tellsRoot 75 = .ok (.iadd, 1) := by decide +kernel
theorem dX5_tellsRoot_76 : decode cX5_tellsRoot 76 = .ok (.putfield 85, 3) := by decide +kernel
theorem dX5_tellsRoot_79 : decode cX5_tellsRoot 79 = .ok (.return_, 1) := by decide +kernel
theorem dX5_tellsReader_0 : decode cX5_tellsReader 0 = .ok (.aload_n 0, 1) := by decide +kernel
theorem dX5_tellsReader_1 : decode cX5_tellsReader 1 = .ok (.getfield 58, 3) := by decide +kernel
theorem dX5_tellsReader_4 : decode cX5_tellsReader 4 = .ok (.iconst 3, 1) := by decide +kernel
theorem dX5_tellsReader_5 : decode cX5_tellsReader 5 = .ok (.aload_n 0, 1) := by decide +kernel
theorem dX5_tellsReader_6 : decode cX5_tellsReader 6 = .ok (.getfield 89, 3) := by decide +kernel
theorem dX5_tellsReader_9 : decode cX5_tellsReader 9 = .ok (.imul, 1) := by decide +kernel
theorem dX5_tellsReader_10 : decode cX5_tellsReader 10 = .ok (.iload_n 1, 1) := by decide +kernel
theorem dX5_tellsReader_11 : decode cX5_tellsReader 11 = .ok (.iastore, 1) := by decide +kernel
theorem dX5_tellsReader_12 : decode cX5_tellsReader 12 = .ok (.aload_n 0, 1) := by decide +kernel
theorem dX5_tellsReader_13 : decode cX5_tellsReader 13 = .ok (.getfield 58, 3) := by decide +kernel
theorem dX5_tellsReader_16 : decode cX5_tellsReader 16 = .ok (.iconst 3, 1) := by decide +kernel
theorem dX5_tellsReader_17 : decode cX5_tellsReader 17 = .ok (.aload_n 0, 1) := by decide +kernel
theorem dX5_tellsReader_18 : decode cX5_tellsReader 18 = .ok (.getfield 89, 3) := by decide +kernel
theorem dX5_tellsReader_21 : decode cX5_tellsReader 21 = .ok (.imul, 1) := by decide +kernel
theorem dX5_tellsReader_22 : decode cX5_tellsReader 22 = .ok (.iconst 1, 1) := by decide +kernel
theorem dX5_tellsReader_23 : decode cX5_tellsReader 23 = .ok (.iadd, 1) := by decide +kernel
theorem dX5_tellsReader_24 : decode cX5_tellsReader 24 = .ok (.iload_n 2, 1) := by decide +kernel
theorem dX5_tellsReader_25 : decode cX5_tellsReader 25 = .ok (.iastore, 1) := by decide +kernel
theorem dX5_tellsReader_26 : decode cX5_tellsReader 26 = .ok (.aload_n 0, 1) := by decide +kernel
theorem dX5_tellsReader_27 : decode cX5_tellsReader 27 = .ok (.getfield 58, 3) := by decide +kernel
theorem dX5_tellsReader_30 : decode cX5_tellsReader 30 = .ok (.iconst 3, 1) := by decide +kernel
theorem dX5_tellsReader_31 : decode cX5_tellsReader 31 = .ok (.aload_n 0, 1) := by decide +kernel
theorem dX5_tellsReader_32 : decode cX5_tellsReader 32 = .ok (.getfield 89, 3) := by decide +kernel
theorem dX5_tellsReader_35 : decode cX5_tellsReader 35 = .ok (.imul, 1) := by decide +kernel
theorem dX5_tellsReader_36 : decode cX5_tellsReader 36 = .ok (.iconst 2, 1) := by decide +kernel
theorem dX5_tellsReader_37 : decode cX5_tellsReader 37 = .ok (.iadd, 1) := by decide +kernel
theorem dX5_tellsReader_38 : decode cX5_tellsReader 38 = .ok (.iload_n 3, 1) := by decide +kernel
theorem dX5_tellsReader_39 : decode cX5_tellsReader 39 = .ok (.iastore, 1) := by decide +kernel
theorem dX5_tellsReader_40 : decode cX5_tellsReader 40 = .ok (.aload_n 0, 1) := by decide +kernel
theorem dX5_tellsReader_41 : decode cX5_tellsReader 41 = .ok (.dup, 1) := by decide +kernel
theorem dX5_tellsReader_42 : decode cX5_tellsReader 42 = .ok (.getfield 89, 3) := by decide +kernel
theorem dX5_tellsReader_45 : decode cX5_tellsReader 45 = .ok (.iconst 1, 1) := by decide +kernel
theorem dX5_tellsReader_46 : decode cX5_tellsReader 46 = .ok (.iadd, 1) := by decide +kernel
theorem dX5_tellsReader_47 : decode cX5_tellsReader 47 = .ok (.putfield 89, 3) := by decide +kernel
theorem dX5_tellsReader_50 : decode cX5_tellsReader 50 = .ok (.return_, 1) := by decide +kernel
theorem dX5_tellsAll_0 : decode cX5_tellsAll 0 = .ok (.aload_n 0, 1) := by decide +kernel
theorem dX5_tellsAll_1 : decode cX5_tellsAll 1 = .ok (.iconst 1, 1) := by decide +kernel
theorem dX5_tellsAll_2 : decode cX5_tellsAll 2 = .ok (.iconst 0, 1) := by decide +kernel
theorem dX5_tellsAll_3 : decode cX5_tellsAll 3 = .ok (.iconst 5, 1) := by decide +kernel
theorem dX5_tellsAll_4 : decode cX5_tellsAll 4 = .ok (.iconst 1, 1) := by decide +kernel
theorem dX5_tellsAll_5 : decode cX5_tellsAll 5 = .ok (.invokevirtual 92, 3) := by decide +kernel
theorem dX5_tellsAll_8 : decode cX5_tellsAll 8 = .ok (.aload_n 0, 1) := by decide +kernel
theorem dX5_tellsAll_9 : decode cX5_tellsAll 9 = .ok (.iconst 1, 1) := by decide +kernel
theorem dX5_tellsAll_10 : decode cX5_tellsAll 10 = .ok (.iconst 1, 1) := by decide +kernel
theorem dX5_tellsAll_11 : decode cX5_tellsAll 11 = .ok (.iconst 0, 1) := by decide +kernel
theorem dX5_tellsAll_12 : decode cX5_tellsAll 12 = .ok (.iconst 2, 1) := by decide +kernel
theorem dX5_tellsAll_13 : decode cX5_tellsAll 13 = .ok (.invokevirtual 92, 3) := by decide +kernel
theorem dX5_tellsAll_16 : decode cX5_tellsAll 16 = .ok (.aload_n 0, 1) := by decide +kernel
theorem dX5_tellsAll_17 : decode cX5_tellsAll 17 = .ok (.iconst 2, 1) := by decide +kernel
theorem dX5_tellsAll_18 : decode cX5_tellsAll 18 = .ok (.bipush 8, 2) := by decide +kernel
theorem dX5_tellsAll_20 : decode cX5_tellsAll 20 = .ok (.bipush 12, 2) := by decide +kernel
theorem dX5_tellsAll_22 : decode cX5_tellsAll 22 = .ok (.iconst 0, 1) := by decide +kernel
theorem dX5_tellsAll_23 : decode cX5_tellsAll 23 = .ok (.invokevirtual 92, 3) := by decide +kernel
theorem dX5_tellsAll_26 : decode cX5_tellsAll 26 = .ok (.aload_n 0, 1) := by decide +kernel
theorem dX5_tellsAll_27 : decode cX5_tellsAll 27 = .ok (.iconst 2, 1) := by decide +kernel
theorem dX5_tellsAll_28 : decode cX5_tellsAll 28 = .ok (.iconst 1, 1) := by decide +kernel
theorem dX5_tellsAll_29 : decode cX5_tellsAll 29 = .ok (.bipush 7, 2) := by decide +kernel
theorem dX5_tellsAll_31 : decode cX5_tellsAll 31 = .ok (.iconst 3, 1) := by decide +kernel
theorem dX5_tellsAll_32 : decode cX5_tellsAll 32 = .ok (.invokevirtual 92, 3) := by decide +kernel
theorem dX5_tellsAll_35 : decode cX5_tellsAll 35 = .ok (.aload_n 0, 1) := by decide +kernel
theorem dX5_tellsAll_36 : decode cX5_tellsAll 36 = .ok (.iconst 1, 1) := by decide +kernel
theorem dX5_tellsAll_37 : decode cX5_tellsAll 37 = .ok (.iconst 2, 1) := by decide +kernel
theorem dX5_tellsAll_38 : decode cX5_tellsAll 38 = .ok (.iconst 3, 1) := by decide +kernel
theorem dX5_tellsAll_39 : decode cX5_tellsAll 39 = .ok (.iconst 0, 1) := by decide +kernel
theorem dX5_tellsAll_40 : decode cX5_tellsAll 40 = .ok (.invokevirtual 92, 3) := by decide +kernel
theorem dX5_tellsAll_43 : decode cX5_tellsAll 43 = .ok (.aload_n 0, 1) := by decide +kernel
theorem dX5_tellsAll_44 : decode cX5_tellsAll 44 = .ok (.iconst 2, 1) := by decide +kernel
theorem dX5_tellsAll_45 : decode cX5_tellsAll 45 = .ok (.bipush 26, 2) := by decide +kernel
theorem dX5_tellsAll_47 : decode cX5_tellsAll 47 = .ok (.bipush 20, 2) := by decide +kernel
theorem dX5_tellsAll_49 : decode cX5_tellsAll 49 = .ok (.iconst 2, 1) := by decide +kernel
theorem dX5_tellsAll_50 : decode cX5_tellsAll 50 = .ok (.invokevirtual 92, 3) := by decide +kernel
theorem dX5_tellsAll_53 : decode cX5_tellsAll 53 = .ok (.aload_n 0, 1) := by decide +kernel
theorem dX5_tellsAll_54 : decode cX5_tellsAll 54 = .ok (.iconst 1, 1) := by decide +kernel
theorem dX5_tellsAll_55 : decode cX5_tellsAll 55 = .ok (.iconst 3, 1) := by decide +kernel
theorem dX5_tellsAll_56 : decode cX5_tellsAll 56 = .ok (.iconst 1, 1) := by decide +kernel
theorem dX5_tellsAll_57 : decode cX5_tellsAll 57 = .ok (.iconst 1, 1) := by decide +kernel
theorem dX5_tellsAll_58 : decode cX5_tellsAll 58 = .ok (.invokevirtual 92, 3) := by decide +kernel
theorem dX5_tellsAll_61 : decode cX5_tellsAll 61 = .ok (.aload_n 0, 1) := by decide +kernel
theorem dX5_tellsAll_62 : decode cX5_tellsAll 62 = .ok (.iconst 3, 1) := by decide +kernel
theorem dX5_tellsAll_63 : decode cX5_tellsAll 63 = .ok (.bipush 67, 2) := by decide +kernel
theorem dX5_tellsAll_65 : decode cX5_tellsAll 65 = .ok (.bipush 40, 2) := by decide +kernel
theorem dX5_tellsAll_67 : decode cX5_tellsAll 67 = .ok (.iconst 0, 1) := by decide +kernel
theorem dX5_tellsAll_68 : decode cX5_tellsAll 68 = .ok (.invokevirtual 92, 3) := by decide +kernel
theorem dX5_tellsAll_71 : decode cX5_tellsAll 71 = .ok (.aload_n 0, 1) := by decide +kernel
theorem dX5_tellsAll_72 : decode cX5_tellsAll 72 = .ok (.iconst 0, 1) := by decide +kernel
theorem dX5_tellsAll_73 : decode cX5_tellsAll 73 = .ok (.iconst 2, 1) := by decide +kernel
theorem dX5_tellsAll_74 : decode cX5_tellsAll 74 = .ok (.iconst 5, 1) := by decide +kernel
theorem dX5_tellsAll_75 : decode cX5_tellsAll 75 = .ok (.invokevirtual 96, 3) := by decide +kernel
theorem dX5_tellsAll_78 : decode cX5_tellsAll 78 = .ok (.aload_n 0, 1) := by decide +kernel
theorem dX5_tellsAll_79 : decode cX5_tellsAll 79 = .ok (.iconst 1, 1) := by decide +kernel
theorem dX5_tellsAll_80 : decode cX5_tellsAll 80 = .ok (.iconst 1, 1) := by decide +kernel
theorem dX5_tellsAll_81 : decode cX5_tellsAll 81 = .ok (.iconst 3, 1) := by decide +kernel
theorem dX5_tellsAll_82 : decode cX5_tellsAll 82 = .ok (.invokevirtual 96, 3) := by decide +kernel
theorem dX5_tellsAll_85 : decode cX5_tellsAll 85 = .ok (.aload_n 0, 1) := by decide +kernel
theorem dX5_tellsAll_86 : decode cX5_tellsAll 86 = .ok (.iconst 2, 1) := by decide +kernel
theorem dX5_tellsAll_87 : decode cX5_tellsAll 87 = .ok (.iconst 3, 1) := by decide +kernel
theorem dX5_tellsAll_88 : decode cX5_tellsAll 88 = .ok (.bipush 12, 2) := by decide +kernel
theorem dX5_tellsAll_90 : decode cX5_tellsAll 90 = .ok (.invokevirtual 96, 3) := by decide +kernel
theorem dX5_tellsAll_93 : decode cX5_tellsAll 93 = .ok (.aload_n 0, 1) := by decide +kernel
theorem dX5_tellsAll_94 : decode cX5_tellsAll 94 = .ok (.iconst 3, 1) := by decide +kernel
theorem dX5_tellsAll_95 : decode cX5_tellsAll 95 = .ok (.iconst 1, 1) := by decide +kernel
theorem dX5_tellsAll_96 : decode cX5_tellsAll 96 = .ok (.iconst 0, 1) := by decide +kernel
theorem dX5_tellsAll_97 : decode cX5_tellsAll 97 = .ok (.invokevirtual 96, 3) := by decide +kernel
theorem dX5_tellsAll_100 : decode cX5_tellsAll 100 = .ok (.aload_n 0, 1) := by decide +kernel
theorem dX5_tellsAll_101 : decode cX5_tellsAll 101 = .ok (.iconst 4, 1) := by decide +kernel
theorem dX5_tellsAll_102 : decode cX5_tellsAll 102 = .ok (.iconst 4, 1) := by decide +kernel
theorem dX5_tellsAll_103 : decode cX5_tellsAll 103 = .ok (.bipush 8, 2) := by decide +kernel
theorem dX5_tellsAll_105 : decode cX5_tellsAll 105 = .ok (.invokevirtual 96, 3) := by decide +kernel
theorem dX5_tellsAll_108 : decode cX5_tellsAll 108 = .ok (.aload_n 0, 1) := by decide +kernel
theorem dX5_tellsAll_109 : decode cX5_tellsAll 109 = .ok (.bipush 7, 2) := by decide +kernel
theorem dX5_tellsAll_111 : decode cX5_tellsAll 111 = .ok (.putfield 100, 3) := by decide +kernel
theorem dX5_tellsAll_114 : decode cX5_tellsAll 114 = .ok (.aload_n 0, 1) := by decide +kernel
theorem dX5_tellsAll_115 : decode cX5_tellsAll 115 = .ok (.getfield 61, 3) := by decide +kernel
theorem dX5_tellsAll_118 : decode cX5_tellsAll 118 = .ok (.iconst 0, 1) := by decide +kernel
theorem dX5_tellsAll_119 : decode cX5_tellsAll 119 = .ok (.iconst 0, 1) := by decide +kernel
theorem dX5_tellsAll_120 : decode cX5_tellsAll 120 = .ok (.iastore, 1) := by decide +kernel
theorem dX5_tellsAll_121 : decode cX5_tellsAll 121 = .ok (.aload_n 0, 1) := by decide +kernel
theorem dX5_tellsAll_122 : decode cX5_tellsAll 122 = .ok (.getfield 61, 3) := by decide +kernel
theorem dX5_tellsAll_125 : decode cX5_tellsAll 125 = .ok (.iconst 1, 1) := by decide +kernel
theorem dX5_tellsAll_126 : decode cX5_tellsAll 126 = .ok (.iconst 1, 1) := by decide +kernel
theorem dX5_tellsAll_127 : decode cX5_tellsAll 127 = .ok (.iastore, 1) := by decide +kernel
theorem dX5_tellsAll_128 : decode cX5_tellsAll 128 = .ok (.aload_n 0, 1) := by decide +kernel
theorem dX5_tellsAll_129 : decode cX5_tellsAll 129 = .ok (.getfield 61, 3) := by decide +kernel
theorem dX5_tellsAll_132 : decode cX5_tellsAll 132 = .ok (.iconst 2, 1) := by decide +kernel
theorem dX5_tellsAll_133 : decode cX5_tellsAll 133 = .ok (.iconst 0, 1) := by decide +kernel
theorem dX5_tellsAll_134 : decode cX5_tellsAll 134 = .ok (.iastore, 1) := by decide +kernel
theorem dX5_tellsAll_135 : decode cX5_tellsAll 135 = .ok (.aload_n 0, 1) := by decide +kernel
theorem dX5_tellsAll_136 : decode cX5_tellsAll 136 = .ok (.getfield 61, 3) := by decide +kernel
theorem dX5_tellsAll_139 : decode cX5_tellsAll 139 = .ok (.iconst 3, 1) := by decide +kernel
theorem dX5_tellsAll_140 : decode cX5_tellsAll 140 = .ok (.iconst 2, 1) := by decide +kernel
theorem dX5_tellsAll_141 : decode cX5_tellsAll 141 = .ok (.iastore, 1) := by decide +kernel
theorem dX5_tellsAll_142 : decode cX5_tellsAll 142 = .ok (.aload_n 0, 1) := by decide +kernel
theorem dX5_tellsAll_143 : decode cX5_tellsAll 143 = .ok (.getfield 61, 3) := by decide +kernel
theorem dX5_tellsAll_146 : decode cX5_tellsAll 146 = .ok (.iconst 4, 1) := by decide +kernel
theorem dX5_tellsAll_147 : decode cX5_tellsAll 147 = .ok (.iconst 3, 1) := by decide +kernel
theorem dX5_tellsAll_148 : decode cX5_tellsAll 148 = .ok (.iastore, 1) := by decide +kernel
theorem dX5_tellsAll_149 : decode cX5_tellsAll 149 = .ok (.aload_n 0, 1) := by decide +kernel
theorem dX5_tellsAll_150 : decode cX5_tellsAll 150 = .ok (.getfield 61, 3) := by decide +kernel
theorem dX5_tellsAll_153 : decode cX5_tellsAll 153 = .ok (.iconst 5, 1) := by decide +kernel
theorem dX5_tellsAll_154 : decode cX5_tellsAll 154 = .ok (.iconst 0, 1) := by decide +kernel
theorem dX5_tellsAll_155 : decode cX5_tellsAll 155 = .ok (.iastore, 1) := by decide +kernel
theorem dX5_tellsAll_156 : decode cX5_tellsAll 156 = .ok (.aload_n 0, 1) := by decide +kernel
theorem dX5_tellsAll_157 : decode cX5_tellsAll 157 = .ok (.getfield 61, 3) := by decide +kernel
theorem dX5_tellsAll_160 : decode cX5_tellsAll 160 = .ok (.bipush 6, 2) := by decide +kernel
theorem dX5_tellsAll_162 : decode cX5_tellsAll 162 = .ok (.iconst 1, 1) := by decide +kernel
theorem dX5_tellsAll_163 : decode cX5_tellsAll 163 = .ok (.iastore, 1) := by decide +kernel
theorem dX5_tellsAll_164 : decode cX5_tellsAll 164 = .ok (.aload_n 0, 1) := by decide +kernel
theorem dX5_tellsAll_165 : decode cX5_tellsAll 165 = .ok (.getfield 64, 3) := by decide +kernel
theorem dX5_tellsAll_168 : decode cX5_tellsAll 168 = .ok (.iconst 0, 1) := by decide +kernel
theorem dX5_tellsAll_169 : decode cX5_tellsAll 169 = .ok (.bipush 18, 2) := by decide +kernel
theorem dX5_tellsAll_171 : decode cX5_tellsAll 171 = .ok (.iastore, 1) := by decide +kernel
theorem dX5_tellsAll_172 : decode cX5_tellsAll 172 = .ok (.aload_n 0, 1) := by decide +kernel
theorem dX5_tellsAll_173 : decode cX5_tellsAll 173 = .ok (.getfield 64, 3) := by decide +kernel
theorem dX5_tellsAll_176 : decode cX5_tellsAll 176 = .ok (.iconst 1, 1) := by decide +kernel
theorem dX5_tellsAll_177 : decode cX5_tellsAll 177 = .ok (.iconst 4, 1) := by decide +kernel
theorem dX5_tellsAll_178 : decode cX5_tellsAll 178 = .ok (.iastore, 1) := by decide +kernel
theorem dX5_tellsAll_179 : decode cX5_tellsAll 179 = .ok (.aload_n 0, 1) := by decide +kernel
theorem dX5_tellsAll_180 : decode cX5_tellsAll 180 = .ok (.getfield 64, 3) := by decide +kernel
theorem dX5_tellsAll_183 : decode cX5_tellsAll 183 = .ok (.iconst 2, 1) := by decide +kernel
theorem dX5_tellsAll_184 : decode cX5_tellsAll 184 = .ok (.iconst 3, 1) := by decide +kernel
theorem dX5_tellsAll_185 : decode cX5_tellsAll 185 = .ok (.iastore, 1) := by decide +kernel
theorem dX5_tellsAll_186 : decode cX5_tellsAll 186 = .ok (.aload_n 0, 1) := by decide +kernel
theorem dX5_tellsAll_187 : decode cX5_tellsAll 187 = .ok (.bipush 25, 2) := by decide +kernel
theorem dX5_tellsAll_189 : decode cX5_tellsAll 189 = .ok (.putfield 103, 3) := by decide +kernel
theorem dX5_tellsAll_192 : decode cX5_tellsAll 192 = .ok (.return_, 1) := by decide +kernel
theorem dX5_in_0 : decode cX5_in 0 = .ok (.iload_n 0, 1) := by decide +kernel
theorem dX5_in_1 : decode cX5_in 1 = .ok (.iload_n 1, 1) := by decide +kernel
theorem dX5_in_2 : decode cX5_in 2 = .ok (.if_icmp .lt 12, 3) := by decide +kernel
theorem dX5_in_5 : decode cX5_in 5 = .ok (.iload_n 0, 1) := by decide +kernel
theorem dX5_in_6 : decode cX5_in 6 = .ok (.iload_n 2, 1) := by decide +kernel
theorem dX5_in_7 : decode cX5_in 7 = .ok (.if_icmp .gt 7, 3) := by decide +kernel
theorem dX5_in_10 : decode cX5_in 10 = .ok (.iconst 1, 1) := by decide +kernel
theorem dX5_in_11 : decode cX5_in 11 = .ok (.goto 4, 3) := by decide +kernel
theorem dX5_in_14 : decode cX5_in 14 = .ok (.iconst 0, 1) := by decide +kernel
theorem dX5_in_15 : decode cX5_in 15 = .ok (.ireturn, 1) := by decide +kernel
theorem dX5_has_0 : decode cX5_has 0 = .ok (.iload_n 0, 1) := by decide +kernel
theorem dX5_has_1 : decode cX5_has 1 = .ok (.iload_n 1, 1) := by decide +kernel
theorem dX5_has_2 : decode cX5_has 2 = .ok (.ishr, 1) := by decide +kernel
theorem dX5_has_3 : decode cX5_has 3 = .ok (.iconst 1, 1) := by decide +kernel
theorem dX5_has_4 : decode cX5_has 4 = .ok (.iand, 1) := by decide +kernel
theorem dX5_has_5 : decode cX5_has 5 = .ok (.iconst 1, 1) := by decide +kernel
theorem dX5_has_6 : decode cX5_has 6 = .ok (.if_icmp .ne 7, 3) := by decide +kernel
theorem dX5_has_9 : decode cX5_has 9 = .ok (.iconst 1, 1) := by decide +kernel
theorem dX5_has_10 : decode cX5_has 10 = .ok (.goto 4, 3) := by decide +kernel
theorem dX5_has_13 : decode cX5_has 13 = .ok (.iconst 0, 1) := by decide +kernel
theorem dX5_has_14 : decode cX5_has 14 = .ok (.ireturn, 1) := by decide +kernel
theorem dX5_isReader_0 : decode cX5_isReader 0 = .ok (.iload_n 1, 1) := by decide +kernel
theorem dX5_isReader_1 : decode cX5_isReader 1 = .ok (.iconst 0, 1) := by decide +kernel
theorem dX5_isReader_2 : decode cX5_isReader 2 = .ok (.aload_n 0, 1) := by decide +kernel
theorem dX5_isReader_3 : decode cX5_isReader 3 = .ok (.getfield 106, 3) := by decide +kernel
theorem dX5_isReader_6 : decode cX5_isReader 6 = .ok (.iconst 1, 1) := by decide +kernel
theorem dX5_isReader_7 : decode cX5_isReader 7 = .ok (.isub, 1) := by decide +kernel
theorem dX5_isReader_8 : decode cX5_isReader 8 = .ok (.invokestatic 109, 3) := by decide +kernel
theorem dX5_isReader_11 : decode cX5_isReader 11 = .ok (.ireturn, 1) := by decide +kernel
theorem dX5_write_0 : decode cX5_write 0 = .ok (.iload_n 1, 1) := by decide +kernel
theorem dX5_write_1 : decode cX5_write 1 = .ok (.bipush 32, 2) := by decide +kernel
theorem dX5_write_3 : decode cX5_write 3 = .ok (.bipush 126, 2) := by decide +kernel
theorem dX5_write_5 : decode cX5_write 5 = .ok (.invokestatic 109, 3) := by decide +kernel
theorem dX5_write_8 : decode cX5_write 8 = .ok (.ifCond .ne 5, 3) := by decide +kernel
theorem dX5_write_11 : decode cX5_write 11 = .ok (.iconst (-1), 1) := by decide +kernel
theorem dX5_write_12 : decode cX5_write 12 = .ok (.ireturn, 1) := by decide +kernel
theorem dX5_write_13 : decode cX5_write 13 = .ok (.aload_n 0, 1) := by decide +kernel
theorem dX5_write_14 : decode cX5_write 14 = .ok (.getfield 113, 3) := by decide +kernel
theorem dX5_write_17 : decode cX5_write 17 = .ok (.sipush 200, 3) := by decide +kernel
theorem dX5_write_20 : decode cX5_write 20 = .ok (.if_icmp .ne 6, 3) := by decide +kernel
theorem dX5_write_23 : decode cX5_write 23 = .ok (.bipush (-3), 2) := by decide +kernel
theorem dX5_write_25 : decode cX5_write 25 = .ok (.ireturn, 1) := by decide +kernel
theorem dX5_write_26 : decode cX5_write 26 = .ok (.aload_n 0, 1) := by decide +kernel
theorem dX5_write_27 : decode cX5_write 27 = .ok (.getfield 40, 3) := by decide +kernel
theorem dX5_write_30 : decode cX5_write 30 = .ok (.aload_n 0, 1) := by decide +kernel
theorem dX5_write_31 : decode cX5_write 31 = .ok (.getfield 113, 3) := by decide +kernel
theorem dX5_write_34 : decode cX5_write 34 = .ok (.iload_n 1, 1) := by decide +kernel
theorem dX5_write_35 : decode cX5_write 35 = .ok (.iastore, 1) := by decide +kernel
theorem dX5_write_36 : decode cX5_write 36 = .ok (.aload_n 0, 1) := by decide +kernel
theorem dX5_write_37 : decode cX5_write 37 = .ok (.dup, 1) := by decide +kernel
theorem dX5_write_38 : decode cX5_write 38 = .ok (.getfield 113, 3) := by decide +kernel
theorem dX5_write_41 : decode cX5_write 41 = .ok (.iconst 1, 1) := by decide +kernel
theorem dX5_write_42 : decode cX5_write 42 = .ok (.iadd, 1) := by decide +kernel
theorem dX5_write_43 : decode cX5_write 43 = .ok (.putfield 113, 3) := by decide +kernel
theorem dX5_write_46 : decode cX5_write 46 = .ok (.aload_n 0, 1) := by decide +kernel
theorem dX5_write_47 : decode cX5_write 47 = .ok (.getfield 113, 3) := by decide +kernel
theorem dX5_write_50 : decode cX5_write 50 = .ok (.ireturn, 1) := by decide +kernel
theorem dX5_wipe_0 : decode cX5_wipe 0 = .ok (.aload_n 0, 1) := by decide +kernel
theorem dX5_wipe_1 : decode cX5_wipe 1 = .ok (.getfield 113, 3) := by decide +kernel
theorem dX5_wipe_4 : decode cX5_wipe 4 = .ok (.istore_n 1, 1) := by decide +kernel
theorem dX5_wipe_5 : decode cX5_wipe 5 = .ok (.aload_n 0, 1) := by decide +kernel
theorem dX5_wipe_6 : decode cX5_wipe 6 = .ok (.iconst 0, 1) := by decide +kernel
theorem dX5_wipe_7 : decode cX5_wipe 7 = .ok (.putfield 113, 3) := by decide +kernel
theorem dX5_wipe_10 : decode cX5_wipe 10 = .ok (.iload_n 1, 1) := by decide +kernel
theorem dX5_wipe_11 : decode cX5_wipe 11 = .ok (.ireturn, 1) := by decide +kernel
theorem dX5_letterAt_0 : decode cX5_letterAt 0 = .ok (.iload_n 1, 1) := by decide +kernel
theorem dX5_letterAt_1 : decode cX5_letterAt 1 = .ok (.aload_n 0, 1) := by decide +kernel
theorem dX5_letterAt_2 : decode cX5_letterAt 2 = .ok (.getfield 113, 3) := by decide +kernel
theorem dX5_letterAt_5 : decode cX5_letterAt 5 = .ok (.if_icmp .ge 12, 3) := by decide +kernel
theorem dX5_letterAt_8 : decode cX5_letterAt 8 = .ok (.aload_n 0, 1) := by decide +kernel
theorem dX5_letterAt_9 : decode cX5_letterAt 9 = .ok (.getfield 40, 3) := by decide +kernel
theorem dX5_letterAt_12 : decode cX5_letterAt 12 = .ok (.iload_n 1, 1) := by decide +kernel
theorem dX5_letterAt_13 : decode cX5_letterAt 13 = .ok (.iaload, 1) := by decide +kernel
theorem dX5_letterAt_14 : decode cX5_letterAt 14 = .ok (.goto 4, 3) := by decide +kernel
theorem dX5_letterAt_17 : decode cX5_letterAt 17 = .ok (.iconst (-1), 1) := by decide +kernel
theorem dX5_letterAt_18 : decode cX5_letterAt 18 = .ok (.ireturn, 1) := by decide +kernel
theorem dX5_isFigure_0 : decode cX5_isFigure 0 = .ok (.iload_n 0, 1) := by decide +kernel
theorem dX5_isFigure_1 : decode cX5_isFigure 1 = .ok (.bipush 48, 2) := by decide +kernel
theorem dX5_isFigure_3 : decode cX5_isFigure 3 = .ok (.bipush 57, 2) := by decide +kernel
theorem dX5_isFigure_5 : decode cX5_isFigure 5 = .ok (.invokestatic 109, 3) := by decide +kernel
theorem dX5_isFigure_8 : decode cX5_isFigure 8 = .ok (.ireturn, 1) := by decide +kernel
theorem dX5_readNumbers_0 : decode cX5_readNumbers 0 = .ok (.iconst 0, 1) := by decide +kernel
theorem dX5_readNumbers_1 : decode cX5_readNumbers 1 = .ok (.istore_n 2, 1) := by decide +kernel
theorem dX5_readNumbers_2 : decode cX5_readNumbers 2 = .ok (.iload_n 2, 1) := by decide +kernel
theorem dX5_readNumbers_3 : decode cX5_readNumbers 3 = .ok (.iload_n 1, 1) := by decide +kernel
theorem dX5_readNumbers_4 : decode cX5_readNumbers 4 = .ok (.if_icmp .ge 140, 3) := by decide +kernel
theorem dX5_readNumbers_7 : decode cX5_readNumbers 7 = .ok (.aload_n 0, 1) := by decide +kernel
theorem dX5_readNumbers_8 : decode cX5_readNumbers 8 = .ok (.aload_n 0, 1) := by decide +kernel
theorem dX5_readNumbers_9 : decode cX5_readNumbers 9 = .ok (.getfield 116, 3) := by decide +kernel
theorem dX5_readNumbers_12 : decode cX5_readNumbers 12 = .ok (.invokevirtual 119, 3) := by decide +kernel
theorem dX5_readNumbers_15 : decode cX5_readNumbers 15 = .ok (.invokestatic 123, 3) := by decide +kernel
theorem dX5_readNumbers_18 : decode cX5_readNumbers 18 = .ok (.ifCond .ne 5, 3) := by decide +kernel
theorem dX5_readNumbers_21 : decode cX5_readNumbers 21 = .ok (.iconst 0, 1) := by decide +kernel
theorem dX5_readNumbers_22 : decode cX5_readNumbers 22 = .ok (.ireturn, 1) := by decide +kernel
theorem dX5_readNumbers_23 : decode cX5_readNumbers 23 = .ok (.aload_n 0, 1) := by decide +kernel
theorem dX5_readNumbers_24 : decode cX5_readNumbers 24 = .ok (.getfield 43, 3) := by decide +kernel
theorem dX5_readNumbers_27 : decode cX5_readNumbers 27 = .ok (.iload_n 2, 1) := by decide +kernel
theorem dX5_readNumbers_28 : decode cX5_readNumbers 28 = .ok (.aload_n 0, 1) := by decide +kernel
theorem dX5_readNumbers_29 : decode cX5_readNumbers 29 = .ok (.aload_n 0, 1) := by decide +kernel
theorem dX5_readNumbers_30 : decode cX5_readNumbers 30 = .ok (.getfield 116, 3) := by decide +kernel
theorem dX5_readNumbers_33 : decode cX5_readNumbers 33 = .ok (.invokevirtual 119, 3) := by decide +kernel
theorem dX5_readNumbers_36 : decode cX5_readNumbers 36 = .ok (.bipush 48, 2) := by decide +kernel
theorem dX5_readNumbers_38 : decode cX5_readNumbers 38 = .ok (.isub, 1) := by decide +kernel
theorem dX5_readNumbers_39 : decode cX5_readNumbers 39 = .ok (.iastore, 1) := by decide +kernel
theorem dX5_readNumbers_40 : decode cX5_readNumbers 40 = .ok (.aload_n 0, 1) := by decide +kernel
theorem dX5_readNumbers_41 : decode cX5_readNumbers 41 = .ok (.dup, 1) := by decide +kernel
theorem dX5_readNumbers_42 : decode cX5_readNumbers 42 = .ok (.getfield 116, 3) := by decide +kernel
theorem dX5_readNumbers_45 : decode cX5_readNumbers 45 = .ok (.iconst 1, 1) := by decide +kernel
theorem dX5_readNumbers_46 : decode cX5_readNumbers 46 = .ok (.iadd, 1) := by decide +kernel
theorem dX5_readNumbers_47 : decode cX5_readNumbers 47 = .ok (.putfield 116, 3) := by decide +kernel
theorem dX5_readNumbers_50 : decode cX5_readNumbers 50 = .ok (.aload_n 0, 1) := by decide +kernel
theorem dX5_readNumbers_51 : decode cX5_readNumbers 51 = .ok (.aload_n 0, 1) := by decide +kernel
theorem dX5_readNumbers_52 : decode cX5_readNumbers 52 = .ok (.getfield 116, 3) := by decide +kernel
theorem dX5_readNumbers_55 : decode cX5_readNumbers 55 = .ok (.invokevirtual 119, 3) := by decide +kernel
theorem dX5_readNumbers_58 : decode cX5_readNumbers 58 = .ok (.invokestatic 123, 3) := by decide +kernel
theorem dX5_readNumbers_61 : decode cX5_readNumbers 61 = .ok (.ifCond .eq 40, 3) := by decide +kernel
theorem dX5_readNumbers_64 : decode cX5_readNumbers 64 = .ok (.aload_n 0, 1) := by decide +kernel
theorem dX5_readNumbers_65 : decode cX5_readNumbers 65 = .ok (.getfield 43, 3) := by decide +kernel
theorem dX5_readNumbers_68 : decode cX5_readNumbers 68 = .ok (.iload_n 2, 1) := by decide +kernel
theorem dX5_readNumbers_69 : decode cX5_readNumbers 69 = .ok (.bipush 10, 2) := by decide +kernel
theorem dX5_readNumbers_71 : decode cX5_readNumbers 71 = .ok (.aload_n 0, 1) := by decide +kernel
theorem dX5_readNumbers_72 : decode cX5_readNumbers 72 = .ok (.getfield 43, 3) := by decide +kernel
theorem dX5_readNumbers_75 : decode cX5_readNumbers 75 = .ok (.iload_n 2, 1) := by decide +kernel
theorem dX5_readNumbers_76 : decode cX5_readNumbers 76 = .ok (.iaload, 1) := by decide +kernel
theorem dX5_readNumbers_77 : decode cX5_readNumbers 77 = .ok (.imul, 1) := by decide +kernel
theorem dX5_readNumbers_78 : decode cX5_readNumbers 78 = .ok (.aload_n 0, 1) := by decide +kernel
theorem dX5_readNumbers_79 : decode cX5_readNumbers 79 = .ok (.aload_n 0, 1) := by decide +kernel
theorem dX5_readNumbers_80 : decode cX5_readNumbers 80 = .ok (.getfield 116, 3) := by decide +kernel
theorem dX5_readNumbers_83 : decode cX5_readNumbers 83 = .ok (.invokevirtual 119, 3) := by decide +kernel
theorem dX5_readNumbers_86 : decode cX5_readNumbers 86 = .ok (.iadd, 1) := by decide +kernel
theorem dX5_readNumbers_87 : decode cX5_readNumbers 87 = .ok (.bipush 48, 2) := by decide +kernel
theorem dX5_readNumbers_89 : decode cX5_readNumbers 89 = .ok (.isub, 1) := by decide +kernel
theorem dX5_readNumbers_90 : decode cX5_readNumbers 90 = .ok (.iastore, 1) := by decide +kernel
theorem dX5_readNumbers_91 : decode cX5_readNumbers 91 = .ok (.aload_n 0, 1) := by decide +kernel
theorem dX5_readNumbers_92 : decode cX5_readNumbers 92 = .ok (.dup, 1) := by decide +kernel
theorem dX5_readNumbers_93 : decode cX5_readNumbers 93 = .ok (.getfield 116, 3) := by decide +kernel
theorem dX5_readNumbers_96 : decode cX5_readNumbers 96 = .ok (.iconst 1, 1) := by decide +kernel
theorem dX5_readNumbers_97 : decode cX5_readNumbers 97 = .ok (.iadd, 1) := by decide +kernel
theorem dX5_readNumbers_98 : decode cX5_readNumbers 98 = .ok (.putfield 116, 3) := by decide +kernel
theorem dX5_readNumbers_101 : decode cX5_readNumbers 101 = .ok (.aload_n 0, 1) := by decide +kernel
theorem dX5_readNumbers_102 : decode cX5_readNumbers 102 = .ok (.aload_n 0, 1) := by decide +kernel
theorem dX5_readNumbers_103 : decode cX5_readNumbers 103 = .ok (.getfield 116, 3) := by decide +kernel
theorem dX5_readNumbers_106 : decode cX5_readNumbers 106 = .ok (.invokevirtual 119, 3) := by decide +kernel
theorem dX5_readNumbers_109 : decode cX5_readNumbers 109 = .ok (.iload_n 2, 1) := by decide +kernel
theorem dX5_readNumbers_110 : decode cX5_readNumbers 110 = .ok (.iload_n 1, 1) := by decide +kernel
theorem dX5_readNumbers_111 : decode cX5_readNumbers 111 = .ok (.iconst 1, 1) := by decide +kernel
theorem dX5_readNumbers_112 : decode cX5_readNumbers 112 = .ok (.isub, 1) := by decide +kernel
theorem dX5_readNumbers_113 : decode cX5_readNumbers 113 = .ok (.if_icmp .ge 8, 3) := by decide +kernel
theorem dX5_readNumbers_116 : decode cX5_readNumbers 116 = .ok (.bipush 44, 2) := by decide +kernel
theorem dX5_readNumbers_118 : decode cX5_readNumbers 118 = .ok (.goto 5, 3) := by decide +kernel
theorem dX5_readNumbers_121 : decode cX5_readNumbers 121 = .ok (.bipush 59, 2) := by decide +kernel
theorem dX5_readNumbers_123 : decode cX5_readNumbers 123 = .ok (.if_icmp .eq 5, 3) := by decide +kernel
theorem dX5_readNumbers_126 : decode cX5_readNumbers 126 = .ok (.iconst 0, 1) := by decide +kernel
theorem dX5_readNumbers_127 : decode cX5_readNumbers 127 = .ok (.ireturn, 1) := by decide +kernel
theorem dX5_readNumbers_128 : decode cX5_readNumbers 128 = .ok (.aload_n 0, 1) := by decide +kernel
theorem dX5_readNumbers_129 : decode cX5_readNumbers 129 = .ok (.dup, 1) := by decide +kernel
theorem dX5_readNumbers_130 : decode cX5_readNumbers 130 = .ok (.getfield 116, 3) := by decide +kernel
theorem dX5_readNumbers_133 : decode cX5_readNumbers 133 = .ok (.iconst 1, 1) := by decide +kernel
theorem dX5_readNumbers_134 : decode cX5_readNumbers 134 = .ok (.iadd, 1) := by decide +kernel
theorem dX5_readNumbers_135 : decode cX5_readNumbers 135 = .ok (.putfield 116, 3) := by decide +kernel
theorem dX5_readNumbers_138 : decode cX5_readNumbers 138 = .ok (.iinc 2 1, 3) := by decide +kernel
theorem dX5_readNumbers_141 : decode cX5_readNumbers 141 = .ok (.goto (-139), 3) := by decide +kernel
theorem dX5_readNumbers_144 : decode cX5_readNumbers 144 = .ok (.iconst 1, 1) := by decide +kernel
theorem dX5_readNumbers_145 : decode cX5_readNumbers 145 = .ok (.ireturn, 1) := by decide +kernel
theorem dX5_isTold_0 : decode cX5_isTold 0 = .ok (.aload_n 0, 1) := by decide +kernel
theorem dX5_isTold_1 : decode cX5_isTold 1 = .ok (.getfield 43, 3) := by decide +kernel
theorem dX5_isTold_4 : decode cX5_isTold 4 = .ok (.iload_n 1, 1) := by decide +kernel
theorem dX5_isTold_5 : decode cX5_isTold 5 = .ok (.iaload, 1) := by decide +kernel
theorem dX5_isTold_6 : decode cX5_isTold 6 = .ok (.iload_n 2, 1) := by decide +kernel
theorem dX5_isTold_7 : decode cX5_isTold 7 = .ok (.iload_n 3, 1) := by decide +kernel
theorem dX5_isTold_8 : decode cX5_isTold 8 = .ok (.invokestatic 109, 3) := by decide +kernel
theorem dX5_isTold_11 : decode cX5_isTold 11 = .ok (.ireturn, 1) := by decide +kernel
theorem dX5_clearTold_0 : decode cX5_clearTold 0 = .ok (.aload_n 0, 1) := by decide +kernel
theorem dX5_clearTold_1 : decode cX5_clearTold 1 = .ok (.iconst 0, 1) := by decide +kernel
theorem dX5_clearTold_2 : decode cX5_clearTold 2 = .ok (.putfield 85, 3) := by decide +kernel
theorem dX5_clearTold_5 : decode cX5_clearTold 5 = .ok (.aload_n 0, 1) := by decide +kernel
theorem dX5_clearTold_6 : decode cX5_clearTold 6 = .ok (.iconst 0, 1) := by decide +kernel
theorem dX5_clearTold_7 : decode cX5_clearTold 7 = .ok (.putfield 89, 3) := by decide +kernel
theorem dX5_clearTold_10 : decode cX5_clearTold 10 = .ok (.aload_n 0, 1) := by decide +kernel
theorem dX5_clearTold_11 : decode cX5_clearTold 11 = .ok (.iconst 0, 1) := by decide +kernel
theorem dX5_clearTold_12 : decode cX5_clearTold 12 = .ok (.putfield 100, 3) := by decide +kernel
theorem dX5_clearTold_15 : decode cX5_clearTold 15 = .ok (.aload_n 0, 1) := by decide +kernel
theorem dX5_clearTold_16 : decode cX5_clearTold 16 = .ok (.getfield 64, 3) := by decide +kernel
theorem dX5_clearTold_19 : decode cX5_clearTold 19 = .ok (.iconst 0, 1) := by decide +kernel
theorem dX5_clearTold_20 : decode cX5_clearTold 20 = .ok (.bipush 20, 2) := by decide +kernel
theorem dX5_clearTold_22 : decode cX5_clearTold 22 = .ok (.iastore, 1) := by decide +kernel
theorem dX5_clearTold_23 : decode cX5_clearTold 23 = .ok (.aload_n 0, 1) := by decide +kernel
theorem dX5_clearTold_24 : decode cX5_clearTold 24 = .ok (.getfield 64, 3) := by decide +kernel
theorem dX5_clearTold_27 : decode cX5_clearTold 27 = .ok (.iconst 1, 1) := by decide +kernel
theorem dX5_clearTold_28 : decode cX5_clearTold 28 = .ok (.bipush 6, 2) := by decide +kernel
theorem dX5_clearTold_30 : decode cX5_clearTold 30 = .ok (.iastore, 1) := by decide +kernel
theorem dX5_clearTold_31 : decode cX5_clearTold 31 = .ok (.aload_n 0, 1) := by decide +kernel
theorem dX5_clearTold_32 : decode cX5_clearTold 32 = .ok (.getfield 64, 3) := by decide +kernel
theorem dX5_clearTold_35 : decode cX5_clearTold 35 = .ok (.iconst 2, 1) := by decide +kernel
theorem dX5_clearTold_36 : decode cX5_clearTold 36 = .ok (.iconst 3, 1) := by decide +kernel
theorem dX5_clearTold_37 : decode cX5_clearTold 37 = .ok (.iastore, 1) := by decide +kernel
theorem dX5_clearTold_38 : decode cX5_clearTold 38 = .ok (.aload_n 0, 1) := by decide +kernel
theorem dX5_clearTold_39 : decode cX5_clearTold 39 = .ok (.bipush 30, 2) := by decide +kernel
theorem dX5_clearTold_41 : decode cX5_clearTold 41 = .ok (.putfield 103, 3) := by decide +kernel
theorem dX5_clearTold_44 : decode cX5_clearTold 44 = .ok (.return_, 1) := by decide +kernel
theorem dX5_readLetters_0 : decode cX5_readLetters 0 = .ok (.iconst 0, 1) := by decide +kernel
theorem dX5_readLetters_1 : decode cX5_readLetters 1 = .ok (.istore 5, 2) := by decide +kernel
theorem dX5_readLetters_3 : decode cX5_readLetters 3 = .ok (.aload_n 0, 1) := by decide +kernel
theorem dX5_readLetters_4 : decode cX5_readLetters 4 = .ok (.aload_n 0, 1) := by decide +kernel
theorem dX5_readLetters_5 : decode cX5_readLetters 5 = .ok (.getfield 116, 3) := by decide +kernel
theorem dX5_readLetters_8 : decode cX5_readLetters 8 = .ok (.invokevirtual 119, 3) := by decide +kernel
theorem dX5_readLetters_11 : decode cX5_readLetters 11 = .ok (.bipush 97, 2) := by decide +kernel
theorem dX5_readLetters_13 : decode cX5_readLetters 13 = .ok (.bipush 101, 2) := by decide +kernel
theorem dX5_readLetters_15 : decode cX5_readLetters 15 = .ok (.invokestatic 109, 3) := by decide +kernel
theorem dX5_readLetters_18 : decode cX5_readLetters 18 = .ok (.ifCond .eq 42, 3) := by decide +kernel
theorem dX5_readLetters_21 : decode cX5_readLetters 21 = .ok (.iload 5, 2) := by decide +kernel
theorem dX5_readLetters_23 : decode cX5_readLetters 23 = .ok (.iload_n 3, 1) := by decide +kernel
theorem dX5_readLetters_24 : decode cX5_readLetters 24 = .ok (.if_icmp .ge 36, 3) := by decide +kernel
theorem dX5_readLetters_27 : decode cX5_readLetters 27 = .ok (.aload_n 1, 1) := by decide +kernel
theorem dX5_readLetters_28 : decode cX5_readLetters 28 = .ok (.iload_n 2, 1) := by decide +kernel
theorem dX5_readLetters_29 : decode cX5_readLetters 29 = .ok (.iload 5, 2) := by decide +kernel
theorem dX5_readLetters_31 : decode cX5_readLetters 31 = .ok (.iadd, 1) := by decide +kernel
theorem dX5_readLetters_32 : decode cX5_readLetters 32 = .ok (.aload_n 0, 1) := by decide +kernel
theorem dX5_readLetters_33 : decode cX5_readLetters 33 = .ok (.aload_n 0, 1) := by decide +kernel
theorem dX5_readLetters_34 : decode cX5_readLetters 34 = .ok (.getfield 116, 3) := by decide +kernel
theorem dX5_readLetters_37 : decode cX5_readLetters 37 = .ok (.invokevirtual 119, 3) := by decide +kernel
theorem dX5_readLetters_40 : decode cX5_readLetters 40 = .ok (.bipush 97, 2) := by decide +kernel
theorem dX5_readLetters_42 : decode cX5_readLetters 42 = .ok (.isub, 1) := by decide +kernel
theorem dX5_readLetters_43 : decode cX5_readLetters 43 = .ok (.iastore, 1) := by decide +kernel
theorem dX5_readLetters_44 : decode cX5_readLetters 44 = .ok (.iinc 5 1, 3) := by decide +kernel
theorem dX5_readLetters_47 : decode cX5_readLetters 47 = .ok (.aload_n 0, 1) := by decide +kernel
theorem dX5_readLetters_48 : decode cX5_readLetters 48 = .ok (.dup, 1) := by decide +kernel
theorem dX5_readLetters_49 : decode cX5_readLetters 49 = .ok (.getfield 116, 3) := by decide +kernel
theorem dX5_readLetters_52 : decode cX5_readLetters 52 = .ok (.iconst 1, 1) := by decide +kernel
theorem dX5_readLetters_53 : decode cX5_readLetters 53 = .ok (.iadd, 1) := by decide +kernel
theorem dX5_readLetters_54 : decode cX5_readLetters 54 = .ok (.putfield 116, 3) := by decide +kernel
theorem dX5_readLetters_57 : decode cX5_readLetters 57 = .ok (.goto (-54), 3) := by decide +kernel
theorem dX5_readLetters_60 : decode cX5_readLetters 60 = .ok (.iload 5, 2) := by decide +kernel
theorem dX5_readLetters_62 : decode cX5_readLetters 62 = .ok (.ifCond .le 20, 3) := by decide +kernel
theorem dX5_readLetters_65 : decode cX5_readLetters 65 = .ok (.aload_n 0, 1) := by decide +kernel
theorem dX5_readLetters_66 : decode cX5_readLetters 66 = .ok (.aload_n 0, 1) := by decide +kernel
theorem dX5_readLetters_67 : decode cX5_readLetters 67 = .ok (.getfield 116, 3) := by decide +kernel
theorem dX5_readLetters_70 : decode cX5_readLetters 70 = .ok (.invokevirtual 119, 3) := by decide +kernel
theorem dX5_readLetters_73 : decode cX5_readLetters 73 = .ok (.iload 4, 2) := by decide +kernel
theorem dX5_readLetters_75 : decode cX5_readLetters 75 = .ok (.if_icmp .ne 7, 3) := by decide +kernel
theorem dX5_readLetters_78 : decode cX5_readLetters 78 = .ok (.iconst 1, 1) := by decide +kernel
theorem dX5_readLetters_79 : decode cX5_readLetters 79 = .ok (.goto 4, 3) := by decide +kernel
theorem dX5_readLetters_82 : decode cX5_readLetters 82 = .ok (.iconst 0, 1) := by decide +kernel
theorem dX5_readLetters_83 : decode cX5_readLetters 83 = .ok (.istore 6, 2) := by decide +kernel
theorem dX5_readLetters_85 : decode cX5_readLetters 85 = .ok (.aload_n 0, 1) := by decide +kernel
theorem dX5_readLetters_86 : decode cX5_readLetters 86 = .ok (.dup, 1) := by decide +kernel
theorem dX5_readLetters_87 : decode cX5_readLetters 87 = .ok (.getfield 116, 3) := by decide +kernel
theorem dX5_readLetters_90 : decode cX5_readLetters 90 = .ok (.iconst 1, 1) := by decide +kernel
theorem dX5_readLetters_91 : decode cX5_readLetters 91 = .ok (.iadd, 1) := by decide +kernel
theorem dX5_readLetters_92 : decode cX5_readLetters 92 = .ok (.putfield 116, 3) := by decide +kernel
theorem dX5_readLetters_95 : decode cX5_readLetters 95 = .ok (.iload 6, 2) := by decide +kernel
theorem dX5_readLetters_97 : decode cX5_readLetters 97 = .ok (.ifCond .eq 8, 3) := by decide +kernel
theorem dX5_readLetters_100 : decode cX5_readLetters 100 = .ok (.iload 5, 2) := by decide +kernel
theorem dX5_readLetters_102 : decode cX5_readLetters 102 = .ok (.goto 4, 3) := by decide +kernel
theorem dX5_readLetters_105 : decode cX5_readLetters 105 = .ok (.iconst (-1), 1) := by decide +kernel
theorem dX5_readLetters_106 : decode cX5_readLetters 106 = .ok (.ireturn, 1) := by decide +kernel
theorem dX5_isNew_0 : decode cX5_isNew 0 = .ok (.iconst 1, 1) := by decide +kernel
theorem dX5_isNew_1 : decode cX5_isNew 1 = .ok (.istore_n 2, 1) := by decide +kernel
theorem dX5_isNew_2 : decode cX5_isNew 2 = .ok (.iconst 0, 1) := by decide +kernel
theorem dX5_isNew_3 : decode cX5_isNew 3 = .ok (.istore_n 3, 1) := by decide +kernel
theorem dX5_isNew_4 : decode cX5_isNew 4 = .ok (.iload_n 3, 1) := by decide +kernel
theorem dX5_isNew_5 : decode cX5_isNew 5 = .ok (.iload_n 1, 1) := by decide +kernel
theorem dX5_isNew_6 : decode cX5_isNew 6 = .ok (.if_icmp .ge 103, 3) := by decide +kernel
theorem dX5_isNew_9 : decode cX5_isNew 9 = .ok (.aload_n 0, 1) := by decide +kernel
theorem dX5_isNew_10 : decode cX5_isNew 10 = .ok (.getfield 46, 3) := by decide +kernel
theorem dX5_isNew_13 : decode cX5_isNew 13 = .ok (.iload_n 3, 1) := by decide +kernel
theorem dX5_isNew_14 : decode cX5_isNew 14 = .ok (.iaload, 1) := by decide +kernel
theorem dX5_isNew_15 : decode cX5_isNew 15 = .ok (.aload_n 0, 1) := by decide +kernel
theorem dX5_isNew_16 : decode cX5_isNew 16 = .ok (.getfield 46, 3) := by decide +kernel
theorem dX5_isNew_19 : decode cX5_isNew 19 = .ok (.iload_n 1, 1) := by decide +kernel
theorem dX5_isNew_20 : decode cX5_isNew 20 = .ok (.iaload, 1) := by decide +kernel
theorem dX5_isNew_21 : decode cX5_isNew 21 = .ok (.if_icmp .ne 7, 3) := by decide +kernel
theorem dX5_isNew_24 : decode cX5_isNew 24 = .ok (.iconst 1, 1) := by decide +kernel
theorem dX5_isNew_25 : decode cX5_isNew 25 = .ok (.goto 4, 3) := by decide +kernel
theorem dX5_isNew_28 : decode cX5_isNew 28 = .ok (.iconst 0, 1) := by decide +kernel
theorem dX5_isNew_29 : decode cX5_isNew 29 = .ok (.istore 4, 2) := by decide +kernel
theorem dX5_isNew_31 : decode cX5_isNew 31 = .ok (.iconst 0, 1) := by decide +kernel
theorem dX5_isNew_32 : decode cX5_isNew 32 = .ok (.istore 5, 2) := by decide +kernel
theorem dX5_isNew_34 : decode cX5_isNew 34 = .ok (.iload 5, 2) := by decide +kernel
theorem dX5_isNew_36 : decode cX5_isNew 36 = .ok (.aload_n 0, 1) := by decide +kernel
theorem dX5_isNew_37 : decode cX5_isNew 37 = .ok (.getfield 46, 3) := by decide +kernel
theorem dX5_isNew_40 : decode cX5_isNew 40 = .ok (.iload_n 1, 1) := by decide +kernel
theorem dX5_isNew_41 : decode cX5_isNew 41 = .ok (.iaload, 1) := by decide +kernel
theorem dX5_isNew_42 : decode cX5_isNew 42 = .ok (.if_icmp .ge 46, 3) := by decide +kernel
theorem dX5_isNew_45 : decode cX5_isNew 45 = .ok (.iload 4, 2) := by decide +kernel
theorem dX5_isNew_47 : decode cX5_isNew 47 = .ok (.ifCond .eq 32, 3) := by decide +kernel
theorem dX5_isNew_50 : decode cX5_isNew 50 = .ok (.aload_n 0, 1) := by decide +kernel
theorem dX5_isNew_51 : decode cX5_isNew 51 = .ok (.getfield 49, 3) := by decide +kernel
theorem dX5_isNew_54 : decode cX5_isNew 54 = .ok (.iconst 3, 1) := by decide +kernel
theorem dX5_isNew_55 : decode cX5_isNew 55 = .ok (.iload_n 3, 1) := by decide +kernel
theorem dX5_isNew_56 : decode cX5_isNew 56 = .ok (.imul, 1) := by decide +kernel
theorem dX5_isNew_57 : decode cX5_isNew 57 = .ok (.iload 5, 2) := by decide +kernel
theorem dX5_isNew_59 : decode cX5_isNew 59 = .ok (.iadd, 1) := by decide +kernel
theorem dX5_isNew_60 : decode cX5_isNew 60 = .ok (.iaload, 1) := by decide +kernel
theorem dX5_isNew_61 : decode cX5_isNew 61 = .ok (.aload_n 0, 1) := by decide +kernel
theorem dX5_isNew_62 : decode cX5_isNew 62 = .ok (.getfield 49, 3) := by decide +kernel
theorem dX5_isNew_65 : decode cX5_isNew 65 = .ok (.iconst 3, 1) := by decide +kernel
theorem dX5_isNew_66 : decode cX5_isNew 66 = .ok (.iload_n 1, 1) := by decide +kernel
theorem dX5_isNew_67 : decode cX5_isNew 67 = .ok (.imul, 1) := by decide +kernel
theorem dX5_isNew_68 : decode cX5_isNew 68 = .ok (.iload 5, 2) := by decide +kernel
theorem dX5_isNew_70 : decode cX5_isNew 70 = .ok (.iadd, 1) := by decide +kernel
theorem dX5_isNew_71 : decode cX5_isNew 71 = .ok (.iaload, 1) := by decide +kernel
theorem dX5_isNew_72 : decode cX5_isNew 72 = .ok (.if_icmp .ne 7, 3) := by decide +kernel
theorem dX5_isNew_75 : decode cX5_isNew 75 = .ok (.iconst 1, 1) := by decide +kernel
theorem dX5_isNew_76 : decode cX5_isNew 76 = .ok (.goto 4, 3) := by decide +kernel
theorem dX5_isNew_79 : decode cX5_isNew 79 = .ok (.iconst 0, 1) := by decide +kernel
theorem dX5_isNew_80 : decode cX5_isNew 80 = .ok (.istore 4, 2) := by decide +kernel
theorem dX5_isNew_82 : decode cX5_isNew 82 = .ok (.iinc 5 1, 3) := by decide +kernel
theorem dX5_isNew_85 : decode cX5_isNew 85 = .ok (.goto (-51), 3) := by decide +kernel
theorem dX5_isNew_88 : decode cX5_isNew 88 = .ok (.iload_n 2, 1) := by decide +kernel
theorem dX5_isNew_89 : decode cX5_isNew 89 = .ok (.ifCond .eq 12, 3) := by decide +kernel
theorem dX5_isNew_92 : decode cX5_isNew 92 = .ok (.iload 4, 2) := by decide +kernel
theorem dX5_isNew_94 : decode cX5_isNew 94 = .ok (.ifCond .ne 7, 3) := by decide +kernel
theorem dX5_isNew_97 : decode cX5_isNew 97 = .ok (.iconst 1, 1) := by decide +kernel
theorem dX5_isNew_98 : decode cX5_isNew 98 = .ok (.goto 4, 3) := by decide +kernel
theorem dX5_isNew_101 : decode cX5_isNew 101 = .ok (.iconst 0, 1) := by decide +kernel
theorem dX5_isNew_102 : decode cX5_isNew 102 = .ok (.istore_n 2, 1) := by decide +kernel
theorem dX5_isNew_103 : decode cX5_isNew 103 = .ok (.iinc 3 1, 3) := by decide +kernel
theorem dX5_isNew_106 : decode cX5_isNew 106 = .ok (.goto (-102), 3) := by decide +kernel
theorem dX5_isNew_109 : decode cX5_isNew 109 = .ok (.iload_n 2, 1) := by decide +kernel
theorem dX5_isNew_110 : decode cX5_isNew 110 = .ok (.ireturn, 1) := by decide +kernel
theorem dX5_readRootOf_0 : decode cX5_readRootOf 0 = .ok (.aload_n 0, 1) := by decide +kernel
theorem dX5_readRootOf_1 : decode cX5_readRootOf 1 = .ok (.getfield 85, 3) := by decide +kernel
theorem dX5_readRootOf_4 : decode cX5_readRootOf 4 = .ok (.bipush 8, 2) := by decide +kernel
theorem dX5_readRootOf_6 : decode cX5_readRootOf 6 = .ok (.if_icmp .ne 5, 3) := by decide +kernel
theorem dX5_readRootOf_9 : decode cX5_readRootOf 9 = .ok (.iconst 0, 1) := by decide +kernel
theorem dX5_readRootOf_10 : decode cX5_readRootOf 10 = .ok (.ireturn, 1) := by decide +kernel
theorem dX5_readRootOf_11 : decode cX5_readRootOf 11 = .ok (.aload_n 0, 1) := by decide +kernel
theorem dX5_readRootOf_12 : decode cX5_readRootOf 12 = .ok (.aload_n 0, 1) := by decide +kernel
theorem dX5_readRootOf_13 : decode cX5_readRootOf 13 = .ok (.getfield 49, 3) := by decide +kernel
theorem dX5_readRootOf_16 : decode cX5_readRootOf 16 = .ok (.iconst 3, 1) := by decide +kernel
theorem dX5_readRootOf_17 : decode cX5_readRootOf 17 = .ok (.aload_n 0, 1) := by decide +kernel
theorem dX5_readRootOf_18 : decode cX5_readRootOf 18 = .ok (.getfield 85, 3) := by decide +kernel
theorem dX5_readRootOf_21 : decode cX5_readRootOf 21 = .ok (.imul, 1) := by decide +kernel
theorem dX5_readRootOf_22 : decode cX5_readRootOf 22 = .ok (.iconst 3, 1) := by decide +kernel
theorem dX5_readRootOf_23 : decode cX5_readRootOf 23 = .ok (.bipush 44, 2) := by decide +kernel
theorem dX5_readRootOf_25 : decode cX5_readRootOf 25 = .ok (.invokevirtual 127, 3) := by decide +kernel
theorem dX5_readRootOf_28 : decode cX5_readRootOf 28 = .ok (.istore_n 1, 1) := by decide +kernel
theorem dX5_readRootOf_29 : decode cX5_readRootOf 29 = .ok (.iload_n 1, 1) := by decide +kernel
theorem dX5_readRootOf_30 : decode cX5_readRootOf 30 = .ok (.ifCond .ge 5, 3) := by decide +kernel
theorem dX5_readRootOf_33 : decode cX5_readRootOf 33 = .ok (.iconst 0, 1) := by decide +kernel
theorem dX5_readRootOf_34 : decode cX5_readRootOf 34 = .ok (.ireturn, 1) := by decide +kernel
theorem dX5_readRootOf_35 : decode cX5_readRootOf 35 = .ok (.aload_n 0, 1) := by decide +kernel
theorem dX5_readRootOf_36 : decode cX5_readRootOf 36 = .ok (.getfield 46, 3) := by decide +kernel
theorem dX5_readRootOf_39 : decode cX5_readRootOf 39 = .ok (.aload_n 0, 1) := by decide +kernel
theorem dX5_readRootOf_40 : decode cX5_readRootOf 40 = .ok (.getfield 85, 3) := by decide +kernel
theorem dX5_readRootOf_43 : decode cX5_readRootOf 43 = .ok (.iload_n 1, 1) := by decide +kernel
theorem dX5_readRootOf_44 : decode cX5_readRootOf 44 = .ok (.iastore, 1) := by decide +kernel
theorem dX5_readRootOf_45 : decode cX5_readRootOf 45 = .ok (.aload_n 0, 1) := by decide +kernel
theorem dX5_readRootOf_46 : decode cX5_readRootOf 46 = .ok (.aload_n 0, 1) := by decide +kernel
theorem dX5_readRootOf_47 : decode cX5_readRootOf 47 = .ok (.getfield 85, 3) := by decide +kernel
theorem dX5_readRootOf_50 : decode cX5_readRootOf 50 = .ok (.invokevirtual 131, 3) := by decide +kernel
theorem dX5_readRootOf_53 : decode cX5_readRootOf 53 = .ok (.ifCond .eq 48, 3) := by decide +kernel
theorem dX5_readRootOf_56 : decode cX5_readRootOf 56 = .ok (.aload_n 0, 1) := by decide +kernel
theorem dX5_readRootOf_57 : decode cX5_readRootOf 57 = .ok (.iconst 2, 1) := by decide +kernel
theorem dX5_readRootOf_58 : decode cX5_readRootOf 58 = .ok (.invokevirtual 134, 3) := by decide +kernel
theorem dX5_readRootOf_61 : decode cX5_readRootOf 61 = .ok (.ifCond .eq 40, 3) := by decide +kernel
theorem dX5_readRootOf_64 : decode cX5_readRootOf 64 = .ok (.aload_n 0, 1) := by decide +kernel
theorem dX5_readRootOf_65 : decode cX5_readRootOf 65 = .ok (.iconst 0, 1) := by decide +kernel
theorem dX5_readRootOf_66 : decode cX5_readRootOf 66 = .ok (.iconst 0, 1) := by decide +kernel
theorem dX5_readRootOf_67 : decode cX5_readRootOf 67 = .ok (.bipush 60, 2) := by decide +kernel
theorem dX5_readRootOf_69 : decode cX5_readRootOf 69 = .ok (.invokevirtual 137, 3) := by decide +kernel
theorem dX5_readRootOf_72 : decode cX5_readRootOf 72 = .ok (.ifCond .eq 29, 3) := by decide +kernel
theorem dX5_readRootOf_75 : decode cX5_readRootOf 75 = .ok (.aload_n 0, 1) := by decide +kernel
theorem dX5_readRootOf_76 : decode cX5_readRootOf 76 = .ok (.iconst 1, 1) := by decide +kernel
theorem dX5_readRootOf_77 : decode cX5_readRootOf 77 = .ok (.iconst 0, 1) := by decide +kernel
theorem dX5_readRootOf_78 : decode cX5_readRootOf 78 = .ok (.iconst 3, 1) := by decide +kernel
theorem dX5_readRootOf_79 : decode cX5_readRootOf 79 = .ok (.invokevirtual 137, 3) := by decide +kernel
theorem dX5_readRootOf_82 : decode cX5_readRootOf 82 = .ok (.ifCond .eq 19, 3) := by decide +kernel
theorem dX5_readRootOf_85 : decode cX5_readRootOf 85 = .ok (.aload_n 0, 1) := by decide +kernel
theorem dX5_readRootOf_86 : decode cX5_readRootOf 86 = .ok (.getfield 43, 3) := by decide +kernel
theorem dX5_readRootOf_89 : decode cX5_readRootOf 89 = .ok (.iconst 0, 1) := by decide +kernel
theorem dX5_readRootOf_90 : decode cX5_readRootOf 90 = .ok (.iaload, 1) := by decide +kernel
theorem dX5_readRootOf_91 : decode cX5_readRootOf 91 = .ok (.aload_n 0, 1) := by decide +kernel
theorem dX5_readRootOf_92 : decode cX5_readRootOf 92 = .ok (.getfield 43, 3) := by decide +kernel
theorem dX5_readRootOf_95 : decode cX5_readRootOf 95 = .ok (.iconst 1, 1) := by decide +kernel
theorem dX5_readRootOf_96 : decode cX5_readRootOf 96 = .ok (.iaload, 1) := by decide +kernel
theorem dX5_readRootOf_97 : decode cX5_readRootOf 97 = .ok (.iadd, 1) := by decide +kernel
theorem dX5_readRootOf_98 : decode cX5_readRootOf 98 = .ok (.ifCond .ne 5, 3) := by decide +kernel
theorem dX5_readRootOf_101 : decode cX5_readRootOf 101 = .ok (.iconst 0, 1) := by decide +kernel
theorem dX5_readRootOf_102 : decode cX5_readRootOf 102 = .ok (.ireturn, 1) := by decide +kernel
theorem dX5_readRootOf_103 : decode cX5_readRootOf 103 = .ok (.aload_n 0, 1) := by decide +kernel
theorem dX5_readRootOf_104 : decode cX5_readRootOf 104 = .ok (.getfield 52, 3) := by decide +kernel
theorem dX5_readRootOf_107 : decode cX5_readRootOf 107 = .ok (.aload_n 0, 1) := by decide +kernel
theorem dX5_readRootOf_108 : decode cX5_readRootOf 108 = .ok (.getfield 85, 3) := by decide +kernel
theorem dX5_readRootOf_111 : decode cX5_readRootOf 111 = .ok (.aload_n 0, 1) := by decide +kernel
theorem dX5_readRootOf_112 : decode cX5_readRootOf 112 = .ok (.getfield 43, 3) := by decide +kernel
theorem dX5_readRootOf_115 : decode cX5_readRootOf 115 = .ok (.iconst 0, 1) := by decide +kernel
theorem dX5_readRootOf_116 : decode cX5_readRootOf 116 = .ok (.iaload, 1) := by decide +kernel
theorem dX5_readRootOf_117 : decode cX5_readRootOf 117 = .ok (.iastore, 1) := by decide +kernel
theorem dX5_readRootOf_118 : decode cX5_readRootOf 118 = .ok (.aload_n 0, 1) := by decide +kernel
theorem dX5_readRootOf_119 : decode cX5_readRootOf 119 = .ok (.getfield 55, 3) := by decide +kernel
theorem dX5_readRootOf_122 : decode cX5_readRootOf 122 = .ok (.aload_n 0, 1) := by decide +kernel
theorem dX5_readRootOf_123 : decode cX5_readRootOf 123 = .ok (.getfield 85, 3) := by decide +kernel
theorem dX5_readRootOf_126 : decode cX5_readRootOf 126 = .ok (.aload_n 0, 1) := by decide +kernel
theorem dX5_readRootOf_127 : decode cX5_readRootOf 127 = .ok (.getfield 43, 3) := by decide +kernel
theorem dX5_readRootOf_130 : decode cX5_readRootOf 130 = .ok (.iconst 1, 1) := by decide +kernel
theorem dX5_readRootOf_131 : decode cX5_readRootOf 131 = .ok (.iaload, 1) := by decide +kernel
theorem dX5_readRootOf_132 : decode cX5_readRootOf 132 = .ok (.iastore, 1) := by decide +kernel
theorem dX5_readRootOf_133 : decode cX5_readRootOf 133 = .ok (.aload_n 0, 1) := by decide +kernel
theorem dX5_readRootOf_134 : decode cX5_readRootOf 134 = .ok (.dup, 1) := by decide +kernel
theorem dX5_readRootOf_135 : decode cX5_readRootOf 135 = .ok (.getfield 85, 3) := by decide +kernel
theorem dX5_readRootOf_138 : decode cX5_readRootOf 138 = .ok (.iconst 1, 1) := by decide +kernel
theorem dX5_readRootOf_139 : decode cX5_readRootOf 139 = .ok (.iadd, 1) := by decide +kernel
theorem dX5_readRootOf_140 : decode cX5_readRootOf 140 = .ok (.putfield 85, 3) := by decide +kernel
theorem dX5_readRootOf_143 : decode cX5_readRootOf 143 = .ok (.iconst 1, 1) := by decide +kernel
theorem dX5_readRootOf_144 : decode cX5_readRootOf 144 = .ok (.ireturn, 1) := by decide +kernel
theorem dX5_readReaderOf_0 : decode cX5_readReaderOf 0 = .ok (.aload_n 0, 1) := by decide +kernel
theorem dX5_readReaderOf_1 : decode cX5_readReaderOf 1 = .ok (.getfield 89, 3) := by decide +kernel
theorem dX5_readReaderOf_4 : decode cX5_readReaderOf 4 = .ok (.iconst 5, 1) := by decide +kernel
theorem dX5_readReaderOf_5 : decode cX5_readReaderOf 5 = .ok (.if_icmp .eq 43, 3) := by decide +kernel
theorem dX5_readReaderOf_8 : decode cX5_readReaderOf 8 = .ok (.aload_n 0, 1) := by decide +kernel
theorem dX5_readReaderOf_9 : decode cX5_readReaderOf 9 = .ok (.iconst 3, 1) := by decide +kernel
theorem dX5_readReaderOf_10 : decode cX5_readReaderOf 10 = .ok (.invokevirtual 134, 3) := by decide +kernel
theorem dX5_readReaderOf_13 : decode cX5_readReaderOf 13 = .ok (.ifCond .eq 35, 3) := by decide +kernel
theorem dX5_readReaderOf_16 : decode cX5_readReaderOf 16 = .ok (.aload_n 0, 1) := by decide +kernel
theorem dX5_readReaderOf_17 : decode cX5_readReaderOf 17 = .ok (.iconst 0, 1) := by decide +kernel
theorem dX5_readReaderOf_18 : decode cX5_readReaderOf 18 = .ok (.iconst 0, 1) := by decide +kernel
theorem dX5_readReaderOf_19 : decode cX5_readReaderOf 19 = .ok (.iconst 4, 1) := by decide +kernel
theorem dX5_readReaderOf_20 : decode cX5_readReaderOf 20 = .ok (.invokevirtual 137, 3) := by decide +kernel
theorem dX5_readReaderOf_23 : decode cX5_readReaderOf 23 = .ok (.ifCond .eq 25, 3) := by decide +kernel
theorem dX5_readReaderOf_26 : decode cX5_readReaderOf 26 = .ok (.aload_n 0, 1) := by decide +kernel
theorem dX5_readReaderOf_27 : decode cX5_readReaderOf 27 = .ok (.iconst 1, 1) := by decide +kernel
theorem dX5_readReaderOf_28 : decode cX5_readReaderOf 28 = .ok (.iconst 1, 1) := by decide +kernel
theorem dX5_readReaderOf_29 : decode cX5_readReaderOf 29 = .ok (.bipush 12, 2) := by decide +kernel
theorem dX5_readReaderOf_31 : decode cX5_readReaderOf 31 = .ok (.invokevirtual 137, 3) := by decide +kernel
theorem dX5_readReaderOf_34 : decode cX5_readReaderOf 34 = .ok (.ifCond .eq 14, 3) := by decide +kernel
theorem dX5_readReaderOf_37 : decode cX5_readReaderOf 37 = .ok (.aload_n 0, 1) := by decide +kernel
theorem dX5_readReaderOf_38 : decode cX5_readReaderOf 38 = .ok (.iconst 2, 1) := by decide +kernel
theorem dX5_readReaderOf_39 : decode cX5_readReaderOf 39 = .ok (.iconst 0, 1) := by decide +kernel
theorem dX5_readReaderOf_40 : decode cX5_readReaderOf 40 = .ok (.bipush 60, 2) := by decide +kernel
theorem dX5_readReaderOf_42 : decode cX5_readReaderOf 42 = .ok (.invokevirtual 137, 3) := by decide +kernel
theorem dX5_readReaderOf_45 : decode cX5_readReaderOf 45 = .ok (.ifCond .ne 5, 3) := by decide +kernel
theorem dX5_readReaderOf_48 : decode cX5_readReaderOf 48 = .ok (.iconst 0, 1) := by decide +kernel
theorem dX5_readReaderOf_49 : decode cX5_readReaderOf 49 = .ok (.ireturn, 1) := by decide +kernel
theorem dX5_readReaderOf_50 : decode cX5_readReaderOf 50 = .ok (.aload_n 0, 1) := by decide +kernel
theorem dX5_readReaderOf_51 : decode cX5_readReaderOf 51 = .ok (.aload_n 0, 1) := by decide +kernel
theorem dX5_readReaderOf_52 : decode cX5_readReaderOf 52 = .ok (.getfield 43, 3) := by decide +kernel
theorem dX5_readReaderOf_55 : decode cX5_readReaderOf 55 = .ok (.iconst 0, 1) := by decide +kernel
theorem dX5_readReaderOf_56 : decode cX5_readReaderOf 56 = .ok (.iaload, 1) := by decide +kernel
theorem dX5_readReaderOf_57 : decode cX5_readReaderOf 57 = .ok (.aload_n 0, 1) := by decide +kernel
theorem dX5_readReaderOf_58 : decode cX5_readReaderOf 58 = .ok (.getfield 43, 3) := by decide +kernel
theorem dX5_readReaderOf_61 : decode cX5_readReaderOf 61 = .ok (.iconst 1, 1) := by decide +kernel
theorem dX5_readReaderOf_62 : decode cX5_readReaderOf 62 = .ok (.iaload, 1) := by decide +kernel
theorem dX5_readReaderOf_63 : decode cX5_readReaderOf 63 = .ok (.aload_n 0, 1) := by decide +kernel
theorem dX5_readReaderOf_64 : decode cX5_readReaderOf 64 = .ok (.getfield 43, 3) := by decide +kernel
theorem dX5_readReaderOf_67 : decode cX5_readReaderOf 67 = .ok (.iconst 2, 1) := by decide +kernel
theorem dX5_readReaderOf_68 : decode cX5_readReaderOf 68 = .ok (.iaload, 1) := by decide +kernel
theorem dX5_readReaderOf_69 : decode cX5_readReaderOf 69 = .ok (.invokevirtual 96, 3) := by decide +kernel
theorem dX5_readReaderOf_72 : decode cX5_readReaderOf 72 = .ok (.iconst 1, 1) := by decide +kernel
theorem dX5_readReaderOf_73 : decode cX5_readReaderOf 73 = .ok (.ireturn, 1) := by decide +kernel
theorem dX5_readRiverOf_0 : decode cX5_readRiverOf 0 = .ok (.aload_n 0, 1) := by decide +kernel
theorem dX5_readRiverOf_1 : decode cX5_readRiverOf 1 = .ok (.iconst 3, 1) := by decide +kernel
theorem dX5_readRiverOf_2 : decode cX5_readRiverOf 2 = .ok (.invokevirtual 134, 3) := by decide +kernel
theorem dX5_readRiverOf_5 : decode cX5_readRiverOf 5 = .ok (.ifCond .eq 36, 3) := by decide +kernel
theorem dX5_readRiverOf_8 : decode cX5_readRiverOf 8 = .ok (.aload_n 0, 1) := by decide +kernel
theorem dX5_readRiverOf_9 : decode cX5_readRiverOf 9 = .ok (.iconst 0, 1) := by decide +kernel
theorem dX5_readRiverOf_10 : decode cX5_readRiverOf 10 = .ok (.iconst 3, 1) := by decide +kernel
theorem dX5_readRiverOf_11 : decode cX5_readRiverOf 11 = .ok (.bipush 60, 2) := by decide +kernel
theorem dX5_readRiverOf_13 : decode cX5_readRiverOf 13 = .ok (.invokevirtual 137, 3) := by decide +kernel
theorem dX5_readRiverOf_16 : decode cX5_readRiverOf 16 = .ok (.ifCond .eq 25, 3) := by decide +kernel
theorem dX5_readRiverOf_19 : decode cX5_readRiverOf 19 = .ok (.aload_n 0, 1) := by decide +kernel
theorem dX5_readRiverOf_20 : decode cX5_readRiverOf 20 = .ok (.iconst 1, 1) := by decide +kernel
theorem dX5_readRiverOf_21 : decode cX5_readRiverOf 21 = .ok (.iconst 0, 1) := by decide +kernel
theorem dX5_readRiverOf_22 : decode cX5_readRiverOf 22 = .ok (.bipush 24, 2) := by decide +kernel
theorem dX5_readRiverOf_24 : decode cX5_readRiverOf 24 = .ok (.invokevirtual 137, 3) := by decide +kernel
theorem dX5_readRiverOf_27 : decode cX5_readRiverOf 27 = .ok (.ifCond .eq 14, 3) := by decide +kernel
theorem dX5_readRiverOf_30 : decode cX5_readRiverOf 30 = .ok (.aload_n 0, 1) := by decide +kernel
theorem dX5_readRiverOf_31 : decode cX5_readRiverOf 31 = .ok (.iconst 2, 1) := by decide +kernel
theorem dX5_readRiverOf_32 : decode cX5_readRiverOf 32 = .ok (.iconst 1, 1) := by decide +kernel
theorem dX5_readRiverOf_33 : decode cX5_readRiverOf 33 = .ok (.bipush 20, 2) := by decide +kernel
theorem dX5_readRiverOf_35 : decode cX5_readRiverOf 35 = .ok (.invokevirtual 137, 3) := by decide +kernel
theorem dX5_readRiverOf_38 : decode cX5_readRiverOf 38 = .ok (.ifCond .ne 5, 3) := by decide +kernel
theorem dX5_readRiverOf_41 : decode cX5_readRiverOf 41 = .ok (.iconst 0, 1) := by decide +kernel
theorem dX5_readRiverOf_42 : decode cX5_readRiverOf 42 = .ok (.ireturn, 1) := by decide +kernel
theorem dX5_readRiverOf_43 : decode cX5_readRiverOf 43 = .ok (.iconst 0, 1) := by decide +kernel
theorem dX5_readRiverOf_44 : decode cX5_readRiverOf 44 = .ok (.istore_n 1, 1) := by decide +kernel
theorem dX5_readRiverOf_45 : decode cX5_readRiverOf 45 = .ok (.iload_n 1, 1) := by decide +kernel
theorem dX5_readRiverOf_46 : decode cX5_readRiverOf 46 = .ok (.iconst 3, 1) := by decide +kernel
theorem dX5_readRiverOf_47 : decode cX5_readRiverOf 47 = .ok (.if_icmp .ge 21, 3) := by decide +kernel
theorem dX5_readRiverOf_50 : decode cX5_readRiverOf 50 = .ok (.aload_n 0, 1) := by decide +kernel
theorem dX5_readRiverOf_51 : decode cX5_readRiverOf 51 = .ok (.getfield 64, 3) := by decide +kernel
theorem dX5_readRiverOf_54 : decode cX5_readRiverOf 54 = .ok (.iload_n 1, 1) := by decide +kernel
theorem dX5_readRiverOf_55 : decode cX5_readRiverOf 55 = .ok (.aload_n 0, 1) := by decide +kernel
theorem dX5_readRiverOf_56 : decode cX5_readRiverOf 56 = .ok (.getfield 43, 3) := by decide +kernel
theorem dX5_readRiverOf_59 : decode cX5_readRiverOf 59 = .ok (.iload_n 1, 1) := by decide +kernel
theorem dX5_readRiverOf_60 : decode cX5_readRiverOf 60 = .ok (.iaload, 1) := by decide +kernel
theorem dX5_readRiverOf_61 : decode cX5_readRiverOf 61 = .ok (.iastore, 1) := by decide +kernel
theorem dX5_readRiverOf_62 : decode cX5_readRiverOf 62 = .ok (.iinc 1 1, 3) := by decide +kernel
theorem dX5_readRiverOf_65 : decode cX5_readRiverOf 65 = .ok (.goto (-20), 3) := by decide +kernel
theorem dX5_readRiverOf_68 : decode cX5_readRiverOf 68 = .ok (.iconst 1, 1) := by decide +kernel
theorem dX5_readRiverOf_69 : decode cX5_readRiverOf 69 = .ok (.ireturn, 1) := by decide +kernel
theorem dX5_readItem_0 : decode cX5_readItem 0 = .ok (.aload_n 0, 1) := by decide +kernel
theorem dX5_readItem_1 : decode cX5_readItem 1 = .ok (.aload_n 0, 1) := by decide +kernel
theorem dX5_readItem_2 : decode cX5_readItem 2 = .ok (.getfield 116, 3) := by decide +kernel
theorem dX5_readItem_5 : decode cX5_readItem 5 = .ok (.invokevirtual 119, 3) := by decide +kernel
theorem dX5_readItem_8 : decode cX5_readItem 8 = .ok (.istore_n 1, 1) := by decide +kernel
theorem dX5_readItem_9 : decode cX5_readItem 9 = .ok (.aload_n 0, 1) := by decide +kernel
theorem dX5_readItem_10 : decode cX5_readItem 10 = .ok (.dup, 1) := by decide +kernel
theorem dX5_readItem_11 : decode cX5_readItem 11 = .ok (.getfield 116, 3) := by decide +kernel
theorem dX5_readItem_14 : decode cX5_readItem 14 = .ok (.iconst 1, 1) := by decide +kernel
theorem dX5_readItem_15 : decode cX5_readItem 15 = .ok (.iadd, 1) := by decide +kernel
theorem dX5_readItem_16 : decode cX5_readItem 16 = .ok (.putfield 116, 3) := by decide +kernel
theorem dX5_readItem_19 : decode cX5_readItem 19 = .ok (.iload_n 1, 1) := by decide +kernel
theorem dX5_readItem_20 : decode cX5_readItem 20 = .ok (.lookupswitch 126 #[(103, 97), (107, 57), (114, 52), (118, 92), (119, 62)], 52) := by decide +kernel
theorem dX5_readItem_72 : decode cX5_readItem 72 = .ok (.aload_n 0, 1) := by decide +kernel
theorem dX5_readItem_73 : decode cX5_readItem 73 = .ok (.invokevirtual 140, 3) := by decide +kernel
theorem dX5_readItem_76 : decode cX5_readItem 76 = .ok (.ireturn, 1) := by decide +kernel
theorem dX5_readItem_77 : decode cX5_readItem 77 = .ok (.aload_n 0, 1) := by decide +kernel
theorem dX5_readItem_78 : decode cX5_readItem 78 = .ok (.invokevirtual 144, 3) := by decide +kernel
theorem dX5_readItem_81 : decode cX5_readItem 81 = .ok (.ireturn, 1) := by decide +kernel
theorem dX5_readItem_82 : decode cX5_readItem 82 = .ok (.aload_n 0, 1) := by decide +kernel
theorem dX5_readItem_83 : decode cX5_readItem 83 = .ok (.aload_n 0, 1) := by decide +kernel
theorem dX5_readItem_84 : decode cX5_readItem 84 = .ok (.aload_n 0, 1) := by decide +kernel
theorem dX5_readItem_85 : decode cX5_readItem 85 = .ok (.getfield 61, 3) := by decide +kernel
theorem dX5_readItem_88 : decode cX5_readItem 88 = .ok (.iconst 0, 1) := by decide +kernel
theorem dX5_readItem_89 : decode cX5_readItem 89 = .ok (.bipush 9, 2) := by decide +kernel
theorem dX5_readItem_91 : decode cX5_readItem 91 = .ok (.bipush 59, 2) := by decide +kernel
theorem dX5_readItem_93 : decode cX5_readItem 93 = .ok (.invokevirtual 127, 3) := by decide +kernel
theorem dX5_readItem_96 : decode cX5_readItem 96 = .ok (.putfield 100, 3) := by decide +kernel
theorem dX5_readItem_99 : decode cX5_readItem 99 = .ok (.aload_n 0, 1) := by decide +kernel
theorem dX5_readItem_100 : decode cX5_readItem 100 = .ok (.getfield 100, 3) := by decide +kernel
theorem dX5_readItem_103 : decode cX5_readItem 103 = .ok (.ifCond .le 7, 3) := by decide +kernel
theorem dX5_readItem_106 : decode cX5_readItem 106 = .ok (.iconst 1, 1) := by decide +kernel
theorem dX5_readItem_107 : decode cX5_readItem 107 = .ok (.goto 4, 3) := by decide +kernel
theorem dX5_readItem_110 : decode cX5_readItem 110 = .ok (.iconst 0, 1) := by decide +kernel
theorem dX5_readItem_111 : decode cX5_readItem 111 = .ok (.ireturn, 1) := by decide +kernel
theorem dX5_readItem_112 : decode cX5_readItem 112 = .ok (.aload_n 0, 1) := by decide +kernel
theorem dX5_readItem_113 : decode cX5_readItem 113 = .ok (.invokevirtual 147, 3) := by decide +kernel
theorem dX5_readItem_116 : decode cX5_readItem 116 = .ok (.ireturn, 1) := by decide +kernel
theorem dX5_readItem_117 : decode cX5_readItem 117 = .ok (.aload_n 0, 1) := by decide +kernel
theorem dX5_readItem_118 : decode cX5_readItem 118 = .ok (.iconst 1, 1) := by decide +kernel
theorem dX5_readItem_119 : decode cX5_readItem 119 = .ok (.invokevirtual 134, 3) := by decide +kernel
theorem dX5_readItem_122 : decode cX5_readItem 122 = .ok (.istore_n 2, 1) := by decide +kernel
theorem dX5_readItem_123 : decode cX5_readItem 123 = .ok (.aload_n 0, 1) := by decide +kernel
theorem dX5_readItem_124 : decode cX5_readItem 124 = .ok (.iload_n 2, 1) := by decide +kernel
theorem dX5_readItem_125 : decode cX5_readItem 125 = .ok (.ifCond .eq 12, 3) := by decide +kernel
theorem dX5_readItem_128 : decode cX5_readItem 128 = .ok (.aload_n 0, 1) := by decide +kernel
theorem dX5_readItem_129 : decode cX5_readItem 129 = .ok (.getfield 43, 3) := by decide +kernel
theorem dX5_readItem_132 : decode cX5_readItem 132 = .ok (.iconst 0, 1) := by decide +kernel
theorem dX5_readItem_133 : decode cX5_readItem 133 = .ok (.iaload, 1) := by decide +kernel
theorem dX5_readItem_134 : decode cX5_readItem 134 = .ok (.goto 7, 3) := by decide +kernel
theorem dX5_readItem_137 : decode cX5_readItem 137 = .ok (.aload_n 0, 1) := by decide +kernel
theorem dX5_readItem_138 : decode cX5_readItem 138 = .ok (.getfield 103, 3) := by decide +kernel
theorem dX5_readItem_141 : decode cX5_readItem 141 = .ok (.putfield 103, 3) := by decide +kernel
theorem dX5_readItem_144 : decode cX5_readItem 144 = .ok (.iload_n 2, 1) := by decide +kernel
theorem dX5_readItem_145 : decode cX5_readItem 145 = .ok (.ireturn, 1) := by decide +kernel
theorem dX5_readItem_146 : decode cX5_readItem 146 = .ok (.iconst 0, 1) := by decide +kernel
theorem dX5_readItem_147 : decode cX5_readItem 147 = .ok (.ireturn, 1) := by decide +kernel
theorem dX5_fault_0 : decode cX5_fault 0 = .ok (.aload_n 0, 1) := by decide +kernel
theorem dX5_fault_1 : decode cX5_fault 1 = .ok (.iconst 0, 1) := by decide +kernel
theorem dX5_fault_2 : decode cX5_fault 2 = .ok (.putfield 116, 3) := by decide +kernel
theorem dX5_fault_5 : decode cX5_fault 5 = .ok (.aload_n 0, 1) := by decide +kernel
theorem dX5_fault_6 : decode cX5_fault 6 = .ok (.invokevirtual 76, 3) := by decide +kernel
theorem dX5_fault_9 : decode cX5_fault 9 = .ok (.aload_n 0, 1) := by decide +kernel
theorem dX5_fault_10 : decode cX5_fault 10 = .ok (.getfield 116, 3) := by decide +kernel
theorem dX5_fault_13 : decode cX5_fault 13 = .ok (.aload_n 0, 1) := by decide +kernel
theorem dX5_fault_14 : decode cX5_fault 14 = .ok (.getfield 113, 3) := by decide +kernel
theorem dX5_fault_17 : decode cX5_fault 17 = .ok (.if_icmp .ge 20, 3) := by decide +kernel
theorem dX5_fault_20 : decode cX5_fault 20 = .ok (.aload_n 0, 1) := by decide +kernel
theorem dX5_fault_21 : decode cX5_fault 21 = .ok (.getfield 116, 3) := by decide +kernel
theorem dX5_fault_24 : decode cX5_fault 24 = .ok (.istore_n 1, 1) := by decide +kernel
theorem dX5_fault_25 : decode cX5_fault 25 = .ok (.aload_n 0, 1) := by decide +kernel
theorem dX5_fault_26 : decode cX5_fault 26 = .ok (.invokevirtual 150, 3) := by decide +kernel
theorem dX5_fault_29 : decode cX5_fault 29 = .ok (.ifCond .ne 5, 3) := by decide +kernel
theorem dX5_fault_32 : decode cX5_fault 32 = .ok (.iload_n 1, 1) := by decide +kernel
theorem dX5_fault_33 : decode cX5_fault 33 = .ok (.ireturn, 1) := by decide +kernel
theorem dX5_fault_34 : decode cX5_fault 34 = .ok (.goto (-25), 3) := by decide +kernel
theorem dX5_fault_37 : decode cX5_fault 37 = .ok (.bipush (-4), 2) := by decide +kernel
theorem dX5_fault_39 : decode cX5_fault 39 = .ok (.ireturn, 1) := by decide +kernel
theorem dX5_lay_0 : decode cX5_lay 0 = .ok (.aload_n 0, 1) := by decide +kernel
theorem dX5_lay_1 : decode cX5_lay 1 = .ok (.invokevirtual 153, 3) := by decide +kernel
theorem dX5_lay_4 : decode cX5_lay 4 = .ok (.bipush (-4), 2) := by decide +kernel
theorem dX5_lay_6 : decode cX5_lay 6 = .ok (.if_icmp .ne 17, 3) := by decide +kernel
theorem dX5_lay_9 : decode cX5_lay 9 = .ok (.aload_n 0, 1) := by decide +kernel
theorem dX5_lay_10 : decode cX5_lay 10 = .ok (.getfield 85, 3) := by decide +kernel
theorem dX5_lay_13 : decode cX5_lay 13 = .ok (.ifCond .eq 10, 3) := by decide +kernel
theorem dX5_lay_16 : decode cX5_lay 16 = .ok (.aload_n 0, 1) := by decide +kernel
theorem dX5_lay_17 : decode cX5_lay 17 = .ok (.getfield 89, 3) := by decide +kernel
theorem dX5_lay_20 : decode cX5_lay 20 = .ok (.ifCond .ne 6, 3) := by decide +kernel
theorem dX5_lay_23 : decode cX5_lay 23 = .ok (.bipush (-2), 2) := by decide +kernel
theorem dX5_lay_25 : decode cX5_lay 25 = .ok (.ireturn, 1) := by decide +kernel
theorem dX5_lay_26 : decode cX5_lay 26 = .ok (.aload_n 0, 1) := by decide +kernel
theorem dX5_lay_27 : decode cX5_lay 27 = .ok (.invokevirtual 82, 3) := by decide +kernel
theorem dX5_lay_30 : decode cX5_lay 30 = .ok (.aload_n 0, 1) := by decide +kernel
theorem dX5_lay_31 : decode cX5_lay 31 = .ok (.getfield 157, 3) := by decide +kernel
theorem dX5_lay_34 : decode cX5_lay 34 = .ok (.ireturn, 1) := by decide +kernel
theorem dX5_copies_0 : decode cX5_copies 0 = .ok (.iconst 0, 1) := by decide +kernel
theorem dX5_copies_1 : decode cX5_copies 1 = .ok (.istore 5, 2) := by decide +kernel
theorem dX5_copies_3 : decode cX5_copies 3 = .ok (.iload 5, 2) := by decide +kernel
theorem dX5_copies_5 : decode cX5_copies 5 = .ok (.iload 4, 2) := by decide +kernel
theorem dX5_copies_7 : decode cX5_copies 7 = .ok (.if_icmp .ge 21, 3) := by decide +kernel
theorem dX5_copies_10 : decode cX5_copies 10 = .ok (.aload_n 0, 1) := by decide +kernel
theorem dX5_copies_11 : decode cX5_copies 11 = .ok (.iload_n 1, 1) := by decide +kernel
theorem dX5_copies_12 : decode cX5_copies 12 = .ok (.iload 5, 2) := by decide +kernel
theorem dX5_copies_14 : decode cX5_copies 14 = .ok (.iadd, 1) := by decide +kernel
theorem dX5_copies_15 : decode cX5_copies 15 = .ok (.aload_n 2, 1) := by decide +kernel
theorem dX5_copies_16 : decode cX5_copies 16 = .ok (.iload_n 3, 1) := by decide +kernel
theorem dX5_copies_17 : decode cX5_copies 17 = .ok (.iload 5, 2) := by decide +kernel
theorem dX5_copies_19 : decode cX5_copies 19 = .ok (.iadd, 1) := by decide +kernel
theorem dX5_copies_20 : decode cX5_copies 20 = .ok (.iaload, 1) := by decide +kernel
theorem dX5_copies_21 : decode cX5_copies 21 = .ok (.iastore, 1) := by decide +kernel
theorem dX5_copies_22 : decode cX5_copies 22 = .ok (.iinc 5 1, 3) := by decide +kernel
theorem dX5_copies_25 : decode cX5_copies 25 = .ok (.goto (-22), 3) := by decide +kernel
theorem dX5_copies_28 : decode cX5_copies 28 = .ok (.return_, 1) := by decide +kernel
theorem dX5_settles_0 : decode cX5_settles 0 = .ok (.aload_n 0, 1) := by decide +kernel
theorem dX5_settles_1 : decode cX5_settles 1 = .ok (.aload_n 0, 1) := by decide +kernel
theorem dX5_settles_2 : decode cX5_settles 2 = .ok (.getfield 85, 3) := by decide +kernel
theorem dX5_settles_5 : decode cX5_settles 5 = .ok (.putfield 157, 3) := by decide +kernel
theorem dX5_settles_8 : decode cX5_settles 8 = .ok (.aload_n 0, 1) := by decide +kernel
theorem dX5_settles_9 : decode cX5_settles 9 = .ok (.getfield 7, 3) := by decide +kernel
theorem dX5_settles_12 : decode cX5_settles 12 = .ok (.iconst 0, 1) := by decide +kernel
theorem dX5_settles_13 : decode cX5_settles 13 = .ok (.aload_n 0, 1) := by decide +kernel
theorem dX5_settles_14 : decode cX5_settles 14 = .ok (.getfield 46, 3) := by decide +kernel
theorem dX5_settles_17 : decode cX5_settles 17 = .ok (.iconst 0, 1) := by decide +kernel
theorem dX5_settles_18 : decode cX5_settles 18 = .ok (.bipush 8, 2) := by decide +kernel
theorem dX5_settles_20 : decode cX5_settles 20 = .ok (.invokestatic 160, 3) := by decide +kernel
theorem dX5_settles_23 : decode cX5_settles 23 = .ok (.aload_n 0, 1) := by decide +kernel
theorem dX5_settles_24 : decode cX5_settles 24 = .ok (.getfield 13, 3) := by decide +kernel
theorem dX5_settles_27 : decode cX5_settles 27 = .ok (.iconst 0, 1) := by decide +kernel
theorem dX5_settles_28 : decode cX5_settles 28 = .ok (.aload_n 0, 1) := by decide +kernel
theorem dX5_settles_29 : decode cX5_settles 29 = .ok (.getfield 49, 3) := by decide +kernel
theorem dX5_settles_32 : decode cX5_settles 32 = .ok (.iconst 0, 1) := by decide +kernel
theorem dX5_settles_33 : decode cX5_settles 33 = .ok (.bipush 24, 2) := by decide +kernel
theorem dX5_settles_35 : decode cX5_settles 35 = .ok (.invokestatic 160, 3) := by decide +kernel
theorem dX5_settles_38 : decode cX5_settles 38 = .ok (.aload_n 0, 1) := by decide +kernel
theorem dX5_settles_39 : decode cX5_settles 39 = .ok (.getfield 16, 3) := by decide +kernel
theorem dX5_settles_42 : decode cX5_settles 42 = .ok (.iconst 0, 1) := by decide +kernel
theorem dX5_settles_43 : decode cX5_settles 43 = .ok (.aload_n 0, 1) := by decide +kernel
theorem dX5_settles_44 : decode cX5_settles 44 = .ok (.getfield 52, 3) := by decide +kernel
theorem dX5_settles_47 : decode cX5_settles 47 = .ok (.iconst 0, 1) := by decide +kernel
theorem dX5_settles_48 : decode cX5_settles 48 = .ok (.bipush 8, 2) := by decide +kernel
theorem dX5_settles_50 : decode cX5_settles 50 = .ok (.invokestatic 160, 3) := by decide +kernel
theorem dX5_settles_53 : decode cX5_settles 53 = .ok (.aload_n 0, 1) := by decide +kernel
theorem dX5_settles_54 : decode cX5_settles 54 = .ok (.getfield 19, 3) := by decide +kernel
theorem dX5_settles_57 : decode cX5_settles 57 = .ok (.iconst 0, 1) := by decide +kernel
theorem dX5_settles_58 : decode cX5_settles 58 = .ok (.aload_n 0, 1) := by decide +kernel
theorem dX5_settles_59 : decode cX5_settles 59 = .ok (.getfield 55, 3) := by decide +kernel
theorem dX5_settles_62 : decode cX5_settles 62 = .ok (.iconst 0, 1) := by decide +kernel
theorem dX5_settles_63 : decode cX5_settles 63 = .ok (.bipush 8, 2) := by decide +kernel
theorem dX5_settles_65 : decode cX5_settles 65 = .ok (.invokestatic 160, 3) := by decide +kernel
theorem dX5_settles_68 : decode cX5_settles 68 = .ok (.aload_n 0, 1) := by decide +kernel
theorem dX5_settles_69 : decode cX5_settles 69 = .ok (.aload_n 0, 1) := by decide +kernel
theorem dX5_settles_70 : decode cX5_settles 70 = .ok (.getfield 89, 3) := by decide +kernel
theorem dX5_settles_73 : decode cX5_settles 73 = .ok (.putfield 106, 3) := by decide +kernel
theorem dX5_settles_76 : decode cX5_settles 76 = .ok (.aload_n 0, 1) := by decide +kernel
theorem dX5_settles_77 : decode cX5_settles 77 = .ok (.getfield 22, 3) := by decide +kernel
theorem dX5_settles_80 : decode cX5_settles 80 = .ok (.iconst 0, 1) := by decide +kernel
theorem dX5_settles_81 : decode cX5_settles 81 = .ok (.aload_n 0, 1) := by decide +kernel
theorem dX5_settles_82 : decode cX5_settles 82 = .ok (.getfield 58, 3) := by decide +kernel
theorem dX5_settles_85 : decode cX5_settles 85 = .ok (.iconst 0, 1) := by decide +kernel
theorem dX5_settles_86 : decode cX5_settles 86 = .ok (.bipush 15, 2) := by decide +kernel
theorem dX5_settles_88 : decode cX5_settles 88 = .ok (.invokestatic 160, 3) := by decide +kernel
theorem dX5_settles_91 : decode cX5_settles 91 = .ok (.aload_n 0, 1) := by decide +kernel
theorem dX5_settles_92 : decode cX5_settles 92 = .ok (.getfield 25, 3) := by decide +kernel
theorem dX5_settles_95 : decode cX5_settles 95 = .ok (.iconst 0, 1) := by decide +kernel
theorem dX5_settles_96 : decode cX5_settles 96 = .ok (.aload_n 0, 1) := by decide +kernel
theorem dX5_settles_97 : decode cX5_settles 97 = .ok (.getfield 64, 3) := by decide +kernel
theorem dX5_settles_100 : decode cX5_settles 100 = .ok (.iconst 0, 1) := by decide +kernel
theorem dX5_settles_101 : decode cX5_settles 101 = .ok (.iconst 3, 1) := by decide +kernel
theorem dX5_settles_102 : decode cX5_settles 102 = .ok (.invokestatic 160, 3) := by decide +kernel
theorem dX5_settles_105 : decode cX5_settles 105 = .ok (.iconst 0, 1) := by decide +kernel
theorem dX5_settles_106 : decode cX5_settles 106 = .ok (.istore_n 1, 1) := by decide +kernel
theorem dX5_settles_107 : decode cX5_settles 107 = .ok (.iload_n 1, 1) := by decide +kernel
theorem dX5_settles_108 : decode cX5_settles 108 = .ok (.bipush 14, 2) := by decide +kernel
theorem dX5_settles_110 : decode cX5_settles 110 = .ok (.if_icmp .ge 16, 3) := by decide +kernel
theorem dX5_settles_113 : decode cX5_settles 113 = .ok (.aload_n 0, 1) := by decide +kernel
theorem dX5_settles_114 : decode cX5_settles 114 = .ok (.getfield 28, 3) := by decide +kernel
theorem dX5_settles_117 : decode cX5_settles 117 = .ok (.iload_n 1, 1) := by decide +kernel
theorem dX5_settles_118 : decode cX5_settles 118 = .ok (.iconst 0, 1) := by decide +kernel
theorem dX5_settles_119 : decode cX5_settles 119 = .ok (.iastore, 1) := by decide +kernel
theorem dX5_settles_120 : decode cX5_settles 120 = .ok (.iinc 1 1, 3) := by decide +kernel
theorem dX5_settles_123 : decode cX5_settles 123 = .ok (.goto (-16), 3) := by decide +kernel
theorem dX5_settles_126 : decode cX5_settles 126 = .ok (.aload_n 0, 1) := by decide +kernel
theorem dX5_settles_127 : decode cX5_settles 127 = .ok (.getfield 28, 3) := by decide +kernel
theorem dX5_settles_130 : decode cX5_settles 130 = .ok (.iconst 1, 1) := by decide +kernel
theorem dX5_settles_131 : decode cX5_settles 131 = .ok (.aload_n 0, 1) := by decide +kernel
theorem dX5_settles_132 : decode cX5_settles 132 = .ok (.getfield 103, 3) := by decide +kernel
theorem dX5_settles_135 : decode cX5_settles 135 = .ok (.iastore, 1) := by decide +kernel
theorem dX5_settles_136 : decode cX5_settles 136 = .ok (.aload_n 0, 1) := by decide +kernel
theorem dX5_settles_137 : decode cX5_settles 137 = .ok (.getfield 28, 3) := by decide +kernel
theorem dX5_settles_140 : decode cX5_settles 140 = .ok (.iconst 4, 1) := by decide +kernel
theorem dX5_settles_141 : decode cX5_settles 141 = .ok (.aload_n 0, 1) := by decide +kernel
theorem dX5_settles_142 : decode cX5_settles 142 = .ok (.getfield 100, 3) := by decide +kernel
theorem dX5_settles_145 : decode cX5_settles 145 = .ok (.iastore, 1) := by decide +kernel
theorem dX5_settles_146 : decode cX5_settles 146 = .ok (.aload_n 0, 1) := by decide +kernel
theorem dX5_settles_147 : decode cX5_settles 147 = .ok (.getfield 28, 3) := by decide +kernel
theorem dX5_settles_150 : decode cX5_settles 150 = .ok (.iconst 5, 1) := by decide +kernel
theorem dX5_settles_151 : decode cX5_settles 151 = .ok (.aload_n 0, 1) := by decide +kernel
theorem dX5_settles_152 : decode cX5_settles 152 = .ok (.getfield 61, 3) := by decide +kernel
theorem dX5_settles_155 : decode cX5_settles 155 = .ok (.iconst 0, 1) := by decide +kernel
theorem dX5_settles_156 : decode cX5_settles 156 = .ok (.aload_n 0, 1) := by decide +kernel
theorem dX5_settles_157 : decode cX5_settles 157 = .ok (.getfield 100, 3) := by decide +kernel
theorem dX5_settles_160 : decode cX5_settles 160 = .ok (.invokestatic 160, 3) := by decide +kernel
theorem dX5_settles_163 : decode cX5_settles 163 = .ok (.aload_n 0, 1) := by decide +kernel
theorem dX5_settles_164 : decode cX5_settles 164 = .ok (.iconst 0, 1) := by decide +kernel
theorem dX5_settles_165 : decode cX5_settles 165 = .ok (.putfield 164, 3) := by decide +kernel
theorem dX5_settles_168 : decode cX5_settles 168 = .ok (.aload_n 0, 1) := by decide +kernel
theorem dX5_settles_169 : decode cX5_settles 169 = .ok (.iconst 0, 1) := by decide +kernel
theorem dX5_settles_170 : decode cX5_settles 170 = .ok (.putfield 167, 3) := by decide +kernel
theorem dX5_settles_173 : decode cX5_settles 173 = .ok (.aload_n 0, 1) := by decide +kernel
theorem dX5_settles_174 : decode cX5_settles 174 = .ok (.iconst 0, 1) := by decide +kernel
theorem dX5_settles_175 : decode cX5_settles 175 = .ok (.putfield 170, 3) := by decide +kernel
theorem dX5_settles_178 : decode cX5_settles 178 = .ok (.return_, 1) := by decide +kernel
theorem dX5_begins_0 : decode cX5_begins 0 = .ok (.aload_n 0, 1) := by decide +kernel
theorem dX5_begins_1 : decode cX5_begins 1 = .ok (.aload_n 0, 1) := by decide +kernel
theorem dX5_begins_2 : decode cX5_begins 2 = .ok (.getfield 22, 3) := by decide +kernel
theorem dX5_begins_5 : decode cX5_begins 5 = .ok (.iconst 3, 1) := by decide +kernel
theorem dX5_begins_6 : decode cX5_begins 6 = .ok (.iload_n 1, 1) := by decide +kernel
theorem dX5_begins_7 : decode cX5_begins 7 = .ok (.imul, 1) := by decide +kernel
theorem dX5_begins_8 : decode cX5_begins 8 = .ok (.iaload, 1) := by decide +kernel
theorem dX5_begins_9 : decode cX5_begins 9 = .ok (.putfield 173, 3) := by decide +kernel
theorem dX5_begins_12 : decode cX5_begins 12 = .ok (.aload_n 0, 1) := by decide +kernel
theorem dX5_begins_13 : decode cX5_begins 13 = .ok (.iload_n 2, 1) := by decide +kernel
theorem dX5_begins_14 : decode cX5_begins 14 = .ok (.putfield 176, 3) := by decide +kernel
theorem dX5_begins_17 : decode cX5_begins 17 = .ok (.aload_n 0, 1) := by decide +kernel
theorem dX5_begins_18 : decode cX5_begins 18 = .ok (.getfield 173, 3) := by decide +kernel
theorem dX5_begins_21 : decode cX5_begins 21 = .ok (.iconst 3, 1) := by decide +kernel
theorem dX5_begins_22 : decode cX5_begins 22 = .ok (.if_icmp .ne 63, 3) := by decide +kernel
theorem dX5_begins_25 : decode cX5_begins 25 = .ok (.iconst 0, 1) := by decide +kernel
theorem dX5_begins_26 : decode cX5_begins 26 = .ok (.istore_n 3, 1) := by decide +kernel
theorem dX5_begins_27 : decode cX5_begins 27 = .ok (.iload_n 3, 1) := by decide +kernel
theorem dX5_begins_28 : decode cX5_begins 28 = .ok (.aload_n 0, 1) := by decide +kernel
theorem dX5_begins_29 : decode cX5_begins 29 = .ok (.getfield 179, 3) := by decide +kernel
theorem dX5_begins_32 : decode cX5_begins 32 = .ok (.iconst 2, 1) := by decide +kernel
theorem dX5_begins_33 : decode cX5_begins 33 = .ok (.idiv, 1) := by decide +kernel
theorem dX5_begins_34 : decode cX5_begins 34 = .ok (.if_icmp .ge 51, 3) := by decide +kernel
theorem dX5_begins_37 : decode cX5_begins 37 = .ok (.aload_n 0, 1) := by decide +kernel
theorem dX5_begins_38 : decode cX5_begins 38 = .ok (.getfield 67, 3) := by decide +kernel
theorem dX5_begins_41 : decode cX5_begins 41 = .ok (.iload_n 3, 1) := by decide +kernel
theorem dX5_begins_42 : decode cX5_begins 42 = .ok (.iaload, 1) := by decide +kernel
theorem dX5_begins_43 : decode cX5_begins 43 = .ok (.istore 4, 2) := by decide +kernel
theorem dX5_begins_45 : decode cX5_begins 45 = .ok (.aload_n 0, 1) := by decide +kernel
theorem dX5_begins_46 : decode cX5_begins 46 = .ok (.getfield 67, 3) := by decide +kernel
theorem dX5_begins_49 : decode cX5_begins 49 = .ok (.iload_n 3, 1) := by decide +kernel
theorem dX5_begins_50 : decode cX5_begins 50 = .ok (.aload_n 0, 1) := by decide +kernel
theorem dX5_begins_51 : decode cX5_begins 51 = .ok (.getfield 67, 3) := by decide +kernel
theorem dX5_begins_54 : decode cX5_begins 54 = .ok (.aload_n 0, 1) := by decide +kernel
theorem dX5_begins_55 : decode cX5_begins 55 = .ok (.getfield 179, 3) := by decide +kernel
theorem dX5_begins_58 : decode cX5_begins 58 = .ok (.iconst 1, 1) := by decide +kernel
theorem dX5_begins_59 : decode cX5_begins 59 = .ok (.isub, 1) := by decide +kernel
theorem dX5_begins_60 : decode cX5_begins 60 = .ok (.iload_n 3, 1) := by decide +kernel
theorem dX5_begins_61 : decode cX5_begins 61 = .ok (.isub, 1) := by decide +kernel
theorem dX5_begins_62 : decode cX5_begins 62 = .ok (.iaload, 1) := by decide +kernel
theorem dX5_begins_63 : decode cX5_begins 63 = .ok (.iastore, 1) := by decide +kernel
theorem dX5_begins_64 : decode cX5_begins 64 = .ok (.aload_n 0, 1) := by decide +kernel
theorem dX5_begins_65 : decode cX5_begins 65 = .ok (.getfield 67, 3) := by decide +kernel
theorem dX5_begins_68 : decode cX5_begins 68 = .ok (.aload_n 0, 1) := by decide +kernel
theorem dX5_begins_69 : decode cX5_begins 69 = .ok (.getfield 179, 3) := by decide +kernel
theorem dX5_begins_72 : decode cX5_begins 72 = .ok (.iconst 1, 1) := by decide +kernel
theorem dX5_begins_73 : decode cX5_begins 73 = .ok (.isub, 1) := by decide +kernel
theorem dX5_begins_74 : decode cX5_begins 74 = .ok (.iload_n 3, 1) := by decide +kernel
theorem dX5_begins_75 : decode cX5_begins 75 = .ok (.isub, 1) := by decide +kernel
theorem dX5_begins_76 : decode cX5_begins 76 = .ok (.iload 4, 2) := by decide +kernel
theorem dX5_begins_78 : decode cX5_begins 78 = .ok (.iastore, 1) := by decide +kernel
theorem dX5_begins_79 : decode cX5_begins 79 = .ok (.iinc 3 1, 3) := by decide +kernel
theorem dX5_begins_82 : decode cX5_begins 82 = .ok (.goto (-55), 3) := by decide +kernel
theorem dX5_begins_85 : decode cX5_begins 85 = .ok (.aload_n 0, 1) := by decide +kernel
theorem dX5_begins_86 : decode cX5_begins 86 = .ok (.aload_n 0, 1) := by decide +kernel
theorem dX5_begins_87 : decode cX5_begins 87 = .ok (.getfield 179, 3) := by decide +kernel
theorem dX5_begins_90 : decode cX5_begins 90 = .ok (.ifCond .ne 7, 3) := by decide +kernel
theorem dX5_begins_93 : decode cX5_begins 93 = .ok (.iconst (-1), 1) := by decide +kernel
theorem dX5_begins_94 : decode cX5_begins 94 = .ok (.goto 4, 3) := by decide +kernel
theorem dX5_begins_97 : decode cX5_begins 97 = .ok (.iconst 0, 1) := by decide +kernel
theorem dX5_begins_98 : decode cX5_begins 98 = .ok (.putfield 182, 3) := by decide +kernel
theorem dX5_begins_101 : decode cX5_begins 101 = .ok (.aload_n 0, 1) := by decide +kernel
theorem dX5_begins_102 : decode cX5_begins 102 = .ok (.getfield 70, 3) := by decide +kernel
theorem dX5_begins_105 : decode cX5_begins 105 = .ok (.iconst 0, 1) := by decide +kernel
theorem dX5_begins_106 : decode cX5_begins 106 = .ok (.iconst (-1), 1) := by decide +kernel
theorem dX5_begins_107 : decode cX5_begins 107 = .ok (.iastore, 1) := by decide +kernel
theorem dX5_begins_108 : decode cX5_begins 108 = .ok (.aload_n 0, 1) := by decide +kernel
theorem dX5_begins_109 : decode cX5_begins 109 = .ok (.getfield 73, 3) := by decide +kernel
theorem dX5_begins_112 : decode cX5_begins 112 = .ok (.iconst 0, 1) := by decide +kernel
theorem dX5_begins_113 : decode cX5_begins 113 = .ok (.iconst 0, 1) := by decide +kernel
theorem dX5_begins_114 : decode cX5_begins 114 = .ok (.iastore, 1) := by decide +kernel
theorem dX5_begins_115 : decode cX5_begins 115 = .ok (.return_, 1) := by decide +kernel
theorem dX5_asWritten_0 : decode cX5_asWritten 0 = .ok (.aload_n 0, 1) := by decide +kernel
theorem dX5_asWritten_1 : decode cX5_asWritten 1 = .ok (.aload_n 0, 1) := by decide +kernel
theorem dX5_asWritten_2 : decode cX5_asWritten 2 = .ok (.getfield 28, 3) := by decide +kernel
theorem dX5_asWritten_5 : decode cX5_asWritten 5 = .ok (.iconst 4, 1) := by decide +kernel
theorem dX5_asWritten_6 : decode cX5_asWritten 6 = .ok (.iaload, 1) := by decide +kernel
theorem dX5_asWritten_7 : decode cX5_asWritten 7 = .ok (.putfield 179, 3) := by decide +kernel
theorem dX5_asWritten_10 : decode cX5_asWritten 10 = .ok (.aload_n 0, 1) := by decide +kernel
theorem dX5_asWritten_11 : decode cX5_asWritten 11 = .ok (.getfield 67, 3) := by decide +kernel
theorem dX5_asWritten_14 : decode cX5_asWritten 14 = .ok (.iconst 0, 1) := by decide +kernel
theorem dX5_asWritten_15 : decode cX5_asWritten 15 = .ok (.aload_n 0, 1) := by decide +kernel
theorem dX5_asWritten_16 : decode cX5_asWritten 16 = .ok (.getfield 28, 3) := by decide +kernel
theorem dX5_asWritten_19 : decode cX5_asWritten 19 = .ok (.iconst 5, 1) := by decide +kernel
theorem dX5_asWritten_20 : decode cX5_asWritten 20 = .ok (.aload_n 0, 1) := by decide +kernel
theorem dX5_asWritten_21 : decode cX5_asWritten 21 = .ok (.getfield 179, 3) := by decide +kernel
theorem dX5_asWritten_24 : decode cX5_asWritten 24 = .ok (.invokestatic 160, 3) := by decide +kernel
theorem dX5_asWritten_27 : decode cX5_asWritten 27 = .ok (.aload_n 0, 1) := by decide +kernel
theorem dX5_asWritten_28 : decode cX5_asWritten 28 = .ok (.iload_n 1, 1) := by decide +kernel
theorem dX5_asWritten_29 : decode cX5_asWritten 29 = .ok (.iload_n 2, 1) := by decide +kernel
theorem dX5_asWritten_30 : decode cX5_asWritten 30 = .ok (.invokevirtual 185, 3) := by decide +kernel
theorem dX5_asWritten_33 : decode cX5_asWritten 33 = .ok (.return_, 1) := by decide +kernel
theorem dX5_isVerb_0 : decode cX5_isVerb 0 = .ok (.aload_n 0, 1) := by decide +kernel
theorem dX5_isVerb_1 : decode cX5_isVerb 1 = .ok (.getfield 70, 3) := by decide +kernel
theorem dX5_isVerb_4 : decode cX5_isVerb 4 = .ok (.iload_n 1, 1) := by decide +kernel
theorem dX5_isVerb_5 : decode cX5_isVerb 5 = .ok (.iaload, 1) := by decide +kernel
theorem dX5_isVerb_6 : decode cX5_isVerb 6 = .ok (.iconst 2, 1) := by decide +kernel
theorem dX5_isVerb_7 : decode cX5_isVerb 7 = .ok (.irem, 1) := by decide +kernel
theorem dX5_isVerb_8 : decode cX5_isVerb 8 = .ok (.iconst 1, 1) := by decide +kernel
theorem dX5_isVerb_9 : decode cX5_isVerb 9 = .ok (.if_icmp .ne 7, 3) := by decide +kernel
theorem dX5_isVerb_12 : decode cX5_isVerb 12 = .ok (.iconst 1, 1) := by decide +kernel
theorem dX5_isVerb_13 : decode cX5_isVerb 13 = .ok (.goto 4, 3) := by decide +kernel
theorem dX5_isVerb_16 : decode cX5_isVerb 16 = .ok (.iconst 0, 1) := by decide +kernel
theorem dX5_isVerb_17 : decode cX5_isVerb 17 = .ok (.ireturn, 1) := by decide +kernel
theorem dX5_fits_0 : decode cX5_fits 0 = .ok (.aload_n 0, 1) := by decide +kernel
theorem dX5_fits_1 : decode cX5_fits 1 = .ok (.getfield 70, 3) := by decide +kernel
theorem dX5_fits_4 : decode cX5_fits 4 = .ok (.aload_n 0, 1) := by decide +kernel
theorem dX5_fits_5 : decode cX5_fits 5 = .ok (.getfield 182, 3) := by decide +kernel
theorem dX5_fits_8 : decode cX5_fits 8 = .ok (.iaload, 1) := by decide +kernel
theorem dX5_fits_9 : decode cX5_fits 9 = .ok (.iconst 2, 1) := by decide +kernel
theorem dX5_fits_10 : decode cX5_fits 10 = .ok (.idiv, 1) := by decide +kernel
theorem dX5_fits_11 : decode cX5_fits 11 = .ok (.istore_n 1, 1) := by decide +kernel
theorem dX5_fits_12 : decode cX5_fits 12 = .ok (.aload_n 0, 1) := by decide +kernel
theorem dX5_fits_13 : decode cX5_fits 13 = .ok (.aload_n 0, 1) := by decide +kernel
theorem dX5_fits_14 : decode cX5_fits 14 = .ok (.getfield 182, 3) := by decide +kernel
theorem dX5_fits_17 : decode cX5_fits 17 = .ok (.invokevirtual 189, 3) := by decide +kernel
theorem dX5_fits_20 : decode cX5_fits 20 = .ok (.ifCond .eq 48, 3) := by decide +kernel
theorem dX5_fits_23 : decode cX5_fits 23 = .ok (.aload_n 0, 1) := by decide +kernel
theorem dX5_fits_24 : decode cX5_fits 24 = .ok (.getfield 19, 3) := by decide +kernel
theorem dX5_fits_27 : decode cX5_fits 27 = .ok (.iload_n 1, 1) := by decide +kernel
theorem dX5_fits_28 : decode cX5_fits 28 = .ok (.iaload, 1) := by decide +kernel
theorem dX5_fits_29 : decode cX5_fits 29 = .ok (.ifCond .le 35, 3) := by decide +kernel
theorem dX5_fits_32 : decode cX5_fits 32 = .ok (.aload_n 0, 1) := by decide +kernel
theorem dX5_fits_33 : decode cX5_fits 33 = .ok (.getfield 173, 3) := by decide +kernel
theorem dX5_fits_36 : decode cX5_fits 36 = .ok (.iconst 1, 1) := by decide +kernel
theorem dX5_fits_37 : decode cX5_fits 37 = .ok (.if_icmp .eq 27, 3) := by decide +kernel
theorem dX5_fits_40 : decode cX5_fits 40 = .ok (.aload_n 0, 1) := by decide +kernel
theorem dX5_fits_41 : decode cX5_fits 41 = .ok (.getfield 182, 3) := by decide +kernel
theorem dX5_fits_44 : decode cX5_fits 44 = .ok (.ifCond .eq 16, 3) := by decide +kernel
theorem dX5_fits_47 : decode cX5_fits 47 = .ok (.aload_n 0, 1) := by decide +kernel
theorem dX5_fits_48 : decode cX5_fits 48 = .ok (.aload_n 0, 1) := by decide +kernel
theorem dX5_fits_49 : decode cX5_fits 49 = .ok (.getfield 182, 3) := by decide +kernel
theorem dX5_fits_52 : decode cX5_fits 52 = .ok (.iconst 1, 1) := by decide +kernel
theorem dX5_fits_53 : decode cX5_fits 53 = .ok (.isub, 1) := by decide +kernel
theorem dX5_fits_54 : decode cX5_fits 54 = .ok (.invokevirtual 189, 3) := by decide +kernel
theorem dX5_fits_57 : decode cX5_fits 57 = .ok (.ifCond .ne 7, 3) := by decide +kernel
theorem dX5_fits_60 : decode cX5_fits 60 = .ok (.iconst 1, 1) := by decide +kernel
theorem dX5_fits_61 : decode cX5_fits 61 = .ok (.goto 21, 3) := by decide +kernel
theorem dX5_fits_64 : decode cX5_fits 64 = .ok (.iconst 0, 1) := by decide +kernel
theorem dX5_fits_65 : decode cX5_fits 65 = .ok (.goto 17, 3) := by decide +kernel
theorem dX5_fits_68 : decode cX5_fits 68 = .ok (.aload_n 0, 1) := by decide +kernel
theorem dX5_fits_69 : decode cX5_fits 69 = .ok (.getfield 16, 3) := by decide +kernel
theorem dX5_fits_72 : decode cX5_fits 72 = .ok (.iload_n 1, 1) := by decide +kernel
theorem dX5_fits_73 : decode cX5_fits 73 = .ok (.iaload, 1) := by decide +kernel
theorem dX5_fits_74 : decode cX5_fits 74 = .ok (.ifCond .le 7, 3) := by decide +kernel
theorem dX5_fits_77 : decode cX5_fits 77 = .ok (.iconst 1, 1) := by decide +kernel
theorem dX5_fits_78 : decode cX5_fits 78 = .ok (.goto 4, 3) := by decide +kernel
theorem dX5_fits_81 : decode cX5_fits 81 = .ok (.iconst 0, 1) := by decide +kernel
theorem dX5_fits_82 : decode cX5_fits 82 = .ok (.istore_n 2, 1) := by decide +kernel
theorem dX5_fits_83 : decode cX5_fits 83 = .ok (.iload_n 2, 1) := by decide +kernel
theorem dX5_fits_84 : decode cX5_fits 84 = .ok (.ifCond .eq 41, 3) := by decide +kernel
theorem dX5_fits_87 : decode cX5_fits 87 = .ok (.aload_n 0, 1) := by decide +kernel
theorem dX5_fits_88 : decode cX5_fits 88 = .ok (.getfield 176, 3) := by decide +kernel
theorem dX5_fits_91 : decode cX5_fits 91 = .ok (.iload_n 1, 1) := by decide +kernel
theorem dX5_fits_92 : decode cX5_fits 92 = .ok (.invokestatic 192, 3) := by decide +kernel
theorem dX5_fits_95 : decode cX5_fits 95 = .ok (.ifCond .eq 30, 3) := by decide +kernel
theorem dX5_fits_98 : decode cX5_fits 98 = .ok (.aload_n 0, 1) := by decide +kernel
theorem dX5_fits_99 : decode cX5_fits 99 = .ok (.getfield 73, 3) := by decide +kernel
theorem dX5_fits_102 : decode cX5_fits 102 = .ok (.aload_n 0, 1) := by decide +kernel
theorem dX5_fits_103 : decode cX5_fits 103 = .ok (.getfield 182, 3) := by decide +kernel
theorem dX5_fits_106 : decode cX5_fits 106 = .ok (.iaload, 1) := by decide +kernel
theorem dX5_fits_107 : decode cX5_fits 107 = .ok (.aload_n 0, 1) := by decide +kernel
theorem dX5_fits_108 : decode cX5_fits 108 = .ok (.getfield 7, 3) := by decide +kernel
theorem dX5_fits_111 : decode cX5_fits 111 = .ok (.iload_n 1, 1) := by decide +kernel
theorem dX5_fits_112 : decode cX5_fits 112 = .ok (.iaload, 1) := by decide +kernel
theorem dX5_fits_113 : decode cX5_fits 113 = .ok (.iadd, 1) := by decide +kernel
theorem dX5_fits_114 : decode cX5_fits 114 = .ok (.aload_n 0, 1) := by decide +kernel
theorem dX5_fits_115 : decode cX5_fits 115 = .ok (.getfield 179, 3) := by decide +kernel
theorem dX5_fits_118 : decode cX5_fits 118 = .ok (.if_icmp .gt 7, 3) := by decide +kernel
theorem dX5_fits_121 : decode cX5_fits 121 = .ok (.iconst 1, 1) := by decide +kernel
theorem dX5_fits_122 : decode cX5_fits 122 = .ok (.goto 4, 3) := by decide +kernel
theorem dX5_fits_125 : decode cX5_fits 125 = .ok (.iconst 0, 1) := by decide +kernel
theorem dX5_fits_126 : decode cX5_fits 126 = .ok (.istore_n 3, 1) := by decide +kernel
theorem dX5_fits_127 : decode cX5_fits 127 = .ok (.iconst 0, 1) := by decide +kernel
theorem dX5_fits_128 : decode cX5_fits 128 = .ok (.istore 4, 2) := by decide +kernel
theorem dX5_fits_130 : decode cX5_fits 130 = .ok (.iload 4, 2) := by decide +kernel
theorem dX5_fits_132 : decode cX5_fits 132 = .ok (.aload_n 0, 1) := by decide +kernel
theorem dX5_fits_133 : decode cX5_fits 133 = .ok (.getfield 7, 3) := by decide +kernel
theorem dX5_fits_136 : decode cX5_fits 136 = .ok (.iload_n 1, 1) := by decide +kernel
theorem dX5_fits_137 : decode cX5_fits 137 = .ok (.iaload, 1) := by decide +kernel
theorem dX5_fits_138 : decode cX5_fits 138 = .ok (.if_icmp .ge 50, 3) := by decide +kernel
theorem dX5_fits_141 : decode cX5_fits 141 = .ok (.iload_n 3, 1) := by decide +kernel
theorem dX5_fits_142 : decode cX5_fits 142 = .ok (.ifCond .eq 46, 3) := by decide +kernel
theorem dX5_fits_145 : decode cX5_fits 145 = .ok (.aload_n 0, 1) := by decide +kernel
theorem dX5_fits_146 : decode cX5_fits 146 = .ok (.getfield 67, 3) := by decide +kernel
theorem dX5_fits_149 : decode cX5_fits 149 = .ok (.aload_n 0, 1) := by decide +kernel
theorem dX5_fits_150 : decode cX5_fits 150 = .ok (.getfield 73, 3) := by decide +kernel
theorem dX5_fits_153 : decode cX5_fits 153 = .ok (.aload_n 0, 1) := by decide +kernel
theorem dX5_fits_154 : decode cX5_fits 154 = .ok (.getfield 182, 3) := by decide +kernel
theorem dX5_fits_157 : decode cX5_fits 157 = .ok (.iaload, 1) := by decide +kernel
theorem dX5_fits_158 : decode cX5_fits 158 = .ok (.iload 4, 2) := by decide +kernel
theorem dX5_fits_160 : decode cX5_fits 160 = .ok (.iadd, 1) := by decide +kernel
theorem dX5_fits_161 : decode cX5_fits 161 = .ok (.iaload, 1) := by decide +kernel
theorem dX5_fits_162 : decode cX5_fits 162 = .ok (.aload_n 0, 1) := by decide +kernel
theorem dX5_fits_163 : decode cX5_fits 163 = .ok (.getfield 13, 3) := by decide +kernel
theorem dX5_fits_166 : decode cX5_fits 166 = .ok (.iconst 3, 1) := by decide +kernel
theorem dX5_fits_167 : decode cX5_fits 167 = .ok (.iload_n 1, 1) := by decide +kernel
theorem dX5_fits_168 : decode cX5_fits 168 = .ok (.imul, 1) := by decide +kernel
theorem dX5_fits_169 : decode cX5_fits 169 = .ok (.iload 4, 2) := by decide +kernel
theorem dX5_fits_171 : decode cX5_fits 171 = .ok (.iadd, 1) := by decide +kernel
theorem dX5_fits_172 : decode cX5_fits 172 = .ok (.iaload, 1) := by decide +kernel
theorem dX5_fits_173 : decode cX5_fits 173 = .ok (.if_icmp .ne 7, 3) := by decide +kernel
theorem dX5_fits_176 : decode cX5_fits 176 = .ok (.iconst 1, 1) := by decide +kernel
theorem dX5_fits_177 : decode cX5_fits 177 = .ok (.goto 4, 3) := by decide +kernel
theorem dX5_fits_180 : decode cX5_fits 180 = .ok (.iconst 0, 1) := by decide +kernel
theorem dX5_fits_181 : decode cX5_fits 181 = .ok (.istore_n 3, 1) := by decide +kernel
theorem dX5_fits_182 : decode cX5_fits 182 = .ok (.iinc 4 1, 3) := by decide +kernel
theorem dX5_fits_185 : decode cX5_fits 185 = .ok (.goto (-55), 3) := by decide +kernel
theorem dX5_fits_188 : decode cX5_fits 188 = .ok (.iload_n 3, 1) := by decide +kernel
theorem dX5_fits_189 : decode cX5_fits 189 = .ok (.ireturn, 1) := by decide +kernel
theorem dX5_verbsIn_0 : decode cX5_verbsIn 0 = .ok (.iconst 0, 1) := by decide +kernel
theorem dX5_verbsIn_1 : decode cX5_verbsIn 1 = .ok (.istore_n 1, 1) := by decide +kernel
theorem dX5_verbsIn_2 : decode cX5_verbsIn 2 = .ok (.iconst 0, 1) := by decide +kernel
theorem dX5_verbsIn_3 : decode cX5_verbsIn 3 = .ok (.istore_n 2, 1) := by decide +kernel
theorem dX5_verbsIn_4 : decode cX5_verbsIn 4 = .ok (.iload_n 2, 1) := by decide +kernel
theorem dX5_verbsIn_5 : decode cX5_verbsIn 5 = .ok (.aload_n 0, 1) := by decide +kernel
theorem dX5_verbsIn_6 : decode cX5_verbsIn 6 = .ok (.getfield 182, 3) := by decide +kernel
theorem dX5_verbsIn_9 : decode cX5_verbsIn 9 = .ok (.if_icmp .gt 20, 3) := by decide +kernel
theorem dX5_verbsIn_12 : decode cX5_verbsIn 12 = .ok (.iload_n 1, 1) := by decide +kernel
theorem dX5_verbsIn_13 : decode cX5_verbsIn 13 = .ok (.aload_n 0, 1) := by decide +kernel
theorem dX5_verbsIn_14 : decode cX5_verbsIn 14 = .ok (.getfield 70, 3) := by decide +kernel
theorem dX5_verbsIn_17 : decode cX5_verbsIn 17 = .ok (.iload_n 2, 1) := by decide +kernel
theorem dX5_verbsIn_18 : decode cX5_verbsIn 18 = .ok (.iaload, 1) := by decide +kernel
theorem dX5_verbsIn_19 : decode cX5_verbsIn 19 = .ok (.iconst 2, 1) := by decide +kernel
theorem dX5_verbsIn_20 : decode cX5_verbsIn 20 = .ok (.irem, 1) := by decide +kernel
theorem dX5_verbsIn_21 : decode cX5_verbsIn 21 = .ok (.iadd, 1) := by decide +kernel
theorem dX5_verbsIn_22 : decode cX5_verbsIn 22 = .ok (.istore_n 1, 1) := by decide +kernel
theorem dX5_verbsIn_23 : decode cX5_verbsIn 23 = .ok (.iinc 2 1, 3) := by decide +kernel
theorem dX5_verbsIn_26 : decode cX5_verbsIn 26 = .ok (.goto (-22), 3) := by decide +kernel
theorem dX5_verbsIn_29 : decode cX5_verbsIn 29 = .ok (.iload_n 1, 1) := by decide +kernel
theorem dX5_verbsIn_30 : decode cX5_verbsIn 30 = .ok (.ireturn, 1) := by decide +kernel
theorem dX5_isNext_0 : decode cX5_isNext 0 = .ok (.aload_n 0, 1) := by decide +kernel
theorem dX5_isNext_1 : decode cX5_isNext 1 = .ok (.getfield 182, 3) := by decide +kernel
theorem dX5_isNext_4 : decode cX5_isNext 4 = .ok (.ifCond .lt 164, 3) := by decide +kernel
theorem dX5_isNext_7 : decode cX5_isNext 7 = .ok (.aload_n 0, 1) := by decide +kernel
theorem dX5_isNext_8 : decode cX5_isNext 8 = .ok (.getfield 70, 3) := by decide +kernel
theorem dX5_isNext_11 : decode cX5_isNext 11 = .ok (.aload_n 0, 1) := by decide +kernel
theorem dX5_isNext_12 : decode cX5_isNext 12 = .ok (.getfield 182, 3) := by decide +kernel
theorem dX5_isNext_15 : decode cX5_isNext 15 = .ok (.dup2, 1) := by decide +kernel
theorem dX5_isNext_16 : decode cX5_isNext 16 = .ok (.iaload, 1) := by decide +kernel
theorem dX5_isNext_17 : decode cX5_isNext 17 = .ok (.iconst 1, 1) := by decide +kernel
theorem dX5_isNext_18 : decode cX5_isNext 18 = .ok (.iadd, 1) := by decide +kernel
theorem dX5_isNext_19 : decode cX5_isNext 19 = .ok (.iastore, 1) := by decide +kernel
theorem dX5_isNext_20 : decode cX5_isNext 20 = .ok (.aload_n 0, 1) := by decide +kernel
theorem dX5_isNext_21 : decode cX5_isNext 21 = .ok (.getfield 70, 3) := by decide +kernel
theorem dX5_isNext_24 : decode cX5_isNext 24 = .ok (.aload_n 0, 1) := by decide +kernel
theorem dX5_isNext_25 : decode cX5_isNext 25 = .ok (.getfield 182, 3) := by decide +kernel
theorem dX5_isNext_28 : decode cX5_isNext 28 = .ok (.iaload, 1) := by decide +kernel
theorem dX5_isNext_29 : decode cX5_isNext 29 = .ok (.iconst 2, 1) := by decide +kernel
theorem dX5_isNext_30 : decode cX5_isNext 30 = .ok (.aload_n 0, 1) := by decide +kernel
theorem dX5_isNext_31 : decode cX5_isNext 31 = .ok (.getfield 157, 3) := by decide +kernel
theorem dX5_isNext_34 : decode cX5_isNext 34 = .ok (.imul, 1) := by decide +kernel
theorem dX5_isNext_35 : decode cX5_isNext 35 = .ok (.if_icmp .ne 16, 3) := by decide +kernel
theorem dX5_isNext_38 : decode cX5_isNext 38 = .ok (.aload_n 0, 1) := by decide +kernel
theorem dX5_isNext_39 : decode cX5_isNext 39 = .ok (.dup, 1) := by decide +kernel
theorem dX5_isNext_40 : decode cX5_isNext 40 = .ok (.getfield 182, 3) := by decide +kernel
theorem dX5_isNext_43 : decode cX5_isNext 43 = .ok (.iconst 1, 1) := by decide +kernel
theorem dX5_isNext_44 : decode cX5_isNext 44 = .ok (.isub, 1) := by decide +kernel
theorem dX5_isNext_45 : decode cX5_isNext 45 = .ok (.putfield 182, 3) := by decide +kernel
theorem dX5_isNext_48 : decode cX5_isNext 48 = .ok (.goto (-48), 3) := by decide +kernel
theorem dX5_isNext_51 : decode cX5_isNext 51 = .ok (.aload_n 0, 1) := by decide +kernel
theorem dX5_isNext_52 : decode cX5_isNext 52 = .ok (.invokevirtual 196, 3) := by decide +kernel
theorem dX5_isNext_55 : decode cX5_isNext 55 = .ok (.ifCond .eq (-55), 3) := by decide +kernel
theorem dX5_isNext_58 : decode cX5_isNext 58 = .ok (.aload_n 0, 1) := by decide +kernel
theorem dX5_isNext_59 : decode cX5_isNext 59 = .ok (.getfield 73, 3) := by decide +kernel
theorem dX5_isNext_62 : decode cX5_isNext 62 = .ok (.aload_n 0, 1) := by decide +kernel
theorem dX5_isNext_63 : decode cX5_isNext 63 = .ok (.getfield 182, 3) := by decide +kernel
theorem dX5_isNext_66 : decode cX5_isNext 66 = .ok (.iaload, 1) := by decide +kernel
theorem dX5_isNext_67 : decode cX5_isNext 67 = .ok (.aload_n 0, 1) := by decide +kernel
theorem dX5_isNext_68 : decode cX5_isNext 68 = .ok (.getfield 7, 3) := by decide +kernel
theorem dX5_isNext_71 : decode cX5_isNext 71 = .ok (.aload_n 0, 1) := by decide +kernel
theorem dX5_isNext_72 : decode cX5_isNext 72 = .ok (.getfield 70, 3) := by decide +kernel
theorem dX5_isNext_75 : decode cX5_isNext 75 = .ok (.aload_n 0, 1) := by decide +kernel
theorem dX5_isNext_76 : decode cX5_isNext 76 = .ok (.getfield 182, 3) := by decide +kernel
theorem dX5_isNext_79 : decode cX5_isNext 79 = .ok (.iaload, 1) := by decide +kernel
theorem dX5_isNext_80 : decode cX5_isNext 80 = .ok (.iconst 2, 1) := by decide +kernel
theorem dX5_isNext_81 : decode cX5_isNext 81 = .ok (.idiv, 1) := by decide +kernel
theorem dX5_isNext_82 : decode cX5_isNext 82 = .ok (.iaload, 1) := by decide +kernel
theorem dX5_isNext_83 : decode cX5_isNext 83 = .ok (.iadd, 1) := by decide +kernel
theorem dX5_isNext_84 : decode cX5_isNext 84 = .ok (.istore_n 1, 1) := by decide +kernel
theorem dX5_isNext_85 : decode cX5_isNext 85 = .ok (.iload_n 1, 1) := by decide +kernel
theorem dX5_isNext_86 : decode cX5_isNext 86 = .ok (.aload_n 0, 1) := by decide +kernel
theorem dX5_isNext_87 : decode cX5_isNext 87 = .ok (.getfield 179, 3) := by decide +kernel
theorem dX5_isNext_90 : decode cX5_isNext 90 = .ok (.if_icmp .ge 36, 3) := by decide +kernel
theorem dX5_isNext_93 : decode cX5_isNext 93 = .ok (.aload_n 0, 1) := by decide +kernel
theorem dX5_isNext_94 : decode cX5_isNext 94 = .ok (.dup, 1) := by decide +kernel
theorem dX5_isNext_95 : decode cX5_isNext 95 = .ok (.getfield 182, 3) := by decide +kernel
theorem dX5_isNext_98 : decode cX5_isNext 98 = .ok (.iconst 1, 1) := by decide +kernel
theorem dX5_isNext_99 : decode cX5_isNext 99 = .ok (.iadd, 1) := by decide +kernel
theorem dX5_isNext_100 : decode cX5_isNext 100 = .ok (.putfield 182, 3) := by decide +kernel
theorem dX5_isNext_103 : decode cX5_isNext 103 = .ok (.aload_n 0, 1) := by decide +kernel
theorem dX5_isNext_104 : decode cX5_isNext 104 = .ok (.getfield 73, 3) := by decide +kernel
theorem dX5_isNext_107 : decode cX5_isNext 107 = .ok (.aload_n 0, 1) := by decide +kernel
theorem dX5_isNext_108 : decode cX5_isNext 108 = .ok (.getfield 182, 3) := by decide +kernel
theorem dX5_isNext_111 : decode cX5_isNext 111 = .ok (.iload_n 1, 1) := by decide +kernel
theorem dX5_isNext_112 : decode cX5_isNext 112 = .ok (.iastore, 1) := by decide +kernel
theorem dX5_isNext_113 : decode cX5_isNext 113 = .ok (.aload_n 0, 1) := by decide +kernel
theorem dX5_isNext_114 : decode cX5_isNext 114 = .ok (.getfield 70, 3) := by decide +kernel
theorem dX5_isNext_117 : decode cX5_isNext 117 = .ok (.aload_n 0, 1) := by decide +kernel
theorem dX5_isNext_118 : decode cX5_isNext 118 = .ok (.getfield 182, 3) := by decide +kernel
theorem dX5_isNext_121 : decode cX5_isNext 121 = .ok (.iconst (-1), 1) := by decide +kernel
theorem dX5_isNext_122 : decode cX5_isNext 122 = .ok (.iastore, 1) := by decide +kernel
theorem dX5_isNext_123 : decode cX5_isNext 123 = .ok (.goto 42, 3) := by decide +kernel
theorem dX5_isNext_126 : decode cX5_isNext 126 = .ok (.aload_n 0, 1) := by decide +kernel
theorem dX5_isNext_127 : decode cX5_isNext 127 = .ok (.getfield 173, 3) := by decide +kernel
theorem dX5_isNext_130 : decode cX5_isNext 130 = .ok (.iconst 2, 1) := by decide +kernel
theorem dX5_isNext_131 : decode cX5_isNext 131 = .ok (.if_icmp .ne 13, 3) := by decide +kernel
theorem dX5_isNext_134 : decode cX5_isNext 134 = .ok (.aload_n 0, 1) := by decide +kernel
theorem dX5_isNext_135 : decode cX5_isNext 135 = .ok (.invokevirtual 199, 3) := by decide +kernel
theorem dX5_isNext_138 : decode cX5_isNext 138 = .ok (.ifCond .le 27, 3) := by decide +kernel
theorem dX5_isNext_141 : decode cX5_isNext 141 = .ok (.goto 22, 3) := by decide +kernel
theorem dX5_isNext_144 : decode cX5_isNext 144 = .ok (.aload_n 0, 1) := by decide +kernel
theorem dX5_isNext_145 : decode cX5_isNext 145 = .ok (.getfield 173, 3) := by decide +kernel
theorem dX5_isNext_148 : decode cX5_isNext 148 = .ok (.iconst 4, 1) := by decide +kernel
theorem dX5_isNext_149 : decode cX5_isNext 149 = .ok (.if_icmp .ne 14, 3) := by decide +kernel
theorem dX5_isNext_152 : decode cX5_isNext 152 = .ok (.aload_n 0, 1) := by decide +kernel
theorem dX5_isNext_153 : decode cX5_isNext 153 = .ok (.aload_n 0, 1) := by decide +kernel
theorem dX5_isNext_154 : decode cX5_isNext 154 = .ok (.getfield 182, 3) := by decide +kernel
theorem dX5_isNext_157 : decode cX5_isNext 157 = .ok (.invokevirtual 189, 3) := by decide +kernel
theorem dX5_isNext_160 : decode cX5_isNext 160 = .ok (.ifCond .eq 5, 3) := by decide +kernel
theorem dX5_isNext_163 : decode cX5_isNext 163 = .ok (.iconst 1, 1) := by decide +kernel
theorem dX5_isNext_164 : decode cX5_isNext 164 = .ok (.ireturn, 1) := by decide +kernel
theorem dX5_isNext_165 : decode cX5_isNext 165 = .ok (.goto (-165), 3) := by decide +kernel
theorem dX5_isNext_168 : decode cX5_isNext 168 = .ok (.iconst 0, 1) := by decide +kernel
theorem dX5_isNext_169 : decode cX5_isNext 169 = .ok (.ireturn, 1) := by decide +kernel
theorem dX5_weighs_0 : decode cX5_weighs 0 = .ok (.iconst 0, 1) := by decide +kernel
theorem dX5_weighs_1 : decode cX5_weighs 1 = .ok (.istore_n 1, 1) := by decide +kernel
theorem dX5_weighs_2 : decode cX5_weighs 2 = .ok (.iconst 0, 1) := by decide +kernel
theorem dX5_weighs_3 : decode cX5_weighs 3 = .ok (.istore_n 2, 1) := by decide +kernel
theorem dX5_weighs_4 : decode cX5_weighs 4 = .ok (.iload_n 2, 1) := by decide +kernel
theorem dX5_weighs_5 : decode cX5_weighs 5 = .ok (.aload_n 0, 1) := by decide +kernel
theorem dX5_weighs_6 : decode cX5_weighs 6 = .ok (.getfield 182, 3) := by decide +kernel
theorem dX5_weighs_9 : decode cX5_weighs 9 = .ok (.if_icmp .gt 37, 3) := by decide +kernel
theorem dX5_weighs_12 : decode cX5_weighs 12 = .ok (.iload_n 1, 1) := by decide +kernel
theorem dX5_weighs_13 : decode cX5_weighs 13 = .ok (.aload_n 0, 1) := by decide +kernel
theorem dX5_weighs_14 : decode cX5_weighs 14 = .ok (.iload_n 2, 1) := by decide +kernel
theorem dX5_weighs_15 : decode cX5_weighs 15 = .ok (.invokevirtual 189, 3) := by decide +kernel
theorem dX5_weighs_18 : decode cX5_weighs 18 = .ok (.ifCond .eq 7, 3) := by decide +kernel
theorem dX5_weighs_21 : decode cX5_weighs 21 = .ok (.iconst 0, 1) := by decide +kernel
theorem dX5_weighs_22 : decode cX5_weighs 22 = .ok (.goto 16, 3) := by decide +kernel
theorem dX5_weighs_25 : decode cX5_weighs 25 = .ok (.aload_n 0, 1) := by decide +kernel
theorem dX5_weighs_26 : decode cX5_weighs 26 = .ok (.getfield 16, 3) := by decide +kernel
theorem dX5_weighs_29 : decode cX5_weighs 29 = .ok (.aload_n 0, 1) := by decide +kernel
theorem dX5_weighs_30 : decode cX5_weighs 30 = .ok (.getfield 70, 3) := by decide +kernel
theorem dX5_weighs_33 : decode cX5_weighs 33 = .ok (.iload_n 2, 1) := by decide +kernel
theorem dX5_weighs_34 : decode cX5_weighs 34 = .ok (.iaload, 1) := by decide +kernel
theorem dX5_weighs_35 : decode cX5_weighs 35 = .ok (.iconst 2, 1) := by decide +kernel
theorem dX5_weighs_36 : decode cX5_weighs 36 = .ok (.idiv, 1) := by decide +kernel
theorem dX5_weighs_37 : decode cX5_weighs 37 = .ok (.iaload, 1) := by decide +kernel
theorem dX5_weighs_38 : decode cX5_weighs 38 = .ok (.iadd, 1) := by decide +kernel
theorem dX5_weighs_39 : decode cX5_weighs 39 = .ok (.istore_n 1, 1) := by decide +kernel
theorem dX5_weighs_40 : decode cX5_weighs 40 = .ok (.iinc 2 1, 3) := by decide +kernel
theorem dX5_weighs_43 : decode cX5_weighs 43 = .ok (.goto (-39), 3) := by decide +kernel
theorem dX5_weighs_46 : decode cX5_weighs 46 = .ok (.iload_n 1, 1) := by decide +kernel
theorem dX5_weighs_47 : decode cX5_weighs 47 = .ok (.ireturn, 1) := by decide +kernel
theorem dX5_verbs_0 : decode cX5_verbs 0 = .ok (.iconst 0, 1) := by decide +kernel
theorem dX5_verbs_1 : decode cX5_verbs 1 = .ok (.istore_n 1, 1) := by decide +kernel
theorem dX5_verbs_2 : decode cX5_verbs 2 = .ok (.iconst 0, 1) := by decide +kernel
theorem dX5_verbs_3 : decode cX5_verbs 3 = .ok (.istore_n 2, 1) := by decide +kernel
theorem dX5_verbs_4 : decode cX5_verbs 4 = .ok (.iload_n 2, 1) := by decide +kernel
theorem dX5_verbs_5 : decode cX5_verbs 5 = .ok (.aload_n 0, 1) := by decide +kernel
theorem dX5_verbs_6 : decode cX5_verbs 6 = .ok (.getfield 182, 3) := by decide +kernel
theorem dX5_verbs_9 : decode cX5_verbs 9 = .ok (.if_icmp .gt 39, 3) := by decide +kernel
theorem dX5_verbs_12 : decode cX5_verbs 12 = .ok (.iload_n 1, 1) := by decide +kernel
theorem dX5_verbs_13 : decode cX5_verbs 13 = .ok (.aload_n 0, 1) := by decide +kernel
theorem dX5_verbs_14 : decode cX5_verbs 14 = .ok (.iload_n 2, 1) := by decide +kernel
theorem dX5_verbs_15 : decode cX5_verbs 15 = .ok (.invokevirtual 189, 3) := by decide +kernel
theorem dX5_verbs_18 : decode cX5_verbs 18 = .ok (.ifCond .eq 21, 3) := by decide +kernel
theorem dX5_verbs_21 : decode cX5_verbs 21 = .ok (.iconst 1, 1) := by decide +kernel
theorem dX5_verbs_22 : decode cX5_verbs 22 = .ok (.aload_n 0, 1) := by decide +kernel
theorem dX5_verbs_23 : decode cX5_verbs 23 = .ok (.getfield 19, 3) := by decide +kernel
theorem dX5_verbs_26 : decode cX5_verbs 26 = .ok (.aload_n 0, 1) := by decide +kernel
theorem dX5_verbs_27 : decode cX5_verbs 27 = .ok (.getfield 70, 3) := by decide +kernel
theorem dX5_verbs_30 : decode cX5_verbs 30 = .ok (.iload_n 2, 1) := by decide +kernel
theorem dX5_verbs_31 : decode cX5_verbs 31 = .ok (.iaload, 1) := by decide +kernel
theorem dX5_verbs_32 : decode cX5_verbs 32 = .ok (.iconst 2, 1) := by decide +kernel
theorem dX5_verbs_33 : decode cX5_verbs 33 = .ok (.idiv, 1) := by decide +kernel
theorem dX5_verbs_34 : decode cX5_verbs 34 = .ok (.iaload, 1) := by decide +kernel
theorem dX5_verbs_35 : decode cX5_verbs 35 = .ok (.ishl, 1) := by decide +kernel
theorem dX5_verbs_36 : decode cX5_verbs 36 = .ok (.goto 4, 3) := by decide +kernel
theorem dX5_verbs_39 : decode cX5_verbs 39 = .ok (.iconst 0, 1) := by decide +kernel
theorem dX5_verbs_40 : decode cX5_verbs 40 = .ok (.ior, 1) := by decide +kernel
theorem dX5_verbs_41 : decode cX5_verbs 41 = .ok (.istore_n 1, 1) := by decide +kernel
theorem dX5_verbs_42 : decode cX5_verbs 42 = .ok (.iinc 2 1, 3) := by decide +kernel
theorem dX5_verbs_45 : decode cX5_verbs 45 = .ok (.goto (-41), 3) := by decide +kernel
theorem dX5_verbs_48 : decode cX5_verbs 48 = .ok (.iload_n 1, 1) := by decide +kernel
theorem dX5_verbs_49 : decode cX5_verbs 49 = .ok (.ireturn, 1) := by decide +kernel
theorem dX5_all_0 : decode cX5_all 0 = .ok (.iconst 1, 1) := by decide +kernel
theorem dX5_all_1 : decode cX5_all 1 = .ok (.aload_n 0, 1) := by decide +kernel
theorem dX5_all_2 : decode cX5_all 2 = .ok (.getfield 157, 3) := by decide +kernel
theorem dX5_all_5 : decode cX5_all 5 = .ok (.ishl, 1) := by decide +kernel
theorem dX5_all_6 : decode cX5_all 6 = .ok (.iconst 1, 1) := by decide +kernel
theorem dX5_all_7 : decode cX5_all 7 = .ok (.isub, 1) := by decide +kernel
theorem dX5_all_8 : decode cX5_all 8 = .ok (.ireturn, 1) := by decide +kernel
theorem dX5_manyReadings_0 : decode cX5_manyReadings 0 = .ok (.iconst 0, 1) := by decide +kernel
theorem dX5_manyReadings_1 : decode cX5_manyReadings 1 = .ok (.istore_n 1, 1) := by decide +kernel
theorem dX5_manyReadings_2 : decode cX5_manyReadings 2 = .ok (.aload_n 0, 1) := by decide +kernel
theorem dX5_manyReadings_3 : decode cX5_manyReadings 3 = .ok (.invokevirtual 202, 3) := by decide +kernel
theorem dX5_manyReadings_6 : decode cX5_manyReadings 6 = .ok (.ifCond .eq 9, 3) := by decide +kernel
theorem dX5_manyReadings_9 : decode cX5_manyReadings 9 = .ok (.iinc 1 1, 3) := by decide +kernel
theorem dX5_manyReadings_12 : decode cX5_manyReadings 12 = .ok (.goto (-10), 3) := by decide +kernel
theorem dX5_manyReadings_15 : decode cX5_manyReadings 15 = .ok (.iload_n 1, 1) := by decide +kernel
theorem dX5_manyReadings_16 : decode cX5_manyReadings 16 = .ok (.ireturn, 1) := by decide +kernel
theorem dX5_isTelling_0 : decode cX5_isTelling 0 = .ok (.aload_n 0, 1) := by decide +kernel
theorem dX5_isTelling_1 : decode cX5_isTelling 1 = .ok (.bipush (-4), 2) := by decide +kernel
theorem dX5_isTelling_3 : decode cX5_isTelling 3 = .ok (.putfield 205, 3) := by decide +kernel
theorem dX5_isTelling_6 : decode cX5_isTelling 6 = .ok (.iconst (-1), 1) := by decide +kernel
theorem dX5_isTelling_7 : decode cX5_isTelling 7 = .ok (.istore_n 1, 1) := by decide +kernel
theorem dX5_isTelling_8 : decode cX5_isTelling 8 = .ok (.iconst 0, 1) := by decide +kernel
theorem dX5_isTelling_9 : decode cX5_isTelling 9 = .ok (.istore_n 2, 1) := by decide +kernel
theorem dX5_isTelling_10 : decode cX5_isTelling 10 = .ok (.aload_n 0, 1) := by decide +kernel
theorem dX5_isTelling_11 : decode cX5_isTelling 11 = .ok (.invokevirtual 202, 3) := by decide +kernel
theorem dX5_isTelling_14 : decode cX5_isTelling 14 = .ok (.ifCond .eq 81, 3) := by decide +kernel
theorem dX5_isTelling_17 : decode cX5_isTelling 17 = .ok (.aload_n 0, 1) := by decide +kernel
theorem dX5_isTelling_18 : decode cX5_isTelling 18 = .ok (.getfield 173, 3) := by decide +kernel
theorem dX5_isTelling_21 : decode cX5_isTelling 21 = .ok (.iconst 1, 1) := by decide +kernel
theorem dX5_isTelling_22 : decode cX5_isTelling 22 = .ok (.if_icmp .ne 10, 3) := by decide +kernel
theorem dX5_isTelling_25 : decode cX5_isTelling 25 = .ok (.aload_n 0, 1) := by decide +kernel
theorem dX5_isTelling_26 : decode cX5_isTelling 26 = .ok (.invokevirtual 208, 3) := by decide +kernel
theorem dX5_isTelling_29 : decode cX5_isTelling 29 = .ok (.goto 31, 3) := by decide +kernel
theorem dX5_isTelling_32 : decode cX5_isTelling 32 = .ok (.aload_n 0, 1) := by decide +kernel
theorem dX5_isTelling_33 : decode cX5_isTelling 33 = .ok (.getfield 173, 3) := by decide +kernel
theorem dX5_isTelling_36 : decode cX5_isTelling 36 = .ok (.iconst 2, 1) := by decide +kernel
theorem dX5_isTelling_37 : decode cX5_isTelling 37 = .ok (.if_icmp .ne 10, 3) := by decide +kernel
theorem dX5_isTelling_40 : decode cX5_isTelling 40 = .ok (.aload_n 0, 1) := by decide +kernel
theorem dX5_isTelling_41 : decode cX5_isTelling 41 = .ok (.invokevirtual 199, 3) := by decide +kernel
theorem dX5_isTelling_44 : decode cX5_isTelling 44 = .ok (.goto 16, 3) := by decide +kernel
theorem dX5_isTelling_47 : decode cX5_isTelling 47 = .ok (.aload_n 0, 1) := by decide +kernel
theorem dX5_isTelling_48 : decode cX5_isTelling 48 = .ok (.getfield 173, 3) := by decide +kernel
theorem dX5_isTelling_51 : decode cX5_isTelling 51 = .ok (.iconst 3, 1) := by decide +kernel
theorem dX5_isTelling_52 : decode cX5_isTelling 52 = .ok (.if_icmp .ne 7, 3) := by decide +kernel
theorem dX5_isTelling_55 : decode cX5_isTelling 55 = .ok (.iload_n 2, 1) := by decide +kernel
theorem dX5_isTelling_56 : decode cX5_isTelling 56 = .ok (.goto 4, 3) := by decide +kernel
theorem dX5_isTelling_59 : decode cX5_isTelling 59 = .ok (.iconst 0, 1) := by decide +kernel
theorem dX5_isTelling_60 : decode cX5_isTelling 60 = .ok (.istore_n 3, 1) := by decide +kernel
theorem dX5_isTelling_61 : decode cX5_isTelling 61 = .ok (.iload_n 3, 1) := by decide +kernel
theorem dX5_isTelling_62 : decode cX5_isTelling 62 = .ok (.iload_n 1, 1) := by decide +kernel
theorem dX5_isTelling_63 : decode cX5_isTelling 63 = .ok (.if_icmp .le 26, 3) := by decide +kernel
theorem dX5_isTelling_66 : decode cX5_isTelling 66 = .ok (.iload_n 3, 1) := by decide +kernel
theorem dX5_isTelling_67 : decode cX5_isTelling 67 = .ok (.istore_n 1, 1) := by decide +kernel
theorem dX5_isTelling_68 : decode cX5_isTelling 68 = .ok (.aload_n 0, 1) := by decide +kernel
theorem dX5_isTelling_69 : decode cX5_isTelling 69 = .ok (.iload_n 2, 1) := by decide +kernel
theorem dX5_isTelling_70 : decode cX5_isTelling 70 = .ok (.putfield 205, 3) := by decide +kernel
theorem dX5_isTelling_73 : decode cX5_isTelling 73 = .ok (.aload_n 0, 1) := by decide +kernel
theorem dX5_isTelling_74 : decode cX5_isTelling 74 = .ok (.aload_n 0, 1) := by decide +kernel
theorem dX5_isTelling_75 : decode cX5_isTelling 75 = .ok (.invokevirtual 208, 3) := by decide +kernel
theorem dX5_isTelling_78 : decode cX5_isTelling 78 = .ok (.putfield 211, 3) := by decide +kernel
theorem dX5_isTelling_81 : decode cX5_isTelling 81 = .ok (.aload_n 0, 1) := by decide +kernel
theorem dX5_isTelling_82 : decode cX5_isTelling 82 = .ok (.aload_n 0, 1) := by decide +kernel
theorem dX5_isTelling_83 : decode cX5_isTelling 83 = .ok (.invokevirtual 214, 3) := by decide +kernel
theorem dX5_isTelling_86 : decode cX5_isTelling 86 = .ok (.putfield 217, 3) := by decide +kernel
theorem dX5_isTelling_89 : decode cX5_isTelling 89 = .ok (.iinc 2 1, 3) := by decide +kernel
theorem dX5_isTelling_92 : decode cX5_isTelling 92 = .ok (.goto (-82), 3) := by decide +kernel
theorem dX5_isTelling_95 : decode cX5_isTelling 95 = .ok (.iload_n 2, 1) := by decide +kernel
theorem dX5_isTelling_96 : decode cX5_isTelling 96 = .ok (.ifCond .le 7, 3) := by decide +kernel
theorem dX5_isTelling_99 : decode cX5_isTelling 99 = .ok (.iconst 1, 1) := by decide +kernel
theorem dX5_isTelling_100 : decode cX5_isTelling 100 = .ok (.goto 4, 3) := by decide +kernel
theorem dX5_isTelling_103 : decode cX5_isTelling 103 = .ok (.iconst 0, 1) := by decide +kernel
theorem dX5_isTelling_104 : decode cX5_isTelling 104 = .ok (.ireturn, 1) := by decide +kernel
theorem dX5_root_0 : decode cX5_root 0 = .ok (.iload_n 1, 1) := by decide +kernel
theorem dX5_root_1 : decode cX5_root 1 = .ok (.iconst 0, 1) := by decide +kernel
theorem dX5_root_2 : decode cX5_root 2 = .ok (.aload_n 0, 1) := by decide +kernel
theorem dX5_root_3 : decode cX5_root 3 = .ok (.getfield 157, 3) := by decide +kernel
theorem dX5_root_6 : decode cX5_root 6 = .ok (.iconst 1, 1) := by decide +kernel
theorem dX5_root_7 : decode cX5_root 7 = .ok (.isub, 1) := by decide +kernel
theorem dX5_root_8 : decode cX5_root 8 = .ok (.invokestatic 109, 3) := by decide +kernel
theorem dX5_root_11 : decode cX5_root 11 = .ok (.ifCond .ne 5, 3) := by decide +kernel
theorem dX5_root_14 : decode cX5_root 14 = .ok (.iconst (-1), 1) := by decide +kernel
theorem dX5_root_15 : decode cX5_root 15 = .ok (.ireturn, 1) := by decide +kernel
theorem dX5_root_16 : decode cX5_root 16 = .ok (.iload_n 2, 1) := by decide +kernel
theorem dX5_root_17 : decode cX5_root 17 = .ok (.tableswitch 84 0 2 #[27, 70, 77], 27) := by decide +kernel
theorem dX5_root_44 : decode cX5_root 44 = .ok (.iconst 0, 1) := by decide +kernel
theorem dX5_root_45 : decode cX5_root 45 = .ok (.istore_n 3, 1) := by decide +kernel
theorem dX5_root_46 : decode cX5_root 46 = .ok (.iconst 0, 1) := by decide +kernel
theorem dX5_root_47 : decode cX5_root 47 = .ok (.istore 4, 2) := by decide +kernel
theorem dX5_root_49 : decode cX5_root 49 = .ok (.iload 4, 2) := by decide +kernel
theorem dX5_root_51 : decode cX5_root 51 = .ok (.aload_n 0, 1) := by decide +kernel
theorem dX5_root_52 : decode cX5_root 52 = .ok (.getfield 7, 3) := by decide +kernel
theorem dX5_root_55 : decode cX5_root 55 = .ok (.iload_n 1, 1) := by decide +kernel
theorem dX5_root_56 : decode cX5_root 56 = .ok (.iaload, 1) := by decide +kernel
theorem dX5_root_57 : decode cX5_root 57 = .ok (.if_icmp .ge 28, 3) := by decide +kernel
theorem dX5_root_60 : decode cX5_root 60 = .ok (.bipush 6, 2) := by decide +kernel
theorem dX5_root_62 : decode cX5_root 62 = .ok (.iload_n 3, 1) := by decide +kernel
theorem dX5_root_63 : decode cX5_root 63 = .ok (.imul, 1) := by decide +kernel
theorem dX5_root_64 : decode cX5_root 64 = .ok (.aload_n 0, 1) := by decide +kernel
theorem dX5_root_65 : decode cX5_root 65 = .ok (.getfield 13, 3) := by decide +kernel
theorem dX5_root_68 : decode cX5_root 68 = .ok (.iconst 3, 1) := by decide +kernel
theorem dX5_root_69 : decode cX5_root 69 = .ok (.iload_n 1, 1) := by decide +kernel
theorem dX5_root_70 : decode cX5_root 70 = .ok (.imul, 1) := by decide +kernel
theorem dX5_root_71 : decode cX5_root 71 = .ok (.iload 4, 2) := by decide +kernel
theorem dX5_root_73 : decode cX5_root 73 = .ok (.iadd, 1) := by decide +kernel
theorem dX5_root_74 : decode cX5_root 74 = .ok (.iaload, 1) := by decide +kernel
theorem dX5_root_75 : decode cX5_root 75 = .ok (.iadd, 1) := by decide +kernel
theorem dX5_root_76 : decode cX5_root 76 = .ok (.iconst 1, 1) := by decide +kernel
theorem dX5_root_77 : decode cX5_root 77 = .ok (.iadd, 1) := by decide +kernel
theorem dX5_root_78 : decode cX5_root 78 = .ok (.istore_n 3, 1) := by decide +kernel
theorem dX5_root_79 : decode cX5_root 79 = .ok (.iinc 4 1, 3) := by decide +kernel
theorem dX5_root_82 : decode cX5_root 82 = .ok (.goto (-33), 3) := by decide +kernel
theorem dX5_root_85 : decode cX5_root 85 = .ok (.iload_n 3, 1) := by decide +kernel
theorem dX5_root_86 : decode cX5_root 86 = .ok (.ireturn, 1) := by decide +kernel
theorem dX5_root_87 : decode cX5_root 87 = .ok (.aload_n 0, 1) := by decide +kernel
theorem dX5_root_88 : decode cX5_root 88 = .ok (.getfield 16, 3) := by decide +kernel
theorem dX5_root_91 : decode cX5_root 91 = .ok (.iload_n 1, 1) := by decide +kernel
theorem dX5_root_92 : decode cX5_root 92 = .ok (.iaload, 1) := by decide +kernel
theorem dX5_root_93 : decode cX5_root 93 = .ok (.ireturn, 1) := by decide +kernel
theorem dX5_root_94 : decode cX5_root 94 = .ok (.aload_n 0, 1) := by decide +kernel
theorem dX5_root_95 : decode cX5_root 95 = .ok (.getfield 19, 3) := by decide +kernel
theorem dX5_root_98 : decode cX5_root 98 = .ok (.iload_n 1, 1) := by decide +kernel
theorem dX5_root_99 : decode cX5_root 99 = .ok (.iaload, 1) := by decide +kernel
theorem dX5_root_100 : decode cX5_root 100 = .ok (.ireturn, 1) := by decide +kernel
theorem dX5_root_101 : decode cX5_root 101 = .ok (.iconst (-1), 1) := by decide +kernel
theorem dX5_root_102 : decode cX5_root 102 = .ok (.ireturn, 1) := by decide +kernel
theorem dX5_reader_0 : decode cX5_reader 0 = .ok (.aload_n 0, 1) := by decide +kernel
theorem dX5_reader_1 : decode cX5_reader 1 = .ok (.iload_n 1, 1) := by decide +kernel
theorem dX5_reader_2 : decode cX5_reader 2 = .ok (.invokevirtual 220, 3) := by decide +kernel
theorem dX5_reader_5 : decode cX5_reader 5 = .ok (.ifCond .eq 12, 3) := by decide +kernel
theorem dX5_reader_8 : decode cX5_reader 8 = .ok (.iload_n 2, 1) := by decide +kernel
theorem dX5_reader_9 : decode cX5_reader 9 = .ok (.iconst 0, 1) := by decide +kernel
theorem dX5_reader_10 : decode cX5_reader 10 = .ok (.iconst 3, 1) := by decide +kernel
theorem dX5_reader_11 : decode cX5_reader 11 = .ok (.invokestatic 109, 3) := by decide +kernel
theorem dX5_reader_14 : decode cX5_reader 14 = .ok (.ifCond .ne 5, 3) := by decide +kernel
theorem dX5_reader_17 : decode cX5_reader 17 = .ok (.iconst (-1), 1) := by decide +kernel
theorem dX5_reader_18 : decode cX5_reader 18 = .ok (.ireturn, 1) := by decide +kernel
theorem dX5_reader_19 : decode cX5_reader 19 = .ok (.iload_n 2, 1) := by decide +kernel
theorem dX5_reader_20 : decode cX5_reader 20 = .ok (.iconst 3, 1) := by decide +kernel
theorem dX5_reader_21 : decode cX5_reader 21 = .ok (.if_icmp .ge 14, 3) := by decide +kernel
theorem dX5_reader_24 : decode cX5_reader 24 = .ok (.aload_n 0, 1) := by decide +kernel
theorem dX5_reader_25 : decode cX5_reader 25 = .ok (.getfield 22, 3) := by decide +kernel
theorem dX5_reader_28 : decode cX5_reader 28 = .ok (.iconst 3, 1) := by decide +kernel
theorem dX5_reader_29 : decode cX5_reader 29 = .ok (.iload_n 1, 1) := by decide +kernel
theorem dX5_reader_30 : decode cX5_reader 30 = .ok (.imul, 1) := by decide +kernel
theorem dX5_reader_31 : decode cX5_reader 31 = .ok (.iload_n 2, 1) := by decide +kernel
theorem dX5_reader_32 : decode cX5_reader 32 = .ok (.iadd, 1) := by decide +kernel
theorem dX5_reader_33 : decode cX5_reader 33 = .ok (.iaload, 1) := by decide +kernel
theorem dX5_reader_34 : decode cX5_reader 34 = .ok (.ireturn, 1) := by decide +kernel
theorem dX5_reader_35 : decode cX5_reader 35 = .ok (.aload_n 0, 1) := by decide +kernel
theorem dX5_reader_36 : decode cX5_reader 36 = .ok (.iload_n 1, 1) := by decide +kernel
theorem dX5_reader_37 : decode cX5_reader 37 = .ok (.aload_n 0, 1) := by decide +kernel
theorem dX5_reader_38 : decode cX5_reader 38 = .ok (.invokevirtual 223, 3) := by decide +kernel
theorem dX5_reader_41 : decode cX5_reader 41 = .ok (.invokevirtual 226, 3) := by decide +kernel
theorem dX5_reader_44 : decode cX5_reader 44 = .ok (.aload_n 0, 1) := by decide +kernel
theorem dX5_reader_45 : decode cX5_reader 45 = .ok (.invokevirtual 229, 3) := by decide +kernel
theorem dX5_reader_48 : decode cX5_reader 48 = .ok (.ireturn, 1) := by decide +kernel
theorem dX5_isReading_0 : decode cX5_isReading 0 = .ok (.aload_n 0, 1) := by decide +kernel
theorem dX5_isReading_1 : decode cX5_isReading 1 = .ok (.iload_n 1, 1) := by decide +kernel
theorem dX5_isReading_2 : decode cX5_isReading 2 = .ok (.invokevirtual 220, 3) := by decide +kernel
theorem dX5_isReading_5 : decode cX5_isReading 5 = .ok (.ifCond .eq 7, 3) := by decide +kernel
theorem dX5_isReading_8 : decode cX5_isReading 8 = .ok (.iload_n 2, 1) := by decide +kernel
theorem dX5_isReading_9 : decode cX5_isReading 9 = .ok (.ifCond .ge 5, 3) := by decide +kernel
theorem dX5_isReading_12 : decode cX5_isReading 12 = .ok (.iconst 0, 1) := by decide +kernel
theorem dX5_isReading_13 : decode cX5_isReading 13 = .ok (.ireturn, 1) := by decide +kernel
theorem dX5_isReading_14 : decode cX5_isReading 14 = .ok (.aload_n 0, 1) := by decide +kernel
theorem dX5_isReading_15 : decode cX5_isReading 15 = .ok (.iload_n 1, 1) := by decide +kernel
theorem dX5_isReading_16 : decode cX5_isReading 16 = .ok (.aload_n 0, 1) := by decide +kernel
theorem dX5_isReading_17 : decode cX5_isReading 17 = .ok (.invokevirtual 223, 3) := by decide +kernel
theorem dX5_isReading_20 : decode cX5_isReading 20 = .ok (.invokevirtual 226, 3) := by decide +kernel
theorem dX5_isReading_23 : decode cX5_isReading 23 = .ok (.iconst 0, 1) := by decide +kernel
theorem dX5_isReading_24 : decode cX5_isReading 24 = .ok (.istore_n 3, 1) := by decide +kernel
theorem dX5_isReading_25 : decode cX5_isReading 25 = .ok (.aload_n 0, 1) := by decide +kernel
theorem dX5_isReading_26 : decode cX5_isReading 26 = .ok (.invokevirtual 202, 3) := by decide +kernel
theorem dX5_isReading_29 : decode cX5_isReading 29 = .ok (.ifCond .eq 16, 3) := by decide +kernel
theorem dX5_isReading_32 : decode cX5_isReading 32 = .ok (.iload_n 3, 1) := by decide +kernel
theorem dX5_isReading_33 : decode cX5_isReading 33 = .ok (.iload_n 2, 1) := by decide +kernel
theorem dX5_isReading_34 : decode cX5_isReading 34 = .ok (.if_icmp .ne 5, 3) := by decide +kernel
theorem dX5_isReading_37 : decode cX5_isReading 37 = .ok (.iconst 1, 1) := by decide +kernel
theorem dX5_isReading_38 : decode cX5_isReading 38 = .ok (.ireturn, 1) := by decide +kernel
theorem dX5_isReading_39 : decode cX5_isReading 39 = .ok (.iinc 3 1, 3) := by decide +kernel
theorem dX5_isReading_42 : decode cX5_isReading 42 = .ok (.goto (-17), 3) := by decide +kernel
theorem dX5_isReading_45 : decode cX5_isReading 45 = .ok (.iconst 0, 1) := by decide +kernel
theorem dX5_isReading_46 : decode cX5_isReading 46 = .ok (.ireturn, 1) := by decide +kernel
theorem dX5_reading_0 : decode cX5_reading 0 = .ok (.iload_n 3, 1) := by decide +kernel
theorem dX5_reading_1 : decode cX5_reading 1 = .ok (.iconst 0, 1) := by decide +kernel
theorem dX5_reading_2 : decode cX5_reading 2 = .ok (.iconst 2, 1) := by decide +kernel
theorem dX5_reading_3 : decode cX5_reading 3 = .ok (.invokestatic 109, 3) := by decide +kernel
theorem dX5_reading_6 : decode cX5_reading 6 = .ok (.ifCond .eq 12, 3) := by decide +kernel
theorem dX5_reading_9 : decode cX5_reading 9 = .ok (.aload_n 0, 1) := by decide +kernel
theorem dX5_reading_10 : decode cX5_reading 10 = .ok (.iload_n 1, 1) := by decide +kernel
theorem dX5_reading_11 : decode cX5_reading 11 = .ok (.iload_n 2, 1) := by decide +kernel
theorem dX5_reading_12 : decode cX5_reading 12 = .ok (.invokevirtual 232, 3) := by decide +kernel
theorem dX5_reading_15 : decode cX5_reading 15 = .ok (.ifCond .ne 5, 3) := by decide +kernel
theorem dX5_reading_18 : decode cX5_reading 18 = .ok (.iconst (-1), 1) := by decide +kernel
theorem dX5_reading_19 : decode cX5_reading 19 = .ok (.ireturn, 1) := by decide +kernel
theorem dX5_reading_20 : decode cX5_reading 20 = .ok (.iload_n 3, 1) := by decide +kernel
theorem dX5_reading_21 : decode cX5_reading 21 = .ok (.ifCond .ne 12, 3) := by decide +kernel
theorem dX5_reading_24 : decode cX5_reading 24 = .ok (.aload_n 0, 1) := by decide +kernel
theorem dX5_reading_25 : decode cX5_reading 25 = .ok (.getfield 182, 3) := by decide +kernel
theorem dX5_reading_28 : decode cX5_reading 28 = .ok (.iconst 1, 1) := by decide +kernel
theorem dX5_reading_29 : decode cX5_reading 29 = .ok (.iadd, 1) := by decide +kernel
theorem dX5_reading_30 : decode cX5_reading 30 = .ok (.goto 19, 3) := by decide +kernel
theorem dX5_reading_33 : decode cX5_reading 33 = .ok (.iload_n 3, 1) := by decide +kernel
theorem dX5_reading_34 : decode cX5_reading 34 = .ok (.iconst 1, 1) := by decide +kernel
theorem dX5_reading_35 : decode cX5_reading 35 = .ok (.if_icmp .ne 10, 3) := by decide +kernel
theorem dX5_reading_38 : decode cX5_reading 38 = .ok (.aload_n 0, 1) := by decide +kernel
theorem dX5_reading_39 : decode cX5_reading 39 = .ok (.invokevirtual 208, 3) := by decide +kernel
theorem dX5_reading_42 : decode cX5_reading 42 = .ok (.goto 7, 3) := by decide +kernel
theorem dX5_reading_45 : decode cX5_reading 45 = .ok (.aload_n 0, 1) := by decide +kernel
theorem dX5_reading_46 : decode cX5_reading 46 = .ok (.invokevirtual 214, 3) := by decide +kernel
theorem dX5_reading_49 : decode cX5_reading 49 = .ok (.ireturn, 1) := by decide +kernel
theorem dX5_word_0 : decode cX5_word 0 = .ok (.iload_n 3, 1) := by decide +kernel
theorem dX5_word_1 : decode cX5_word 1 = .ok (.ifCond .lt 12, 3) := by decide +kernel
theorem dX5_word_4 : decode cX5_word 4 = .ok (.aload_n 0, 1) := by decide +kernel
theorem dX5_word_5 : decode cX5_word 5 = .ok (.iload_n 1, 1) := by decide +kernel
theorem dX5_word_6 : decode cX5_word 6 = .ok (.iload_n 2, 1) := by decide +kernel
theorem dX5_word_7 : decode cX5_word 7 = .ok (.invokevirtual 232, 3) := by decide +kernel
theorem dX5_word_10 : decode cX5_word 10 = .ok (.ifCond .ne 5, 3) := by decide +kernel
theorem dX5_word_13 : decode cX5_word 13 = .ok (.iconst (-1), 1) := by decide +kernel
theorem dX5_word_14 : decode cX5_word 14 = .ok (.ireturn, 1) := by decide +kernel
theorem dX5_word_15 : decode cX5_word 15 = .ok (.iload_n 3, 1) := by decide +kernel
theorem dX5_word_16 : decode cX5_word 16 = .ok (.aload_n 0, 1) := by decide +kernel
theorem dX5_word_17 : decode cX5_word 17 = .ok (.getfield 182, 3) := by decide +kernel
theorem dX5_word_20 : decode cX5_word 20 = .ok (.if_icmp .le 8, 3) := by decide +kernel
theorem dX5_word_23 : decode cX5_word 23 = .ok (.bipush (-4), 2) := by decide +kernel
theorem dX5_word_25 : decode cX5_word 25 = .ok (.goto 9, 3) := by decide +kernel
theorem dX5_word_28 : decode cX5_word 28 = .ok (.aload_n 0, 1) := by decide +kernel
theorem dX5_word_29 : decode cX5_word 29 = .ok (.getfield 70, 3) := by decide +kernel
theorem dX5_word_32 : decode cX5_word 32 = .ok (.iload_n 3, 1) := by decide +kernel
theorem dX5_word_33 : decode cX5_word 33 = .ok (.iaload, 1) := by decide +kernel
theorem dX5_word_34 : decode cX5_word 34 = .ok (.ireturn, 1) := by decide +kernel
theorem dX5_tells_0 : decode cX5_tells 0 = .ok (.aload_n 0, 1) := by decide +kernel
theorem dX5_tells_1 : decode cX5_tells 1 = .ok (.iload_n 1, 1) := by decide +kernel
theorem dX5_tells_2 : decode cX5_tells 2 = .ok (.invokevirtual 220, 3) := by decide +kernel
theorem dX5_tells_5 : decode cX5_tells 5 = .ok (.ifCond .eq 12, 3) := by decide +kernel
theorem dX5_tells_8 : decode cX5_tells 8 = .ok (.iload_n 2, 1) := by decide +kernel
theorem dX5_tells_9 : decode cX5_tells 9 = .ok (.iconst 0, 1) := by decide +kernel
theorem dX5_tells_10 : decode cX5_tells 10 = .ok (.iconst 2, 1) := by decide +kernel
theorem dX5_tells_11 : decode cX5_tells 11 = .ok (.invokestatic 109, 3) := by decide +kernel
theorem dX5_tells_14 : decode cX5_tells 14 = .ok (.ifCond .ne 5, 3) := by decide +kernel
theorem dX5_tells_17 : decode cX5_tells 17 = .ok (.iconst (-1), 1) := by decide +kernel
theorem dX5_tells_18 : decode cX5_tells 18 = .ok (.ireturn, 1) := by decide +kernel
theorem dX5_tells_19 : decode cX5_tells 19 = .ok (.aload_n 0, 1) := by decide +kernel
theorem dX5_tells_20 : decode cX5_tells 20 = .ok (.iload_n 1, 1) := by decide +kernel
theorem dX5_tells_21 : decode cX5_tells 21 = .ok (.aload_n 0, 1) := by decide +kernel
theorem dX5_tells_22 : decode cX5_tells 22 = .ok (.invokevirtual 223, 3) := by decide +kernel
theorem dX5_tells_25 : decode cX5_tells 25 = .ok (.invokevirtual 226, 3) := by decide +kernel
theorem dX5_tells_28 : decode cX5_tells 28 = .ok (.aload_n 0, 1) := by decide +kernel
theorem dX5_tells_29 : decode cX5_tells 29 = .ok (.invokevirtual 235, 3) := by decide +kernel
theorem dX5_tells_32 : decode cX5_tells 32 = .ok (.ifCond .ne 6, 3) := by decide +kernel
theorem dX5_tells_35 : decode cX5_tells 35 = .ok (.bipush (-4), 2) := by decide +kernel
theorem dX5_tells_37 : decode cX5_tells 37 = .ok (.ireturn, 1) := by decide +kernel
theorem dX5_tells_38 : decode cX5_tells 38 = .ok (.iload_n 2, 1) := by decide +kernel
theorem dX5_tells_39 : decode cX5_tells 39 = .ok (.ifCond .ne 10, 3) := by decide +kernel
theorem dX5_tells_42 : decode cX5_tells 42 = .ok (.aload_n 0, 1) := by decide +kernel
theorem dX5_tells_43 : decode cX5_tells 43 = .ok (.getfield 205, 3) := by decide +kernel
theorem dX5_tells_46 : decode cX5_tells 46 = .ok (.goto 19, 3) := by decide +kernel
theorem dX5_tells_49 : decode cX5_tells 49 = .ok (.iload_n 2, 1) := by decide +kernel
theorem dX5_tells_50 : decode cX5_tells 50 = .ok (.iconst 1, 1) := by decide +kernel
theorem dX5_tells_51 : decode cX5_tells 51 = .ok (.if_icmp .ne 10, 3) := by decide +kernel
theorem dX5_tells_54 : decode cX5_tells 54 = .ok (.aload_n 0, 1) := by decide +kernel
theorem dX5_tells_55 : decode cX5_tells 55 = .ok (.getfield 211, 3) := by decide +kernel
theorem dX5_tells_58 : decode cX5_tells 58 = .ok (.goto 7, 3) := by decide +kernel
theorem dX5_tells_61 : decode cX5_tells 61 = .ok (.aload_n 0, 1) := by decide +kernel
theorem dX5_tells_62 : decode cX5_tells 62 = .ok (.getfield 217, 3) := by decide +kernel
theorem dX5_tells_65 : decode cX5_tells 65 = .ok (.ireturn, 1) := by decide +kernel
theorem dX5_remembers_0 : decode cX5_remembers 0 = .ok (.aload_n 0, 1) := by decide +kernel
theorem dX5_remembers_1 : decode cX5_remembers 1 = .ok (.getfield 164, 3) := by decide +kernel
theorem dX5_remembers_4 : decode cX5_remembers 4 = .ok (.bipush 8, 2) := by decide +kernel
theorem dX5_remembers_6 : decode cX5_remembers 6 = .ok (.if_icmp .ne 42, 3) := by decide +kernel
theorem dX5_remembers_9 : decode cX5_remembers 9 = .ok (.iconst 0, 1) := by decide +kernel
theorem dX5_remembers_10 : decode cX5_remembers 10 = .ok (.istore_n 1, 1) := by decide +kernel
theorem dX5_remembers_11 : decode cX5_remembers 11 = .ok (.iload_n 1, 1) := by decide +kernel
theorem dX5_remembers_12 : decode cX5_remembers 12 = .ok (.bipush 98, 2) := by decide +kernel
theorem dX5_remembers_14 : decode cX5_remembers 14 = .ok (.if_icmp .ge 24, 3) := by decide +kernel
theorem dX5_remembers_17 : decode cX5_remembers 17 = .ok (.aload_n 0, 1) := by decide +kernel
theorem dX5_remembers_18 : decode cX5_remembers 18 = .ok (.getfield 31, 3) := by decide +kernel
theorem dX5_remembers_21 : decode cX5_remembers 21 = .ok (.iload_n 1, 1) := by decide +kernel
theorem dX5_remembers_22 : decode cX5_remembers 22 = .ok (.aload_n 0, 1) := by decide +kernel
theorem dX5_remembers_23 : decode cX5_remembers 23 = .ok (.getfield 31, 3) := by decide +kernel
theorem dX5_remembers_26 : decode cX5_remembers 26 = .ok (.iload_n 1, 1) := by decide +kernel
theorem dX5_remembers_27 : decode cX5_remembers 27 = .ok (.bipush 14, 2) := by decide +kernel
theorem dX5_remembers_29 : decode cX5_remembers 29 = .ok (.iadd, 1) := by decide +kernel
theorem dX5_remembers_30 : decode cX5_remembers 30 = .ok (.iaload, 1) := by decide +kernel
theorem dX5_remembers_31 : decode cX5_remembers 31 = .ok (.iastore, 1) := by decide +kernel
theorem dX5_remembers_32 : decode cX5_remembers 32 = .ok (.iinc 1 1, 3) := by decide +kernel
theorem dX5_remembers_35 : decode cX5_remembers 35 = .ok (.goto (-24), 3) := by decide +kernel
theorem dX5_remembers_38 : decode cX5_remembers 38 = .ok (.aload_n 0, 1) := by decide +kernel
theorem dX5_remembers_39 : decode cX5_remembers 39 = .ok (.dup, 1) := by decide +kernel
theorem dX5_remembers_40 : decode cX5_remembers 40 = .ok (.getfield 164, 3) := by decide +kernel
theorem dX5_remembers_43 : decode cX5_remembers 43 = .ok (.iconst 1, 1) := by decide +kernel
theorem dX5_remembers_44 : decode cX5_remembers 44 = .ok (.isub, 1) := by decide +kernel
theorem dX5_remembers_45 : decode cX5_remembers 45 = .ok (.putfield 164, 3) := by decide +kernel
theorem dX5_remembers_48 : decode cX5_remembers 48 = .ok (.aload_n 0, 1) := by decide +kernel
theorem dX5_remembers_49 : decode cX5_remembers 49 = .ok (.getfield 31, 3) := by decide +kernel
theorem dX5_remembers_52 : decode cX5_remembers 52 = .ok (.bipush 14, 2) := by decide +kernel
theorem dX5_remembers_54 : decode cX5_remembers 54 = .ok (.aload_n 0, 1) := by decide +kernel
theorem dX5_remembers_55 : decode cX5_remembers 55 = .ok (.getfield 164, 3) := by decide +kernel
theorem dX5_remembers_58 : decode cX5_remembers 58 = .ok (.imul, 1) := by decide +kernel
theorem dX5_remembers_59 : decode cX5_remembers 59 = .ok (.aload_n 0, 1) := by decide +kernel
theorem dX5_remembers_60 : decode cX5_remembers 60 = .ok (.getfield 28, 3) := by decide +kernel
theorem dX5_remembers_63 : decode cX5_remembers 63 = .ok (.iconst 0, 1) := by decide +kernel
theorem dX5_remembers_64 : decode cX5_remembers 64 = .ok (.bipush 14, 2) := by decide +kernel
theorem dX5_remembers_66 : decode cX5_remembers 66 = .ok (.invokestatic 160, 3) := by decide +kernel
theorem dX5_remembers_69 : decode cX5_remembers 69 = .ok (.aload_n 0, 1) := by decide +kernel
theorem dX5_remembers_70 : decode cX5_remembers 70 = .ok (.dup, 1) := by decide +kernel
theorem dX5_remembers_71 : decode cX5_remembers 71 = .ok (.getfield 164, 3) := by decide +kernel
theorem dX5_remembers_74 : decode cX5_remembers 74 = .ok (.iconst 1, 1) := by decide +kernel
theorem dX5_remembers_75 : decode cX5_remembers 75 = .ok (.iadd, 1) := by decide +kernel
theorem dX5_remembers_76 : decode cX5_remembers 76 = .ok (.putfield 164, 3) := by decide +kernel
theorem dX5_remembers_79 : decode cX5_remembers 79 = .ok (.return_, 1) := by decide +kernel
theorem dX5_deepIn_0 : decode cX5_deepIn 0 = .ok (.iload_n 1, 1) := by decide +kernel
theorem dX5_deepIn_1 : decode cX5_deepIn 1 = .ok (.aload_n 0, 1) := by decide +kernel
theorem dX5_deepIn_2 : decode cX5_deepIn 2 = .ok (.getfield 25, 3) := by decide +kernel
theorem dX5_deepIn_5 : decode cX5_deepIn 5 = .ok (.iconst 1, 1) := by decide +kernel
theorem dX5_deepIn_6 : decode cX5_deepIn 6 = .ok (.iaload, 1) := by decide +kernel
theorem dX5_deepIn_7 : decode cX5_deepIn 7 = .ok (.if_icmp .gt 12, 3) := by decide +kernel
theorem dX5_deepIn_10 : decode cX5_deepIn 10 = .ok (.aload_n 0, 1) := by decide +kernel
theorem dX5_deepIn_11 : decode cX5_deepIn 11 = .ok (.getfield 25, 3) := by decide +kernel
theorem dX5_deepIn_14 : decode cX5_deepIn 14 = .ok (.iconst 0, 1) := by decide +kernel
theorem dX5_deepIn_15 : decode cX5_deepIn 15 = .ok (.iaload, 1) := by decide +kernel
theorem dX5_deepIn_16 : decode cX5_deepIn 16 = .ok (.goto 25, 3) := by decide +kernel
theorem dX5_deepIn_19 : decode cX5_deepIn 19 = .ok (.aload_n 0, 1) := by decide +kernel
theorem dX5_deepIn_20 : decode cX5_deepIn 20 = .ok (.getfield 25, 3) := by decide +kernel
theorem dX5_deepIn_23 : decode cX5_deepIn 23 = .ok (.iconst 0, 1) := by decide +kernel
theorem dX5_deepIn_24 : decode cX5_deepIn 24 = .ok (.iaload, 1) := by decide +kernel
theorem dX5_deepIn_25 : decode cX5_deepIn 25 = .ok (.aload_n 0, 1) := by decide +kernel
theorem dX5_deepIn_26 : decode cX5_deepIn 26 = .ok (.getfield 25, 3) := by decide +kernel
theorem dX5_deepIn_29 : decode cX5_deepIn 29 = .ok (.iconst 2, 1) := by decide +kernel
theorem dX5_deepIn_30 : decode cX5_deepIn 30 = .ok (.iaload, 1) := by decide +kernel
theorem dX5_deepIn_31 : decode cX5_deepIn 31 = .ok (.iload_n 1, 1) := by decide +kernel
theorem dX5_deepIn_32 : decode cX5_deepIn 32 = .ok (.aload_n 0, 1) := by decide +kernel
theorem dX5_deepIn_33 : decode cX5_deepIn 33 = .ok (.getfield 25, 3) := by decide +kernel
theorem dX5_deepIn_36 : decode cX5_deepIn 36 = .ok (.iconst 1, 1) := by decide +kernel
theorem dX5_deepIn_37 : decode cX5_deepIn 37 = .ok (.iaload, 1) := by decide +kernel
theorem dX5_deepIn_38 : decode cX5_deepIn 38 = .ok (.isub, 1) := by decide +kernel
theorem dX5_deepIn_39 : decode cX5_deepIn 39 = .ok (.imul, 1) := by decide +kernel
theorem dX5_deepIn_40 : decode cX5_deepIn 40 = .ok (.isub, 1) := by decide +kernel
theorem dX5_deepIn_41 : decode cX5_deepIn 41 = .ok (.istore_n 2, 1) := by decide +kernel
theorem dX5_deepIn_42 : decode cX5_deepIn 42 = .ok (.iload_n 2, 1) := by decide +kernel
theorem dX5_deepIn_43 : decode cX5_deepIn 43 = .ok (.ifCond .ge 7, 3) := by decide +kernel
theorem dX5_deepIn_46 : decode cX5_deepIn 46 = .ok (.iconst 0, 1) := by decide +kernel
theorem dX5_deepIn_47 : decode cX5_deepIn 47 = .ok (.goto 4, 3) := by decide +kernel
theorem dX5_deepIn_50 : decode cX5_deepIn 50 = .ok (.iload_n 2, 1) := by decide +kernel
theorem dX5_deepIn_51 : decode cX5_deepIn 51 = .ok (.ireturn, 1) := by decide +kernel
theorem dX5_fall_0 : decode cX5_fall 0 = .ok (.aload_n 0, 1) := by decide +kernel
theorem dX5_fall_1 : decode cX5_fall 1 = .ok (.getfield 25, 3) := by decide +kernel
theorem dX5_fall_4 : decode cX5_fall 4 = .ok (.iconst 1, 1) := by decide +kernel
theorem dX5_fall_5 : decode cX5_fall 5 = .ok (.iaload, 1) := by decide +kernel
theorem dX5_fall_6 : decode cX5_fall 6 = .ok (.istore_n 1, 1) := by decide +kernel
theorem dX5_fall_7 : decode cX5_fall 7 = .ok (.aload_n 0, 1) := by decide +kernel
theorem dX5_fall_8 : decode cX5_fall 8 = .ok (.iload_n 1, 1) := by decide +kernel
theorem dX5_fall_9 : decode cX5_fall 9 = .ok (.invokevirtual 238, 3) := by decide +kernel
theorem dX5_fall_12 : decode cX5_fall 12 = .ok (.iconst 2, 1) := by decide +kernel
theorem dX5_fall_13 : decode cX5_fall 13 = .ok (.if_icmp .le 9, 3) := by decide +kernel
theorem dX5_fall_16 : decode cX5_fall 16 = .ok (.iinc 1 1, 3) := by decide +kernel
theorem dX5_fall_19 : decode cX5_fall 19 = .ok (.goto (-12), 3) := by decide +kernel
theorem dX5_fall_22 : decode cX5_fall 22 = .ok (.iload_n 1, 1) := by decide +kernel
theorem dX5_fall_23 : decode cX5_fall 23 = .ok (.ireturn, 1) := by decide +kernel
theorem dX5_isFallen_0 : decode cX5_isFallen 0 = .ok (.aload_n 0, 1) := by decide +kernel
theorem dX5_isFallen_1 : decode cX5_isFallen 1 = .ok (.getfield 28, 3) := by decide +kernel
theorem dX5_isFallen_4 : decode cX5_isFallen 4 = .ok (.iconst 3, 1) := by decide +kernel
theorem dX5_isFallen_5 : decode cX5_isFallen 5 = .ok (.iaload, 1) := by decide +kernel
theorem dX5_isFallen_6 : decode cX5_isFallen 6 = .ok (.ifCond .ne 20, 3) := by decide +kernel
theorem dX5_isFallen_9 : decode cX5_isFallen 9 = .ok (.aload_n 0, 1) := by decide +kernel
theorem dX5_isFallen_10 : decode cX5_isFallen 10 = .ok (.getfield 28, 3) := by decide +kernel
theorem dX5_isFallen_13 : decode cX5_isFallen 13 = .ok (.iconst 0, 1) := by decide +kernel
theorem dX5_isFallen_14 : decode cX5_isFallen 14 = .ok (.iaload, 1) := by decide +kernel
theorem dX5_isFallen_15 : decode cX5_isFallen 15 = .ok (.aload_n 0, 1) := by decide +kernel
theorem dX5_isFallen_16 : decode cX5_isFallen 16 = .ok (.invokevirtual 241, 3) := by decide +kernel
theorem dX5_isFallen_19 : decode cX5_isFallen 19 = .ok (.if_icmp .lt 7, 3) := by decide +kernel
theorem dX5_isFallen_22 : decode cX5_isFallen 22 = .ok (.iconst 1, 1) := by decide +kernel
theorem dX5_isFallen_23 : decode cX5_isFallen 23 = .ok (.goto 4, 3) := by decide +kernel
theorem dX5_isFallen_26 : decode cX5_isFallen 26 = .ok (.iconst 0, 1) := by decide +kernel
theorem dX5_isFallen_27 : decode cX5_isFallen 27 = .ok (.ireturn, 1) := by decide +kernel
theorem dX5_verbsBy_0 : decode cX5_verbsBy 0 = .ok (.aload_n 0, 1) := by decide +kernel
theorem dX5_verbsBy_1 : decode cX5_verbsBy 1 = .ok (.iload_n 1, 1) := by decide +kernel
theorem dX5_verbsBy_2 : decode cX5_verbsBy 2 = .ok (.aload_n 0, 1) := by decide +kernel
theorem dX5_verbsBy_3 : decode cX5_verbsBy 3 = .ok (.invokevirtual 223, 3) := by decide +kernel
theorem dX5_verbsBy_6 : decode cX5_verbsBy 6 = .ok (.invokevirtual 226, 3) := by decide +kernel
theorem dX5_verbsBy_9 : decode cX5_verbsBy 9 = .ok (.aload_n 0, 1) := by decide +kernel
theorem dX5_verbsBy_10 : decode cX5_verbsBy 10 = .ok (.invokevirtual 235, 3) := by decide +kernel
theorem dX5_verbsBy_13 : decode cX5_verbsBy 13 = .ok (.ifCond .eq 10, 3) := by decide +kernel
theorem dX5_verbsBy_16 : decode cX5_verbsBy 16 = .ok (.aload_n 0, 1) := by decide +kernel
theorem dX5_verbsBy_17 : decode cX5_verbsBy 17 = .ok (.getfield 217, 3) := by decide +kernel
theorem dX5_verbsBy_20 : decode cX5_verbsBy 20 = .ok (.goto 4, 3) := by decide +kernel
theorem dX5_verbsBy_23 : decode cX5_verbsBy 23 = .ok (.iconst 0, 1) := by decide +kernel
theorem dX5_verbsBy_24 : decode cX5_verbsBy 24 = .ok (.ireturn, 1) := by decide +kernel
theorem dX5_ask_0 : decode cX5_ask 0 = .ok (.aload_n 0, 1) := by decide +kernel
theorem dX5_ask_1 : decode cX5_ask 1 = .ok (.iload_n 1, 1) := by decide +kernel
theorem dX5_ask_2 : decode cX5_ask 2 = .ok (.invokevirtual 220, 3) := by decide +kernel
theorem dX5_ask_5 : decode cX5_ask 5 = .ok (.ifCond .ne 5, 3) := by decide +kernel
theorem dX5_ask_8 : decode cX5_ask 8 = .ok (.iconst (-1), 1) := by decide +kernel
theorem dX5_ask_9 : decode cX5_ask 9 = .ok (.ireturn, 1) := by decide +kernel
theorem dX5_ask_10 : decode cX5_ask 10 = .ok (.aload_n 0, 1) := by decide +kernel
theorem dX5_ask_11 : decode cX5_ask 11 = .ok (.getfield 28, 3) := by decide +kernel
theorem dX5_ask_14 : decode cX5_ask 14 = .ok (.iconst 1, 1) := by decide +kernel
theorem dX5_ask_15 : decode cX5_ask 15 = .ok (.iaload, 1) := by decide +kernel
theorem dX5_ask_16 : decode cX5_ask 16 = .ok (.aload_n 0, 1) := by decide +kernel
theorem dX5_ask_17 : decode cX5_ask 17 = .ok (.getfield 22, 3) := by decide +kernel
theorem dX5_ask_20 : decode cX5_ask 20 = .ok (.iconst 3, 1) := by decide +kernel
theorem dX5_ask_21 : decode cX5_ask 21 = .ok (.iload_n 1, 1) := by decide +kernel
theorem dX5_ask_22 : decode cX5_ask 22 = .ok (.imul, 1) := by decide +kernel
theorem dX5_ask_23 : decode cX5_ask 23 = .ok (.iconst 2, 1) := by decide +kernel
theorem dX5_ask_24 : decode cX5_ask 24 = .ok (.iadd, 1) := by decide +kernel
theorem dX5_ask_25 : decode cX5_ask 25 = .ok (.iaload, 1) := by decide +kernel
theorem dX5_ask_26 : decode cX5_ask 26 = .ok (.if_icmp .ge 6, 3) := by decide +kernel
theorem dX5_ask_29 : decode cX5_ask 29 = .ok (.bipush (-2), 2) := by decide +kernel
theorem dX5_ask_31 : decode cX5_ask 31 = .ok (.ireturn, 1) := by decide +kernel
theorem dX5_ask_32 : decode cX5_ask 32 = .ok (.aload_n 0, 1) := by decide +kernel
theorem dX5_ask_33 : decode cX5_ask 33 = .ok (.invokevirtual 244, 3) := by decide +kernel
theorem dX5_ask_36 : decode cX5_ask 36 = .ok (.aload_n 0, 1) := by decide +kernel
theorem dX5_ask_37 : decode cX5_ask 37 = .ok (.getfield 28, 3) := by decide +kernel
theorem dX5_ask_40 : decode cX5_ask 40 = .ok (.iconst 1, 1) := by decide +kernel
theorem dX5_ask_41 : decode cX5_ask 41 = .ok (.dup2, 1) := by decide +kernel
theorem dX5_ask_42 : decode cX5_ask 42 = .ok (.iaload, 1) := by decide +kernel
theorem dX5_ask_43 : decode cX5_ask 43 = .ok (.aload_n 0, 1) := by decide +kernel
theorem dX5_ask_44 : decode cX5_ask 44 = .ok (.getfield 22, 3) := by decide +kernel
theorem dX5_ask_47 : decode cX5_ask 47 = .ok (.iconst 3, 1) := by decide +kernel
theorem dX5_ask_48 : decode cX5_ask 48 = .ok (.iload_n 1, 1) := by decide +kernel
theorem dX5_ask_49 : decode cX5_ask 49 = .ok (.imul, 1) := by decide +kernel
theorem dX5_ask_50 : decode cX5_ask 50 = .ok (.iconst 2, 1) := by decide +kernel
theorem dX5_ask_51 : decode cX5_ask 51 = .ok (.iadd, 1) := by decide +kernel
theorem dX5_ask_52 : decode cX5_ask 52 = .ok (.iaload, 1) := by decide +kernel
theorem dX5_ask_53 : decode cX5_ask 53 = .ok (.isub, 1) := by decide +kernel
theorem dX5_ask_54 : decode cX5_ask 54 = .ok (.iastore, 1) := by decide +kernel
theorem dX5_ask_55 : decode cX5_ask 55 = .ok (.aload_n 0, 1) := by decide +kernel
theorem dX5_ask_56 : decode cX5_ask 56 = .ok (.getfield 28, 3) := by decide +kernel
theorem dX5_ask_59 : decode cX5_ask 59 = .ok (.iconst 0, 1) := by decide +kernel
theorem dX5_ask_60 : decode cX5_ask 60 = .ok (.dup2, 1) := by decide +kernel
theorem dX5_ask_61 : decode cX5_ask 61 = .ok (.iaload, 1) := by decide +kernel
theorem dX5_ask_62 : decode cX5_ask 62 = .ok (.aload_n 0, 1) := by decide +kernel
theorem dX5_ask_63 : decode cX5_ask 63 = .ok (.getfield 22, 3) := by decide +kernel
theorem dX5_ask_66 : decode cX5_ask 66 = .ok (.iconst 3, 1) := by decide +kernel
theorem dX5_ask_67 : decode cX5_ask 67 = .ok (.iload_n 1, 1) := by decide +kernel
theorem dX5_ask_68 : decode cX5_ask 68 = .ok (.imul, 1) := by decide +kernel
theorem dX5_ask_69 : decode cX5_ask 69 = .ok (.iconst 1, 1) := by decide +kernel
theorem dX5_ask_70 : decode cX5_ask 70 = .ok (.iadd, 1) := by decide +kernel
theorem dX5_ask_71 : decode cX5_ask 71 = .ok (.iaload, 1) := by decide +kernel
theorem dX5_ask_72 : decode cX5_ask 72 = .ok (.iadd, 1) := by decide +kernel
theorem dX5_ask_73 : decode cX5_ask 73 = .ok (.iastore, 1) := by decide +kernel
theorem dX5_ask_74 : decode cX5_ask 74 = .ok (.aload_n 0, 1) := by decide +kernel
theorem dX5_ask_75 : decode cX5_ask 75 = .ok (.getfield 28, 3) := by decide +kernel
theorem dX5_ask_78 : decode cX5_ask 78 = .ok (.iconst 2, 1) := by decide +kernel
theorem dX5_ask_79 : decode cX5_ask 79 = .ok (.dup2, 1) := by decide +kernel
theorem dX5_ask_80 : decode cX5_ask 80 = .ok (.iaload, 1) := by decide +kernel
theorem dX5_ask_81 : decode cX5_ask 81 = .ok (.aload_n 0, 1) := by decide +kernel
theorem dX5_ask_82 : decode cX5_ask 82 = .ok (.iload_n 1, 1) := by decide +kernel
theorem dX5_ask_83 : decode cX5_ask 83 = .ok (.invokevirtual 247, 3) := by decide +kernel
theorem dX5_ask_86 : decode cX5_ask 86 = .ok (.ior, 1) := by decide +kernel
theorem dX5_ask_87 : decode cX5_ask 87 = .ok (.iastore, 1) := by decide +kernel
theorem dX5_ask_88 : decode cX5_ask 88 = .ok (.aload_n 0, 1) := by decide +kernel
theorem dX5_ask_89 : decode cX5_ask 89 = .ok (.getfield 28, 3) := by decide +kernel
theorem dX5_ask_92 : decode cX5_ask 92 = .ok (.iconst 2, 1) := by decide +kernel
theorem dX5_ask_93 : decode cX5_ask 93 = .ok (.iaload, 1) := by decide +kernel
theorem dX5_ask_94 : decode cX5_ask 94 = .ok (.ireturn, 1) := by decide +kernel
theorem dX5_shut_0 : decode cX5_shut 0 = .ok (.aload_n 0, 1) := by decide +kernel
theorem dX5_shut_1 : decode cX5_shut 1 = .ok (.getfield 28, 3) := by decide +kernel
theorem dX5_shut_4 : decode cX5_shut 4 = .ok (.iconst 2, 1) := by decide +kernel
theorem dX5_shut_5 : decode cX5_shut 5 = .ok (.iaload, 1) := by decide +kernel
theorem dX5_shut_6 : decode cX5_shut 6 = .ok (.iconst 1, 1) := by decide +kernel
theorem dX5_shut_7 : decode cX5_shut 7 = .ok (.invokestatic 192, 3) := by decide +kernel
theorem dX5_shut_10 : decode cX5_shut 10 = .ok (.ifCond .eq 20, 3) := by decide +kernel
theorem dX5_shut_13 : decode cX5_shut 13 = .ok (.aload_n 0, 1) := by decide +kernel
theorem dX5_shut_14 : decode cX5_shut 14 = .ok (.getfield 28, 3) := by decide +kernel
theorem dX5_shut_17 : decode cX5_shut 17 = .ok (.iconst 3, 1) := by decide +kernel
theorem dX5_shut_18 : decode cX5_shut 18 = .ok (.iaload, 1) := by decide +kernel
theorem dX5_shut_19 : decode cX5_shut 19 = .ok (.iconst 1, 1) := by decide +kernel
theorem dX5_shut_20 : decode cX5_shut 20 = .ok (.if_icmp .eq 10, 3) := by decide +kernel
theorem dX5_shut_23 : decode cX5_shut 23 = .ok (.aload_n 0, 1) := by decide +kernel
theorem dX5_shut_24 : decode cX5_shut 24 = .ok (.invokevirtual 250, 3) := by decide +kernel
theorem dX5_shut_27 : decode cX5_shut 27 = .ok (.ifCond .eq 6, 3) := by decide +kernel
theorem dX5_shut_30 : decode cX5_shut 30 = .ok (.bipush (-2), 2) := by decide +kernel
theorem dX5_shut_32 : decode cX5_shut 32 = .ok (.ireturn, 1) := by decide +kernel
theorem dX5_shut_33 : decode cX5_shut 33 = .ok (.aload_n 0, 1) := by decide +kernel
theorem dX5_shut_34 : decode cX5_shut 34 = .ok (.invokevirtual 244, 3) := by decide +kernel
theorem dX5_shut_37 : decode cX5_shut 37 = .ok (.aload_n 0, 1) := by decide +kernel
theorem dX5_shut_38 : decode cX5_shut 38 = .ok (.getfield 28, 3) := by decide +kernel
theorem dX5_shut_41 : decode cX5_shut 41 = .ok (.iconst 3, 1) := by decide +kernel
theorem dX5_shut_42 : decode cX5_shut 42 = .ok (.iconst 1, 1) := by decide +kernel
theorem dX5_shut_43 : decode cX5_shut 43 = .ok (.iastore, 1) := by decide +kernel
theorem dX5_shut_44 : decode cX5_shut 44 = .ok (.aload_n 0, 1) := by decide +kernel
theorem dX5_shut_45 : decode cX5_shut 45 = .ok (.invokevirtual 241, 3) := by decide +kernel
theorem dX5_shut_48 : decode cX5_shut 48 = .ok (.aload_n 0, 1) := by decide +kernel
theorem dX5_shut_49 : decode cX5_shut 49 = .ok (.getfield 28, 3) := by decide +kernel
theorem dX5_shut_52 : decode cX5_shut 52 = .ok (.iconst 0, 1) := by decide +kernel
theorem dX5_shut_53 : decode cX5_shut 53 = .ok (.iaload, 1) := by decide +kernel
theorem dX5_shut_54 : decode cX5_shut 54 = .ok (.isub, 1) := by decide +kernel
theorem dX5_shut_55 : decode cX5_shut 55 = .ok (.ireturn, 1) := by decide +kernel
theorem dX5_carve_0 : decode cX5_carve 0 = .ok (.iload_n 1, 1) := by decide +kernel
theorem dX5_carve_1 : decode cX5_carve 1 = .ok (.iconst 0, 1) := by decide +kernel
theorem dX5_carve_2 : decode cX5_carve 2 = .ok (.iconst 4, 1) := by decide +kernel
theorem dX5_carve_3 : decode cX5_carve 3 = .ok (.invokestatic 109, 3) := by decide +kernel
theorem dX5_carve_6 : decode cX5_carve 6 = .ok (.ifCond .ne 5, 3) := by decide +kernel
theorem dX5_carve_9 : decode cX5_carve 9 = .ok (.iconst (-1), 1) := by decide +kernel
theorem dX5_carve_10 : decode cX5_carve 10 = .ok (.ireturn, 1) := by decide +kernel
theorem dX5_carve_11 : decode cX5_carve 11 = .ok (.aload_n 0, 1) := by decide +kernel
theorem dX5_carve_12 : decode cX5_carve 12 = .ok (.getfield 28, 3) := by decide +kernel
theorem dX5_carve_15 : decode cX5_carve 15 = .ok (.iconst 4, 1) := by decide +kernel
theorem dX5_carve_16 : decode cX5_carve 16 = .ok (.iaload, 1) := by decide +kernel
theorem dX5_carve_17 : decode cX5_carve 17 = .ok (.bipush 9, 2) := by decide +kernel
theorem dX5_carve_19 : decode cX5_carve 19 = .ok (.if_icmp .ne 6, 3) := by decide +kernel
theorem dX5_carve_22 : decode cX5_carve 22 = .ok (.bipush (-3), 2) := by decide +kernel
theorem dX5_carve_24 : decode cX5_carve 24 = .ok (.ireturn, 1) := by decide +kernel
theorem dX5_carve_25 : decode cX5_carve 25 = .ok (.aload_n 0, 1) := by decide +kernel
theorem dX5_carve_26 : decode cX5_carve 26 = .ok (.invokevirtual 244, 3) := by decide +kernel
theorem dX5_carve_29 : decode cX5_carve 29 = .ok (.aload_n 0, 1) := by decide +kernel
theorem dX5_carve_30 : decode cX5_carve 30 = .ok (.getfield 28, 3) := by decide +kernel
theorem dX5_carve_33 : decode cX5_carve 33 = .ok (.iconst 5, 1) := by decide +kernel
theorem dX5_carve_34 : decode cX5_carve 34 = .ok (.aload_n 0, 1) := by decide +kernel
theorem dX5_carve_35 : decode cX5_carve 35 = .ok (.getfield 28, 3) := by decide +kernel
theorem dX5_carve_38 : decode cX5_carve 38 = .ok (.iconst 4, 1) := by decide +kernel
theorem dX5_carve_39 : decode cX5_carve 39 = .ok (.iaload, 1) := by decide +kernel
theorem dX5_carve_40 : decode cX5_carve 40 = .ok (.iadd, 1) := by decide +kernel
theorem dX5_carve_41 : decode cX5_carve 41 = .ok (.iload_n 1, 1) := by decide +kernel
theorem dX5_carve_42 : decode cX5_carve 42 = .ok (.iastore, 1) := by decide +kernel
theorem dX5_carve_43 : decode cX5_carve 43 = .ok (.aload_n 0, 1) := by decide +kernel
theorem dX5_carve_44 : decode cX5_carve 44 = .ok (.getfield 28, 3) := by decide +kernel
theorem dX5_carve_47 : decode cX5_carve 47 = .ok (.iconst 4, 1) := by decide +kernel
theorem dX5_carve_48 : decode cX5_carve 48 = .ok (.dup2, 1) := by decide +kernel
theorem dX5_carve_49 : decode cX5_carve 49 = .ok (.iaload, 1) := by decide +kernel
theorem dX5_carve_50 : decode cX5_carve 50 = .ok (.iconst 1, 1) := by decide +kernel
theorem dX5_carve_51 : decode cX5_carve 51 = .ok (.iadd, 1) := by decide +kernel
theorem dX5_carve_52 : decode cX5_carve 52 = .ok (.iastore, 1) := by decide +kernel
theorem dX5_carve_53 : decode cX5_carve 53 = .ok (.aload_n 0, 1) := by decide +kernel
theorem dX5_carve_54 : decode cX5_carve 54 = .ok (.getfield 28, 3) := by decide +kernel
theorem dX5_carve_57 : decode cX5_carve 57 = .ok (.iconst 4, 1) := by decide +kernel
theorem dX5_carve_58 : decode cX5_carve 58 = .ok (.iaload, 1) := by decide +kernel
theorem dX5_carve_59 : decode cX5_carve 59 = .ok (.ireturn, 1) := by decide +kernel
theorem dX5_rub_0 : decode cX5_rub 0 = .ok (.aload_n 0, 1) := by decide +kernel
theorem dX5_rub_1 : decode cX5_rub 1 = .ok (.getfield 28, 3) := by decide +kernel
theorem dX5_rub_4 : decode cX5_rub 4 = .ok (.iconst 4, 1) := by decide +kernel
theorem dX5_rub_5 : decode cX5_rub 5 = .ok (.iaload, 1) := by decide +kernel
theorem dX5_rub_6 : decode cX5_rub 6 = .ok (.ifCond .ne 6, 3) := by decide +kernel
theorem dX5_rub_9 : decode cX5_rub 9 = .ok (.bipush (-2), 2) := by decide +kernel
theorem dX5_rub_11 : decode cX5_rub 11 = .ok (.ireturn, 1) := by decide +kernel
theorem dX5_rub_12 : decode cX5_rub 12 = .ok (.aload_n 0, 1) := by decide +kernel
theorem dX5_rub_13 : decode cX5_rub 13 = .ok (.invokevirtual 244, 3) := by decide +kernel
theorem dX5_rub_16 : decode cX5_rub 16 = .ok (.aload_n 0, 1) := by decide +kernel
theorem dX5_rub_17 : decode cX5_rub 17 = .ok (.getfield 28, 3) := by decide +kernel
theorem dX5_rub_20 : decode cX5_rub 20 = .ok (.iconst 4, 1) := by decide +kernel
theorem dX5_rub_21 : decode cX5_rub 21 = .ok (.dup2, 1) := by decide +kernel
theorem dX5_rub_22 : decode cX5_rub 22 = .ok (.iaload, 1) := by decide +kernel
theorem dX5_rub_23 : decode cX5_rub 23 = .ok (.iconst 1, 1) := by decide +kernel
theorem dX5_rub_24 : decode cX5_rub 24 = .ok (.isub, 1) := by decide +kernel
theorem dX5_rub_25 : decode cX5_rub 25 = .ok (.iastore, 1) := by decide +kernel
theorem dX5_rub_26 : decode cX5_rub 26 = .ok (.aload_n 0, 1) := by decide +kernel
theorem dX5_rub_27 : decode cX5_rub 27 = .ok (.getfield 28, 3) := by decide +kernel
theorem dX5_rub_30 : decode cX5_rub 30 = .ok (.iconst 4, 1) := by decide +kernel
theorem dX5_rub_31 : decode cX5_rub 31 = .ok (.iaload, 1) := by decide +kernel
theorem dX5_rub_32 : decode cX5_rub 32 = .ok (.ireturn, 1) := by decide +kernel
theorem dX5_pass_0 : decode cX5_pass 0 = .ok (.iload_n 1, 1) := by decide +kernel
theorem dX5_pass_1 : decode cX5_pass 1 = .ok (.iconst 1, 1) := by decide +kernel
theorem dX5_pass_2 : decode cX5_pass 2 = .ok (.bipush 24, 2) := by decide +kernel
theorem dX5_pass_4 : decode cX5_pass 4 = .ok (.invokestatic 109, 3) := by decide +kernel
theorem dX5_pass_7 : decode cX5_pass 7 = .ok (.ifCond .ne 5, 3) := by decide +kernel
theorem dX5_pass_10 : decode cX5_pass 10 = .ok (.iconst (-1), 1) := by decide +kernel
theorem dX5_pass_11 : decode cX5_pass 11 = .ok (.ireturn, 1) := by decide +kernel
theorem dX5_pass_12 : decode cX5_pass 12 = .ok (.aload_n 0, 1) := by decide +kernel
theorem dX5_pass_13 : decode cX5_pass 13 = .ok (.invokevirtual 244, 3) := by decide +kernel
theorem dX5_pass_16 : decode cX5_pass 16 = .ok (.aload_n 0, 1) := by decide +kernel
theorem dX5_pass_17 : decode cX5_pass 17 = .ok (.getfield 28, 3) := by decide +kernel
theorem dX5_pass_20 : decode cX5_pass 20 = .ok (.iconst 0, 1) := by decide +kernel
theorem dX5_pass_21 : decode cX5_pass 21 = .ok (.dup2, 1) := by decide +kernel
theorem dX5_pass_22 : decode cX5_pass 22 = .ok (.iaload, 1) := by decide +kernel
theorem dX5_pass_23 : decode cX5_pass 23 = .ok (.iload_n 1, 1) := by decide +kernel
theorem dX5_pass_24 : decode cX5_pass 24 = .ok (.iadd, 1) := by decide +kernel
theorem dX5_pass_25 : decode cX5_pass 25 = .ok (.iastore, 1) := by decide +kernel
theorem dX5_pass_26 : decode cX5_pass 26 = .ok (.aload_n 0, 1) := by decide +kernel
theorem dX5_pass_27 : decode cX5_pass 27 = .ok (.aload_n 0, 1) := by decide +kernel
theorem dX5_pass_28 : decode cX5_pass 28 = .ok (.getfield 28, 3) := by decide +kernel
theorem dX5_pass_31 : decode cX5_pass 31 = .ok (.iconst 0, 1) := by decide +kernel
theorem dX5_pass_32 : decode cX5_pass 32 = .ok (.iaload, 1) := by decide +kernel
theorem dX5_pass_33 : decode cX5_pass 33 = .ok (.invokevirtual 238, 3) := by decide +kernel
theorem dX5_pass_36 : decode cX5_pass 36 = .ok (.ireturn, 1) := by decide +kernel
theorem dX5_undo_0 : decode cX5_undo 0 = .ok (.aload_n 0, 1) := by decide +kernel
theorem dX5_undo_1 : decode cX5_undo 1 = .ok (.getfield 164, 3) := by decide +kernel
theorem dX5_undo_4 : decode cX5_undo 4 = .ok (.ifCond .ne 6, 3) := by decide +kernel
theorem dX5_undo_7 : decode cX5_undo 7 = .ok (.bipush (-2), 2) := by decide +kernel
theorem dX5_undo_9 : decode cX5_undo 9 = .ok (.ireturn, 1) := by decide +kernel
theorem dX5_undo_10 : decode cX5_undo 10 = .ok (.aload_n 0, 1) := by decide +kernel
theorem dX5_undo_11 : decode cX5_undo 11 = .ok (.dup, 1) := by decide +kernel
theorem dX5_undo_12 : decode cX5_undo 12 = .ok (.getfield 164, 3) := by decide +kernel
theorem dX5_undo_15 : decode cX5_undo 15 = .ok (.iconst 1, 1) := by decide +kernel
theorem dX5_undo_16 : decode cX5_undo 16 = .ok (.isub, 1) := by decide +kernel
theorem dX5_undo_17 : decode cX5_undo 17 = .ok (.putfield 164, 3) := by decide +kernel
theorem dX5_undo_20 : decode cX5_undo 20 = .ok (.aload_n 0, 1) := by decide +kernel
theorem dX5_undo_21 : decode cX5_undo 21 = .ok (.getfield 28, 3) := by decide +kernel
theorem dX5_undo_24 : decode cX5_undo 24 = .ok (.iconst 0, 1) := by decide +kernel
theorem dX5_undo_25 : decode cX5_undo 25 = .ok (.aload_n 0, 1) := by decide +kernel
theorem dX5_undo_26 : decode cX5_undo 26 = .ok (.getfield 31, 3) := by decide +kernel
theorem dX5_undo_29 : decode cX5_undo 29 = .ok (.bipush 14, 2) := by decide +kernel
theorem dX5_undo_31 : decode cX5_undo 31 = .ok (.aload_n 0, 1) := by decide +kernel
theorem dX5_undo_32 : decode cX5_undo 32 = .ok (.getfield 164, 3) := by decide +kernel
theorem dX5_undo_35 : decode cX5_undo 35 = .ok (.imul, 1) := by decide +kernel
theorem dX5_undo_36 : decode cX5_undo 36 = .ok (.bipush 14, 2) := by decide +kernel
theorem dX5_undo_38 : decode cX5_undo 38 = .ok (.invokestatic 160, 3) := by decide +kernel
theorem dX5_undo_41 : decode cX5_undo 41 = .ok (.aload_n 0, 1) := by decide +kernel
theorem dX5_undo_42 : decode cX5_undo 42 = .ok (.getfield 164, 3) := by decide +kernel
theorem dX5_undo_45 : decode cX5_undo 45 = .ok (.ireturn, 1) := by decide +kernel
theorem dX5_lowest_0 : decode cX5_lowest 0 = .ok (.iload_n 0, 1) := by decide +kernel
theorem dX5_lowest_1 : decode cX5_lowest 1 = .ok (.istore_n 3, 1) := by decide +kernel
theorem dX5_lowest_2 : decode cX5_lowest 2 = .ok (.iload_n 1, 1) := by decide +kernel
theorem dX5_lowest_3 : decode cX5_lowest 3 = .ok (.istore 4, 2) := by decide +kernel
theorem dX5_lowest_5 : decode cX5_lowest 5 = .ok (.iload 4, 2) := by decide +kernel
theorem dX5_lowest_7 : decode cX5_lowest 7 = .ok (.ifCond .le 19, 3) := by decide +kernel
theorem dX5_lowest_10 : decode cX5_lowest 10 = .ok (.iload_n 3, 1) := by decide +kernel
theorem dX5_lowest_11 : decode cX5_lowest 11 = .ok (.iload 4, 2) := by decide +kernel
theorem dX5_lowest_13 : decode cX5_lowest 13 = .ok (.irem, 1) := by decide +kernel
theorem dX5_lowest_14 : decode cX5_lowest 14 = .ok (.istore 5, 2) := by decide +kernel
theorem dX5_lowest_16 : decode cX5_lowest 16 = .ok (.iload 4, 2) := by decide +kernel
theorem dX5_lowest_18 : decode cX5_lowest 18 = .ok (.istore_n 3, 1) := by decide +kernel
theorem dX5_lowest_19 : decode cX5_lowest 19 = .ok (.iload 5, 2) := by decide +kernel
theorem dX5_lowest_21 : decode cX5_lowest 21 = .ok (.istore 4, 2) := by decide +kernel
theorem dX5_lowest_23 : decode cX5_lowest 23 = .ok (.goto (-18), 3) := by decide +kernel
theorem dX5_lowest_26 : decode cX5_lowest 26 = .ok (.iload_n 2, 1) := by decide +kernel
theorem dX5_lowest_27 : decode cX5_lowest 27 = .ok (.ifCond .ne 7, 3) := by decide +kernel
theorem dX5_lowest_30 : decode cX5_lowest 30 = .ok (.iload_n 0, 1) := by decide +kernel
theorem dX5_lowest_31 : decode cX5_lowest 31 = .ok (.goto 4, 3) := by decide +kernel
theorem dX5_lowest_34 : decode cX5_lowest 34 = .ok (.iload_n 1, 1) := by decide +kernel
theorem dX5_lowest_35 : decode cX5_lowest 35 = .ok (.iload_n 3, 1) := by decide +kernel
theorem dX5_lowest_36 : decode cX5_lowest 36 = .ok (.idiv, 1) := by decide +kernel
theorem dX5_lowest_37 : decode cX5_lowest 37 = .ok (.ireturn, 1) := by decide +kernel
theorem dX5_belief_0 : decode cX5_belief 0 = .ok (.aload_n 0, 1) := by decide +kernel
theorem dX5_belief_1 : decode cX5_belief 1 = .ok (.iload_n 1, 1) := by decide +kernel
theorem dX5_belief_2 : decode cX5_belief 2 = .ok (.invokevirtual 220, 3) := by decide +kernel
theorem dX5_belief_5 : decode cX5_belief 5 = .ok (.ifCond .eq 21, 3) := by decide +kernel
theorem dX5_belief_8 : decode cX5_belief 8 = .ok (.iload_n 2, 1) := by decide +kernel
theorem dX5_belief_9 : decode cX5_belief 9 = .ok (.iconst 1, 1) := by decide +kernel
theorem dX5_belief_10 : decode cX5_belief 10 = .ok (.iconst 3, 1) := by decide +kernel
theorem dX5_belief_11 : decode cX5_belief 11 = .ok (.invokestatic 109, 3) := by decide +kernel
theorem dX5_belief_14 : decode cX5_belief 14 = .ok (.ifCond .eq 12, 3) := by decide +kernel
theorem dX5_belief_17 : decode cX5_belief 17 = .ok (.iload_n 3, 1) := by decide +kernel
theorem dX5_belief_18 : decode cX5_belief 18 = .ok (.iconst 0, 1) := by decide +kernel
theorem dX5_belief_19 : decode cX5_belief 19 = .ok (.iconst 1, 1) := by decide +kernel
theorem dX5_belief_20 : decode cX5_belief 20 = .ok (.invokestatic 109, 3) := by decide +kernel
theorem dX5_belief_23 : decode cX5_belief 23 = .ok (.ifCond .ne 5, 3) := by decide +kernel
theorem dX5_belief_26 : decode cX5_belief 26 = .ok (.iconst (-1), 1) := by decide +kernel
theorem dX5_belief_27 : decode cX5_belief 27 = .ok (.ireturn, 1) := by decide +kernel
theorem dX5_belief_28 : decode cX5_belief 28 = .ok (.aload_n 0, 1) := by decide +kernel
theorem dX5_belief_29 : decode cX5_belief 29 = .ok (.iload_n 1, 1) := by decide +kernel
theorem dX5_belief_30 : decode cX5_belief 30 = .ok (.aload_n 0, 1) := by decide +kernel
theorem dX5_belief_31 : decode cX5_belief 31 = .ok (.invokevirtual 223, 3) := by decide +kernel
theorem dX5_belief_34 : decode cX5_belief 34 = .ok (.invokevirtual 226, 3) := by decide +kernel
theorem dX5_belief_37 : decode cX5_belief 37 = .ok (.iconst 0, 1) := by decide +kernel
theorem dX5_belief_38 : decode cX5_belief 38 = .ok (.istore 4, 2) := by decide +kernel
theorem dX5_belief_40 : decode cX5_belief 40 = .ok (.iconst 0, 1) := by decide +kernel
theorem dX5_belief_41 : decode cX5_belief 41 = .ok (.istore 5, 2) := by decide +kernel
theorem dX5_belief_43 : decode cX5_belief 43 = .ok (.aload_n 0, 1) := by decide +kernel
theorem dX5_belief_44 : decode cX5_belief 44 = .ok (.invokevirtual 202, 3) := by decide +kernel
theorem dX5_belief_47 : decode cX5_belief 47 = .ok (.ifCond .eq 30, 3) := by decide +kernel
theorem dX5_belief_50 : decode cX5_belief 50 = .ok (.iload 4, 2) := by decide +kernel
theorem dX5_belief_52 : decode cX5_belief 52 = .ok (.aload_n 0, 1) := by decide +kernel
theorem dX5_belief_53 : decode cX5_belief 53 = .ok (.invokevirtual 214, 3) := by decide +kernel
theorem dX5_belief_56 : decode cX5_belief 56 = .ok (.iload_n 2, 1) := by decide +kernel
theorem dX5_belief_57 : decode cX5_belief 57 = .ok (.invokestatic 192, 3) := by decide +kernel
theorem dX5_belief_60 : decode cX5_belief 60 = .ok (.ifCond .eq 7, 3) := by decide +kernel
theorem dX5_belief_63 : decode cX5_belief 63 = .ok (.iconst 1, 1) := by decide +kernel
theorem dX5_belief_64 : decode cX5_belief 64 = .ok (.goto 4, 3) := by decide +kernel
theorem dX5_belief_67 : decode cX5_belief 67 = .ok (.iconst 0, 1) := by decide +kernel
theorem dX5_belief_68 : decode cX5_belief 68 = .ok (.iadd, 1) := by decide +kernel
theorem dX5_belief_69 : decode cX5_belief 69 = .ok (.istore 4, 2) := by decide +kernel
theorem dX5_belief_71 : decode cX5_belief 71 = .ok (.iinc 5 1, 3) := by decide +kernel
theorem dX5_belief_74 : decode cX5_belief 74 = .ok (.goto (-31), 3) := by decide +kernel
theorem dX5_belief_77 : decode cX5_belief 77 = .ok (.iload 4, 2) := by decide +kernel
theorem dX5_belief_79 : decode cX5_belief 79 = .ok (.iload 5, 2) := by decide +kernel
theorem dX5_belief_81 : decode cX5_belief 81 = .ok (.ifCond .ne 7, 3) := by decide +kernel
theorem dX5_belief_84 : decode cX5_belief 84 = .ok (.iconst 1, 1) := by decide +kernel
theorem dX5_belief_85 : decode cX5_belief 85 = .ok (.goto 5, 3) := by decide +kernel
theorem dX5_belief_88 : decode cX5_belief 88 = .ok (.iload 5, 2) := by decide +kernel
theorem dX5_belief_90 : decode cX5_belief 90 = .ok (.iload_n 3, 1) := by decide +kernel
theorem dX5_belief_91 : decode cX5_belief 91 = .ok (.invokestatic 253, 3) := by decide +kernel
theorem dX5_belief_94 : decode cX5_belief 94 = .ok (.ireturn, 1) := by decide +kernel
theorem dX5_isReadable_0 : decode cX5_isReadable 0 = .ok (.aload_n 0, 1) := by decide +kernel
theorem dX5_isReadable_1 : decode cX5_isReadable 1 = .ok (.iload_n 1, 1) := by decide +kernel
theorem dX5_isReadable_2 : decode cX5_isReadable 2 = .ok (.iload_n 2, 1) := by decide +kernel
theorem dX5_isReadable_3 : decode cX5_isReadable 3 = .ok (.invokevirtual 226, 3) := by decide +kernel
theorem dX5_isReadable_6 : decode cX5_isReadable 6 = .ok (.aload_n 0, 1) := by decide +kernel
theorem dX5_isReadable_7 : decode cX5_isReadable 7 = .ok (.invokevirtual 202, 3) := by decide +kernel
theorem dX5_isReadable_10 : decode cX5_isReadable 10 = .ok (.ireturn, 1) := by decide +kernel
theorem dX5_without_0 : decode cX5_without 0 = .ok (.aload_n 0, 1) := by decide +kernel
theorem dX5_without_1 : decode cX5_without 1 = .ok (.iload_n 1, 1) := by decide +kernel
theorem dX5_without_2 : decode cX5_without 2 = .ok (.invokevirtual 220, 3) := by decide +kernel
theorem dX5_without_5 : decode cX5_without 5 = .ok (.ifCond .ne 5, 3) := by decide +kernel
theorem dX5_without_8 : decode cX5_without 8 = .ok (.iconst (-1), 1) := by decide +kernel
theorem dX5_without_9 : decode cX5_without 9 = .ok (.ireturn, 1) := by decide +kernel
theorem dX5_without_10 : decode cX5_without 10 = .ok (.aload_n 0, 1) := by decide +kernel
theorem dX5_without_11 : decode cX5_without 11 = .ok (.iload_n 1, 1) := by decide +kernel
theorem dX5_without_12 : decode cX5_without 12 = .ok (.aload_n 0, 1) := by decide +kernel
theorem dX5_without_13 : decode cX5_without 13 = .ok (.invokevirtual 223, 3) := by decide +kernel
theorem dX5_without_16 : decode cX5_without 16 = .ok (.invokevirtual 257, 3) := by decide +kernel
theorem dX5_without_19 : decode cX5_without 19 = .ok (.ifCond .ne 6, 3) := by decide +kernel
theorem dX5_without_22 : decode cX5_without 22 = .ok (.bipush (-4), 2) := by decide +kernel
theorem dX5_without_24 : decode cX5_without 24 = .ok (.ireturn, 1) := by decide +kernel
theorem dX5_without_25 : decode cX5_without 25 = .ok (.iconst 0, 1) := by decide +kernel
theorem dX5_without_26 : decode cX5_without 26 = .ok (.istore_n 2, 1) := by decide +kernel
theorem dX5_without_27 : decode cX5_without 27 = .ok (.iconst 0, 1) := by decide +kernel
theorem dX5_without_28 : decode cX5_without 28 = .ok (.istore_n 3, 1) := by decide +kernel
theorem dX5_without_29 : decode cX5_without 29 = .ok (.iload_n 3, 1) := by decide +kernel
theorem dX5_without_30 : decode cX5_without 30 = .ok (.aload_n 0, 1) := by decide +kernel
theorem dX5_without_31 : decode cX5_without 31 = .ok (.getfield 157, 3) := by decide +kernel
theorem dX5_without_34 : decode cX5_without 34 = .ok (.if_icmp .ge 37, 3) := by decide +kernel
theorem dX5_without_37 : decode cX5_without 37 = .ok (.iload_n 2, 1) := by decide +kernel
theorem dX5_without_38 : decode cX5_without 38 = .ok (.aload_n 0, 1) := by decide +kernel
theorem dX5_without_39 : decode cX5_without 39 = .ok (.iload_n 1, 1) := by decide +kernel
theorem dX5_without_40 : decode cX5_without 40 = .ok (.aload_n 0, 1) := by decide +kernel
theorem dX5_without_41 : decode cX5_without 41 = .ok (.invokevirtual 223, 3) := by decide +kernel
theorem dX5_without_44 : decode cX5_without 44 = .ok (.iconst 1, 1) := by decide +kernel
theorem dX5_without_45 : decode cX5_without 45 = .ok (.iload_n 3, 1) := by decide +kernel
theorem dX5_without_46 : decode cX5_without 46 = .ok (.ishl, 1) := by decide +kernel
theorem dX5_without_47 : decode cX5_without 47 = .ok (.iconst (-1), 1) := by decide +kernel
theorem dX5_without_48 : decode cX5_without 48 = .ok (.ixor, 1) := by decide +kernel
theorem dX5_without_49 : decode cX5_without 49 = .ok (.iand, 1) := by decide +kernel
theorem dX5_without_50 : decode cX5_without 50 = .ok (.invokevirtual 257, 3) := by decide +kernel
theorem dX5_without_53 : decode cX5_without 53 = .ok (.ifCond .eq 7, 3) := by decide +kernel
theorem dX5_without_56 : decode cX5_without 56 = .ok (.iconst 0, 1) := by decide +kernel
theorem dX5_without_57 : decode cX5_without 57 = .ok (.goto 6, 3) := by decide +kernel
theorem dX5_without_60 : decode cX5_without 60 = .ok (.iconst 1, 1) := by decide +kernel
theorem dX5_without_61 : decode cX5_without 61 = .ok (.iload_n 3, 1) := by decide +kernel
theorem dX5_without_62 : decode cX5_without 62 = .ok (.ishl, 1) := by decide +kernel
theorem dX5_without_63 : decode cX5_without 63 = .ok (.ior, 1) := by decide +kernel
theorem dX5_without_64 : decode cX5_without 64 = .ok (.istore_n 2, 1) := by decide +kernel
theorem dX5_without_65 : decode cX5_without 65 = .ok (.iinc 3 1, 3) := by decide +kernel
theorem dX5_without_68 : decode cX5_without 68 = .ok (.goto (-39), 3) := by decide +kernel
theorem dX5_without_71 : decode cX5_without 71 = .ok (.iload_n 2, 1) := by decide +kernel
theorem dX5_without_72 : decode cX5_without 72 = .ok (.ireturn, 1) := by decide +kernel
theorem dX5_isRow_0 : decode cX5_isRow 0 = .ok (.aload_n 0, 1) := by decide +kernel
theorem dX5_isRow_1 : decode cX5_isRow 1 = .ok (.iload_n 2, 1) := by decide +kernel
theorem dX5_isRow_2 : decode cX5_isRow 2 = .ok (.putfield 179, 3) := by decide +kernel
theorem dX5_isRow_5 : decode cX5_isRow 5 = .ok (.iload_n 1, 1) := by decide +kernel
theorem dX5_isRow_6 : decode cX5_isRow 6 = .ok (.istore_n 3, 1) := by decide +kernel
theorem dX5_isRow_7 : decode cX5_isRow 7 = .ok (.iload_n 2, 1) := by decide +kernel
theorem dX5_isRow_8 : decode cX5_isRow 8 = .ok (.iconst 1, 1) := by decide +kernel
theorem dX5_isRow_9 : decode cX5_isRow 9 = .ok (.isub, 1) := by decide +kernel
theorem dX5_isRow_10 : decode cX5_isRow 10 = .ok (.istore 4, 2) := by decide +kernel
theorem dX5_isRow_12 : decode cX5_isRow 12 = .ok (.iload 4, 2) := by decide +kernel
theorem dX5_isRow_14 : decode cX5_isRow 14 = .ok (.ifCond .lt 23, 3) := by decide +kernel
theorem dX5_isRow_17 : decode cX5_isRow 17 = .ok (.aload_n 0, 1) := by decide +kernel
theorem dX5_isRow_18 : decode cX5_isRow 18 = .ok (.getfield 67, 3) := by decide +kernel
theorem dX5_isRow_21 : decode cX5_isRow 21 = .ok (.iload 4, 2) := by decide +kernel
theorem dX5_isRow_23 : decode cX5_isRow 23 = .ok (.iload_n 3, 1) := by decide +kernel
theorem dX5_isRow_24 : decode cX5_isRow 24 = .ok (.iconst 5, 1) := by decide +kernel
theorem dX5_isRow_25 : decode cX5_isRow 25 = .ok (.irem, 1) := by decide +kernel
theorem dX5_isRow_26 : decode cX5_isRow 26 = .ok (.iastore, 1) := by decide +kernel
theorem dX5_isRow_27 : decode cX5_isRow 27 = .ok (.iload_n 3, 1) := by decide +kernel
theorem dX5_isRow_28 : decode cX5_isRow 28 = .ok (.iconst 5, 1) := by decide +kernel
theorem dX5_isRow_29 : decode cX5_isRow 29 = .ok (.idiv, 1) := by decide +kernel
theorem dX5_isRow_30 : decode cX5_isRow 30 = .ok (.istore_n 3, 1) := by decide +kernel
theorem dX5_isRow_31 : decode cX5_isRow 31 = .ok (.iinc 4 (-1), 3) := by decide +kernel
theorem dX5_isRow_34 : decode cX5_isRow 34 = .ok (.goto (-22), 3) := by decide +kernel
theorem dX5_isRow_37 : decode cX5_isRow 37 = .ok (.return_, 1) := by decide +kernel
theorem dX5_isReadingOf_0 : decode cX5_isReadingOf 0 = .ok (.aload_n 0, 1) := by decide +kernel
theorem dX5_isReadingOf_1 : decode cX5_isReadingOf 1 = .ok (.iload_n 1, 1) := by decide +kernel
theorem dX5_isReadingOf_2 : decode cX5_isReadingOf 2 = .ok (.iload_n 2, 1) := by decide +kernel
theorem dX5_isReadingOf_3 : decode cX5_isReadingOf 3 = .ok (.invokevirtual 260, 3) := by decide +kernel
theorem dX5_isReadingOf_6 : decode cX5_isReadingOf 6 = .ok (.aload_n 0, 1) := by decide +kernel
theorem dX5_isReadingOf_7 : decode cX5_isReadingOf 7 = .ok (.iload_n 3, 1) := by decide +kernel
theorem dX5_isReadingOf_8 : decode cX5_isReadingOf 8 = .ok (.aload_n 0, 1) := by decide +kernel
theorem dX5_isReadingOf_9 : decode cX5_isReadingOf 9 = .ok (.invokevirtual 223, 3) := by decide +kernel
theorem dX5_isReadingOf_12 : decode cX5_isReadingOf 12 = .ok (.invokevirtual 185, 3) := by decide +kernel
theorem dX5_isReadingOf_15 : decode cX5_isReadingOf 15 = .ok (.aload_n 0, 1) := by decide +kernel
theorem dX5_isReadingOf_16 : decode cX5_isReadingOf 16 = .ok (.invokevirtual 202, 3) := by decide +kernel
theorem dX5_isReadingOf_19 : decode cX5_isReadingOf 19 = .ok (.ireturn, 1) := by decide +kernel
theorem dX5_numberOf_0 : decode cX5_numberOf 0 = .ok (.aload_n 0, 1) := by decide +kernel
theorem dX5_numberOf_1 : decode cX5_numberOf 1 = .ok (.iload_n 1, 1) := by decide +kernel
theorem dX5_numberOf_2 : decode cX5_numberOf 2 = .ok (.iload_n 2, 1) := by decide +kernel
theorem dX5_numberOf_3 : decode cX5_numberOf 3 = .ok (.invokevirtual 260, 3) := by decide +kernel
theorem dX5_numberOf_6 : decode cX5_numberOf 6 = .ok (.iconst 0, 1) := by decide +kernel
theorem dX5_numberOf_7 : decode cX5_numberOf 7 = .ok (.istore_n 3, 1) := by decide +kernel
theorem dX5_numberOf_8 : decode cX5_numberOf 8 = .ok (.iconst 0, 1) := by decide +kernel
theorem dX5_numberOf_9 : decode cX5_numberOf 9 = .ok (.istore 4, 2) := by decide +kernel
theorem dX5_numberOf_11 : decode cX5_numberOf 11 = .ok (.iload 4, 2) := by decide +kernel
theorem dX5_numberOf_13 : decode cX5_numberOf 13 = .ok (.iload_n 2, 1) := by decide +kernel
theorem dX5_numberOf_14 : decode cX5_numberOf 14 = .ok (.if_icmp .ge 24, 3) := by decide +kernel
theorem dX5_numberOf_17 : decode cX5_numberOf 17 = .ok (.bipush 6, 2) := by decide +kernel
theorem dX5_numberOf_19 : decode cX5_numberOf 19 = .ok (.iload_n 3, 1) := by decide +kernel
theorem dX5_numberOf_20 : decode cX5_numberOf 20 = .ok (.imul, 1) := by decide +kernel
theorem dX5_numberOf_21 : decode cX5_numberOf 21 = .ok (.aload_n 0, 1) := by decide +kernel
theorem dX5_numberOf_22 : decode cX5_numberOf 22 = .ok (.getfield 67, 3) := by decide +kernel
theorem dX5_numberOf_25 : decode cX5_numberOf 25 = .ok (.iload 4, 2) := by decide +kernel
theorem dX5_numberOf_27 : decode cX5_numberOf 27 = .ok (.iaload, 1) := by decide +kernel
theorem dX5_numberOf_28 : decode cX5_numberOf 28 = .ok (.iadd, 1) := by decide +kernel
theorem dX5_numberOf_29 : decode cX5_numberOf 29 = .ok (.iconst 1, 1) := by decide +kernel
theorem dX5_numberOf_30 : decode cX5_numberOf 30 = .ok (.iadd, 1) := by decide +kernel
theorem dX5_numberOf_31 : decode cX5_numberOf 31 = .ok (.istore_n 3, 1) := by decide +kernel
theorem dX5_numberOf_32 : decode cX5_numberOf 32 = .ok (.iinc 4 1, 3) := by decide +kernel
theorem dX5_numberOf_35 : decode cX5_numberOf 35 = .ok (.goto (-24), 3) := by decide +kernel
theorem dX5_numberOf_38 : decode cX5_numberOf 38 = .ok (.iload_n 3, 1) := by decide +kernel
theorem dX5_numberOf_39 : decode cX5_numberOf 39 = .ok (.ireturn, 1) := by decide +kernel
theorem dX5_shortest_0 : decode cX5_shortest 0 = .ok (.aload_n 0, 1) := by decide +kernel
theorem dX5_shortest_1 : decode cX5_shortest 1 = .ok (.iload_n 1, 1) := by decide +kernel
theorem dX5_shortest_2 : decode cX5_shortest 2 = .ok (.invokevirtual 220, 3) := by decide +kernel
theorem dX5_shortest_5 : decode cX5_shortest 5 = .ok (.ifCond .eq 11, 3) := by decide +kernel
theorem dX5_shortest_8 : decode cX5_shortest 8 = .ok (.aload_n 0, 1) := by decide +kernel
theorem dX5_shortest_9 : decode cX5_shortest 9 = .ok (.iload_n 2, 1) := by decide +kernel
theorem dX5_shortest_10 : decode cX5_shortest 10 = .ok (.invokevirtual 220, 3) := by decide +kernel
theorem dX5_shortest_13 : decode cX5_shortest 13 = .ok (.ifCond .ne 5, 3) := by decide +kernel
theorem dX5_shortest_16 : decode cX5_shortest 16 = .ok (.iconst (-1), 1) := by decide +kernel
theorem dX5_shortest_17 : decode cX5_shortest 17 = .ok (.ireturn, 1) := by decide +kernel
theorem dX5_shortest_18 : decode cX5_shortest 18 = .ok (.iconst 1, 1) := by decide +kernel
theorem dX5_shortest_19 : decode cX5_shortest 19 = .ok (.istore_n 3, 1) := by decide +kernel
theorem dX5_shortest_20 : decode cX5_shortest 20 = .ok (.iconst 1, 1) := by decide +kernel
theorem dX5_shortest_21 : decode cX5_shortest 21 = .ok (.istore 4, 2) := by decide +kernel
theorem dX5_shortest_23 : decode cX5_shortest 23 = .ok (.iload 4, 2) := by decide +kernel
theorem dX5_shortest_25 : decode cX5_shortest 25 = .ok (.iconst 4, 1) := by decide +kernel
theorem dX5_shortest_26 : decode cX5_shortest 26 = .ok (.if_icmp .gt 61, 3) := by decide +kernel
theorem dX5_shortest_29 : decode cX5_shortest 29 = .ok (.iload_n 3, 1) := by decide +kernel
theorem dX5_shortest_30 : decode cX5_shortest 30 = .ok (.iconst 5, 1) := by decide +kernel
theorem dX5_shortest_31 : decode cX5_shortest 31 = .ok (.imul, 1) := by decide +kernel
theorem dX5_shortest_32 : decode cX5_shortest 32 = .ok (.istore_n 3, 1) := by decide +kernel
theorem dX5_shortest_33 : decode cX5_shortest 33 = .ok (.iconst 0, 1) := by decide +kernel
theorem dX5_shortest_34 : decode cX5_shortest 34 = .ok (.istore 5, 2) := by decide +kernel
theorem dX5_shortest_36 : decode cX5_shortest 36 = .ok (.iload 5, 2) := by decide +kernel
theorem dX5_shortest_38 : decode cX5_shortest 38 = .ok (.iload_n 3, 1) := by decide +kernel
theorem dX5_shortest_39 : decode cX5_shortest 39 = .ok (.if_icmp .ge 42, 3) := by decide +kernel
theorem dX5_shortest_42 : decode cX5_shortest 42 = .ok (.aload_n 0, 1) := by decide +kernel
theorem dX5_shortest_43 : decode cX5_shortest 43 = .ok (.iload 5, 2) := by decide +kernel
theorem dX5_shortest_45 : decode cX5_shortest 45 = .ok (.iload 4, 2) := by decide +kernel
theorem dX5_shortest_47 : decode cX5_shortest 47 = .ok (.iload_n 1, 1) := by decide +kernel
theorem dX5_shortest_48 : decode cX5_shortest 48 = .ok (.invokevirtual 263, 3) := by decide +kernel
theorem dX5_shortest_51 : decode cX5_shortest 51 = .ok (.ifCond .eq 24, 3) := by decide +kernel
theorem dX5_shortest_54 : decode cX5_shortest 54 = .ok (.aload_n 0, 1) := by decide +kernel
theorem dX5_shortest_55 : decode cX5_shortest 55 = .ok (.iload 5, 2) := by decide +kernel
theorem dX5_shortest_57 : decode cX5_shortest 57 = .ok (.iload 4, 2) := by decide +kernel
theorem dX5_shortest_59 : decode cX5_shortest 59 = .ok (.iload_n 2, 1) := by decide +kernel
theorem dX5_shortest_60 : decode cX5_shortest 60 = .ok (.invokevirtual 263, 3) := by decide +kernel
theorem dX5_shortest_63 : decode cX5_shortest 63 = .ok (.ifCond .ne 12, 3) := by decide +kernel
theorem dX5_shortest_66 : decode cX5_shortest 66 = .ok (.aload_n 0, 1) := by decide +kernel
theorem dX5_shortest_67 : decode cX5_shortest 67 = .ok (.iload 5, 2) := by decide +kernel
theorem dX5_shortest_69 : decode cX5_shortest 69 = .ok (.iload 4, 2) := by decide +kernel
theorem dX5_shortest_71 : decode cX5_shortest 71 = .ok (.invokevirtual 266, 3) := by decide +kernel
theorem dX5_shortest_74 : decode cX5_shortest 74 = .ok (.ireturn, 1) := by decide +kernel
theorem dX5_shortest_75 : decode cX5_shortest 75 = .ok (.iinc 5 1, 3) := by decide +kernel
theorem dX5_shortest_78 : decode cX5_shortest 78 = .ok (.goto (-42), 3) := by decide +kernel
theorem dX5_shortest_81 : decode cX5_shortest 81 = .ok (.iinc 4 1, 3) := by decide +kernel
theorem dX5_shortest_84 : decode cX5_shortest 84 = .ok (.goto (-61), 3) := by decide +kernel
theorem dX5_shortest_87 : decode cX5_shortest 87 = .ok (.bipush (-4), 2) := by decide +kernel
theorem dX5_shortest_89 : decode cX5_shortest 89 = .ok (.ireturn, 1) := by decide +kernel
theorem dX5_until_0 : decode cX5_until 0 = .ok (.aload_n 0, 1) := by decide +kernel
theorem dX5_until_1 : decode cX5_until 1 = .ok (.iload_n 1, 1) := by decide +kernel
theorem dX5_until_2 : decode cX5_until 2 = .ok (.invokevirtual 220, 3) := by decide +kernel
theorem dX5_until_5 : decode cX5_until 5 = .ok (.ifCond .ne 5, 3) := by decide +kernel
theorem dX5_until_8 : decode cX5_until 8 = .ok (.iconst (-1), 1) := by decide +kernel
theorem dX5_until_9 : decode cX5_until 9 = .ok (.ireturn, 1) := by decide +kernel
theorem dX5_until_10 : decode cX5_until 10 = .ok (.aload_n 0, 1) := by decide +kernel
theorem dX5_until_11 : decode cX5_until 11 = .ok (.invokevirtual 241, 3) := by decide +kernel
theorem dX5_until_14 : decode cX5_until 14 = .ok (.aload_n 0, 1) := by decide +kernel
theorem dX5_until_15 : decode cX5_until 15 = .ok (.getfield 22, 3) := by decide +kernel
theorem dX5_until_18 : decode cX5_until 18 = .ok (.iconst 3, 1) := by decide +kernel
theorem dX5_until_19 : decode cX5_until 19 = .ok (.iload_n 1, 1) := by decide +kernel
theorem dX5_until_20 : decode cX5_until 20 = .ok (.imul, 1) := by decide +kernel
theorem dX5_until_21 : decode cX5_until 21 = .ok (.iconst 1, 1) := by decide +kernel
theorem dX5_until_22 : decode cX5_until 22 = .ok (.iadd, 1) := by decide +kernel
theorem dX5_until_23 : decode cX5_until 23 = .ok (.iaload, 1) := by decide +kernel
theorem dX5_until_24 : decode cX5_until 24 = .ok (.isub, 1) := by decide +kernel
theorem dX5_until_25 : decode cX5_until 25 = .ok (.iconst 1, 1) := by decide +kernel
theorem dX5_until_26 : decode cX5_until 26 = .ok (.isub, 1) := by decide +kernel
theorem dX5_until_27 : decode cX5_until 27 = .ok (.istore_n 2, 1) := by decide +kernel
theorem dX5_until_28 : decode cX5_until 28 = .ok (.aload_n 0, 1) := by decide +kernel
theorem dX5_until_29 : decode cX5_until 29 = .ok (.iload_n 1, 1) := by decide +kernel
theorem dX5_until_30 : decode cX5_until 30 = .ok (.invokevirtual 247, 3) := by decide +kernel
theorem dX5_until_33 : decode cX5_until 33 = .ok (.iconst 1, 1) := by decide +kernel
theorem dX5_until_34 : decode cX5_until 34 = .ok (.invokestatic 192, 3) := by decide +kernel
theorem dX5_until_37 : decode cX5_until 37 = .ok (.ifCond .eq 17, 3) := by decide +kernel
theorem dX5_until_40 : decode cX5_until 40 = .ok (.iload_n 2, 1) := by decide +kernel
theorem dX5_until_41 : decode cX5_until 41 = .ok (.aload_n 0, 1) := by decide +kernel
theorem dX5_until_42 : decode cX5_until 42 = .ok (.getfield 28, 3) := by decide +kernel
theorem dX5_until_45 : decode cX5_until 45 = .ok (.iconst 0, 1) := by decide +kernel
theorem dX5_until_46 : decode cX5_until 46 = .ok (.iaload, 1) := by decide +kernel
theorem dX5_until_47 : decode cX5_until 47 = .ok (.if_icmp .lt 7, 3) := by decide +kernel
theorem dX5_until_50 : decode cX5_until 50 = .ok (.iload_n 2, 1) := by decide +kernel
theorem dX5_until_51 : decode cX5_until 51 = .ok (.goto 5, 3) := by decide +kernel
theorem dX5_until_54 : decode cX5_until 54 = .ok (.bipush (-4), 2) := by decide +kernel
theorem dX5_until_56 : decode cX5_until 56 = .ok (.ireturn, 1) := by decide +kernel
theorem dX5_enough_0 : decode cX5_enough 0 = .ok (.iload_n 1, 1) := by decide +kernel
theorem dX5_enough_1 : decode cX5_enough 1 = .ok (.iconst 2, 1) := by decide +kernel
theorem dX5_enough_2 : decode cX5_enough 2 = .ok (.bipush 14, 2) := by decide +kernel
theorem dX5_enough_4 : decode cX5_enough 4 = .ok (.invokestatic 109, 3) := by decide +kernel
theorem dX5_enough_7 : decode cX5_enough 7 = .ok (.ifCond .eq 19, 3) := by decide +kernel
theorem dX5_enough_10 : decode cX5_enough 10 = .ok (.iload_n 1, 1) := by decide +kernel
theorem dX5_enough_11 : decode cX5_enough 11 = .ok (.iconst 2, 1) := by decide +kernel
theorem dX5_enough_12 : decode cX5_enough 12 = .ok (.irem, 1) := by decide +kernel
theorem dX5_enough_13 : decode cX5_enough 13 = .ok (.iconst 1, 1) := by decide +kernel
theorem dX5_enough_14 : decode cX5_enough 14 = .ok (.if_icmp .eq 12, 3) := by decide +kernel
theorem dX5_enough_17 : decode cX5_enough 17 = .ok (.iload_n 2, 1) := by decide +kernel
theorem dX5_enough_18 : decode cX5_enough 18 = .ok (.iconst 0, 1) := by decide +kernel
theorem dX5_enough_19 : decode cX5_enough 19 = .ok (.iconst 2, 1) := by decide +kernel
theorem dX5_enough_20 : decode cX5_enough 20 = .ok (.invokestatic 109, 3) := by decide +kernel
theorem dX5_enough_23 : decode cX5_enough 23 = .ok (.ifCond .ne 5, 3) := by decide +kernel
theorem dX5_enough_26 : decode cX5_enough 26 = .ok (.iconst (-1), 1) := by decide +kernel
theorem dX5_enough_27 : decode cX5_enough 27 = .ok (.ireturn, 1) := by decide +kernel
theorem dX5_enough_28 : decode cX5_enough 28 = .ok (.bipush (-4), 2) := by decide +kernel
theorem dX5_enough_30 : decode cX5_enough 30 = .ok (.istore_n 3, 1) := by decide +kernel
theorem dX5_enough_31 : decode cX5_enough 31 = .ok (.iconst 0, 1) := by decide +kernel
theorem dX5_enough_32 : decode cX5_enough 32 = .ok (.istore 4, 2) := by decide +kernel
theorem dX5_enough_34 : decode cX5_enough 34 = .ok (.iconst 0, 1) := by decide +kernel
theorem dX5_enough_35 : decode cX5_enough 35 = .ok (.istore 5, 2) := by decide +kernel
theorem dX5_enough_37 : decode cX5_enough 37 = .ok (.iconst 0, 1) := by decide +kernel
theorem dX5_enough_38 : decode cX5_enough 38 = .ok (.istore 6, 2) := by decide +kernel
theorem dX5_enough_40 : decode cX5_enough 40 = .ok (.iload 6, 2) := by decide +kernel
theorem dX5_enough_42 : decode cX5_enough 42 = .ok (.iconst 1, 1) := by decide +kernel
theorem dX5_enough_43 : decode cX5_enough 43 = .ok (.aload_n 0, 1) := by decide +kernel
theorem dX5_enough_44 : decode cX5_enough 44 = .ok (.getfield 106, 3) := by decide +kernel
theorem dX5_enough_47 : decode cX5_enough 47 = .ok (.ishl, 1) := by decide +kernel
theorem dX5_enough_48 : decode cX5_enough 48 = .ok (.if_icmp .ge 177, 3) := by decide +kernel
theorem dX5_enough_51 : decode cX5_enough 51 = .ok (.iconst 0, 1) := by decide +kernel
theorem dX5_enough_52 : decode cX5_enough 52 = .ok (.istore 7, 2) := by decide +kernel
theorem dX5_enough_54 : decode cX5_enough 54 = .ok (.iconst 0, 1) := by decide +kernel
theorem dX5_enough_55 : decode cX5_enough 55 = .ok (.istore 8, 2) := by decide +kernel
theorem dX5_enough_57 : decode cX5_enough 57 = .ok (.aload_n 0, 1) := by decide +kernel
theorem dX5_enough_58 : decode cX5_enough 58 = .ok (.getfield 28, 3) := by decide +kernel
theorem dX5_enough_61 : decode cX5_enough 61 = .ok (.iconst 2, 1) := by decide +kernel
theorem dX5_enough_62 : decode cX5_enough 62 = .ok (.iaload, 1) := by decide +kernel
theorem dX5_enough_63 : decode cX5_enough 63 = .ok (.istore 9, 2) := by decide +kernel
theorem dX5_enough_65 : decode cX5_enough 65 = .ok (.iconst 0, 1) := by decide +kernel
theorem dX5_enough_66 : decode cX5_enough 66 = .ok (.istore 10, 2) := by decide +kernel
theorem dX5_enough_68 : decode cX5_enough 68 = .ok (.iload 10, 2) := by decide +kernel
theorem dX5_enough_70 : decode cX5_enough 70 = .ok (.aload_n 0, 1) := by decide +kernel
theorem dX5_enough_71 : decode cX5_enough 71 = .ok (.getfield 106, 3) := by decide +kernel
theorem dX5_enough_74 : decode cX5_enough 74 = .ok (.if_icmp .ge 62, 3) := by decide +kernel
theorem dX5_enough_77 : decode cX5_enough 77 = .ok (.iload 6, 2) := by decide +kernel
theorem dX5_enough_79 : decode cX5_enough 79 = .ok (.iload 10, 2) := by decide +kernel
theorem dX5_enough_81 : decode cX5_enough 81 = .ok (.invokestatic 192, 3) := by decide +kernel
theorem dX5_enough_84 : decode cX5_enough 84 = .ok (.ifCond .eq 46, 3) := by decide +kernel
theorem dX5_enough_87 : decode cX5_enough 87 = .ok (.iload 7, 2) := by decide +kernel
theorem dX5_enough_89 : decode cX5_enough 89 = .ok (.aload_n 0, 1) := by decide +kernel
theorem dX5_enough_90 : decode cX5_enough 90 = .ok (.getfield 22, 3) := by decide +kernel
theorem dX5_enough_93 : decode cX5_enough 93 = .ok (.iconst 3, 1) := by decide +kernel
theorem dX5_enough_94 : decode cX5_enough 94 = .ok (.iload 10, 2) := by decide +kernel
theorem dX5_enough_96 : decode cX5_enough 96 = .ok (.imul, 1) := by decide +kernel
theorem dX5_enough_97 : decode cX5_enough 97 = .ok (.iconst 2, 1) := by decide +kernel
theorem dX5_enough_98 : decode cX5_enough 98 = .ok (.iadd, 1) := by decide +kernel
theorem dX5_enough_99 : decode cX5_enough 99 = .ok (.iaload, 1) := by decide +kernel
theorem dX5_enough_100 : decode cX5_enough 100 = .ok (.iadd, 1) := by decide +kernel
theorem dX5_enough_101 : decode cX5_enough 101 = .ok (.istore 7, 2) := by decide +kernel
theorem dX5_enough_103 : decode cX5_enough 103 = .ok (.iload 8, 2) := by decide +kernel
theorem dX5_enough_105 : decode cX5_enough 105 = .ok (.aload_n 0, 1) := by decide +kernel
theorem dX5_enough_106 : decode cX5_enough 106 = .ok (.getfield 22, 3) := by decide +kernel
theorem dX5_enough_109 : decode cX5_enough 109 = .ok (.iconst 3, 1) := by decide +kernel
theorem dX5_enough_110 : decode cX5_enough 110 = .ok (.iload 10, 2) := by decide +kernel
theorem dX5_enough_112 : decode cX5_enough 112 = .ok (.imul, 1) := by decide +kernel
theorem dX5_enough_113 : decode cX5_enough 113 = .ok (.iconst 1, 1) := by decide +kernel
theorem dX5_enough_114 : decode cX5_enough 114 = .ok (.iadd, 1) := by decide +kernel
theorem dX5_enough_115 : decode cX5_enough 115 = .ok (.iaload, 1) := by decide +kernel
theorem dX5_enough_116 : decode cX5_enough 116 = .ok (.iadd, 1) := by decide +kernel
theorem dX5_enough_117 : decode cX5_enough 117 = .ok (.istore 8, 2) := by decide +kernel
theorem dX5_enough_119 : decode cX5_enough 119 = .ok (.iload 9, 2) := by decide +kernel
theorem dX5_enough_121 : decode cX5_enough 121 = .ok (.aload_n 0, 1) := by decide +kernel
theorem dX5_enough_122 : decode cX5_enough 122 = .ok (.iload 10, 2) := by decide +kernel
theorem dX5_enough_124 : decode cX5_enough 124 = .ok (.invokevirtual 247, 3) := by decide +kernel
theorem dX5_enough_127 : decode cX5_enough 127 = .ok (.ior, 1) := by decide +kernel
theorem dX5_enough_128 : decode cX5_enough 128 = .ok (.istore 9, 2) := by decide +kernel
theorem dX5_enough_130 : decode cX5_enough 130 = .ok (.iinc 10 1, 3) := by decide +kernel
theorem dX5_enough_133 : decode cX5_enough 133 = .ok (.goto (-65), 3) := by decide +kernel
theorem dX5_enough_136 : decode cX5_enough 136 = .ok (.iload 7, 2) := by decide +kernel
theorem dX5_enough_138 : decode cX5_enough 138 = .ok (.aload_n 0, 1) := by decide +kernel
theorem dX5_enough_139 : decode cX5_enough 139 = .ok (.getfield 28, 3) := by decide +kernel
theorem dX5_enough_142 : decode cX5_enough 142 = .ok (.iconst 1, 1) := by decide +kernel
theorem dX5_enough_143 : decode cX5_enough 143 = .ok (.iaload, 1) := by decide +kernel
theorem dX5_enough_144 : decode cX5_enough 144 = .ok (.if_icmp .gt 31, 3) := by decide +kernel
theorem dX5_enough_147 : decode cX5_enough 147 = .ok (.aload_n 0, 1) := by decide +kernel
theorem dX5_enough_148 : decode cX5_enough 148 = .ok (.getfield 28, 3) := by decide +kernel
theorem dX5_enough_151 : decode cX5_enough 151 = .ok (.iconst 0, 1) := by decide +kernel
theorem dX5_enough_152 : decode cX5_enough 152 = .ok (.iaload, 1) := by decide +kernel
theorem dX5_enough_153 : decode cX5_enough 153 = .ok (.iload 8, 2) := by decide +kernel
theorem dX5_enough_155 : decode cX5_enough 155 = .ok (.iadd, 1) := by decide +kernel
theorem dX5_enough_156 : decode cX5_enough 156 = .ok (.aload_n 0, 1) := by decide +kernel
theorem dX5_enough_157 : decode cX5_enough 157 = .ok (.invokevirtual 241, 3) := by decide +kernel
theorem dX5_enough_160 : decode cX5_enough 160 = .ok (.if_icmp .ge 15, 3) := by decide +kernel
theorem dX5_enough_163 : decode cX5_enough 163 = .ok (.iload 9, 2) := by decide +kernel
theorem dX5_enough_165 : decode cX5_enough 165 = .ok (.iload_n 1, 1) := by decide +kernel
theorem dX5_enough_166 : decode cX5_enough 166 = .ok (.iand, 1) := by decide +kernel
theorem dX5_enough_167 : decode cX5_enough 167 = .ok (.iload_n 1, 1) := by decide +kernel
theorem dX5_enough_168 : decode cX5_enough 168 = .ok (.if_icmp .ne 7, 3) := by decide +kernel
theorem dX5_enough_171 : decode cX5_enough 171 = .ok (.iconst 1, 1) := by decide +kernel
theorem dX5_enough_172 : decode cX5_enough 172 = .ok (.goto 4, 3) := by decide +kernel
theorem dX5_enough_175 : decode cX5_enough 175 = .ok (.iconst 0, 1) := by decide +kernel
theorem dX5_enough_176 : decode cX5_enough 176 = .ok (.istore 10, 2) := by decide +kernel
theorem dX5_enough_178 : decode cX5_enough 178 = .ok (.iload 10, 2) := by decide +kernel
theorem dX5_enough_180 : decode cX5_enough 180 = .ok (.ifCond .eq 39, 3) := by decide +kernel
theorem dX5_enough_183 : decode cX5_enough 183 = .ok (.iload_n 3, 1) := by decide +kernel
theorem dX5_enough_184 : decode cX5_enough 184 = .ok (.ifCond .lt 24, 3) := by decide +kernel
theorem dX5_enough_187 : decode cX5_enough 187 = .ok (.iload 7, 2) := by decide +kernel
theorem dX5_enough_189 : decode cX5_enough 189 = .ok (.iload 4, 2) := by decide +kernel
theorem dX5_enough_191 : decode cX5_enough 191 = .ok (.if_icmp .lt 17, 3) := by decide +kernel
theorem dX5_enough_194 : decode cX5_enough 194 = .ok (.iload 7, 2) := by decide +kernel
theorem dX5_enough_196 : decode cX5_enough 196 = .ok (.iload 4, 2) := by decide +kernel
theorem dX5_enough_198 : decode cX5_enough 198 = .ok (.if_icmp .ne 21, 3) := by decide +kernel
theorem dX5_enough_201 : decode cX5_enough 201 = .ok (.iload 8, 2) := by decide +kernel
theorem dX5_enough_203 : decode cX5_enough 203 = .ok (.iload 5, 2) := by decide +kernel
theorem dX5_enough_205 : decode cX5_enough 205 = .ok (.if_icmp .ge 14, 3) := by decide +kernel
theorem dX5_enough_208 : decode cX5_enough 208 = .ok (.iload 6, 2) := by decide +kernel
theorem dX5_enough_210 : decode cX5_enough 210 = .ok (.istore_n 3, 1) := by decide +kernel
theorem dX5_enough_211 : decode cX5_enough 211 = .ok (.iload 7, 2) := by decide +kernel
theorem dX5_enough_213 : decode cX5_enough 213 = .ok (.istore 4, 2) := by decide +kernel
theorem dX5_enough_215 : decode cX5_enough 215 = .ok (.iload 8, 2) := by decide +kernel
theorem dX5_enough_217 : decode cX5_enough 217 = .ok (.istore 5, 2) := by decide +kernel
theorem dX5_enough_219 : decode cX5_enough 219 = .ok (.iinc 6 1, 3) := by decide +kernel
theorem dX5_enough_222 : decode cX5_enough 222 = .ok (.goto (-182), 3) := by decide +kernel
theorem dX5_enough_225 : decode cX5_enough 225 = .ok (.iload_n 3, 1) := by decide +kernel
theorem dX5_enough_226 : decode cX5_enough 226 = .ok (.ifCond .lt 7, 3) := by decide +kernel
theorem dX5_enough_229 : decode cX5_enough 229 = .ok (.iload_n 2, 1) := by decide +kernel
theorem dX5_enough_230 : decode cX5_enough 230 = .ok (.ifCond .ne 7, 3) := by decide +kernel
theorem dX5_enough_233 : decode cX5_enough 233 = .ok (.iload_n 3, 1) := by decide +kernel
theorem dX5_enough_234 : decode cX5_enough 234 = .ok (.goto 15, 3) := by decide +kernel
theorem dX5_enough_237 : decode cX5_enough 237 = .ok (.iload_n 2, 1) := by decide +kernel
theorem dX5_enough_238 : decode cX5_enough 238 = .ok (.iconst 1, 1) := by decide +kernel
theorem dX5_enough_239 : decode cX5_enough 239 = .ok (.if_icmp .ne 8, 3) := by decide +kernel
theorem dX5_enough_242 : decode cX5_enough 242 = .ok (.iload 4, 2) := by decide +kernel
theorem dX5_enough_244 : decode cX5_enough 244 = .ok (.goto 5, 3) := by decide +kernel
theorem dX5_enough_247 : decode cX5_enough 247 = .ok (.iload 5, 2) := by decide +kernel
theorem dX5_enough_249 : decode cX5_enough 249 = .ok (.ireturn, 1) := by decide +kernel
theorem dX5_see_0 : decode cX5_see 0 = .ok (.aload_n 0, 1) := by decide +kernel
theorem dX5_see_1 : decode cX5_see 1 = .ok (.iload_n 1, 1) := by decide +kernel
theorem dX5_see_2 : decode cX5_see 2 = .ok (.invokevirtual 220, 3) := by decide +kernel
theorem dX5_see_5 : decode cX5_see 5 = .ok (.ifCond .eq 14, 3) := by decide +kernel
theorem dX5_see_8 : decode cX5_see 8 = .ok (.iload_n 2, 1) := by decide +kernel
theorem dX5_see_9 : decode cX5_see 9 = .ok (.iconst 0, 1) := by decide +kernel
theorem dX5_see_10 : decode cX5_see 10 = .ok (.sipush 600, 3) := by decide +kernel
theorem dX5_see_13 : decode cX5_see 13 = .ok (.invokestatic 109, 3) := by decide +kernel
theorem dX5_see_16 : decode cX5_see 16 = .ok (.ifCond .ne 5, 3) := by decide +kernel
theorem dX5_see_19 : decode cX5_see 19 = .ok (.iconst (-1), 1) := by decide +kernel
theorem dX5_see_20 : decode cX5_see 20 = .ok (.ireturn, 1) := by decide +kernel
theorem dX5_see_21 : decode cX5_see 21 = .ok (.aload_n 0, 1) := by decide +kernel
theorem dX5_see_22 : decode cX5_see 22 = .ok (.getfield 170, 3) := by decide +kernel
theorem dX5_see_25 : decode cX5_see 25 = .ok (.bipush 6, 2) := by decide +kernel
theorem dX5_see_27 : decode cX5_see 27 = .ok (.if_icmp .ne 6, 3) := by decide +kernel
theorem dX5_see_30 : decode cX5_see 30 = .ok (.bipush (-3), 2) := by decide +kernel
theorem dX5_see_32 : decode cX5_see 32 = .ok (.ireturn, 1) := by decide +kernel
theorem dX5_see_33 : decode cX5_see 33 = .ok (.aload_n 0, 1) := by decide +kernel
theorem dX5_see_34 : decode cX5_see 34 = .ok (.getfield 37, 3) := by decide +kernel
theorem dX5_see_37 : decode cX5_see 37 = .ok (.iconst 2, 1) := by decide +kernel
theorem dX5_see_38 : decode cX5_see 38 = .ok (.aload_n 0, 1) := by decide +kernel
theorem dX5_see_39 : decode cX5_see 39 = .ok (.getfield 170, 3) := by decide +kernel
theorem dX5_see_42 : decode cX5_see 42 = .ok (.imul, 1) := by decide +kernel
theorem dX5_see_43 : decode cX5_see 43 = .ok (.iload_n 1, 1) := by decide +kernel
theorem dX5_see_44 : decode cX5_see 44 = .ok (.iastore, 1) := by decide +kernel
theorem dX5_see_45 : decode cX5_see 45 = .ok (.aload_n 0, 1) := by decide +kernel
theorem dX5_see_46 : decode cX5_see 46 = .ok (.getfield 37, 3) := by decide +kernel
theorem dX5_see_49 : decode cX5_see 49 = .ok (.iconst 2, 1) := by decide +kernel
theorem dX5_see_50 : decode cX5_see 50 = .ok (.aload_n 0, 1) := by decide +kernel
theorem dX5_see_51 : decode cX5_see 51 = .ok (.getfield 170, 3) := by decide +kernel
theorem dX5_see_54 : decode cX5_see 54 = .ok (.imul, 1) := by decide +kernel
theorem dX5_see_55 : decode cX5_see 55 = .ok (.iconst 1, 1) := by decide +kernel
theorem dX5_see_56 : decode cX5_see 56 = .ok (.iadd, 1) := by decide +kernel
theorem dX5_see_57 : decode cX5_see 57 = .ok (.iload_n 2, 1) := by decide +kernel
theorem dX5_see_58 : decode cX5_see 58 = .ok (.iastore, 1) := by decide +kernel
theorem dX5_see_59 : decode cX5_see 59 = .ok (.aload_n 0, 1) := by decide +kernel
theorem dX5_see_60 : decode cX5_see 60 = .ok (.dup, 1) := by decide +kernel
theorem dX5_see_61 : decode cX5_see 61 = .ok (.getfield 170, 3) := by decide +kernel
theorem dX5_see_64 : decode cX5_see 64 = .ok (.iconst 1, 1) := by decide +kernel
theorem dX5_see_65 : decode cX5_see 65 = .ok (.iadd, 1) := by decide +kernel
theorem dX5_see_66 : decode cX5_see 66 = .ok (.putfield 170, 3) := by decide +kernel
theorem dX5_see_69 : decode cX5_see 69 = .ok (.aload_n 0, 1) := by decide +kernel
theorem dX5_see_70 : decode cX5_see 70 = .ok (.getfield 170, 3) := by decide +kernel
theorem dX5_see_73 : decode cX5_see 73 = .ok (.ireturn, 1) := by decide +kernel
theorem dX5_forget_0 : decode cX5_forget 0 = .ok (.aload_n 0, 1) := by decide +kernel
theorem dX5_forget_1 : decode cX5_forget 1 = .ok (.getfield 170, 3) := by decide +kernel
theorem dX5_forget_4 : decode cX5_forget 4 = .ok (.istore_n 1, 1) := by decide +kernel
theorem dX5_forget_5 : decode cX5_forget 5 = .ok (.aload_n 0, 1) := by decide +kernel
theorem dX5_forget_6 : decode cX5_forget 6 = .ok (.iconst 0, 1) := by decide +kernel
theorem dX5_forget_7 : decode cX5_forget 7 = .ok (.putfield 170, 3) := by decide +kernel
theorem dX5_forget_10 : decode cX5_forget 10 = .ok (.iload_n 1, 1) := by decide +kernel
theorem dX5_forget_11 : decode cX5_forget 11 = .ok (.ireturn, 1) := by decide +kernel
theorem dX5_isSo_0 : decode cX5_isSo 0 = .ok (.iconst 1, 1) := by decide +kernel
theorem dX5_isSo_1 : decode cX5_isSo 1 = .ok (.istore_n 3, 1) := by decide +kernel
theorem dX5_isSo_2 : decode cX5_isSo 2 = .ok (.iconst 0, 1) := by decide +kernel
theorem dX5_isSo_3 : decode cX5_isSo 3 = .ok (.istore 4, 2) := by decide +kernel
theorem dX5_isSo_5 : decode cX5_isSo 5 = .ok (.iload 4, 2) := by decide +kernel
theorem dX5_isSo_7 : decode cX5_isSo 7 = .ok (.aload_n 0, 1) := by decide +kernel
theorem dX5_isSo_8 : decode cX5_isSo 8 = .ok (.getfield 170, 3) := by decide +kernel
theorem dX5_isSo_11 : decode cX5_isSo 11 = .ok (.if_icmp .ge 67, 3) := by decide +kernel
theorem dX5_isSo_14 : decode cX5_isSo 14 = .ok (.iload_n 3, 1) := by decide +kernel
theorem dX5_isSo_15 : decode cX5_isSo 15 = .ok (.ifCond .eq 63, 3) := by decide +kernel
theorem dX5_isSo_18 : decode cX5_isSo 18 = .ok (.aload_n 0, 1) := by decide +kernel
theorem dX5_isSo_19 : decode cX5_isSo 19 = .ok (.iload_n 1, 1) := by decide +kernel
theorem dX5_isSo_20 : decode cX5_isSo 20 = .ok (.iload_n 2, 1) := by decide +kernel
theorem dX5_isSo_21 : decode cX5_isSo 21 = .ok (.invokevirtual 260, 3) := by decide +kernel
theorem dX5_isSo_24 : decode cX5_isSo 24 = .ok (.aload_n 0, 1) := by decide +kernel
theorem dX5_isSo_25 : decode cX5_isSo 25 = .ok (.aload_n 0, 1) := by decide +kernel
theorem dX5_isSo_26 : decode cX5_isSo 26 = .ok (.getfield 37, 3) := by decide +kernel
theorem dX5_isSo_29 : decode cX5_isSo 29 = .ok (.iconst 2, 1) := by decide +kernel
theorem dX5_isSo_30 : decode cX5_isSo 30 = .ok (.iload 4, 2) := by decide +kernel
theorem dX5_isSo_32 : decode cX5_isSo 32 = .ok (.imul, 1) := by decide +kernel
theorem dX5_isSo_33 : decode cX5_isSo 33 = .ok (.iaload, 1) := by decide +kernel
theorem dX5_isSo_34 : decode cX5_isSo 34 = .ok (.aload_n 0, 1) := by decide +kernel
theorem dX5_isSo_35 : decode cX5_isSo 35 = .ok (.invokevirtual 223, 3) := by decide +kernel
theorem dX5_isSo_38 : decode cX5_isSo 38 = .ok (.invokevirtual 185, 3) := by decide +kernel
theorem dX5_isSo_41 : decode cX5_isSo 41 = .ok (.aload_n 0, 1) := by decide +kernel
theorem dX5_isSo_42 : decode cX5_isSo 42 = .ok (.invokevirtual 235, 3) := by decide +kernel
theorem dX5_isSo_45 : decode cX5_isSo 45 = .ok (.ifCond .eq 25, 3) := by decide +kernel
theorem dX5_isSo_48 : decode cX5_isSo 48 = .ok (.aload_n 0, 1) := by decide +kernel
theorem dX5_isSo_49 : decode cX5_isSo 49 = .ok (.getfield 211, 3) := by decide +kernel
theorem dX5_isSo_52 : decode cX5_isSo 52 = .ok (.aload_n 0, 1) := by decide +kernel
theorem dX5_isSo_53 : decode cX5_isSo 53 = .ok (.getfield 37, 3) := by decide +kernel
theorem dX5_isSo_56 : decode cX5_isSo 56 = .ok (.iconst 2, 1) := by decide +kernel
theorem dX5_isSo_57 : decode cX5_isSo 57 = .ok (.iload 4, 2) := by decide +kernel
theorem dX5_isSo_59 : decode cX5_isSo 59 = .ok (.imul, 1) := by decide +kernel
theorem dX5_isSo_60 : decode cX5_isSo 60 = .ok (.iconst 1, 1) := by decide +kernel
theorem dX5_isSo_61 : decode cX5_isSo 61 = .ok (.iadd, 1) := by decide +kernel
theorem dX5_isSo_62 : decode cX5_isSo 62 = .ok (.iaload, 1) := by decide +kernel
theorem dX5_isSo_63 : decode cX5_isSo 63 = .ok (.if_icmp .ne 7, 3) := by decide +kernel
theorem dX5_isSo_66 : decode cX5_isSo 66 = .ok (.iconst 1, 1) := by decide +kernel
theorem dX5_isSo_67 : decode cX5_isSo 67 = .ok (.goto 4, 3) := by decide +kernel
theorem dX5_isSo_70 : decode cX5_isSo 70 = .ok (.iconst 0, 1) := by decide +kernel
theorem dX5_isSo_71 : decode cX5_isSo 71 = .ok (.istore_n 3, 1) := by decide +kernel
theorem dX5_isSo_72 : decode cX5_isSo 72 = .ok (.iinc 4 1, 3) := by decide +kernel
theorem dX5_isSo_75 : decode cX5_isSo 75 = .ok (.goto (-70), 3) := by decide +kernel
theorem dX5_isSo_78 : decode cX5_isSo 78 = .ok (.iload_n 3, 1) := by decide +kernel
theorem dX5_isSo_79 : decode cX5_isSo 79 = .ok (.ireturn, 1) := by decide +kernel
theorem dX5_wrote_0 : decode cX5_wrote 0 = .ok (.iload_n 1, 1) := by decide +kernel
theorem dX5_wrote_1 : decode cX5_wrote 1 = .ok (.iconst 0, 1) := by decide +kernel
theorem dX5_wrote_2 : decode cX5_wrote 2 = .ok (.iconst 1, 1) := by decide +kernel
theorem dX5_wrote_3 : decode cX5_wrote 3 = .ok (.invokestatic 109, 3) := by decide +kernel
theorem dX5_wrote_6 : decode cX5_wrote 6 = .ok (.ifCond .ne 5, 3) := by decide +kernel
theorem dX5_wrote_9 : decode cX5_wrote 9 = .ok (.iconst (-1), 1) := by decide +kernel
theorem dX5_wrote_10 : decode cX5_wrote 10 = .ok (.ireturn, 1) := by decide +kernel
theorem dX5_wrote_11 : decode cX5_wrote 11 = .ok (.iconst 0, 1) := by decide +kernel
theorem dX5_wrote_12 : decode cX5_wrote 12 = .ok (.istore_n 2, 1) := by decide +kernel
theorem dX5_wrote_13 : decode cX5_wrote 13 = .ok (.bipush (-4), 2) := by decide +kernel
theorem dX5_wrote_15 : decode cX5_wrote 15 = .ok (.istore_n 3, 1) := by decide +kernel
theorem dX5_wrote_16 : decode cX5_wrote 16 = .ok (.iconst 1, 1) := by decide +kernel
theorem dX5_wrote_17 : decode cX5_wrote 17 = .ok (.istore 4, 2) := by decide +kernel
theorem dX5_wrote_19 : decode cX5_wrote 19 = .ok (.iconst 1, 1) := by decide +kernel
theorem dX5_wrote_20 : decode cX5_wrote 20 = .ok (.istore 5, 2) := by decide +kernel
theorem dX5_wrote_22 : decode cX5_wrote 22 = .ok (.iload 5, 2) := by decide +kernel
theorem dX5_wrote_24 : decode cX5_wrote 24 = .ok (.iconst 4, 1) := by decide +kernel
theorem dX5_wrote_25 : decode cX5_wrote 25 = .ok (.if_icmp .gt 62, 3) := by decide +kernel
theorem dX5_wrote_28 : decode cX5_wrote 28 = .ok (.iload 4, 2) := by decide +kernel
theorem dX5_wrote_30 : decode cX5_wrote 30 = .ok (.iconst 5, 1) := by decide +kernel
theorem dX5_wrote_31 : decode cX5_wrote 31 = .ok (.imul, 1) := by decide +kernel
theorem dX5_wrote_32 : decode cX5_wrote 32 = .ok (.istore 4, 2) := by decide +kernel
theorem dX5_wrote_34 : decode cX5_wrote 34 = .ok (.iconst 0, 1) := by decide +kernel
theorem dX5_wrote_35 : decode cX5_wrote 35 = .ok (.istore 6, 2) := by decide +kernel
theorem dX5_wrote_37 : decode cX5_wrote 37 = .ok (.iload 6, 2) := by decide +kernel
theorem dX5_wrote_39 : decode cX5_wrote 39 = .ok (.iload 4, 2) := by decide +kernel
theorem dX5_wrote_41 : decode cX5_wrote 41 = .ok (.if_icmp .ge 40, 3) := by decide +kernel
theorem dX5_wrote_44 : decode cX5_wrote 44 = .ok (.aload_n 0, 1) := by decide +kernel
theorem dX5_wrote_45 : decode cX5_wrote 45 = .ok (.iload 6, 2) := by decide +kernel
theorem dX5_wrote_47 : decode cX5_wrote 47 = .ok (.iload 5, 2) := by decide +kernel
theorem dX5_wrote_49 : decode cX5_wrote 49 = .ok (.invokevirtual 270, 3) := by decide +kernel
theorem dX5_wrote_52 : decode cX5_wrote 52 = .ok (.ifCond .eq 23, 3) := by decide +kernel
theorem dX5_wrote_55 : decode cX5_wrote 55 = .ok (.iload_n 2, 1) := by decide +kernel
theorem dX5_wrote_56 : decode cX5_wrote 56 = .ok (.ifCond .ne 14, 3) := by decide +kernel
theorem dX5_wrote_59 : decode cX5_wrote 59 = .ok (.aload_n 0, 1) := by decide +kernel
theorem dX5_wrote_60 : decode cX5_wrote 60 = .ok (.iload 6, 2) := by decide +kernel
theorem dX5_wrote_62 : decode cX5_wrote 62 = .ok (.iload 5, 2) := by decide +kernel
theorem dX5_wrote_64 : decode cX5_wrote 64 = .ok (.invokevirtual 266, 3) := by decide +kernel
theorem dX5_wrote_67 : decode cX5_wrote 67 = .ok (.goto 4, 3) := by decide +kernel
theorem dX5_wrote_70 : decode cX5_wrote 70 = .ok (.iload_n 3, 1) := by decide +kernel
theorem dX5_wrote_71 : decode cX5_wrote 71 = .ok (.istore_n 3, 1) := by decide +kernel
theorem dX5_wrote_72 : decode cX5_wrote 72 = .ok (.iinc 2 1, 3) := by decide +kernel
theorem dX5_wrote_75 : decode cX5_wrote 75 = .ok (.iinc 6 1, 3) := by decide +kernel
theorem dX5_wrote_78 : decode cX5_wrote 78 = .ok (.goto (-41), 3) := by decide +kernel
theorem dX5_wrote_81 : decode cX5_wrote 81 = .ok (.iinc 5 1, 3) := by decide +kernel
theorem dX5_wrote_84 : decode cX5_wrote 84 = .ok (.goto (-62), 3) := by decide +kernel
theorem dX5_wrote_87 : decode cX5_wrote 87 = .ok (.iload_n 1, 1) := by decide +kernel
theorem dX5_wrote_88 : decode cX5_wrote 88 = .ok (.ifCond .ne 7, 3) := by decide +kernel
theorem dX5_wrote_91 : decode cX5_wrote 91 = .ok (.iload_n 2, 1) := by decide +kernel
theorem dX5_wrote_92 : decode cX5_wrote 92 = .ok (.goto 4, 3) := by decide +kernel
theorem dX5_wrote_95 : decode cX5_wrote 95 = .ok (.iload_n 3, 1) := by decide +kernel
theorem dX5_wrote_96 : decode cX5_wrote 96 = .ok (.ireturn, 1) := by decide +kernel
theorem dX5_forgotten_0 : decode cX5_forgotten 0 = .ok (.aload_n 0, 1) := by decide +kernel
theorem dX5_forgotten_1 : decode cX5_forgotten 1 = .ok (.iload_n 1, 1) := by decide +kernel
theorem dX5_forgotten_2 : decode cX5_forgotten 2 = .ok (.invokevirtual 220, 3) := by decide +kernel
theorem dX5_forgotten_5 : decode cX5_forgotten 5 = .ok (.ifCond .eq 22, 3) := by decide +kernel
theorem dX5_forgotten_8 : decode cX5_forgotten 8 = .ok (.iload_n 2, 1) := by decide +kernel
theorem dX5_forgotten_9 : decode cX5_forgotten 9 = .ok (.iconst 0, 1) := by decide +kernel
theorem dX5_forgotten_10 : decode cX5_forgotten 10 = .ok (.bipush 10, 2) := by decide +kernel
theorem dX5_forgotten_12 : decode cX5_forgotten 12 = .ok (.invokestatic 109, 3) := by decide +kernel
theorem dX5_forgotten_15 : decode cX5_forgotten 15 = .ok (.ifCond .eq 12, 3) := by decide +kernel
theorem dX5_forgotten_18 : decode cX5_forgotten 18 = .ok (.iload_n 3, 1) := by decide +kernel
theorem dX5_forgotten_19 : decode cX5_forgotten 19 = .ok (.iconst 0, 1) := by decide +kernel
theorem dX5_forgotten_20 : decode cX5_forgotten 20 = .ok (.iconst 1, 1) := by decide +kernel
theorem dX5_forgotten_21 : decode cX5_forgotten 21 = .ok (.invokestatic 109, 3) := by decide +kernel
theorem dX5_forgotten_24 : decode cX5_forgotten 24 = .ok (.ifCond .ne 5, 3) := by decide +kernel
theorem dX5_forgotten_27 : decode cX5_forgotten 27 = .ok (.iconst (-1), 1) := by decide +kernel
theorem dX5_forgotten_28 : decode cX5_forgotten 28 = .ok (.ireturn, 1) := by decide +kernel
theorem dX5_forgotten_29 : decode cX5_forgotten 29 = .ok (.iconst 0, 1) := by decide +kernel
theorem dX5_forgotten_30 : decode cX5_forgotten 30 = .ok (.istore 4, 2) := by decide +kernel
theorem dX5_forgotten_32 : decode cX5_forgotten 32 = .ok (.iconst 1, 1) := by decide +kernel
theorem dX5_forgotten_33 : decode cX5_forgotten 33 = .ok (.istore 5, 2) := by decide +kernel
theorem dX5_forgotten_35 : decode cX5_forgotten 35 = .ok (.iconst 0, 1) := by decide +kernel
theorem dX5_forgotten_36 : decode cX5_forgotten 36 = .ok (.istore 6, 2) := by decide +kernel
theorem dX5_forgotten_38 : decode cX5_forgotten 38 = .ok (.iload 6, 2) := by decide +kernel
theorem dX5_forgotten_40 : decode cX5_forgotten 40 = .ok (.aload_n 0, 1) := by decide +kernel
theorem dX5_forgotten_41 : decode cX5_forgotten 41 = .ok (.getfield 157, 3) := by decide +kernel
theorem dX5_forgotten_44 : decode cX5_forgotten 44 = .ok (.if_icmp .ge 16, 3) := by decide +kernel
theorem dX5_forgotten_47 : decode cX5_forgotten 47 = .ok (.iload 5, 2) := by decide +kernel
theorem dX5_forgotten_49 : decode cX5_forgotten 49 = .ok (.bipush 10, 2) := by decide +kernel
theorem dX5_forgotten_51 : decode cX5_forgotten 51 = .ok (.imul, 1) := by decide +kernel
theorem dX5_forgotten_52 : decode cX5_forgotten 52 = .ok (.istore 5, 2) := by decide +kernel
theorem dX5_forgotten_54 : decode cX5_forgotten 54 = .ok (.iinc 6 1, 3) := by decide +kernel
theorem dX5_forgotten_57 : decode cX5_forgotten 57 = .ok (.goto (-19), 3) := by decide +kernel
theorem dX5_forgotten_60 : decode cX5_forgotten 60 = .ok (.iconst 0, 1) := by decide +kernel
theorem dX5_forgotten_61 : decode cX5_forgotten 61 = .ok (.istore 6, 2) := by decide +kernel
theorem dX5_forgotten_63 : decode cX5_forgotten 63 = .ok (.iload 6, 2) := by decide +kernel
theorem dX5_forgotten_65 : decode cX5_forgotten 65 = .ok (.iconst 1, 1) := by decide +kernel
theorem dX5_forgotten_66 : decode cX5_forgotten 66 = .ok (.aload_n 0, 1) := by decide +kernel
theorem dX5_forgotten_67 : decode cX5_forgotten 67 = .ok (.getfield 157, 3) := by decide +kernel
theorem dX5_forgotten_70 : decode cX5_forgotten 70 = .ok (.ishl, 1) := by decide +kernel
theorem dX5_forgotten_71 : decode cX5_forgotten 71 = .ok (.if_icmp .ge 79, 3) := by decide +kernel
theorem dX5_forgotten_74 : decode cX5_forgotten 74 = .ok (.iconst 1, 1) := by decide +kernel
theorem dX5_forgotten_75 : decode cX5_forgotten 75 = .ok (.istore 7, 2) := by decide +kernel
theorem dX5_forgotten_77 : decode cX5_forgotten 77 = .ok (.iconst 0, 1) := by decide +kernel
theorem dX5_forgotten_78 : decode cX5_forgotten 78 = .ok (.istore 8, 2) := by decide +kernel
theorem dX5_forgotten_80 : decode cX5_forgotten 80 = .ok (.iload 8, 2) := by decide +kernel
theorem dX5_forgotten_82 : decode cX5_forgotten 82 = .ok (.aload_n 0, 1) := by decide +kernel
theorem dX5_forgotten_83 : decode cX5_forgotten 83 = .ok (.getfield 157, 3) := by decide +kernel
theorem dX5_forgotten_86 : decode cX5_forgotten 86 = .ok (.if_icmp .ge 32, 3) := by decide +kernel
theorem dX5_forgotten_89 : decode cX5_forgotten 89 = .ok (.iload 7, 2) := by decide +kernel
theorem dX5_forgotten_91 : decode cX5_forgotten 91 = .ok (.iload 6, 2) := by decide +kernel
theorem dX5_forgotten_93 : decode cX5_forgotten 93 = .ok (.iload 8, 2) := by decide +kernel
theorem dX5_forgotten_95 : decode cX5_forgotten 95 = .ok (.invokestatic 192, 3) := by decide +kernel
theorem dX5_forgotten_98 : decode cX5_forgotten 98 = .ok (.ifCond .eq 10, 3) := by decide +kernel
theorem dX5_forgotten_101 : decode cX5_forgotten 101 = .ok (.bipush 10, 2) := by decide +kernel
theorem dX5_forgotten_103 : decode cX5_forgotten 103 = .ok (.iload_n 2, 1) := by decide +kernel
theorem dX5_forgotten_104 : decode cX5_forgotten 104 = .ok (.isub, 1) := by decide +kernel
theorem dX5_forgotten_105 : decode cX5_forgotten 105 = .ok (.goto 4, 3) := by decide +kernel
theorem dX5_forgotten_108 : decode cX5_forgotten 108 = .ok (.iload_n 2, 1) := by decide +kernel
theorem dX5_forgotten_109 : decode cX5_forgotten 109 = .ok (.imul, 1) := by decide +kernel
theorem dX5_forgotten_110 : decode cX5_forgotten 110 = .ok (.istore 7, 2) := by decide +kernel
theorem dX5_forgotten_112 : decode cX5_forgotten 112 = .ok (.iinc 8 1, 3) := by decide +kernel
theorem dX5_forgotten_115 : decode cX5_forgotten 115 = .ok (.goto (-35), 3) := by decide +kernel
theorem dX5_forgotten_118 : decode cX5_forgotten 118 = .ok (.iload 4, 2) := by decide +kernel
theorem dX5_forgotten_120 : decode cX5_forgotten 120 = .ok (.iload 7, 2) := by decide +kernel
theorem dX5_forgotten_122 : decode cX5_forgotten 122 = .ok (.ifCond .le 18, 3) := by decide +kernel
theorem dX5_forgotten_125 : decode cX5_forgotten 125 = .ok (.aload_n 0, 1) := by decide +kernel
theorem dX5_forgotten_126 : decode cX5_forgotten 126 = .ok (.iload_n 1, 1) := by decide +kernel
theorem dX5_forgotten_127 : decode cX5_forgotten 127 = .ok (.iload 6, 2) := by decide +kernel
theorem dX5_forgotten_129 : decode cX5_forgotten 129 = .ok (.invokevirtual 257, 3) := by decide +kernel
theorem dX5_forgotten_132 : decode cX5_forgotten 132 = .ok (.ifCond .eq 8, 3) := by decide +kernel
theorem dX5_forgotten_135 : decode cX5_forgotten 135 = .ok (.iload 7, 2) := by decide +kernel
theorem dX5_forgotten_137 : decode cX5_forgotten 137 = .ok (.goto 4, 3) := by decide +kernel
theorem dX5_forgotten_140 : decode cX5_forgotten 140 = .ok (.iconst 0, 1) := by decide +kernel
theorem dX5_forgotten_141 : decode cX5_forgotten 141 = .ok (.iadd, 1) := by decide +kernel
theorem dX5_forgotten_142 : decode cX5_forgotten 142 = .ok (.istore 4, 2) := by decide +kernel
theorem dX5_forgotten_144 : decode cX5_forgotten 144 = .ok (.iinc 6 1, 3) := by decide +kernel
theorem dX5_forgotten_147 : decode cX5_forgotten 147 = .ok (.goto (-84), 3) := by decide +kernel
theorem dX5_forgotten_150 : decode cX5_forgotten 150 = .ok (.iload 4, 2) := by decide +kernel
theorem dX5_forgotten_152 : decode cX5_forgotten 152 = .ok (.iload 5, 2) := by decide +kernel
theorem dX5_forgotten_154 : decode cX5_forgotten 154 = .ok (.iload_n 3, 1) := by decide +kernel
theorem dX5_forgotten_155 : decode cX5_forgotten 155 = .ok (.invokestatic 253, 3) := by decide +kernel
theorem dX5_forgotten_158 : decode cX5_forgotten 158 = .ok (.ireturn, 1) := by decide +kernel
theorem dX5_walls_0 : decode cX5_walls 0 = .ok (.iload_n 1, 1) := by decide +kernel
theorem dX5_walls_1 : decode cX5_walls 1 = .ok (.iconst 0, 1) := by decide +kernel
theorem dX5_walls_2 : decode cX5_walls 2 = .ok (.sipush 9999, 3) := by decide +kernel
theorem dX5_walls_5 : decode cX5_walls 5 = .ok (.invokestatic 109, 3) := by decide +kernel
theorem dX5_walls_8 : decode cX5_walls 8 = .ok (.ifCond .eq 31, 3) := by decide +kernel
theorem dX5_walls_11 : decode cX5_walls 11 = .ok (.iload_n 2, 1) := by decide +kernel
theorem dX5_walls_12 : decode cX5_walls 12 = .ok (.iconst 1, 1) := by decide +kernel
theorem dX5_walls_13 : decode cX5_walls 13 = .ok (.bipush 40, 2) := by decide +kernel
theorem dX5_walls_15 : decode cX5_walls 15 = .ok (.invokestatic 109, 3) := by decide +kernel
theorem dX5_walls_18 : decode cX5_walls 18 = .ok (.ifCond .eq 21, 3) := by decide +kernel
theorem dX5_walls_21 : decode cX5_walls 21 = .ok (.aload_n 0, 1) := by decide +kernel
theorem dX5_walls_22 : decode cX5_walls 22 = .ok (.iload_n 3, 1) := by decide +kernel
theorem dX5_walls_23 : decode cX5_walls 23 = .ok (.invokevirtual 220, 3) := by decide +kernel
theorem dX5_walls_26 : decode cX5_walls 26 = .ok (.ifCond .eq 13, 3) := by decide +kernel
theorem dX5_walls_29 : decode cX5_walls 29 = .ok (.iload 4, 2) := by decide +kernel
theorem dX5_walls_31 : decode cX5_walls 31 = .ok (.iconst 0, 1) := by decide +kernel
theorem dX5_walls_32 : decode cX5_walls 32 = .ok (.iconst 1, 1) := by decide +kernel
theorem dX5_walls_33 : decode cX5_walls 33 = .ok (.invokestatic 109, 3) := by decide +kernel
theorem dX5_walls_36 : decode cX5_walls 36 = .ok (.ifCond .ne 5, 3) := by decide +kernel
theorem dX5_walls_39 : decode cX5_walls 39 = .ok (.iconst (-1), 1) := by decide +kernel
theorem dX5_walls_40 : decode cX5_walls 40 = .ok (.ireturn, 1) := by decide +kernel
theorem dX5_walls_41 : decode cX5_walls 41 = .ok (.iconst 0, 1) := by decide +kernel
theorem dX5_walls_42 : decode cX5_walls 42 = .ok (.istore 5, 2) := by decide +kernel
theorem dX5_walls_44 : decode cX5_walls 44 = .ok (.iconst 0, 1) := by decide +kernel
theorem dX5_walls_45 : decode cX5_walls 45 = .ok (.istore 6, 2) := by decide +kernel
theorem dX5_walls_47 : decode cX5_walls 47 = .ok (.iconst 0, 1) := by decide +kernel
theorem dX5_walls_48 : decode cX5_walls 48 = .ok (.istore 7, 2) := by decide +kernel
theorem dX5_walls_50 : decode cX5_walls 50 = .ok (.iload 7, 2) := by decide +kernel
theorem dX5_walls_52 : decode cX5_walls 52 = .ok (.iload_n 2, 1) := by decide +kernel
theorem dX5_walls_53 : decode cX5_walls 53 = .ok (.if_icmp .ge 127, 3) := by decide +kernel
theorem dX5_walls_56 : decode cX5_walls 56 = .ok (.ldc2_w 273, 3) := by decide +kernel
theorem dX5_walls_59 : decode cX5_walls 59 = .ok (.iload_n 1, 1) := by decide +kernel
theorem dX5_walls_60 : decode cX5_walls 60 = .ok (.i2l, 1) := by decide +kernel
theorem dX5_walls_61 : decode cX5_walls 61 = .ok (.lmul, 1) := by decide +kernel
theorem dX5_walls_62 : decode cX5_walls 62 = .ok (.ldc2_w 275, 3) := by decide +kernel
theorem dX5_walls_65 : decode cX5_walls 65 = .ok (.iload 7, 2) := by decide +kernel
theorem dX5_walls_67 : decode cX5_walls 67 = .ok (.i2l, 1) := by decide +kernel
theorem dX5_walls_68 : decode cX5_walls 68 = .ok (.lmul, 1) := by decide +kernel
theorem dX5_walls_69 : decode cX5_walls 69 = .ok (.ladd, 1) := by decide +kernel
theorem dX5_walls_70 : decode cX5_walls 70 = .ok (.lconst 1, 1) := by decide +kernel
theorem dX5_walls_71 : decode cX5_walls 71 = .ok (.ladd, 1) := by decide +kernel
theorem dX5_walls_72 : decode cX5_walls 72 = .ok (.lstore 8, 2) := by decide +kernel
theorem dX5_walls_74 : decode cX5_walls 74 = .ok (.lload 8, 2) := by decide +kernel
theorem dX5_walls_76 : decode cX5_walls 76 = .ok (.lload 8, 2) := by decide +kernel
theorem dX5_walls_78 : decode cX5_walls 78 = .ok (.lmul, 1) := by decide +kernel
theorem dX5_walls_79 : decode cX5_walls 79 = .ok (.ldc2_w 277, 3) := by decide +kernel
theorem dX5_walls_82 : decode cX5_walls 82 = .ok (.lrem, 1) := by decide +kernel
theorem dX5_walls_83 : decode cX5_walls 83 = .ok (.l2i, 1) := by decide +kernel
theorem dX5_walls_84 : decode cX5_walls 84 = .ok (.istore 10, 2) := by decide +kernel
theorem dX5_walls_86 : decode cX5_walls 86 = .ok (.aload_n 0, 1) := by decide +kernel
theorem dX5_walls_87 : decode cX5_walls 87 = .ok (.iconst 1, 1) := by decide +kernel
theorem dX5_walls_88 : decode cX5_walls 88 = .ok (.iload 10, 2) := by decide +kernel
theorem dX5_walls_90 : decode cX5_walls 90 = .ok (.iconst 4, 1) := by decide +kernel
theorem dX5_walls_91 : decode cX5_walls 91 = .ok (.irem, 1) := by decide +kernel
theorem dX5_walls_92 : decode cX5_walls 92 = .ok (.iadd, 1) := by decide +kernel
theorem dX5_walls_93 : decode cX5_walls 93 = .ok (.putfield 179, 3) := by decide +kernel
theorem dX5_walls_96 : decode cX5_walls 96 = .ok (.iload 10, 2) := by decide +kernel
theorem dX5_walls_98 : decode cX5_walls 98 = .ok (.iconst 4, 1) := by decide +kernel
theorem dX5_walls_99 : decode cX5_walls 99 = .ok (.idiv, 1) := by decide +kernel
theorem dX5_walls_100 : decode cX5_walls 100 = .ok (.istore 11, 2) := by decide +kernel
theorem dX5_walls_102 : decode cX5_walls 102 = .ok (.iconst 0, 1) := by decide +kernel
theorem dX5_walls_103 : decode cX5_walls 103 = .ok (.istore 12, 2) := by decide +kernel
theorem dX5_walls_105 : decode cX5_walls 105 = .ok (.iload 12, 2) := by decide +kernel
theorem dX5_walls_107 : decode cX5_walls 107 = .ok (.aload_n 0, 1) := by decide +kernel
theorem dX5_walls_108 : decode cX5_walls 108 = .ok (.getfield 179, 3) := by decide +kernel
theorem dX5_walls_111 : decode cX5_walls 111 = .ok (.if_icmp .ge 26, 3) := by decide +kernel
theorem dX5_walls_114 : decode cX5_walls 114 = .ok (.aload_n 0, 1) := by decide +kernel
theorem dX5_walls_115 : decode cX5_walls 115 = .ok (.getfield 67, 3) := by decide +kernel
theorem dX5_walls_118 : decode cX5_walls 118 = .ok (.iload 12, 2) := by decide +kernel
theorem dX5_walls_120 : decode cX5_walls 120 = .ok (.iload 11, 2) := by decide +kernel
theorem dX5_walls_122 : decode cX5_walls 122 = .ok (.iconst 5, 1) := by decide +kernel
theorem dX5_walls_123 : decode cX5_walls 123 = .ok (.irem, 1) := by decide +kernel
theorem dX5_walls_124 : decode cX5_walls 124 = .ok (.iastore, 1) := by decide +kernel
theorem dX5_walls_125 : decode cX5_walls 125 = .ok (.iload 11, 2) := by decide +kernel
theorem dX5_walls_127 : decode cX5_walls 127 = .ok (.iconst 5, 1) := by decide +kernel
theorem dX5_walls_128 : decode cX5_walls 128 = .ok (.idiv, 1) := by decide +kernel
theorem dX5_walls_129 : decode cX5_walls 129 = .ok (.istore 11, 2) := by decide +kernel
theorem dX5_walls_131 : decode cX5_walls 131 = .ok (.iinc 12 1, 3) := by decide +kernel
theorem dX5_walls_134 : decode cX5_walls 134 = .ok (.goto (-29), 3) := by decide +kernel
theorem dX5_walls_137 : decode cX5_walls 137 = .ok (.aload_n 0, 1) := by decide +kernel
theorem dX5_walls_138 : decode cX5_walls 138 = .ok (.iload_n 3, 1) := by decide +kernel
theorem dX5_walls_139 : decode cX5_walls 139 = .ok (.aload_n 0, 1) := by decide +kernel
theorem dX5_walls_140 : decode cX5_walls 140 = .ok (.invokevirtual 223, 3) := by decide +kernel
theorem dX5_walls_143 : decode cX5_walls 143 = .ok (.invokevirtual 185, 3) := by decide +kernel
theorem dX5_walls_146 : decode cX5_walls 146 = .ok (.aload_n 0, 1) := by decide +kernel
theorem dX5_walls_147 : decode cX5_walls 147 = .ok (.invokevirtual 229, 3) := by decide +kernel
theorem dX5_walls_150 : decode cX5_walls 150 = .ok (.istore 12, 2) := by decide +kernel
theorem dX5_walls_152 : decode cX5_walls 152 = .ok (.iload 5, 2) := by decide +kernel
theorem dX5_walls_154 : decode cX5_walls 154 = .ok (.iload 12, 2) := by decide +kernel
theorem dX5_walls_156 : decode cX5_walls 156 = .ok (.ifCond .le 7, 3) := by decide +kernel
theorem dX5_walls_159 : decode cX5_walls 159 = .ok (.iconst 1, 1) := by decide +kernel
theorem dX5_walls_160 : decode cX5_walls 160 = .ok (.goto 4, 3) := by decide +kernel
theorem dX5_walls_163 : decode cX5_walls 163 = .ok (.iconst 0, 1) := by decide +kernel
theorem dX5_walls_164 : decode cX5_walls 164 = .ok (.iadd, 1) := by decide +kernel
theorem dX5_walls_165 : decode cX5_walls 165 = .ok (.istore 5, 2) := by decide +kernel
theorem dX5_walls_167 : decode cX5_walls 167 = .ok (.iload 6, 2) := by decide +kernel
theorem dX5_walls_169 : decode cX5_walls 169 = .ok (.iload 12, 2) := by decide +kernel
theorem dX5_walls_171 : decode cX5_walls 171 = .ok (.iadd, 1) := by decide +kernel
theorem dX5_walls_172 : decode cX5_walls 172 = .ok (.istore 6, 2) := by decide +kernel
theorem dX5_walls_174 : decode cX5_walls 174 = .ok (.iinc 7 1, 3) := by decide +kernel
theorem dX5_walls_177 : decode cX5_walls 177 = .ok (.goto (-127), 3) := by decide +kernel
theorem dX5_walls_180 : decode cX5_walls 180 = .ok (.iload 4, 2) := by decide +kernel
theorem dX5_walls_182 : decode cX5_walls 182 = .ok (.ifCond .ne 8, 3) := by decide +kernel
theorem dX5_walls_185 : decode cX5_walls 185 = .ok (.iload 5, 2) := by decide +kernel
theorem dX5_walls_187 : decode cX5_walls 187 = .ok (.goto 5, 3) := by decide +kernel
theorem dX5_walls_190 : decode cX5_walls 190 = .ok (.iload 6, 2) := by decide +kernel
theorem dX5_walls_192 : decode cX5_walls 192 = .ok (.ireturn, 1) := by decide +kernel
theorem dX5_keep_0 : decode cX5_keep 0 = .ok (.aload_n 0, 1) := by decide +kernel
theorem dX5_keep_1 : decode cX5_keep 1 = .ok (.getfield 167, 3) := by decide +kernel
theorem dX5_keep_4 : decode cX5_keep 4 = .ok (.iconst 2, 1) := by decide +kernel
theorem dX5_keep_5 : decode cX5_keep 5 = .ok (.if_icmp .ne 6, 3) := by decide +kernel
theorem dX5_keep_8 : decode cX5_keep 8 = .ok (.bipush (-3), 2) := by decide +kernel
theorem dX5_keep_10 : decode cX5_keep 10 = .ok (.ireturn, 1) := by decide +kernel
theorem dX5_keep_11 : decode cX5_keep 11 = .ok (.aload_n 0, 1) := by decide +kernel
theorem dX5_keep_12 : decode cX5_keep 12 = .ok (.getfield 34, 3) := by decide +kernel
theorem dX5_keep_15 : decode cX5_keep 15 = .ok (.bipush 14, 2) := by decide +kernel
theorem dX5_keep_17 : decode cX5_keep 17 = .ok (.aload_n 0, 1) := by decide +kernel
theorem dX5_keep_18 : decode cX5_keep 18 = .ok (.getfield 167, 3) := by decide +kernel
theorem dX5_keep_21 : decode cX5_keep 21 = .ok (.imul, 1) := by decide +kernel
theorem dX5_keep_22 : decode cX5_keep 22 = .ok (.aload_n 0, 1) := by decide +kernel
theorem dX5_keep_23 : decode cX5_keep 23 = .ok (.getfield 28, 3) := by decide +kernel
theorem dX5_keep_26 : decode cX5_keep 26 = .ok (.iconst 0, 1) := by decide +kernel
theorem dX5_keep_27 : decode cX5_keep 27 = .ok (.bipush 14, 2) := by decide +kernel
theorem dX5_keep_29 : decode cX5_keep 29 = .ok (.invokestatic 160, 3) := by decide +kernel
theorem dX5_keep_32 : decode cX5_keep 32 = .ok (.aload_n 0, 1) := by decide +kernel
theorem dX5_keep_33 : decode cX5_keep 33 = .ok (.dup, 1) := by decide +kernel
theorem dX5_keep_34 : decode cX5_keep 34 = .ok (.getfield 167, 3) := by decide +kernel
theorem dX5_keep_37 : decode cX5_keep 37 = .ok (.iconst 1, 1) := by decide +kernel
theorem dX5_keep_38 : decode cX5_keep 38 = .ok (.iadd, 1) := by decide +kernel
theorem dX5_keep_39 : decode cX5_keep 39 = .ok (.putfield 167, 3) := by decide +kernel
theorem dX5_keep_42 : decode cX5_keep 42 = .ok (.aload_n 0, 1) := by decide +kernel
theorem dX5_keep_43 : decode cX5_keep 43 = .ok (.getfield 167, 3) := by decide +kernel
theorem dX5_keep_46 : decode cX5_keep 46 = .ok (.ireturn, 1) := by decide +kernel
theorem dX5_back_0 : decode cX5_back 0 = .ok (.aload_n 0, 1) := by decide +kernel
theorem dX5_back_1 : decode cX5_back 1 = .ok (.getfield 167, 3) := by decide +kernel
theorem dX5_back_4 : decode cX5_back 4 = .ok (.ifCond .ne 6, 3) := by decide +kernel
theorem dX5_back_7 : decode cX5_back 7 = .ok (.bipush (-2), 2) := by decide +kernel
theorem dX5_back_9 : decode cX5_back 9 = .ok (.ireturn, 1) := by decide +kernel
theorem dX5_back_10 : decode cX5_back 10 = .ok (.aload_n 0, 1) := by decide +kernel
theorem dX5_back_11 : decode cX5_back 11 = .ok (.dup, 1) := by decide +kernel
theorem dX5_back_12 : decode cX5_back 12 = .ok (.getfield 167, 3) := by decide +kernel
theorem dX5_back_15 : decode cX5_back 15 = .ok (.iconst 1, 1) := by decide +kernel
theorem dX5_back_16 : decode cX5_back 16 = .ok (.isub, 1) := by decide +kernel
theorem dX5_back_17 : decode cX5_back 17 = .ok (.putfield 167, 3) := by decide +kernel
theorem dX5_back_20 : decode cX5_back 20 = .ok (.aload_n 0, 1) := by decide +kernel
theorem dX5_back_21 : decode cX5_back 21 = .ok (.getfield 28, 3) := by decide +kernel
theorem dX5_back_24 : decode cX5_back 24 = .ok (.iconst 0, 1) := by decide +kernel
theorem dX5_back_25 : decode cX5_back 25 = .ok (.aload_n 0, 1) := by decide +kernel
theorem dX5_back_26 : decode cX5_back 26 = .ok (.getfield 34, 3) := by decide +kernel
theorem dX5_back_29 : decode cX5_back 29 = .ok (.bipush 14, 2) := by decide +kernel
theorem dX5_back_31 : decode cX5_back 31 = .ok (.aload_n 0, 1) := by decide +kernel
theorem dX5_back_32 : decode cX5_back 32 = .ok (.getfield 167, 3) := by decide +kernel
theorem dX5_back_35 : decode cX5_back 35 = .ok (.imul, 1) := by decide +kernel
theorem dX5_back_36 : decode cX5_back 36 = .ok (.bipush 14, 2) := by decide +kernel
theorem dX5_back_38 : decode cX5_back 38 = .ok (.invokestatic 160, 3) := by decide +kernel
theorem dX5_back_41 : decode cX5_back 41 = .ok (.aload_n 0, 1) := by decide +kernel
theorem dX5_back_42 : decode cX5_back 42 = .ok (.iconst 0, 1) := by decide +kernel
theorem dX5_back_43 : decode cX5_back 43 = .ok (.putfield 164, 3) := by decide +kernel
theorem dX5_back_46 : decode cX5_back 46 = .ok (.aload_n 0, 1) := by decide +kernel
theorem dX5_back_47 : decode cX5_back 47 = .ok (.getfield 167, 3) := by decide +kernel
theorem dX5_back_50 : decode cX5_back 50 = .ok (.ireturn, 1) := by decide +kernel
theorem dX5_count_0 : decode cX5_count 0 = .ok (.iload_n 1, 1) := by decide +kernel
theorem dX5_count_1 : decode cX5_count 1 = .ok (.tableswitch 168 0 12 #[67, 72, 77, 84, 91, 98, 109, 114, 141, 148, 153, 158, 163], 67) := by decide +kernel
theorem dX5_count_68 : decode cX5_count 68 = .ok (.aload_n 0, 1) := by decide +kernel
theorem dX5_count_69 : decode cX5_count 69 = .ok (.getfield 157, 3) := by decide +kernel
theorem dX5_count_72 : decode cX5_count 72 = .ok (.ireturn, 1) := by decide +kernel
theorem dX5_count_73 : decode cX5_count 73 = .ok (.aload_n 0, 1) := by decide +kernel
theorem dX5_count_74 : decode cX5_count 74 = .ok (.getfield 106, 3) := by decide +kernel
theorem dX5_count_77 : decode cX5_count 77 = .ok (.ireturn, 1) := by decide +kernel
theorem dX5_count_78 : decode cX5_count 78 = .ok (.aload_n 0, 1) := by decide +kernel
theorem dX5_count_79 : decode cX5_count 79 = .ok (.getfield 28, 3) := by decide +kernel
theorem dX5_count_82 : decode cX5_count 82 = .ok (.iconst 4, 1) := by decide +kernel
theorem dX5_count_83 : decode cX5_count 83 = .ok (.iaload, 1) := by decide +kernel
theorem dX5_count_84 : decode cX5_count 84 = .ok (.ireturn, 1) := by decide +kernel
theorem dX5_count_85 : decode cX5_count 85 = .ok (.aload_n 0, 1) := by decide +kernel
theorem dX5_count_86 : decode cX5_count 86 = .ok (.getfield 28, 3) := by decide +kernel
theorem dX5_count_89 : decode cX5_count 89 = .ok (.iconst 0, 1) := by decide +kernel
theorem dX5_count_90 : decode cX5_count 90 = .ok (.iaload, 1) := by decide +kernel
theorem dX5_count_91 : decode cX5_count 91 = .ok (.ireturn, 1) := by decide +kernel
theorem dX5_count_92 : decode cX5_count 92 = .ok (.aload_n 0, 1) := by decide +kernel
theorem dX5_count_93 : decode cX5_count 93 = .ok (.getfield 28, 3) := by decide +kernel
theorem dX5_count_96 : decode cX5_count 96 = .ok (.iconst 1, 1) := by decide +kernel
theorem dX5_count_97 : decode cX5_count 97 = .ok (.iaload, 1) := by decide +kernel
theorem dX5_count_98 : decode cX5_count 98 = .ok (.ireturn, 1) := by decide +kernel
theorem dX5_count_99 : decode cX5_count 99 = .ok (.aload_n 0, 1) := by decide +kernel
theorem dX5_count_100 : decode cX5_count 100 = .ok (.aload_n 0, 1) := by decide +kernel
theorem dX5_count_101 : decode cX5_count 101 = .ok (.getfield 28, 3) := by decide +kernel
theorem dX5_count_104 : decode cX5_count 104 = .ok (.iconst 0, 1) := by decide +kernel
theorem dX5_count_105 : decode cX5_count 105 = .ok (.iaload, 1) := by decide +kernel
theorem dX5_count_106 : decode cX5_count 106 = .ok (.invokevirtual 238, 3) := by decide +kernel
theorem dX5_count_109 : decode cX5_count 109 = .ok (.ireturn, 1) := by decide +kernel
theorem dX5_count_110 : decode cX5_count 110 = .ok (.aload_n 0, 1) := by decide +kernel
theorem dX5_count_111 : decode cX5_count 111 = .ok (.invokevirtual 241, 3) := by decide +kernel
theorem dX5_count_114 : decode cX5_count 114 = .ok (.ireturn, 1) := by decide +kernel
theorem dX5_count_115 : decode cX5_count 115 = .ok (.aload_n 0, 1) := by decide +kernel
theorem dX5_count_116 : decode cX5_count 116 = .ok (.getfield 28, 3) := by decide +kernel
theorem dX5_count_119 : decode cX5_count 119 = .ok (.iconst 3, 1) := by decide +kernel
theorem dX5_count_120 : decode cX5_count 120 = .ok (.iaload, 1) := by decide +kernel
theorem dX5_count_121 : decode cX5_count 121 = .ok (.iconst 1, 1) := by decide +kernel
theorem dX5_count_122 : decode cX5_count 122 = .ok (.if_icmp .ne 7, 3) := by decide +kernel
theorem dX5_count_125 : decode cX5_count 125 = .ok (.iconst 1, 1) := by decide +kernel
theorem dX5_count_126 : decode cX5_count 126 = .ok (.goto 15, 3) := by decide +kernel
theorem dX5_count_129 : decode cX5_count 129 = .ok (.aload_n 0, 1) := by decide +kernel
theorem dX5_count_130 : decode cX5_count 130 = .ok (.invokevirtual 250, 3) := by decide +kernel
theorem dX5_count_133 : decode cX5_count 133 = .ok (.ifCond .eq 7, 3) := by decide +kernel
theorem dX5_count_136 : decode cX5_count 136 = .ok (.iconst 2, 1) := by decide +kernel
theorem dX5_count_137 : decode cX5_count 137 = .ok (.goto 4, 3) := by decide +kernel
theorem dX5_count_140 : decode cX5_count 140 = .ok (.iconst 0, 1) := by decide +kernel
theorem dX5_count_141 : decode cX5_count 141 = .ok (.ireturn, 1) := by decide +kernel
theorem dX5_count_142 : decode cX5_count 142 = .ok (.aload_n 0, 1) := by decide +kernel
theorem dX5_count_143 : decode cX5_count 143 = .ok (.getfield 28, 3) := by decide +kernel
theorem dX5_count_146 : decode cX5_count 146 = .ok (.iconst 2, 1) := by decide +kernel
theorem dX5_count_147 : decode cX5_count 147 = .ok (.iaload, 1) := by decide +kernel
theorem dX5_count_148 : decode cX5_count 148 = .ok (.ireturn, 1) := by decide +kernel
theorem dX5_count_149 : decode cX5_count 149 = .ok (.aload_n 0, 1) := by decide +kernel
theorem dX5_count_150 : decode cX5_count 150 = .ok (.getfield 170, 3) := by decide +kernel
theorem dX5_count_153 : decode cX5_count 153 = .ok (.ireturn, 1) := by decide +kernel
theorem dX5_count_154 : decode cX5_count 154 = .ok (.aload_n 0, 1) := by decide +kernel
theorem dX5_count_155 : decode cX5_count 155 = .ok (.getfield 164, 3) := by decide +kernel
theorem dX5_count_158 : decode cX5_count 158 = .ok (.ireturn, 1) := by decide +kernel
theorem dX5_count_159 : decode cX5_count 159 = .ok (.aload_n 0, 1) := by decide +kernel
theorem dX5_count_160 : decode cX5_count 160 = .ok (.getfield 167, 3) := by decide +kernel
theorem dX5_count_163 : decode cX5_count 163 = .ok (.ireturn, 1) := by decide +kernel
theorem dX5_count_164 : decode cX5_count 164 = .ok (.aload_n 0, 1) := by decide +kernel
theorem dX5_count_165 : decode cX5_count 165 = .ok (.getfield 113, 3) := by decide +kernel
theorem dX5_count_168 : decode cX5_count 168 = .ok (.ireturn, 1) := by decide +kernel
theorem dX5_count_169 : decode cX5_count 169 = .ok (.iconst (-1), 1) := by decide +kernel
theorem dX5_count_170 : decode cX5_count 170 = .ok (.ireturn, 1) := by decide +kernel
