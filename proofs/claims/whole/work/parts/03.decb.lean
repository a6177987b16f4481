theorem dX8_four_63 : decode cX8_four 63 = .ok (.iconst 0, 1) := by decide +kernel
theorem dX8_four_64 : decode cX8_four 64 = .ok (.istore 7, 2) := by decide +kernel
theorem dX8_four_66 : decode cX8_four 66 = .ok (.iload 7, 2) := by decide +kernel
theorem dX8_four_68 : decode cX8_four 68 = .ok (.ifCond .eq 14, 3) := by decide +kernel
theorem dX8_four_71 : decode cX8_four 71 = .ok (.aload_n 0, 1) := by decide +kernel
theorem dX8_four_72 : decode cX8_four 72 = .ok (.getfield 26, 3) := by decide +kernel
theorem dX8_four_75 : decode cX8_four 75 = .ok (.invokevirtual 73, 3) := by decide +kernel
theorem dX8_four_78 : decode cX8_four 78 = .ok (.iconst 4, 1) := by decide +kernel
theorem dX8_four_79 : decode cX8_four 79 = .ok (.if_icmp .ge 5, 3) := by decide +kernel
theorem dX8_four_82 : decode cX8_four 82 = .ok (.iconst (-1), 1) := by decide +kernel
theorem dX8_four_83 : decode cX8_four 83 = .ok (.ireturn, 1) := by decide +kernel
theorem dX8_four_84 : decode cX8_four 84 = .ok (.aload_n 0, 1) := by decide +kernel
theorem dX8_four_85 : decode cX8_four 85 = .ok (.getfield 26, 3) := by decide +kernel
theorem dX8_four_88 : decode cX8_four 88 = .ok (.iload_n 3, 1) := by decide +kernel
theorem dX8_four_89 : decode cX8_four 89 = .ok (.invokevirtual 77, 3) := by decide +kernel
theorem dX8_four_92 : decode cX8_four 92 = .ok (.aload_n 0, 1) := by decide +kernel
theorem dX8_four_93 : decode cX8_four 93 = .ok (.getfield 26, 3) := by decide +kernel
theorem dX8_four_96 : decode cX8_four 96 = .ok (.iload 4, 2) := by decide +kernel
theorem dX8_four_98 : decode cX8_four 98 = .ok (.invokevirtual 77, 3) := by decide +kernel
theorem dX8_four_101 : decode cX8_four 101 = .ok (.aload_n 0, 1) := by decide +kernel
theorem dX8_four_102 : decode cX8_four 102 = .ok (.getfield 26, 3) := by decide +kernel
theorem dX8_four_105 : decode cX8_four 105 = .ok (.iload 5, 2) := by decide +kernel
theorem dX8_four_107 : decode cX8_four 107 = .ok (.invokevirtual 77, 3) := by decide +kernel
theorem dX8_four_110 : decode cX8_four 110 = .ok (.aload_n 0, 1) := by decide +kernel
theorem dX8_four_111 : decode cX8_four 111 = .ok (.getfield 26, 3) := by decide +kernel
theorem dX8_four_114 : decode cX8_four 114 = .ok (.iload 6, 2) := by decide +kernel
theorem dX8_four_116 : decode cX8_four 116 = .ok (.invokevirtual 77, 3) := by decide +kernel
theorem dX8_four_119 : decode cX8_four 119 = .ok (.aload_n 0, 1) := by decide +kernel
theorem dX8_four_120 : decode cX8_four 120 = .ok (.iconst 1, 1) := by decide +kernel
theorem dX8_four_121 : decode cX8_four 121 = .ok (.putfield 65, 3) := by decide +kernel
theorem dX8_four_124 : decode cX8_four 124 = .ok (.aload_n 0, 1) := by decide +kernel
theorem dX8_four_125 : decode cX8_four 125 = .ok (.getfield 26, 3) := by decide +kernel
theorem dX8_four_128 : decode cX8_four 128 = .ok (.getfield 81, 3) := by decide +kernel
theorem dX8_four_131 : decode cX8_four 131 = .ok (.ireturn, 1) := by decide +kernel
theorem dX8_forget_0 : decode cX8_forget 0 = .ok (.iload_n 1, 1) := by decide +kernel
theorem dX8_forget_1 : decode cX8_forget 1 = .ok (.ifCond .lt 14, 3) := by decide +kernel
theorem dX8_forget_4 : decode cX8_forget 4 = .ok (.iload_n 1, 1) := by decide +kernel
theorem dX8_forget_5 : decode cX8_forget 5 = .ok (.aload_n 0, 1) := by decide +kernel
theorem dX8_forget_6 : decode cX8_forget 6 = .ok (.getfield 26, 3) := by decide +kernel
theorem dX8_forget_9 : decode cX8_forget 9 = .ok (.getfield 81, 3) := by decide +kernel
theorem dX8_forget_12 : decode cX8_forget 12 = .ok (.if_icmp .le 5, 3) := by decide +kernel
theorem dX8_forget_15 : decode cX8_forget 15 = .ok (.iconst (-1), 1) := by decide +kernel
theorem dX8_forget_16 : decode cX8_forget 16 = .ok (.ireturn, 1) := by decide +kernel
theorem dX8_forget_17 : decode cX8_forget 17 = .ok (.aload_n 0, 1) := by decide +kernel
theorem dX8_forget_18 : decode cX8_forget 18 = .ok (.getfield 26, 3) := by decide +kernel
theorem dX8_forget_21 : decode cX8_forget 21 = .ok (.iload_n 1, 1) := by decide +kernel
theorem dX8_forget_22 : decode cX8_forget 22 = .ok (.invokevirtual 85, 3) := by decide +kernel
theorem dX8_forget_25 : decode cX8_forget 25 = .ok (.aload_n 0, 1) := by decide +kernel
theorem dX8_forget_26 : decode cX8_forget 26 = .ok (.iconst 1, 1) := by decide +kernel
theorem dX8_forget_27 : decode cX8_forget 27 = .ok (.putfield 65, 3) := by decide +kernel
theorem dX8_forget_30 : decode cX8_forget 30 = .ok (.aload_n 0, 1) := by decide +kernel
theorem dX8_forget_31 : decode cX8_forget 31 = .ok (.getfield 26, 3) := by decide +kernel
theorem dX8_forget_34 : decode cX8_forget 34 = .ok (.getfield 81, 3) := by decide +kernel
theorem dX8_forget_37 : decode cX8_forget 37 = .ok (.ireturn, 1) := by decide +kernel
theorem dX8_set_0 : decode cX8_set 0 = .ok (.aload_n 0, 1) := by decide +kernel
theorem dX8_set_1 : decode cX8_set 1 = .ok (.aload_n 0, 1) := by decide +kernel
theorem dX8_set_2 : decode cX8_set 2 = .ok (.getfield 10, 3) := by decide +kernel
theorem dX8_set_5 : decode cX8_set 5 = .ok (.iload_n 1, 1) := by decide +kernel
theorem dX8_set_6 : decode cX8_set 6 = .ok (.iload_n 2, 1) := by decide +kernel
theorem dX8_set_7 : decode cX8_set 7 = .ok (.invokevirtual 88, 3) := by decide +kernel
theorem dX8_set_10 : decode cX8_set 10 = .ok (.invokevirtual 92, 3) := by decide +kernel
theorem dX8_set_13 : decode cX8_set 13 = .ok (.ireturn, 1) := by decide +kernel
theorem dX8_level_0 : decode cX8_level 0 = .ok (.aload_n 0, 1) := by decide +kernel
theorem dX8_level_1 : decode cX8_level 1 = .ok (.aload_n 0, 1) := by decide +kernel
theorem dX8_level_2 : decode cX8_level 2 = .ok (.getfield 10, 3) := by decide +kernel
theorem dX8_level_5 : decode cX8_level 5 = .ok (.iload_n 1, 1) := by decide +kernel
theorem dX8_level_6 : decode cX8_level 6 = .ok (.iload_n 2, 1) := by decide +kernel
theorem dX8_level_7 : decode cX8_level 7 = .ok (.invokevirtual 96, 3) := by decide +kernel
theorem dX8_level_10 : decode cX8_level 10 = .ok (.invokevirtual 92, 3) := by decide +kernel
theorem dX8_level_13 : decode cX8_level 13 = .ok (.ireturn, 1) := by decide +kernel
theorem dX8_mark_0 : decode cX8_mark 0 = .ok (.aload_n 0, 1) := by decide +kernel
theorem dX8_mark_1 : decode cX8_mark 1 = .ok (.aload_n 0, 1) := by decide +kernel
theorem dX8_mark_2 : decode cX8_mark 2 = .ok (.getfield 10, 3) := by decide +kernel
theorem dX8_mark_5 : decode cX8_mark 5 = .ok (.iload_n 1, 1) := by decide +kernel
theorem dX8_mark_6 : decode cX8_mark 6 = .ok (.iload_n 2, 1) := by decide +kernel
theorem dX8_mark_7 : decode cX8_mark 7 = .ok (.invokevirtual 99, 3) := by decide +kernel
theorem dX8_mark_10 : decode cX8_mark 10 = .ok (.invokevirtual 92, 3) := by decide +kernel
theorem dX8_mark_13 : decode cX8_mark 13 = .ok (.ireturn, 1) := by decide +kernel
theorem dX8_lens_0 : decode cX8_lens 0 = .ok (.iload_n 1, 1) := by decide +kernel
theorem dX8_lens_1 : decode cX8_lens 1 = .ok (.iload_n 2, 1) := by decide +kernel
theorem dX8_lens_2 : decode cX8_lens 2 = .ok (.invokestatic 102, 3) := by decide +kernel
theorem dX8_lens_5 : decode cX8_lens 5 = .ok (.ifCond .eq 14, 3) := by decide +kernel
theorem dX8_lens_8 : decode cX8_lens 8 = .ok (.aload_n 0, 1) := by decide +kernel
theorem dX8_lens_9 : decode cX8_lens 9 = .ok (.getfield 19, 3) := by decide +kernel
theorem dX8_lens_12 : decode cX8_lens 12 = .ok (.getfield 105, 3) := by decide +kernel
theorem dX8_lens_15 : decode cX8_lens 15 = .ok (.iconst 4, 1) := by decide +kernel
theorem dX8_lens_16 : decode cX8_lens 16 = .ok (.if_icmp .lt 5, 3) := by decide +kernel
theorem dX8_lens_19 : decode cX8_lens 19 = .ok (.iconst (-1), 1) := by decide +kernel
theorem dX8_lens_20 : decode cX8_lens 20 = .ok (.ireturn, 1) := by decide +kernel
theorem dX8_lens_21 : decode cX8_lens 21 = .ok (.aload_n 0, 1) := by decide +kernel
theorem dX8_lens_22 : decode cX8_lens 22 = .ok (.getfield 19, 3) := by decide +kernel
theorem dX8_lens_25 : decode cX8_lens 25 = .ok (.iload_n 1, 1) := by decide +kernel
theorem dX8_lens_26 : decode cX8_lens 26 = .ok (.iload_n 2, 1) := by decide +kernel
theorem dX8_lens_27 : decode cX8_lens 27 = .ok (.invokevirtual 106, 3) := by decide +kernel
theorem dX8_lens_30 : decode cX8_lens 30 = .ok (.aload_n 0, 1) := by decide +kernel
theorem dX8_lens_31 : decode cX8_lens 31 = .ok (.iconst 1, 1) := by decide +kernel
theorem dX8_lens_32 : decode cX8_lens 32 = .ok (.putfield 65, 3) := by decide +kernel
theorem dX8_lens_35 : decode cX8_lens 35 = .ok (.aload_n 0, 1) := by decide +kernel
theorem dX8_lens_36 : decode cX8_lens 36 = .ok (.getfield 19, 3) := by decide +kernel
theorem dX8_lens_39 : decode cX8_lens 39 = .ok (.getfield 105, 3) := by decide +kernel
theorem dX8_lens_42 : decode cX8_lens 42 = .ok (.ireturn, 1) := by decide +kernel
theorem dX8_off_0 : decode cX8_off 0 = .ok (.aload_n 0, 1) := by decide +kernel
theorem dX8_off_1 : decode cX8_off 1 = .ok (.getfield 19, 3) := by decide +kernel
theorem dX8_off_4 : decode cX8_off 4 = .ok (.getfield 105, 3) := by decide +kernel
theorem dX8_off_7 : decode cX8_off 7 = .ok (.iconst 1, 1) := by decide +kernel
theorem dX8_off_8 : decode cX8_off 8 = .ok (.if_icmp .ge 5, 3) := by decide +kernel
theorem dX8_off_11 : decode cX8_off 11 = .ok (.iconst (-1), 1) := by decide +kernel
theorem dX8_off_12 : decode cX8_off 12 = .ok (.ireturn, 1) := by decide +kernel
theorem dX8_off_13 : decode cX8_off 13 = .ok (.aload_n 0, 1) := by decide +kernel
theorem dX8_off_14 : decode cX8_off 14 = .ok (.getfield 19, 3) := by decide +kernel
theorem dX8_off_17 : decode cX8_off 17 = .ok (.invokevirtual 110, 3) := by decide +kernel
theorem dX8_off_20 : decode cX8_off 20 = .ok (.aload_n 0, 1) := by decide +kernel
theorem dX8_off_21 : decode cX8_off 21 = .ok (.iconst 1, 1) := by decide +kernel
theorem dX8_off_22 : decode cX8_off 22 = .ok (.putfield 65, 3) := by decide +kernel
theorem dX8_off_25 : decode cX8_off 25 = .ok (.aload_n 0, 1) := by decide +kernel
theorem dX8_off_26 : decode cX8_off 26 = .ok (.getfield 19, 3) := by decide +kernel
theorem dX8_off_29 : decode cX8_off 29 = .ok (.getfield 105, 3) := by decide +kernel
theorem dX8_off_32 : decode cX8_off 32 = .ok (.ireturn, 1) := by decide +kernel
theorem dX8_count_0 : decode cX8_count 0 = .ok (.aload_n 0, 1) := by decide +kernel
theorem dX8_count_1 : decode cX8_count 1 = .ok (.invokevirtual 113, 3) := by decide +kernel
theorem dX8_count_4 : decode cX8_count 4 = .ok (.iload_n 1, 1) := by decide +kernel
theorem dX8_count_5 : decode cX8_count 5 = .ok (.tableswitch 215 0 15 #[79, 87, 95, 103, 111, 119, 127, 135, 143, 151, 159, 167, 175, 183, 191, 199], 79) := by decide +kernel
theorem dX8_count_84 : decode cX8_count 84 = .ok (.aload_n 0, 1) := by decide +kernel
theorem dX8_count_85 : decode cX8_count 85 = .ok (.getfield 26, 3) := by decide +kernel
theorem dX8_count_88 : decode cX8_count 88 = .ok (.getfield 81, 3) := by decide +kernel
theorem dX8_count_91 : decode cX8_count 91 = .ok (.ireturn, 1) := by decide +kernel
theorem dX8_count_92 : decode cX8_count 92 = .ok (.aload_n 0, 1) := by decide +kernel
theorem dX8_count_93 : decode cX8_count 93 = .ok (.getfield 33, 3) := by decide +kernel
theorem dX8_count_96 : decode cX8_count 96 = .ok (.getfield 116, 3) := by decide +kernel
theorem dX8_count_99 : decode cX8_count 99 = .ok (.ireturn, 1) := by decide +kernel
theorem dX8_count_100 : decode cX8_count 100 = .ok (.aload_n 0, 1) := by decide +kernel
theorem dX8_count_101 : decode cX8_count 101 = .ok (.getfield 40, 3) := by decide +kernel
theorem dX8_count_104 : decode cX8_count 104 = .ok (.getfield 117, 3) := by decide +kernel
theorem dX8_count_107 : decode cX8_count 107 = .ok (.ireturn, 1) := by decide +kernel
theorem dX8_count_108 : decode cX8_count 108 = .ok (.aload_n 0, 1) := by decide +kernel
theorem dX8_count_109 : decode cX8_count 109 = .ok (.getfield 47, 3) := by decide +kernel
theorem dX8_count_112 : decode cX8_count 112 = .ok (.getfield 118, 3) := by decide +kernel
theorem dX8_count_115 : decode cX8_count 115 = .ok (.ireturn, 1) := by decide +kernel
theorem dX8_count_116 : decode cX8_count 116 = .ok (.aload_n 0, 1) := by decide +kernel
theorem dX8_count_117 : decode cX8_count 117 = .ok (.getfield 54, 3) := by decide +kernel
theorem dX8_count_120 : decode cX8_count 120 = .ok (.getfield 121, 3) := by decide +kernel
theorem dX8_count_123 : decode cX8_count 123 = .ok (.ireturn, 1) := by decide +kernel
theorem dX8_count_124 : decode cX8_count 124 = .ok (.aload_n 0, 1) := by decide +kernel
theorem dX8_count_125 : decode cX8_count 125 = .ok (.getfield 19, 3) := by decide +kernel
theorem dX8_count_128 : decode cX8_count 128 = .ok (.getfield 105, 3) := by decide +kernel
theorem dX8_count_131 : decode cX8_count 131 = .ok (.ireturn, 1) := by decide +kernel
theorem dX8_count_132 : decode cX8_count 132 = .ok (.aload_n 0, 1) := by decide +kernel
theorem dX8_count_133 : decode cX8_count 133 = .ok (.getfield 26, 3) := by decide +kernel
theorem dX8_count_136 : decode cX8_count 136 = .ok (.invokevirtual 122, 3) := by decide +kernel
theorem dX8_count_139 : decode cX8_count 139 = .ok (.ireturn, 1) := by decide +kernel
theorem dX8_count_140 : decode cX8_count 140 = .ok (.aload_n 0, 1) := by decide +kernel
theorem dX8_count_141 : decode cX8_count 141 = .ok (.getfield 10, 3) := by decide +kernel
theorem dX8_count_144 : decode cX8_count 144 = .ok (.invokevirtual 125, 3) := by decide +kernel
theorem dX8_count_147 : decode cX8_count 147 = .ok (.ireturn, 1) := by decide +kernel
theorem dX8_count_148 : decode cX8_count 148 = .ok (.aload_n 0, 1) := by decide +kernel
theorem dX8_count_149 : decode cX8_count 149 = .ok (.getfield 10, 3) := by decide +kernel
theorem dX8_count_152 : decode cX8_count 152 = .ok (.invokevirtual 128, 3) := by decide +kernel
theorem dX8_count_155 : decode cX8_count 155 = .ok (.ireturn, 1) := by decide +kernel
theorem dX8_count_156 : decode cX8_count 156 = .ok (.aload_n 0, 1) := by decide +kernel
theorem dX8_count_157 : decode cX8_count 157 = .ok (.getfield 10, 3) := by decide +kernel
theorem dX8_count_160 : decode cX8_count 160 = .ok (.invokevirtual 131, 3) := by decide +kernel
theorem dX8_count_163 : decode cX8_count 163 = .ok (.ireturn, 1) := by decide +kernel
theorem dX8_count_164 : decode cX8_count 164 = .ok (.aload_n 0, 1) := by decide +kernel
theorem dX8_count_165 : decode cX8_count 165 = .ok (.getfield 10, 3) := by decide +kernel
theorem dX8_count_168 : decode cX8_count 168 = .ok (.invokevirtual 134, 3) := by decide +kernel
theorem dX8_count_171 : decode cX8_count 171 = .ok (.ireturn, 1) := by decide +kernel
theorem dX8_count_172 : decode cX8_count 172 = .ok (.aload_n 0, 1) := by decide +kernel
theorem dX8_count_173 : decode cX8_count 173 = .ok (.getfield 10, 3) := by decide +kernel
theorem dX8_count_176 : decode cX8_count 176 = .ok (.getfield 137, 3) := by decide +kernel
theorem dX8_count_179 : decode cX8_count 179 = .ok (.ireturn, 1) := by decide +kernel
theorem dX8_count_180 : decode cX8_count 180 = .ok (.aload_n 0, 1) := by decide +kernel
theorem dX8_count_181 : decode cX8_count 181 = .ok (.getfield 10, 3) := by decide +kernel
theorem dX8_count_184 : decode cX8_count 184 = .ok (.getfield 140, 3) := by decide +kernel
theorem dX8_count_187 : decode cX8_count 187 = .ok (.ireturn, 1) := by decide +kernel
theorem dX8_count_188 : decode cX8_count 188 = .ok (.aload_n 0, 1) := by decide +kernel
theorem dX8_count_189 : decode cX8_count 189 = .ok (.getfield 33, 3) := by decide +kernel
theorem dX8_count_192 : decode cX8_count 192 = .ok (.getfield 143, 3) := by decide +kernel
theorem dX8_count_195 : decode cX8_count 195 = .ok (.ireturn, 1) := by decide +kernel
theorem dX8_count_196 : decode cX8_count 196 = .ok (.aload_n 0, 1) := by decide +kernel
theorem dX8_count_197 : decode cX8_count 197 = .ok (.getfield 33, 3) := by decide +kernel
theorem dX8_count_200 : decode cX8_count 200 = .ok (.getfield 146, 3) := by decide +kernel
theorem dX8_count_203 : decode cX8_count 203 = .ok (.ireturn, 1) := by decide +kernel
theorem dX8_count_204 : decode cX8_count 204 = .ok (.aload_n 0, 1) := by decide +kernel
theorem dX8_count_205 : decode cX8_count 205 = .ok (.getfield 40, 3) := by decide +kernel
theorem dX8_count_208 : decode cX8_count 208 = .ok (.iconst 0, 1) := by decide +kernel
theorem dX8_count_209 : decode cX8_count 209 = .ok (.aload_n 0, 1) := by decide +kernel
theorem dX8_count_210 : decode cX8_count 210 = .ok (.getfield 40, 3) := by decide +kernel
theorem dX8_count_213 : decode cX8_count 213 = .ok (.getfield 117, 3) := by decide +kernel
theorem dX8_count_216 : decode cX8_count 216 = .ok (.invokevirtual 149, 3) := by decide +kernel
theorem dX8_count_219 : decode cX8_count 219 = .ok (.ireturn, 1) := by decide +kernel
theorem dX8_count_220 : decode cX8_count 220 = .ok (.iconst (-1), 1) := by decide +kernel
theorem dX8_count_221 : decode cX8_count 221 = .ok (.ireturn, 1) := by decide +kernel
theorem dX8_sample_0 : decode cX8_sample 0 = .ok (.aload_n 0, 1) := by decide +kernel
theorem dX8_sample_1 : decode cX8_sample 1 = .ok (.getfield 26, 3) := by decide +kernel
theorem dX8_sample_4 : decode cX8_sample 4 = .ok (.iload_n 1, 1) := by decide +kernel
theorem dX8_sample_5 : decode cX8_sample 5 = .ok (.invokevirtual 153, 3) := by decide +kernel
theorem dX8_sample_8 : decode cX8_sample 8 = .ok (.ifCond .ne 5, 3) := by decide +kernel
theorem dX8_sample_11 : decode cX8_sample 11 = .ok (.iconst (-1), 1) := by decide +kernel
theorem dX8_sample_12 : decode cX8_sample 12 = .ok (.ireturn, 1) := by decide +kernel
theorem dX8_sample_13 : decode cX8_sample 13 = .ok (.aload_n 0, 1) := by decide +kernel
theorem dX8_sample_14 : decode cX8_sample 14 = .ok (.invokevirtual 113, 3) := by decide +kernel
theorem dX8_sample_17 : decode cX8_sample 17 = .ok (.iload_n 2, 1) := by decide +kernel
theorem dX8_sample_18 : decode cX8_sample 18 = .ok (.tableswitch 103 0 5 #[38, 48, 58, 74, 84, 94], 38) := by decide +kernel
theorem dX8_sample_56 : decode cX8_sample 56 = .ok (.aload_n 0, 1) := by decide +kernel
theorem dX8_sample_57 : decode cX8_sample 57 = .ok (.getfield 26, 3) := by decide +kernel
theorem dX8_sample_60 : decode cX8_sample 60 = .ok (.getfield 156, 3) := by decide +kernel
theorem dX8_sample_63 : decode cX8_sample 63 = .ok (.iload_n 1, 1) := by decide +kernel
theorem dX8_sample_64 : decode cX8_sample 64 = .ok (.iaload, 1) := by decide +kernel
theorem dX8_sample_65 : decode cX8_sample 65 = .ok (.ireturn, 1) := by decide +kernel
theorem dX8_sample_66 : decode cX8_sample 66 = .ok (.aload_n 0, 1) := by decide +kernel
theorem dX8_sample_67 : decode cX8_sample 67 = .ok (.getfield 33, 3) := by decide +kernel
theorem dX8_sample_70 : decode cX8_sample 70 = .ok (.iload_n 1, 1) := by decide +kernel
theorem dX8_sample_71 : decode cX8_sample 71 = .ok (.iconst 0, 1) := by decide +kernel
theorem dX8_sample_72 : decode cX8_sample 72 = .ok (.invokevirtual 160, 3) := by decide +kernel
theorem dX8_sample_75 : decode cX8_sample 75 = .ok (.ireturn, 1) := by decide +kernel
theorem dX8_sample_76 : decode cX8_sample 76 = .ok (.aload_n 0, 1) := by decide +kernel
theorem dX8_sample_77 : decode cX8_sample 77 = .ok (.getfield 33, 3) := by decide +kernel
theorem dX8_sample_80 : decode cX8_sample 80 = .ok (.iload_n 1, 1) := by decide +kernel
theorem dX8_sample_81 : decode cX8_sample 81 = .ok (.aload_n 0, 1) := by decide +kernel
theorem dX8_sample_82 : decode cX8_sample 82 = .ok (.getfield 19, 3) := by decide +kernel
theorem dX8_sample_85 : decode cX8_sample 85 = .ok (.getfield 105, 3) := by decide +kernel
theorem dX8_sample_88 : decode cX8_sample 88 = .ok (.invokevirtual 160, 3) := by decide +kernel
theorem dX8_sample_91 : decode cX8_sample 91 = .ok (.ireturn, 1) := by decide +kernel
theorem dX8_sample_92 : decode cX8_sample 92 = .ok (.aload_n 0, 1) := by decide +kernel
theorem dX8_sample_93 : decode cX8_sample 93 = .ok (.getfield 33, 3) := by decide +kernel
theorem dX8_sample_96 : decode cX8_sample 96 = .ok (.getfield 163, 3) := by decide +kernel
theorem dX8_sample_99 : decode cX8_sample 99 = .ok (.iload_n 1, 1) := by decide +kernel
theorem dX8_sample_100 : decode cX8_sample 100 = .ok (.iaload, 1) := by decide +kernel
theorem dX8_sample_101 : decode cX8_sample 101 = .ok (.ireturn, 1) := by decide +kernel
theorem dX8_sample_102 : decode cX8_sample 102 = .ok (.aload_n 0, 1) := by decide +kernel
theorem dX8_sample_103 : decode cX8_sample 103 = .ok (.getfield 40, 3) := by decide +kernel
theorem dX8_sample_106 : decode cX8_sample 106 = .ok (.getfield 166, 3) := by decide +kernel
theorem dX8_sample_109 : decode cX8_sample 109 = .ok (.iload_n 1, 1) := by decide +kernel
theorem dX8_sample_110 : decode cX8_sample 110 = .ok (.iaload, 1) := by decide +kernel
theorem dX8_sample_111 : decode cX8_sample 111 = .ok (.ireturn, 1) := by decide +kernel
theorem dX8_sample_112 : decode cX8_sample 112 = .ok (.aload_n 0, 1) := by decide +kernel
theorem dX8_sample_113 : decode cX8_sample 113 = .ok (.getfield 26, 3) := by decide +kernel
theorem dX8_sample_116 : decode cX8_sample 116 = .ok (.iload_n 1, 1) := by decide +kernel
theorem dX8_sample_117 : decode cX8_sample 117 = .ok (.invokevirtual 169, 3) := by decide +kernel
theorem dX8_sample_120 : decode cX8_sample 120 = .ok (.ireturn, 1) := by decide +kernel
theorem dX8_sample_121 : decode cX8_sample 121 = .ok (.iconst (-1), 1) := by decide +kernel
theorem dX8_sample_122 : decode cX8_sample 122 = .ok (.ireturn, 1) := by decide +kernel
theorem dX8_through_0 : decode cX8_through 0 = .ok (.aload_n 0, 1) := by decide +kernel
theorem dX8_through_1 : decode cX8_through 1 = .ok (.getfield 26, 3) := by decide +kernel
theorem dX8_through_4 : decode cX8_through 4 = .ok (.iload_n 1, 1) := by decide +kernel
theorem dX8_through_5 : decode cX8_through 5 = .ok (.invokevirtual 153, 3) := by decide +kernel
theorem dX8_through_8 : decode cX8_through 8 = .ok (.ifCond .eq 18, 3) := by decide +kernel
theorem dX8_through_11 : decode cX8_through 11 = .ok (.iload_n 2, 1) := by decide +kernel
theorem dX8_through_12 : decode cX8_through 12 = .ok (.ifCond .lt 14, 3) := by decide +kernel
theorem dX8_through_15 : decode cX8_through 15 = .ok (.iload_n 2, 1) := by decide +kernel
theorem dX8_through_16 : decode cX8_through 16 = .ok (.aload_n 0, 1) := by decide +kernel
theorem dX8_through_17 : decode cX8_through 17 = .ok (.getfield 19, 3) := by decide +kernel
theorem dX8_through_20 : decode cX8_through 20 = .ok (.getfield 105, 3) := by decide +kernel
theorem dX8_through_23 : decode cX8_through 23 = .ok (.if_icmp .le 7, 3) := by decide +kernel
theorem dX8_through_26 : decode cX8_through 26 = .ok (.sipush (-32768), 3) := by decide +kernel
theorem dX8_through_29 : decode cX8_through 29 = .ok (.ireturn, 1) := by decide +kernel
theorem dX8_through_30 : decode cX8_through 30 = .ok (.aload_n 0, 1) := by decide +kernel
theorem dX8_through_31 : decode cX8_through 31 = .ok (.invokevirtual 113, 3) := by decide +kernel
theorem dX8_through_34 : decode cX8_through 34 = .ok (.aload_n 0, 1) := by decide +kernel
theorem dX8_through_35 : decode cX8_through 35 = .ok (.getfield 33, 3) := by decide +kernel
theorem dX8_through_38 : decode cX8_through 38 = .ok (.iload_n 1, 1) := by decide +kernel
theorem dX8_through_39 : decode cX8_through 39 = .ok (.iload_n 2, 1) := by decide +kernel
theorem dX8_through_40 : decode cX8_through 40 = .ok (.invokevirtual 160, 3) := by decide +kernel
theorem dX8_through_43 : decode cX8_through 43 = .ok (.ireturn, 1) := by decide +kernel
theorem dX8_stretch_0 : decode cX8_stretch 0 = .ok (.aload_n 0, 1) := by decide +kernel
theorem dX8_stretch_1 : decode cX8_stretch 1 = .ok (.invokevirtual 113, 3) := by decide +kernel
theorem dX8_stretch_4 : decode cX8_stretch 4 = .ok (.aload_n 0, 1) := by decide +kernel
theorem dX8_stretch_5 : decode cX8_stretch 5 = .ok (.getfield 33, 3) := by decide +kernel
theorem dX8_stretch_8 : decode cX8_stretch 8 = .ok (.iload_n 1, 1) := by decide +kernel
theorem dX8_stretch_9 : decode cX8_stretch 9 = .ok (.invokevirtual 173, 3) := by decide +kernel
theorem dX8_stretch_12 : decode cX8_stretch 12 = .ok (.ifCond .ne 5, 3) := by decide +kernel
theorem dX8_stretch_15 : decode cX8_stretch 15 = .ok (.iconst (-1), 1) := by decide +kernel
theorem dX8_stretch_16 : decode cX8_stretch 16 = .ok (.ireturn, 1) := by decide +kernel
theorem dX8_stretch_17 : decode cX8_stretch 17 = .ok (.iload_n 2, 1) := by decide +kernel
theorem dX8_stretch_18 : decode cX8_stretch 18 = .ok (.tableswitch 164 0 7 #[46, 56, 66, 76, 86, 96, 106, 139], 46) := by decide +kernel
theorem dX8_stretch_64 : decode cX8_stretch 64 = .ok (.aload_n 0, 1) := by decide +kernel
theorem dX8_stretch_65 : decode cX8_stretch 65 = .ok (.getfield 33, 3) := by decide +kernel
theorem dX8_stretch_68 : decode cX8_stretch 68 = .ok (.getfield 174, 3) := by decide +kernel
theorem dX8_stretch_71 : decode cX8_stretch 71 = .ok (.iload_n 1, 1) := by decide +kernel
theorem dX8_stretch_72 : decode cX8_stretch 72 = .ok (.iaload, 1) := by decide +kernel
theorem dX8_stretch_73 : decode cX8_stretch 73 = .ok (.ireturn, 1) := by decide +kernel
theorem dX8_stretch_74 : decode cX8_stretch 74 = .ok (.aload_n 0, 1) := by decide +kernel
theorem dX8_stretch_75 : decode cX8_stretch 75 = .ok (.getfield 33, 3) := by decide +kernel
theorem dX8_stretch_78 : decode cX8_stretch 78 = .ok (.getfield 177, 3) := by decide +kernel
theorem dX8_stretch_81 : decode cX8_stretch 81 = .ok (.iload_n 1, 1) := by decide +kernel
theorem dX8_stretch_82 : decode cX8_stretch 82 = .ok (.iaload, 1) := by decide +kernel
theorem dX8_stretch_83 : decode cX8_stretch 83 = .ok (.ireturn, 1) := by decide +kernel
theorem dX8_stretch_84 : decode cX8_stretch 84 = .ok (.aload_n 0, 1) := by decide +kernel
theorem dX8_stretch_85 : decode cX8_stretch 85 = .ok (.getfield 33, 3) := by decide +kernel
theorem dX8_stretch_88 : decode cX8_stretch 88 = .ok (.getfield 180, 3) := by decide +kernel
theorem dX8_stretch_91 : decode cX8_stretch 91 = .ok (.iload_n 1, 1) := by decide +kernel
theorem dX8_stretch_92 : decode cX8_stretch 92 = .ok (.iaload, 1) := by decide +kernel
theorem dX8_stretch_93 : decode cX8_stretch 93 = .ok (.ireturn, 1) := by decide +kernel
theorem dX8_stretch_94 : decode cX8_stretch 94 = .ok (.aload_n 0, 1) := by decide +kernel
theorem dX8_stretch_95 : decode cX8_stretch 95 = .ok (.getfield 40, 3) := by decide +kernel
theorem dX8_stretch_98 : decode cX8_stretch 98 = .ok (.getfield 183, 3) := by decide +kernel
theorem dX8_stretch_101 : decode cX8_stretch 101 = .ok (.iload_n 1, 1) := by decide +kernel
theorem dX8_stretch_102 : decode cX8_stretch 102 = .ok (.iaload, 1) := by decide +kernel
theorem dX8_stretch_103 : decode cX8_stretch 103 = .ok (.ireturn, 1) := by decide +kernel
theorem dX8_stretch_104 : decode cX8_stretch 104 = .ok (.aload_n 0, 1) := by decide +kernel
theorem dX8_stretch_105 : decode cX8_stretch 105 = .ok (.getfield 40, 3) := by decide +kernel
theorem dX8_stretch_108 : decode cX8_stretch 108 = .ok (.getfield 186, 3) := by decide +kernel
theorem dX8_stretch_111 : decode cX8_stretch 111 = .ok (.iload_n 1, 1) := by decide +kernel
theorem dX8_stretch_112 : decode cX8_stretch 112 = .ok (.iaload, 1) := by decide +kernel
theorem dX8_stretch_113 : decode cX8_stretch 113 = .ok (.ireturn, 1) := by decide +kernel
theorem dX8_stretch_114 : decode cX8_stretch 114 = .ok (.aload_n 0, 1) := by decide +kernel
theorem dX8_stretch_115 : decode cX8_stretch 115 = .ok (.getfield 40, 3) := by decide +kernel
theorem dX8_stretch_118 : decode cX8_stretch 118 = .ok (.getfield 189, 3) := by decide +kernel
theorem dX8_stretch_121 : decode cX8_stretch 121 = .ok (.iload_n 1, 1) := by decide +kernel
theorem dX8_stretch_122 : decode cX8_stretch 122 = .ok (.iaload, 1) := by decide +kernel
theorem dX8_stretch_123 : decode cX8_stretch 123 = .ok (.ireturn, 1) := by decide +kernel
theorem dX8_stretch_124 : decode cX8_stretch 124 = .ok (.aload_n 0, 1) := by decide +kernel
theorem dX8_stretch_125 : decode cX8_stretch 125 = .ok (.getfield 33, 3) := by decide +kernel
theorem dX8_stretch_128 : decode cX8_stretch 128 = .ok (.getfield 192, 3) := by decide +kernel
theorem dX8_stretch_131 : decode cX8_stretch 131 = .ok (.aload_n 0, 1) := by decide +kernel
theorem dX8_stretch_132 : decode cX8_stretch 132 = .ok (.getfield 33, 3) := by decide +kernel
theorem dX8_stretch_135 : decode cX8_stretch 135 = .ok (.aload_n 0, 1) := by decide +kernel
theorem dX8_stretch_136 : decode cX8_stretch 136 = .ok (.getfield 33, 3) := by decide +kernel
theorem dX8_stretch_139 : decode cX8_stretch 139 = .ok (.getfield 174, 3) := by decide +kernel
theorem dX8_stretch_142 : decode cX8_stretch 142 = .ok (.iload_n 1, 1) := by decide +kernel
theorem dX8_stretch_143 : decode cX8_stretch 143 = .ok (.iaload, 1) := by decide +kernel
theorem dX8_stretch_144 : decode cX8_stretch 144 = .ok (.aload_n 0, 1) := by decide +kernel
theorem dX8_stretch_145 : decode cX8_stretch 145 = .ok (.getfield 33, 3) := by decide +kernel
theorem dX8_stretch_148 : decode cX8_stretch 148 = .ok (.iload_n 1, 1) := by decide +kernel
theorem dX8_stretch_149 : decode cX8_stretch 149 = .ok (.invokevirtual 195, 3) := by decide +kernel
theorem dX8_stretch_152 : decode cX8_stretch 152 = .ok (.invokevirtual 198, 3) := by decide +kernel
theorem dX8_stretch_155 : decode cX8_stretch 155 = .ok (.iaload, 1) := by decide +kernel
theorem dX8_stretch_156 : decode cX8_stretch 156 = .ok (.ireturn, 1) := by decide +kernel
theorem dX8_stretch_157 : decode cX8_stretch 157 = .ok (.aload_n 0, 1) := by decide +kernel
theorem dX8_stretch_158 : decode cX8_stretch 158 = .ok (.getfield 33, 3) := by decide +kernel
theorem dX8_stretch_161 : decode cX8_stretch 161 = .ok (.aload_n 0, 1) := by decide +kernel
theorem dX8_stretch_162 : decode cX8_stretch 162 = .ok (.getfield 33, 3) := by decide +kernel
theorem dX8_stretch_165 : decode cX8_stretch 165 = .ok (.getfield 174, 3) := by decide +kernel
theorem dX8_stretch_168 : decode cX8_stretch 168 = .ok (.iload_n 1, 1) := by decide +kernel
theorem dX8_stretch_169 : decode cX8_stretch 169 = .ok (.iaload, 1) := by decide +kernel
theorem dX8_stretch_170 : decode cX8_stretch 170 = .ok (.aload_n 0, 1) := by decide +kernel
theorem dX8_stretch_171 : decode cX8_stretch 171 = .ok (.getfield 33, 3) := by decide +kernel
theorem dX8_stretch_174 : decode cX8_stretch 174 = .ok (.iload_n 1, 1) := by decide +kernel
theorem dX8_stretch_175 : decode cX8_stretch 175 = .ok (.invokevirtual 195, 3) := by decide +kernel
theorem dX8_stretch_178 : decode cX8_stretch 178 = .ok (.invokevirtual 201, 3) := by decide +kernel
theorem dX8_stretch_181 : decode cX8_stretch 181 = .ok (.ireturn, 1) := by decide +kernel
theorem dX8_stretch_182 : decode cX8_stretch 182 = .ok (.iconst (-1), 1) := by decide +kernel
theorem dX8_stretch_183 : decode cX8_stretch 183 = .ok (.ireturn, 1) := by decide +kernel
theorem dX8_wave_0 : decode cX8_wave 0 = .ok (.aload_n 0, 1) := by decide +kernel
theorem dX8_wave_1 : decode cX8_wave 1 = .ok (.invokevirtual 113, 3) := by decide +kernel
theorem dX8_wave_4 : decode cX8_wave 4 = .ok (.aload_n 0, 1) := by decide +kernel
theorem dX8_wave_5 : decode cX8_wave 5 = .ok (.getfield 40, 3) := by decide +kernel
theorem dX8_wave_8 : decode cX8_wave 8 = .ok (.iload_n 1, 1) := by decide +kernel
theorem dX8_wave_9 : decode cX8_wave 9 = .ok (.invokevirtual 204, 3) := by decide +kernel
theorem dX8_wave_12 : decode cX8_wave 12 = .ok (.ifCond .ne 5, 3) := by decide +kernel
theorem dX8_wave_15 : decode cX8_wave 15 = .ok (.iconst (-1), 1) := by decide +kernel
theorem dX8_wave_16 : decode cX8_wave 16 = .ok (.ireturn, 1) := by decide +kernel
theorem dX8_wave_17 : decode cX8_wave 17 = .ok (.iload_n 2, 1) := by decide +kernel
theorem dX8_wave_18 : decode cX8_wave 18 = .ok (.tableswitch 237 0 11 #[62, 72, 82, 92, 102, 122, 132, 142, 152, 177, 202, 212], 62) := by decide +kernel
theorem dX8_wave_80 : decode cX8_wave 80 = .ok (.aload_n 0, 1) := by decide +kernel
theorem dX8_wave_81 : decode cX8_wave 81 = .ok (.getfield 40, 3) := by decide +kernel
theorem dX8_wave_84 : decode cX8_wave 84 = .ok (.getfield 205, 3) := by decide +kernel
theorem dX8_wave_87 : decode cX8_wave 87 = .ok (.iload_n 1, 1) := by decide +kernel
theorem dX8_wave_88 : decode cX8_wave 88 = .ok (.iaload, 1) := by decide +kernel
theorem dX8_wave_89 : decode cX8_wave 89 = .ok (.ireturn, 1) := by decide +kernel
theorem dX8_wave_90 : decode cX8_wave 90 = .ok (.aload_n 0, 1) := by decide +kernel
theorem dX8_wave_91 : decode cX8_wave 91 = .ok (.getfield 40, 3) := by decide +kernel
theorem dX8_wave_94 : decode cX8_wave 94 = .ok (.getfield 206, 3) := by decide +kernel
theorem dX8_wave_97 : decode cX8_wave 97 = .ok (.iload_n 1, 1) := by decide +kernel
theorem dX8_wave_98 : decode cX8_wave 98 = .ok (.iaload, 1) := by decide +kernel
theorem dX8_wave_99 : decode cX8_wave 99 = .ok (.ireturn, 1) := by decide +kernel
theorem dX8_wave_100 : decode cX8_wave 100 = .ok (.aload_n 0, 1) := by decide +kernel
theorem dX8_wave_101 : decode cX8_wave 101 = .ok (.getfield 40, 3) := by decide +kernel
theorem dX8_wave_104 : decode cX8_wave 104 = .ok (.getfield 209, 3) := by decide +kernel
theorem dX8_wave_107 : decode cX8_wave 107 = .ok (.iload_n 1, 1) := by decide +kernel
theorem dX8_wave_108 : decode cX8_wave 108 = .ok (.iaload, 1) := by decide +kernel
theorem dX8_wave_109 : decode cX8_wave 109 = .ok (.ireturn, 1) := by decide +kernel
theorem dX8_wave_110 : decode cX8_wave 110 = .ok (.aload_n 0, 1) := by decide +kernel
theorem dX8_wave_111 : decode cX8_wave 111 = .ok (.getfield 40, 3) := by decide +kernel
theorem dX8_wave_114 : decode cX8_wave 114 = .ok (.getfield 212, 3) := by decide +kernel
theorem dX8_wave_117 : decode cX8_wave 117 = .ok (.iload_n 1, 1) := by decide +kernel
theorem dX8_wave_118 : decode cX8_wave 118 = .ok (.iaload, 1) := by decide +kernel
theorem dX8_wave_119 : decode cX8_wave 119 = .ok (.ireturn, 1) := by decide +kernel
theorem dX8_wave_120 : decode cX8_wave 120 = .ok (.aload_n 0, 1) := by decide +kernel
theorem dX8_wave_121 : decode cX8_wave 121 = .ok (.getfield 40, 3) := by decide +kernel
theorem dX8_wave_124 : decode cX8_wave 124 = .ok (.getfield 209, 3) := by decide +kernel
theorem dX8_wave_127 : decode cX8_wave 127 = .ok (.iload_n 1, 1) := by decide +kernel
theorem dX8_wave_128 : decode cX8_wave 128 = .ok (.iaload, 1) := by decide +kernel
theorem dX8_wave_129 : decode cX8_wave 129 = .ok (.aload_n 0, 1) := by decide +kernel
theorem dX8_wave_130 : decode cX8_wave 130 = .ok (.getfield 40, 3) := by decide +kernel
theorem dX8_wave_133 : decode cX8_wave 133 = .ok (.getfield 212, 3) := by decide +kernel
theorem dX8_wave_136 : decode cX8_wave 136 = .ok (.iload_n 1, 1) := by decide +kernel
theorem dX8_wave_137 : decode cX8_wave 137 = .ok (.iaload, 1) := by decide +kernel
theorem dX8_wave_138 : decode cX8_wave 138 = .ok (.isub, 1) := by decide +kernel
theorem dX8_wave_139 : decode cX8_wave 139 = .ok (.ireturn, 1) := by decide +kernel
theorem dX8_wave_140 : decode cX8_wave 140 = .ok (.aload_n 0, 1) := by decide +kernel
theorem dX8_wave_141 : decode cX8_wave 141 = .ok (.getfield 40, 3) := by decide +kernel
theorem dX8_wave_144 : decode cX8_wave 144 = .ok (.getfield 215, 3) := by decide +kernel
theorem dX8_wave_147 : decode cX8_wave 147 = .ok (.iload_n 1, 1) := by decide +kernel
theorem dX8_wave_148 : decode cX8_wave 148 = .ok (.iaload, 1) := by decide +kernel
theorem dX8_wave_149 : decode cX8_wave 149 = .ok (.ireturn, 1) := by decide +kernel
theorem dX8_wave_150 : decode cX8_wave 150 = .ok (.aload_n 0, 1) := by decide +kernel
theorem dX8_wave_151 : decode cX8_wave 151 = .ok (.getfield 40, 3) := by decide +kernel
theorem dX8_wave_154 : decode cX8_wave 154 = .ok (.getfield 218, 3) := by decide +kernel
theorem dX8_wave_157 : decode cX8_wave 157 = .ok (.iload_n 1, 1) := by decide +kernel
theorem dX8_wave_158 : decode cX8_wave 158 = .ok (.iaload, 1) := by decide +kernel
theorem dX8_wave_159 : decode cX8_wave 159 = .ok (.ireturn, 1) := by decide +kernel
theorem dX8_wave_160 : decode cX8_wave 160 = .ok (.aload_n 0, 1) := by decide +kernel
theorem dX8_wave_161 : decode cX8_wave 161 = .ok (.getfield 47, 3) := by decide +kernel
theorem dX8_wave_164 : decode cX8_wave 164 = .ok (.getfield 219, 3) := by decide +kernel
theorem dX8_wave_167 : decode cX8_wave 167 = .ok (.iload_n 1, 1) := by decide +kernel
theorem dX8_wave_168 : decode cX8_wave 168 = .ok (.iaload, 1) := by decide +kernel
theorem dX8_wave_169 : decode cX8_wave 169 = .ok (.ireturn, 1) := by decide +kernel
theorem dX8_wave_170 : decode cX8_wave 170 = .ok (.aload_n 0, 1) := by decide +kernel
theorem dX8_wave_171 : decode cX8_wave 171 = .ok (.getfield 47, 3) := by decide +kernel
theorem dX8_wave_174 : decode cX8_wave 174 = .ok (.getfield 219, 3) := by decide +kernel
theorem dX8_wave_177 : decode cX8_wave 177 = .ok (.iload_n 1, 1) := by decide +kernel
theorem dX8_wave_178 : decode cX8_wave 178 = .ok (.iaload, 1) := by decide +kernel
theorem dX8_wave_179 : decode cX8_wave 179 = .ok (.aload_n 0, 1) := by decide +kernel
theorem dX8_wave_180 : decode cX8_wave 180 = .ok (.getfield 47, 3) := by decide +kernel
theorem dX8_wave_183 : decode cX8_wave 183 = .ok (.getfield 118, 3) := by decide +kernel
theorem dX8_wave_186 : decode cX8_wave 186 = .ok (.if_icmp .ge 7, 3) := by decide +kernel
theorem dX8_wave_189 : decode cX8_wave 189 = .ok (.iconst 1, 1) := by decide +kernel
theorem dX8_wave_190 : decode cX8_wave 190 = .ok (.goto 4, 3) := by decide +kernel
theorem dX8_wave_193 : decode cX8_wave 193 = .ok (.iconst 0, 1) := by decide +kernel
theorem dX8_wave_194 : decode cX8_wave 194 = .ok (.ireturn, 1) := by decide +kernel
theorem dX8_wave_195 : decode cX8_wave 195 = .ok (.aload_n 0, 1) := by decide +kernel
theorem dX8_wave_196 : decode cX8_wave 196 = .ok (.getfield 47, 3) := by decide +kernel
theorem dX8_wave_199 : decode cX8_wave 199 = .ok (.aload_n 0, 1) := by decide +kernel
theorem dX8_wave_200 : decode cX8_wave 200 = .ok (.getfield 40, 3) := by decide +kernel
theorem dX8_wave_203 : decode cX8_wave 203 = .ok (.iload_n 1, 1) := by decide +kernel
theorem dX8_wave_204 : decode cX8_wave 204 = .ok (.aload_n 0, 1) := by decide +kernel
theorem dX8_wave_205 : decode cX8_wave 205 = .ok (.getfield 10, 3) := by decide +kernel
theorem dX8_wave_208 : decode cX8_wave 208 = .ok (.invokevirtual 222, 3) := by decide +kernel
theorem dX8_wave_211 : decode cX8_wave 211 = .ok (.ifCond .eq 7, 3) := by decide +kernel
theorem dX8_wave_214 : decode cX8_wave 214 = .ok (.iconst 1, 1) := by decide +kernel
theorem dX8_wave_215 : decode cX8_wave 215 = .ok (.goto 4, 3) := by decide +kernel
theorem dX8_wave_218 : decode cX8_wave 218 = .ok (.iconst 0, 1) := by decide +kernel
theorem dX8_wave_219 : decode cX8_wave 219 = .ok (.ireturn, 1) := by decide +kernel
theorem dX8_wave_220 : decode cX8_wave 220 = .ok (.aload_n 0, 1) := by decide +kernel
theorem dX8_wave_221 : decode cX8_wave 221 = .ok (.getfield 54, 3) := by decide +kernel
theorem dX8_wave_224 : decode cX8_wave 224 = .ok (.getfield 226, 3) := by decide +kernel
theorem dX8_wave_227 : decode cX8_wave 227 = .ok (.iload_n 1, 1) := by decide +kernel
theorem dX8_wave_228 : decode cX8_wave 228 = .ok (.iaload, 1) := by decide +kernel
theorem dX8_wave_229 : decode cX8_wave 229 = .ok (.ireturn, 1) := by decide +kernel
theorem dX8_wave_230 : decode cX8_wave 230 = .ok (.aload_n 0, 1) := by decide +kernel
theorem dX8_wave_231 : decode cX8_wave 231 = .ok (.getfield 26, 3) := by decide +kernel
theorem dX8_wave_234 : decode cX8_wave 234 = .ok (.aload_n 0, 1) := by decide +kernel
theorem dX8_wave_235 : decode cX8_wave 235 = .ok (.getfield 40, 3) := by decide +kernel
theorem dX8_wave_238 : decode cX8_wave 238 = .ok (.getfield 205, 3) := by decide +kernel
theorem dX8_wave_241 : decode cX8_wave 241 = .ok (.iload_n 1, 1) := by decide +kernel
theorem dX8_wave_242 : decode cX8_wave 242 = .ok (.iaload, 1) := by decide +kernel
theorem dX8_wave_243 : decode cX8_wave 243 = .ok (.aload_n 0, 1) := by decide +kernel
theorem dX8_wave_244 : decode cX8_wave 244 = .ok (.getfield 40, 3) := by decide +kernel
theorem dX8_wave_247 : decode cX8_wave 247 = .ok (.iload_n 1, 1) := by decide +kernel
theorem dX8_wave_248 : decode cX8_wave 248 = .ok (.invokevirtual 229, 3) := by decide +kernel
theorem dX8_wave_251 : decode cX8_wave 251 = .ok (.invokevirtual 230, 3) := by decide +kernel
theorem dX8_wave_254 : decode cX8_wave 254 = .ok (.ireturn, 1) := by decide +kernel
theorem dX8_wave_255 : decode cX8_wave 255 = .ok (.iconst (-1), 1) := by decide +kernel
theorem dX8_wave_256 : decode cX8_wave 256 = .ok (.ireturn, 1) := by decide +kernel
theorem dX8_ranked_0 : decode cX8_ranked 0 = .ok (.aload_n 0, 1) := by decide +kernel
theorem dX8_ranked_1 : decode cX8_ranked 1 = .ok (.invokevirtual 113, 3) := by decide +kernel
theorem dX8_ranked_4 : decode cX8_ranked 4 = .ok (.aload_n 0, 1) := by decide +kernel
theorem dX8_ranked_5 : decode cX8_ranked 5 = .ok (.getfield 40, 3) := by decide +kernel
theorem dX8_ranked_8 : decode cX8_ranked 8 = .ok (.iload_n 1, 1) := by decide +kernel
theorem dX8_ranked_9 : decode cX8_ranked 9 = .ok (.invokevirtual 204, 3) := by decide +kernel
theorem dX8_ranked_12 : decode cX8_ranked 12 = .ok (.ifCond .eq 15, 3) := by decide +kernel
theorem dX8_ranked_15 : decode cX8_ranked 15 = .ok (.aload_n 0, 1) := by decide +kernel
theorem dX8_ranked_16 : decode cX8_ranked 16 = .ok (.getfield 47, 3) := by decide +kernel
theorem dX8_ranked_19 : decode cX8_ranked 19 = .ok (.getfield 233, 3) := by decide +kernel
theorem dX8_ranked_22 : decode cX8_ranked 22 = .ok (.iload_n 1, 1) := by decide +kernel
theorem dX8_ranked_23 : decode cX8_ranked 23 = .ok (.iaload, 1) := by decide +kernel
theorem dX8_ranked_24 : decode cX8_ranked 24 = .ok (.goto 4, 3) := by decide +kernel
theorem dX8_ranked_27 : decode cX8_ranked 27 = .ok (.iconst (-1), 1) := by decide +kernel
theorem dX8_ranked_28 : decode cX8_ranked 28 = .ok (.ireturn, 1) := by decide +kernel
theorem dX8_highest_0 : decode cX8_highest 0 = .ok (.iload_n 1, 1) := by decide +kernel
theorem dX8_highest_1 : decode cX8_highest 1 = .ok (.iconst 1, 1) := by decide +kernel
theorem dX8_highest_2 : decode cX8_highest 2 = .ok (.if_icmp .lt 18, 3) := by decide +kernel
theorem dX8_highest_5 : decode cX8_highest 5 = .ok (.iload_n 1, 1) := by decide +kernel
theorem dX8_highest_6 : decode cX8_highest 6 = .ok (.bipush 10, 2) := by decide +kernel
theorem dX8_highest_8 : decode cX8_highest 8 = .ok (.if_icmp .gt 12, 3) := by decide +kernel
theorem dX8_highest_11 : decode cX8_highest 11 = .ok (.iload_n 2, 1) := by decide +kernel
theorem dX8_highest_12 : decode cX8_highest 12 = .ok (.ifCond .lt 8, 3) := by decide +kernel
theorem dX8_highest_15 : decode cX8_highest 15 = .ok (.iload_n 2, 1) := by decide +kernel
theorem dX8_highest_16 : decode cX8_highest 16 = .ok (.iconst 4, 1) := by decide +kernel
theorem dX8_highest_17 : decode cX8_highest 17 = .ok (.if_icmp .le 5, 3) := by decide +kernel
theorem dX8_highest_20 : decode cX8_highest 20 = .ok (.iconst (-1), 1) := by decide +kernel
theorem dX8_highest_21 : decode cX8_highest 21 = .ok (.ireturn, 1) := by decide +kernel
theorem dX8_highest_22 : decode cX8_highest 22 = .ok (.aload_n 0, 1) := by decide +kernel
theorem dX8_highest_23 : decode cX8_highest 23 = .ok (.invokevirtual 113, 3) := by decide +kernel
theorem dX8_highest_26 : decode cX8_highest 26 = .ok (.aload_n 0, 1) := by decide +kernel
theorem dX8_highest_27 : decode cX8_highest 27 = .ok (.getfield 40, 3) := by decide +kernel
theorem dX8_highest_30 : decode cX8_highest 30 = .ok (.getfield 117, 3) := by decide +kernel
theorem dX8_highest_33 : decode cX8_highest 33 = .ok (.iload_n 1, 1) := by decide +kernel
theorem dX8_highest_34 : decode cX8_highest 34 = .ok (.invokestatic 236, 3) := by decide +kernel
theorem dX8_highest_37 : decode cX8_highest 37 = .ok (.istore_n 3, 1) := by decide +kernel
theorem dX8_highest_38 : decode cX8_highest 38 = .ok (.iload_n 2, 1) := by decide +kernel
theorem dX8_highest_39 : decode cX8_highest 39 = .ok (.iconst 4, 1) := by decide +kernel
theorem dX8_highest_40 : decode cX8_highest 40 = .ok (.if_icmp .ne 5, 3) := by decide +kernel
theorem dX8_highest_43 : decode cX8_highest 43 = .ok (.iload_n 3, 1) := by decide +kernel
theorem dX8_highest_44 : decode cX8_highest 44 = .ok (.ireturn, 1) := by decide +kernel
theorem dX8_highest_45 : decode cX8_highest 45 = .ok (.iload_n 2, 1) := by decide +kernel
theorem dX8_highest_46 : decode cX8_highest 46 = .ok (.iconst 2, 1) := by decide +kernel
theorem dX8_highest_47 : decode cX8_highest 47 = .ok (.if_icmp .ge 18, 3) := by decide +kernel
theorem dX8_highest_50 : decode cX8_highest 50 = .ok (.aload_n 0, 1) := by decide +kernel
theorem dX8_highest_51 : decode cX8_highest 51 = .ok (.getfield 47, 3) := by decide +kernel
theorem dX8_highest_54 : decode cX8_highest 54 = .ok (.aload_n 0, 1) := by decide +kernel
theorem dX8_highest_55 : decode cX8_highest 55 = .ok (.getfield 40, 3) := by decide +kernel
theorem dX8_highest_58 : decode cX8_highest 58 = .ok (.iload_n 3, 1) := by decide +kernel
theorem dX8_highest_59 : decode cX8_highest 59 = .ok (.invokevirtual 239, 3) := by decide +kernel
theorem dX8_highest_62 : decode cX8_highest 62 = .ok (.goto 15, 3) := by decide +kernel
theorem dX8_highest_65 : decode cX8_highest 65 = .ok (.aload_n 0, 1) := by decide +kernel
theorem dX8_highest_66 : decode cX8_highest 66 = .ok (.getfield 47, 3) := by decide +kernel
theorem dX8_highest_69 : decode cX8_highest 69 = .ok (.aload_n 0, 1) := by decide +kernel
theorem dX8_highest_70 : decode cX8_highest 70 = .ok (.getfield 40, 3) := by decide +kernel
theorem dX8_highest_73 : decode cX8_highest 73 = .ok (.iload_n 3, 1) := by decide +kernel
theorem dX8_highest_74 : decode cX8_highest 74 = .ok (.invokevirtual 243, 3) := by decide +kernel
theorem dX8_highest_77 : decode cX8_highest 77 = .ok (.istore 4, 2) := by decide +kernel
theorem dX8_highest_79 : decode cX8_highest 79 = .ok (.iconst 1, 1) := by decide +kernel
theorem dX8_highest_80 : decode cX8_highest 80 = .ok (.iload_n 3, 1) := by decide +kernel
theorem dX8_highest_81 : decode cX8_highest 81 = .ok (.invokestatic 246, 3) := by decide +kernel
theorem dX8_highest_84 : decode cX8_highest 84 = .ok (.istore 5, 2) := by decide +kernel
theorem dX8_highest_86 : decode cX8_highest 86 = .ok (.iconst 1, 1) := by decide +kernel
theorem dX8_highest_87 : decode cX8_highest 87 = .ok (.iload 4, 2) := by decide +kernel
theorem dX8_highest_89 : decode cX8_highest 89 = .ok (.iload 5, 2) := by decide +kernel
theorem dX8_highest_91 : decode cX8_highest 91 = .ok (.invokestatic 251, 3) := by decide +kernel
theorem dX8_highest_94 : decode cX8_highest 94 = .ok (.invokestatic 246, 3) := by decide +kernel
theorem dX8_highest_97 : decode cX8_highest 97 = .ok (.istore 6, 2) := by decide +kernel
theorem dX8_highest_99 : decode cX8_highest 99 = .ok (.iload_n 2, 1) := by decide +kernel
theorem dX8_highest_100 : decode cX8_highest 100 = .ok (.iconst 2, 1) := by decide +kernel
theorem dX8_highest_101 : decode cX8_highest 101 = .ok (.irem, 1) := by decide +kernel
theorem dX8_highest_102 : decode cX8_highest 102 = .ok (.ifCond .ne 11, 3) := by decide +kernel
theorem dX8_highest_105 : decode cX8_highest 105 = .ok (.iload 4, 2) := by decide +kernel
theorem dX8_highest_107 : decode cX8_highest 107 = .ok (.iload 6, 2) := by decide +kernel
theorem dX8_highest_109 : decode cX8_highest 109 = .ok (.idiv, 1) := by decide +kernel
theorem dX8_highest_110 : decode cX8_highest 110 = .ok (.goto 8, 3) := by decide +kernel
theorem dX8_highest_113 : decode cX8_highest 113 = .ok (.iload 5, 2) := by decide +kernel
theorem dX8_highest_115 : decode cX8_highest 115 = .ok (.iload 6, 2) := by decide +kernel
theorem dX8_highest_117 : decode cX8_highest 117 = .ok (.idiv, 1) := by decide +kernel
theorem dX8_highest_118 : decode cX8_highest 118 = .ok (.ireturn, 1) := by decide +kernel
theorem dX8_freak_0 : decode cX8_freak 0 = .ok (.aload_n 0, 1) := by decide +kernel
theorem dX8_freak_1 : decode cX8_freak 1 = .ok (.invokevirtual 113, 3) := by decide +kernel
theorem dX8_freak_4 : decode cX8_freak 4 = .ok (.iload_n 1, 1) := by decide +kernel
theorem dX8_freak_5 : decode cX8_freak 5 = .ok (.ifCond .lt 26, 3) := by decide +kernel
theorem dX8_freak_8 : decode cX8_freak 8 = .ok (.iload_n 1, 1) := by decide +kernel
theorem dX8_freak_9 : decode cX8_freak 9 = .ok (.aload_n 0, 1) := by decide +kernel
theorem dX8_freak_10 : decode cX8_freak 10 = .ok (.getfield 47, 3) := by decide +kernel
theorem dX8_freak_13 : decode cX8_freak 13 = .ok (.getfield 118, 3) := by decide +kernel
theorem dX8_freak_16 : decode cX8_freak 16 = .ok (.if_icmp .ge 15, 3) := by decide +kernel
theorem dX8_freak_19 : decode cX8_freak 19 = .ok (.aload_n 0, 1) := by decide +kernel
theorem dX8_freak_20 : decode cX8_freak 20 = .ok (.getfield 47, 3) := by decide +kernel
theorem dX8_freak_23 : decode cX8_freak 23 = .ok (.getfield 233, 3) := by decide +kernel
theorem dX8_freak_26 : decode cX8_freak 26 = .ok (.iload_n 1, 1) := by decide +kernel
theorem dX8_freak_27 : decode cX8_freak 27 = .ok (.iaload, 1) := by decide +kernel
theorem dX8_freak_28 : decode cX8_freak 28 = .ok (.goto 4, 3) := by decide +kernel
theorem dX8_freak_31 : decode cX8_freak 31 = .ok (.iconst (-1), 1) := by decide +kernel
theorem dX8_freak_32 : decode cX8_freak 32 = .ok (.ireturn, 1) := by decide +kernel
theorem dX8_group_0 : decode cX8_group 0 = .ok (.aload_n 0, 1) := by decide +kernel
theorem dX8_group_1 : decode cX8_group 1 = .ok (.invokevirtual 113, 3) := by decide +kernel
theorem dX8_group_4 : decode cX8_group 4 = .ok (.aload_n 0, 1) := by decide +kernel
theorem dX8_group_5 : decode cX8_group 5 = .ok (.getfield 54, 3) := by decide +kernel
theorem dX8_group_8 : decode cX8_group 8 = .ok (.iload_n 1, 1) := by decide +kernel
theorem dX8_group_9 : decode cX8_group 9 = .ok (.invokevirtual 254, 3) := by decide +kernel
theorem dX8_group_12 : decode cX8_group 12 = .ok (.ifCond .ne 5, 3) := by decide +kernel
theorem dX8_group_15 : decode cX8_group 15 = .ok (.iconst (-1), 1) := by decide +kernel
theorem dX8_group_16 : decode cX8_group 16 = .ok (.ireturn, 1) := by decide +kernel
theorem dX8_group_17 : decode cX8_group 17 = .ok (.aload_n 0, 1) := by decide +kernel
theorem dX8_group_18 : decode cX8_group 18 = .ok (.getfield 54, 3) := by decide +kernel
theorem dX8_group_21 : decode cX8_group 21 = .ok (.getfield 255, 3) := by decide +kernel
theorem dX8_group_24 : decode cX8_group 24 = .ok (.iload_n 1, 1) := by decide +kernel
theorem dX8_group_25 : decode cX8_group 25 = .ok (.iaload, 1) := by decide +kernel
theorem dX8_group_26 : decode cX8_group 26 = .ok (.istore_n 3, 1) := by decide +kernel
theorem dX8_group_27 : decode cX8_group 27 = .ok (.iload_n 3, 1) := by decide +kernel
theorem dX8_group_28 : decode cX8_group 28 = .ok (.aload_n 0, 1) := by decide +kernel
theorem dX8_group_29 : decode cX8_group 29 = .ok (.getfield 54, 3) := by decide +kernel
theorem dX8_group_32 : decode cX8_group 32 = .ok (.getfield 256, 3) := by decide +kernel
theorem dX8_group_35 : decode cX8_group 35 = .ok (.iload_n 1, 1) := by decide +kernel
theorem dX8_group_36 : decode cX8_group 36 = .ok (.iaload, 1) := by decide +kernel
theorem dX8_group_37 : decode cX8_group 37 = .ok (.iadd, 1) := by decide +kernel
theorem dX8_group_38 : decode cX8_group 38 = .ok (.istore 4, 2) := by decide +kernel
theorem dX8_group_40 : decode cX8_group 40 = .ok (.iload_n 2, 1) := by decide +kernel
theorem dX8_group_41 : decode cX8_group 41 = .ok (.tableswitch 100 0 4 #[35, 37, 47, 58, 89], 35) := by decide +kernel
theorem dX8_group_76 : decode cX8_group 76 = .ok (.iload_n 3, 1) := by decide +kernel
theorem dX8_group_77 : decode cX8_group 77 = .ok (.ireturn, 1) := by decide +kernel
theorem dX8_group_78 : decode cX8_group 78 = .ok (.aload_n 0, 1) := by decide +kernel
theorem dX8_group_79 : decode cX8_group 79 = .ok (.getfield 54, 3) := by decide +kernel
theorem dX8_group_82 : decode cX8_group 82 = .ok (.getfield 256, 3) := by decide +kernel
theorem dX8_group_85 : decode cX8_group 85 = .ok (.iload_n 1, 1) := by decide +kernel
theorem dX8_group_86 : decode cX8_group 86 = .ok (.iaload, 1) := by decide +kernel
theorem dX8_group_87 : decode cX8_group 87 = .ok (.ireturn, 1) := by decide +kernel
theorem dX8_group_88 : decode cX8_group 88 = .ok (.aload_n 0, 1) := by decide +kernel
theorem dX8_group_89 : decode cX8_group 89 = .ok (.getfield 47, 3) := by decide +kernel
theorem dX8_group_92 : decode cX8_group 92 = .ok (.iload_n 3, 1) := by decide +kernel
theorem dX8_group_93 : decode cX8_group 93 = .ok (.iload 4, 2) := by decide +kernel
theorem dX8_group_95 : decode cX8_group 95 = .ok (.invokevirtual 257, 3) := by decide +kernel
theorem dX8_group_98 : decode cX8_group 98 = .ok (.ireturn, 1) := by decide +kernel
theorem dX8_group_99 : decode cX8_group 99 = .ok (.aload_n 0, 1) := by decide +kernel
theorem dX8_group_100 : decode cX8_group 100 = .ok (.getfield 54, 3) := by decide +kernel
theorem dX8_group_103 : decode cX8_group 103 = .ok (.iload_n 1, 1) := by decide +kernel
theorem dX8_group_104 : decode cX8_group 104 = .ok (.iconst 1, 1) := by decide +kernel
theorem dX8_group_105 : decode cX8_group 105 = .ok (.iadd, 1) := by decide +kernel
theorem dX8_group_106 : decode cX8_group 106 = .ok (.invokevirtual 254, 3) := by decide +kernel
theorem dX8_group_109 : decode cX8_group 109 = .ok (.ifCond .eq 19, 3) := by decide +kernel
theorem dX8_group_112 : decode cX8_group 112 = .ok (.aload_n 0, 1) := by decide +kernel
theorem dX8_group_113 : decode cX8_group 113 = .ok (.getfield 54, 3) := by decide +kernel
theorem dX8_group_116 : decode cX8_group 116 = .ok (.getfield 255, 3) := by decide +kernel
theorem dX8_group_119 : decode cX8_group 119 = .ok (.iload_n 1, 1) := by decide +kernel
theorem dX8_group_120 : decode cX8_group 120 = .ok (.iconst 1, 1) := by decide +kernel
theorem dX8_group_121 : decode cX8_group 121 = .ok (.iadd, 1) := by decide +kernel
theorem dX8_group_122 : decode cX8_group 122 = .ok (.iaload, 1) := by decide +kernel
theorem dX8_group_123 : decode cX8_group 123 = .ok (.iload_n 3, 1) := by decide +kernel
theorem dX8_group_124 : decode cX8_group 124 = .ok (.isub, 1) := by decide +kernel
theorem dX8_group_125 : decode cX8_group 125 = .ok (.goto 4, 3) := by decide +kernel
theorem dX8_group_128 : decode cX8_group 128 = .ok (.iconst (-1), 1) := by decide +kernel
theorem dX8_group_129 : decode cX8_group 129 = .ok (.ireturn, 1) := by decide +kernel
theorem dX8_group_130 : decode cX8_group 130 = .ok (.aload_n 0, 1) := by decide +kernel
theorem dX8_group_131 : decode cX8_group 131 = .ok (.getfield 40, 3) := by decide +kernel
theorem dX8_group_134 : decode cX8_group 134 = .ok (.iload_n 3, 1) := by decide +kernel
theorem dX8_group_135 : decode cX8_group 135 = .ok (.iload 4, 2) := by decide +kernel
theorem dX8_group_137 : decode cX8_group 137 = .ok (.invokevirtual 149, 3) := by decide +kernel
theorem dX8_group_140 : decode cX8_group 140 = .ok (.ireturn, 1) := by decide +kernel
theorem dX8_group_141 : decode cX8_group 141 = .ok (.iconst (-1), 1) := by decide +kernel
theorem dX8_group_142 : decode cX8_group 142 = .ok (.ireturn, 1) := by decide +kernel
theorem dX8_energy_0 : decode cX8_energy 0 = .ok (.aload_n 0, 1) := by decide +kernel
theorem dX8_energy_1 : decode cX8_energy 1 = .ok (.invokevirtual 113, 3) := by decide +kernel
theorem dX8_energy_4 : decode cX8_energy 4 = .ok (.iload_n 1, 1) := by decide +kernel
theorem dX8_energy_5 : decode cX8_energy 5 = .ok (.iconst (-1), 1) := by decide +kernel
theorem dX8_energy_6 : decode cX8_energy 6 = .ok (.if_icmp .ne 19, 3) := by decide +kernel
theorem dX8_energy_9 : decode cX8_energy 9 = .ok (.aload_n 0, 1) := by decide +kernel
theorem dX8_energy_10 : decode cX8_energy 10 = .ok (.getfield 40, 3) := by decide +kernel
theorem dX8_energy_13 : decode cX8_energy 13 = .ok (.iconst 0, 1) := by decide +kernel
theorem dX8_energy_14 : decode cX8_energy 14 = .ok (.aload_n 0, 1) := by decide +kernel
theorem dX8_energy_15 : decode cX8_energy 15 = .ok (.getfield 40, 3) := by decide +kernel
theorem dX8_energy_18 : decode cX8_energy 18 = .ok (.getfield 117, 3) := by decide +kernel
theorem dX8_energy_21 : decode cX8_energy 21 = .ok (.invokevirtual 260, 3) := by decide +kernel
theorem dX8_energy_24 : decode cX8_energy 24 = .ok (.lreturn, 1) := by decide +kernel
theorem dX8_energy_25 : decode cX8_energy 25 = .ok (.aload_n 0, 1) := by decide +kernel
theorem dX8_energy_26 : decode cX8_energy 26 = .ok (.getfield 54, 3) := by decide +kernel
theorem dX8_energy_29 : decode cX8_energy 29 = .ok (.iload_n 1, 1) := by decide +kernel
theorem dX8_energy_30 : decode cX8_energy 30 = .ok (.invokevirtual 254, 3) := by decide +kernel
theorem dX8_energy_33 : decode cX8_energy 33 = .ok (.ifCond .ne 7, 3) := by decide +kernel
theorem dX8_energy_36 : decode cX8_energy 36 = .ok (.ldc2_w 264, 3) := by decide +kernel
theorem dX8_energy_39 : decode cX8_energy 39 = .ok (.lreturn, 1) := by decide +kernel
theorem dX8_energy_40 : decode cX8_energy 40 = .ok (.aload_n 0, 1) := by decide +kernel
theorem dX8_energy_41 : decode cX8_energy 41 = .ok (.getfield 54, 3) := by decide +kernel
theorem dX8_energy_44 : decode cX8_energy 44 = .ok (.getfield 255, 3) := by decide +kernel
theorem dX8_energy_47 : decode cX8_energy 47 = .ok (.iload_n 1, 1) := by decide +kernel
theorem dX8_energy_48 : decode cX8_energy 48 = .ok (.iaload, 1) := by decide +kernel
theorem dX8_energy_49 : decode cX8_energy 49 = .ok (.istore_n 2, 1) := by decide +kernel
theorem dX8_energy_50 : decode cX8_energy 50 = .ok (.aload_n 0, 1) := by decide +kernel
theorem dX8_energy_51 : decode cX8_energy 51 = .ok (.getfield 40, 3) := by decide +kernel
theorem dX8_energy_54 : decode cX8_energy 54 = .ok (.iload_n 2, 1) := by decide +kernel
theorem dX8_energy_55 : decode cX8_energy 55 = .ok (.iload_n 2, 1) := by decide +kernel
theorem dX8_energy_56 : decode cX8_energy 56 = .ok (.aload_n 0, 1) := by decide +kernel
theorem dX8_energy_57 : decode cX8_energy 57 = .ok (.getfield 54, 3) := by decide +kernel
theorem dX8_energy_60 : decode cX8_energy 60 = .ok (.getfield 256, 3) := by decide +kernel
theorem dX8_energy_63 : decode cX8_energy 63 = .ok (.iload_n 1, 1) := by decide +kernel
theorem dX8_energy_64 : decode cX8_energy 64 = .ok (.iaload, 1) := by decide +kernel
theorem dX8_energy_65 : decode cX8_energy 65 = .ok (.iadd, 1) := by decide +kernel
theorem dX8_energy_66 : decode cX8_energy 66 = .ok (.invokevirtual 260, 3) := by decide +kernel
theorem dX8_energy_69 : decode cX8_energy 69 = .ok (.lreturn, 1) := by decide +kernel
theorem dX8_name_0 : decode cX8_name 0 = .ok (.aload_n 0, 1) := by decide +kernel
theorem dX8_name_1 : decode cX8_name 1 = .ok (.invokevirtual 113, 3) := by decide +kernel
theorem dX8_name_4 : decode cX8_name 4 = .ok (.aload_n 0, 1) := by decide +kernel
theorem dX8_name_5 : decode cX8_name 5 = .ok (.getfield 40, 3) := by decide +kernel
theorem dX8_name_8 : decode cX8_name 8 = .ok (.iload_n 1, 1) := by decide +kernel
theorem dX8_name_9 : decode cX8_name 9 = .ok (.invokevirtual 204, 3) := by decide +kernel
theorem dX8_name_12 : decode cX8_name 12 = .ok (.ifCond .eq 15, 3) := by decide +kernel
theorem dX8_name_15 : decode cX8_name 15 = .ok (.iload_n 2, 1) := by decide +kernel
theorem dX8_name_16 : decode cX8_name 16 = .ok (.iconst 1, 1) := by decide +kernel
theorem dX8_name_17 : decode cX8_name 17 = .ok (.if_icmp .lt 10, 3) := by decide +kernel
theorem dX8_name_20 : decode cX8_name 20 = .ok (.iload_n 2, 1) := by decide +kernel
theorem dX8_name_21 : decode cX8_name 21 = .ok (.sipush 999, 3) := by decide +kernel
theorem dX8_name_24 : decode cX8_name 24 = .ok (.if_icmp .le 5, 3) := by decide +kernel
theorem dX8_name_27 : decode cX8_name 27 = .ok (.iconst 0, 1) := by decide +kernel
theorem dX8_name_28 : decode cX8_name 28 = .ok (.ireturn, 1) := by decide +kernel
theorem dX8_name_29 : decode cX8_name 29 = .ok (.aload_n 0, 1) := by decide +kernel
theorem dX8_name_30 : decode cX8_name 30 = .ok (.getfield 40, 3) := by decide +kernel
theorem dX8_name_33 : decode cX8_name 33 = .ok (.getfield 215, 3) := by decide +kernel
theorem dX8_name_36 : decode cX8_name 36 = .ok (.iload_n 1, 1) := by decide +kernel
theorem dX8_name_37 : decode cX8_name 37 = .ok (.iaload, 1) := by decide +kernel
theorem dX8_name_38 : decode cX8_name 38 = .ok (.istore_n 3, 1) := by decide +kernel
theorem dX8_name_39 : decode cX8_name 39 = .ok (.aload_n 0, 1) := by decide +kernel
theorem dX8_name_40 : decode cX8_name 40 = .ok (.getfield 26, 3) := by decide +kernel
theorem dX8_name_43 : decode cX8_name 43 = .ok (.iload_n 3, 1) := by decide +kernel
theorem dX8_name_44 : decode cX8_name 44 = .ok (.invokevirtual 169, 3) := by decide +kernel
theorem dX8_name_47 : decode cX8_name 47 = .ok (.iconst (-1), 1) := by decide +kernel
theorem dX8_name_48 : decode cX8_name 48 = .ok (.if_icmp .ne 15, 3) := by decide +kernel
theorem dX8_name_51 : decode cX8_name 51 = .ok (.aload_n 0, 1) := by decide +kernel
theorem dX8_name_52 : decode cX8_name 52 = .ok (.getfield 26, 3) := by decide +kernel
theorem dX8_name_55 : decode cX8_name 55 = .ok (.iload_n 2, 1) := by decide +kernel
theorem dX8_name_56 : decode cX8_name 56 = .ok (.invokevirtual 266, 3) := by decide +kernel
theorem dX8_name_59 : decode cX8_name 59 = .ok (.iconst (-1), 1) := by decide +kernel
theorem dX8_name_60 : decode cX8_name 60 = .ok (.if_icmp .eq 5, 3) := by decide +kernel
theorem dX8_name_63 : decode cX8_name 63 = .ok (.iconst 0, 1) := by decide +kernel
theorem dX8_name_64 : decode cX8_name 64 = .ok (.ireturn, 1) := by decide +kernel
theorem dX8_name_65 : decode cX8_name 65 = .ok (.aload_n 0, 1) := by decide +kernel
theorem dX8_name_66 : decode cX8_name 66 = .ok (.getfield 26, 3) := by decide +kernel
theorem dX8_name_69 : decode cX8_name 69 = .ok (.invokevirtual 122, 3) := by decide +kernel
theorem dX8_name_72 : decode cX8_name 72 = .ok (.bipush 20, 2) := by decide +kernel
theorem dX8_name_74 : decode cX8_name 74 = .ok (.if_icmp .lt 5, 3) := by decide +kernel
theorem dX8_name_77 : decode cX8_name 77 = .ok (.iconst 0, 1) := by decide +kernel
theorem dX8_name_78 : decode cX8_name 78 = .ok (.ireturn, 1) := by decide +kernel
theorem dX8_name_79 : decode cX8_name 79 = .ok (.aload_n 0, 1) := by decide +kernel
theorem dX8_name_80 : decode cX8_name 80 = .ok (.getfield 26, 3) := by decide +kernel
theorem dX8_name_83 : decode cX8_name 83 = .ok (.getfield 269, 3) := by decide +kernel
theorem dX8_name_86 : decode cX8_name 86 = .ok (.iload_n 3, 1) := by decide +kernel
theorem dX8_name_87 : decode cX8_name 87 = .ok (.iload_n 2, 1) := by decide +kernel
theorem dX8_name_88 : decode cX8_name 88 = .ok (.iastore, 1) := by decide +kernel
theorem dX8_name_89 : decode cX8_name 89 = .ok (.iconst 1, 1) := by decide +kernel
theorem dX8_name_90 : decode cX8_name 90 = .ok (.ireturn, 1) := by decide +kernel
theorem dX8_unname_0 : decode cX8_unname 0 = .ok (.aload_n 0, 1) := by decide +kernel
theorem dX8_unname_1 : decode cX8_unname 1 = .ok (.getfield 26, 3) := by decide +kernel
theorem dX8_unname_4 : decode cX8_unname 4 = .ok (.iload_n 1, 1) := by decide +kernel
theorem dX8_unname_5 : decode cX8_unname 5 = .ok (.invokevirtual 266, 3) := by decide +kernel
theorem dX8_unname_8 : decode cX8_unname 8 = .ok (.istore_n 2, 1) := by decide +kernel
theorem dX8_unname_9 : decode cX8_unname 9 = .ok (.iload_n 2, 1) := by decide +kernel
theorem dX8_unname_10 : decode cX8_unname 10 = .ok (.iconst (-1), 1) := by decide +kernel
theorem dX8_unname_11 : decode cX8_unname 11 = .ok (.if_icmp .eq 13, 3) := by decide +kernel
theorem dX8_unname_14 : decode cX8_unname 14 = .ok (.aload_n 0, 1) := by decide +kernel
theorem dX8_unname_15 : decode cX8_unname 15 = .ok (.getfield 26, 3) := by decide +kernel
theorem dX8_unname_18 : decode cX8_unname 18 = .ok (.getfield 269, 3) := by decide +kernel
theorem dX8_unname_21 : decode cX8_unname 21 = .ok (.iload_n 2, 1) := by decide +kernel
theorem dX8_unname_22 : decode cX8_unname 22 = .ok (.iconst 0, 1) := by decide +kernel
theorem dX8_unname_23 : decode cX8_unname 23 = .ok (.iastore, 1) := by decide +kernel
theorem dX8_unname_24 : decode cX8_unname 24 = .ok (.iload_n 2, 1) := by decide +kernel
theorem dX8_unname_25 : decode cX8_unname 25 = .ok (.ireturn, 1) := by decide +kernel
theorem dX8_named_0 : decode cX8_named 0 = .ok (.aload_n 0, 1) := by decide +kernel
theorem dX8_named_1 : decode cX8_named 1 = .ok (.invokevirtual 113, 3) := by decide +kernel
theorem dX8_named_4 : decode cX8_named 4 = .ok (.aload_n 0, 1) := by decide +kernel
theorem dX8_named_5 : decode cX8_named 5 = .ok (.getfield 26, 3) := by decide +kernel
theorem dX8_named_8 : decode cX8_named 8 = .ok (.iload_n 1, 1) := by decide +kernel
theorem dX8_named_9 : decode cX8_named 9 = .ok (.invokevirtual 266, 3) := by decide +kernel
theorem dX8_named_12 : decode cX8_named 12 = .ok (.istore_n 2, 1) := by decide +kernel
theorem dX8_named_13 : decode cX8_named 13 = .ok (.iload_n 2, 1) := by decide +kernel
theorem dX8_named_14 : decode cX8_named 14 = .ok (.iconst (-1), 1) := by decide +kernel
theorem dX8_named_15 : decode cX8_named 15 = .ok (.if_icmp .ne 7, 3) := by decide +kernel
theorem dX8_named_18 : decode cX8_named 18 = .ok (.iconst (-1), 1) := by decide +kernel
theorem dX8_named_19 : decode cX8_named 19 = .ok (.goto 12, 3) := by decide +kernel
theorem dX8_named_22 : decode cX8_named 22 = .ok (.aload_n 0, 1) := by decide +kernel
theorem dX8_named_23 : decode cX8_named 23 = .ok (.getfield 40, 3) := by decide +kernel
theorem dX8_named_26 : decode cX8_named 26 = .ok (.getfield 166, 3) := by decide +kernel
theorem dX8_named_29 : decode cX8_named 29 = .ok (.iload_n 2, 1) := by decide +kernel
theorem dX8_named_30 : decode cX8_named 30 = .ok (.iaload, 1) := by decide +kernel
theorem dX8_named_31 : decode cX8_named 31 = .ok (.ireturn, 1) := by decide +kernel
theorem dX8_would_0 : decode cX8_would 0 = .ok (.iload_n 1, 1) := by decide +kernel
theorem dX8_would_1 : decode cX8_would 1 = .ok (.ifCond .lt 10, 3) := by decide +kernel
theorem dX8_would_4 : decode cX8_would 4 = .ok (.iload_n 1, 1) := by decide +kernel
theorem dX8_would_5 : decode cX8_would 5 = .ok (.sipush 500, 3) := by decide +kernel
theorem dX8_would_8 : decode cX8_would 8 = .ok (.if_icmp .le 5, 3) := by decide +kernel
theorem dX8_would_11 : decode cX8_would 11 = .ok (.iconst (-1), 1) := by decide +kernel
theorem dX8_would_12 : decode cX8_would 12 = .ok (.ireturn, 1) := by decide +kernel
theorem dX8_would_13 : decode cX8_would 13 = .ok (.aload_n 0, 1) := by decide +kernel
theorem dX8_would_14 : decode cX8_would 14 = .ok (.invokevirtual 113, 3) := by decide +kernel
theorem dX8_would_17 : decode cX8_would 17 = .ok (.aload_n 0, 1) := by decide +kernel
theorem dX8_would_18 : decode cX8_would 18 = .ok (.getfield 33, 3) := by decide +kernel
theorem dX8_would_21 : decode cX8_would 21 = .ok (.iload_n 1, 1) := by decide +kernel
theorem dX8_would_22 : decode cX8_would 22 = .ok (.invokevirtual 272, 3) := by decide +kernel
theorem dX8_would_25 : decode cX8_would 25 = .ok (.ireturn, 1) := by decide +kernel
theorem dX8_quiet_0 : decode cX8_quiet 0 = .ok (.iload_n 1, 1) := by decide +kernel
theorem dX8_quiet_1 : decode cX8_quiet 1 = .ok (.ifCond .ge 5, 3) := by decide +kernel
theorem dX8_quiet_4 : decode cX8_quiet 4 = .ok (.iconst (-1), 1) := by decide +kernel
theorem dX8_quiet_5 : decode cX8_quiet 5 = .ok (.ireturn, 1) := by decide +kernel
theorem dX8_quiet_6 : decode cX8_quiet 6 = .ok (.aload_n 0, 1) := by decide +kernel
theorem dX8_quiet_7 : decode cX8_quiet 7 = .ok (.invokevirtual 113, 3) := by decide +kernel
theorem dX8_quiet_10 : decode cX8_quiet 10 = .ok (.iconst 0, 1) := by decide +kernel
theorem dX8_quiet_11 : decode cX8_quiet 11 = .ok (.istore_n 2, 1) := by decide +kernel
theorem dX8_quiet_12 : decode cX8_quiet 12 = .ok (.sipush 501, 3) := by decide +kernel
theorem dX8_quiet_15 : decode cX8_quiet 15 = .ok (.istore_n 3, 1) := by decide +kernel
theorem dX8_quiet_16 : decode cX8_quiet 16 = .ok (.iconst 0, 1) := by decide +kernel
theorem dX8_quiet_17 : decode cX8_quiet 17 = .ok (.istore 4, 2) := by decide +kernel
theorem dX8_quiet_19 : decode cX8_quiet 19 = .ok (.iload 4, 2) := by decide +kernel
theorem dX8_quiet_21 : decode cX8_quiet 21 = .ok (.sipush 500, 3) := by decide +kernel
theorem dX8_quiet_24 : decode cX8_quiet 24 = .ok (.if_icmp .gt 45, 3) := by decide +kernel
theorem dX8_quiet_27 : decode cX8_quiet 27 = .ok (.iload_n 2, 1) := by decide +kernel
theorem dX8_quiet_28 : decode cX8_quiet 28 = .ok (.iload_n 3, 1) := by decide +kernel
theorem dX8_quiet_29 : decode cX8_quiet 29 = .ok (.if_icmp .ge 40, 3) := by decide +kernel
theorem dX8_quiet_32 : decode cX8_quiet 32 = .ok (.iload_n 2, 1) := by decide +kernel
theorem dX8_quiet_33 : decode cX8_quiet 33 = .ok (.iload_n 3, 1) := by decide +kernel
theorem dX8_quiet_34 : decode cX8_quiet 34 = .ok (.iadd, 1) := by decide +kernel
theorem dX8_quiet_35 : decode cX8_quiet 35 = .ok (.iconst 2, 1) := by decide +kernel
theorem dX8_quiet_36 : decode cX8_quiet 36 = .ok (.idiv, 1) := by decide +kernel
theorem dX8_quiet_37 : decode cX8_quiet 37 = .ok (.istore 5, 2) := by decide +kernel
theorem dX8_quiet_39 : decode cX8_quiet 39 = .ok (.aload_n 0, 1) := by decide +kernel
theorem dX8_quiet_40 : decode cX8_quiet 40 = .ok (.getfield 33, 3) := by decide +kernel
theorem dX8_quiet_43 : decode cX8_quiet 43 = .ok (.iload 5, 2) := by decide +kernel
theorem dX8_quiet_45 : decode cX8_quiet 45 = .ok (.invokevirtual 272, 3) := by decide +kernel
theorem dX8_quiet_48 : decode cX8_quiet 48 = .ok (.iload_n 1, 1) := by decide +kernel
theorem dX8_quiet_49 : decode cX8_quiet 49 = .ok (.if_icmp .gt 9, 3) := by decide +kernel
theorem dX8_quiet_52 : decode cX8_quiet 52 = .ok (.iload 5, 2) := by decide +kernel
theorem dX8_quiet_54 : decode cX8_quiet 54 = .ok (.istore_n 3, 1) := by decide +kernel
theorem dX8_quiet_55 : decode cX8_quiet 55 = .ok (.goto 8, 3) := by decide +kernel
theorem dX8_quiet_58 : decode cX8_quiet 58 = .ok (.iload 5, 2) := by decide +kernel
theorem dX8_quiet_60 : decode cX8_quiet 60 = .ok (.iconst 1, 1) := by decide +kernel
theorem dX8_quiet_61 : decode cX8_quiet 61 = .ok (.iadd, 1) := by decide +kernel
theorem dX8_quiet_62 : decode cX8_quiet 62 = .ok (.istore_n 2, 1) := by decide +kernel
theorem dX8_quiet_63 : decode cX8_quiet 63 = .ok (.iinc 4 1, 3) := by decide +kernel
theorem dX8_quiet_66 : decode cX8_quiet 66 = .ok (.goto (-47), 3) := by decide +kernel
theorem dX8_quiet_69 : decode cX8_quiet 69 = .ok (.iload_n 2, 1) := by decide +kernel
theorem dX8_quiet_70 : decode cX8_quiet 70 = .ok (.sipush 500, 3) := by decide +kernel
theorem dX8_quiet_73 : decode cX8_quiet 73 = .ok (.if_icmp .le 7, 3) := by decide +kernel
theorem dX8_quiet_76 : decode cX8_quiet 76 = .ok (.iconst (-1), 1) := by decide +kernel
theorem dX8_quiet_77 : decode cX8_quiet 77 = .ok (.goto 4, 3) := by decide +kernel
theorem dX8_quiet_80 : decode cX8_quiet 80 = .ok (.iload_n 2, 1) := by decide +kernel
theorem dX8_quiet_81 : decode cX8_quiet 81 = .ok (.ireturn, 1) := by decide +kernel
theorem dX8_gone_0 : decode cX8_gone 0 = .ok (.aload_n 0, 1) := by decide +kernel
theorem dX8_gone_1 : decode cX8_gone 1 = .ok (.invokevirtual 113, 3) := by decide +kernel
theorem dX8_gone_4 : decode cX8_gone 4 = .ok (.aload_n 0, 1) := by decide +kernel
theorem dX8_gone_5 : decode cX8_gone 5 = .ok (.getfield 40, 3) := by decide +kernel
theorem dX8_gone_8 : decode cX8_gone 8 = .ok (.iload_n 1, 1) := by decide +kernel
theorem dX8_gone_9 : decode cX8_gone 9 = .ok (.invokevirtual 204, 3) := by decide +kernel
theorem dX8_gone_12 : decode cX8_gone 12 = .ok (.ifCond .ne 5, 3) := by decide +kernel
theorem dX8_gone_15 : decode cX8_gone 15 = .ok (.iconst (-1), 1) := by decide +kernel
theorem dX8_gone_16 : decode cX8_gone 16 = .ok (.ireturn, 1) := by decide +kernel
theorem dX8_gone_17 : decode cX8_gone 17 = .ok (.iconst 0, 1) := by decide +kernel
theorem dX8_gone_18 : decode cX8_gone 18 = .ok (.istore_n 2, 1) := by decide +kernel
theorem dX8_gone_19 : decode cX8_gone 19 = .ok (.iconst 0, 1) := by decide +kernel
theorem dX8_gone_20 : decode cX8_gone 20 = .ok (.istore_n 3, 1) := by decide +kernel
theorem dX8_gone_21 : decode cX8_gone 21 = .ok (.iload_n 3, 1) := by decide +kernel
theorem dX8_gone_22 : decode cX8_gone 22 = .ok (.sipush 500, 3) := by decide +kernel
theorem dX8_gone_25 : decode cX8_gone 25 = .ok (.if_icmp .gt 63, 3) := by decide +kernel
theorem dX8_gone_28 : decode cX8_gone 28 = .ok (.iload_n 2, 1) := by decide +kernel
theorem dX8_gone_29 : decode cX8_gone 29 = .ok (.sipush 500, 3) := by decide +kernel
theorem dX8_gone_32 : decode cX8_gone 32 = .ok (.if_icmp .gt 56, 3) := by decide +kernel
theorem dX8_gone_35 : decode cX8_gone 35 = .ok (.aload_n 0, 1) := by decide +kernel
theorem dX8_gone_36 : decode cX8_gone 36 = .ok (.getfield 33, 3) := by decide +kernel
theorem dX8_gone_39 : decode cX8_gone 39 = .ok (.aload_n 0, 1) := by decide +kernel
theorem dX8_gone_40 : decode cX8_gone 40 = .ok (.getfield 40, 3) := by decide +kernel
theorem dX8_gone_43 : decode cX8_gone 43 = .ok (.getfield 218, 3) := by decide +kernel
theorem dX8_gone_46 : decode cX8_gone 46 = .ok (.iload_n 1, 1) := by decide +kernel
theorem dX8_gone_47 : decode cX8_gone 47 = .ok (.iaload, 1) := by decide +kernel
theorem dX8_gone_48 : decode cX8_gone 48 = .ok (.aload_n 0, 1) := by decide +kernel
theorem dX8_gone_49 : decode cX8_gone 49 = .ok (.getfield 40, 3) := by decide +kernel
theorem dX8_gone_52 : decode cX8_gone 52 = .ok (.getfield 205, 3) := by decide +kernel
theorem dX8_gone_55 : decode cX8_gone 55 = .ok (.iload_n 1, 1) := by decide +kernel
theorem dX8_gone_56 : decode cX8_gone 56 = .ok (.iaload, 1) := by decide +kernel
theorem dX8_gone_57 : decode cX8_gone 57 = .ok (.aload_n 0, 1) := by decide +kernel
theorem dX8_gone_58 : decode cX8_gone 58 = .ok (.getfield 40, 3) := by decide +kernel
theorem dX8_gone_61 : decode cX8_gone 61 = .ok (.iload_n 1, 1) := by decide +kernel
theorem dX8_gone_62 : decode cX8_gone 62 = .ok (.invokevirtual 229, 3) := by decide +kernel
theorem dX8_gone_65 : decode cX8_gone 65 = .ok (.iload_n 2, 1) := by decide +kernel
theorem dX8_gone_66 : decode cX8_gone 66 = .ok (.invokevirtual 275, 3) := by decide +kernel
theorem dX8_gone_69 : decode cX8_gone 69 = .ok (.istore 4, 2) := by decide +kernel
theorem dX8_gone_71 : decode cX8_gone 71 = .ok (.iload 4, 2) := by decide +kernel
theorem dX8_gone_73 : decode cX8_gone 73 = .ok (.iload_n 2, 1) := by decide +kernel
theorem dX8_gone_74 : decode cX8_gone 74 = .ok (.if_icmp .ne 5, 3) := by decide +kernel
theorem dX8_gone_77 : decode cX8_gone 77 = .ok (.iload_n 2, 1) := by decide +kernel
theorem dX8_gone_78 : decode cX8_gone 78 = .ok (.ireturn, 1) := by decide +kernel
theorem dX8_gone_79 : decode cX8_gone 79 = .ok (.iload 4, 2) := by decide +kernel
theorem dX8_gone_81 : decode cX8_gone 81 = .ok (.istore_n 2, 1) := by decide +kernel
theorem dX8_gone_82 : decode cX8_gone 82 = .ok (.iinc 3 1, 3) := by decide +kernel
theorem dX8_gone_85 : decode cX8_gone 85 = .ok (.goto (-64), 3) := by decide +kernel
theorem dX8_gone_88 : decode cX8_gone 88 = .ok (.iconst (-1), 1) := by decide +kernel
theorem dX8_gone_89 : decode cX8_gone 89 = .ok (.ireturn, 1) := by decide +kernel
theorem dX8_changed_0 : decode cX8_changed 0 = .ok (.iload_n 1, 1) := by decide +kernel
theorem dX8_changed_1 : decode cX8_changed 1 = .ok (.ifCond .eq 8, 3) := by decide +kernel
theorem dX8_changed_4 : decode cX8_changed 4 = .ok (.aload_n 0, 1) := by decide +kernel
theorem dX8_changed_5 : decode cX8_changed 5 = .ok (.iconst 1, 1) := by decide +kernel
theorem dX8_changed_6 : decode cX8_changed 6 = .ok (.putfield 65, 3) := by decide +kernel
theorem dX8_changed_9 : decode cX8_changed 9 = .ok (.iload_n 1, 1) := by decide +kernel
theorem dX8_changed_10 : decode cX8_changed 10 = .ok (.ireturn, 1) := by decide +kernel
theorem dX8_refresh_0 : decode cX8_refresh 0 = .ok (.aload_n 0, 1) := by decide +kernel
theorem dX8_refresh_1 : decode cX8_refresh 1 = .ok (.getfield 65, 3) := by decide +kernel
theorem dX8_refresh_4 : decode cX8_refresh 4 = .ok (.ifCond .ne 4, 3) := by decide +kernel
theorem dX8_refresh_7 : decode cX8_refresh 7 = .ok (.return_, 1) := by decide +kernel
theorem dX8_refresh_8 : decode cX8_refresh 8 = .ok (.aload_n 0, 1) := by decide +kernel
theorem dX8_refresh_9 : decode cX8_refresh 9 = .ok (.iconst 0, 1) := by decide +kernel
theorem dX8_refresh_10 : decode cX8_refresh 10 = .ok (.putfield 65, 3) := by decide +kernel
theorem dX8_refresh_13 : decode cX8_refresh 13 = .ok (.aload_n 0, 1) := by decide +kernel
theorem dX8_refresh_14 : decode cX8_refresh 14 = .ok (.getfield 33, 3) := by decide +kernel
theorem dX8_refresh_17 : decode cX8_refresh 17 = .ok (.aload_n 0, 1) := by decide +kernel
theorem dX8_refresh_18 : decode cX8_refresh 18 = .ok (.getfield 26, 3) := by decide +kernel
theorem dX8_refresh_21 : decode cX8_refresh 21 = .ok (.aload_n 0, 1) := by decide +kernel
theorem dX8_refresh_22 : decode cX8_refresh 22 = .ok (.getfield 10, 3) := by decide +kernel
theorem dX8_refresh_25 : decode cX8_refresh 25 = .ok (.invokevirtual 125, 3) := by decide +kernel
theorem dX8_refresh_28 : decode cX8_refresh 28 = .ok (.invokevirtual 279, 3) := by decide +kernel
theorem dX8_refresh_31 : decode cX8_refresh 31 = .ok (.aload_n 0, 1) := by decide +kernel
theorem dX8_refresh_32 : decode cX8_refresh 32 = .ok (.getfield 33, 3) := by decide +kernel
theorem dX8_refresh_35 : decode cX8_refresh 35 = .ok (.aload_n 0, 1) := by decide +kernel
theorem dX8_refresh_36 : decode cX8_refresh 36 = .ok (.getfield 26, 3) := by decide +kernel
theorem dX8_refresh_39 : decode cX8_refresh 39 = .ok (.getfield 81, 3) := by decide +kernel
theorem dX8_refresh_42 : decode cX8_refresh 42 = .ok (.invokevirtual 283, 3) := by decide +kernel
theorem dX8_refresh_45 : decode cX8_refresh 45 = .ok (.aload_n 0, 1) := by decide +kernel
theorem dX8_refresh_46 : decode cX8_refresh 46 = .ok (.getfield 33, 3) := by decide +kernel
theorem dX8_refresh_49 : decode cX8_refresh 49 = .ok (.aload_n 0, 1) := by decide +kernel
theorem dX8_refresh_50 : decode cX8_refresh 50 = .ok (.getfield 19, 3) := by decide +kernel
theorem dX8_refresh_53 : decode cX8_refresh 53 = .ok (.invokevirtual 286, 3) := by decide +kernel
theorem dX8_refresh_56 : decode cX8_refresh 56 = .ok (.aload_n 0, 1) := by decide +kernel
theorem dX8_refresh_57 : decode cX8_refresh 57 = .ok (.getfield 33, 3) := by decide +kernel
theorem dX8_refresh_60 : decode cX8_refresh 60 = .ok (.aload_n 0, 1) := by decide +kernel
theorem dX8_refresh_61 : decode cX8_refresh 61 = .ok (.getfield 10, 3) := by decide +kernel
theorem dX8_refresh_64 : decode cX8_refresh 64 = .ok (.aload_n 0, 1) := by decide +kernel
theorem dX8_refresh_65 : decode cX8_refresh 65 = .ok (.getfield 61, 3) := by decide +kernel
theorem dX8_refresh_68 : decode cX8_refresh 68 = .ok (.invokevirtual 290, 3) := by decide +kernel
theorem dX8_refresh_71 : decode cX8_refresh 71 = .ok (.aload_n 0, 1) := by decide +kernel
theorem dX8_refresh_72 : decode cX8_refresh 72 = .ok (.getfield 40, 3) := by decide +kernel
theorem dX8_refresh_75 : decode cX8_refresh 75 = .ok (.aload_n 0, 1) := by decide +kernel
theorem dX8_refresh_76 : decode cX8_refresh 76 = .ok (.getfield 33, 3) := by decide +kernel
theorem dX8_refresh_79 : decode cX8_refresh 79 = .ok (.aload_n 0, 1) := by decide +kernel
theorem dX8_refresh_80 : decode cX8_refresh 80 = .ok (.getfield 26, 3) := by decide +kernel
theorem dX8_refresh_83 : decode cX8_refresh 83 = .ok (.getfield 81, 3) := by decide +kernel
theorem dX8_refresh_86 : decode cX8_refresh 86 = .ok (.aload_n 0, 1) := by decide +kernel
theorem dX8_refresh_87 : decode cX8_refresh 87 = .ok (.getfield 10, 3) := by decide +kernel
theorem dX8_refresh_90 : decode cX8_refresh 90 = .ok (.invokevirtual 128, 3) := by decide +kernel
theorem dX8_refresh_93 : decode cX8_refresh 93 = .ok (.invokevirtual 294, 3) := by decide +kernel
theorem dX8_refresh_96 : decode cX8_refresh 96 = .ok (.aload_n 0, 1) := by decide +kernel
theorem dX8_refresh_97 : decode cX8_refresh 97 = .ok (.getfield 47, 3) := by decide +kernel
theorem dX8_refresh_100 : decode cX8_refresh 100 = .ok (.aload_n 0, 1) := by decide +kernel
theorem dX8_refresh_101 : decode cX8_refresh 101 = .ok (.getfield 40, 3) := by decide +kernel
theorem dX8_refresh_104 : decode cX8_refresh 104 = .ok (.aload_n 0, 1) := by decide +kernel
theorem dX8_refresh_105 : decode cX8_refresh 105 = .ok (.getfield 61, 3) := by decide +kernel
theorem dX8_refresh_108 : decode cX8_refresh 108 = .ok (.invokevirtual 298, 3) := by decide +kernel
theorem dX8_refresh_111 : decode cX8_refresh 111 = .ok (.aload_n 0, 1) := by decide +kernel
theorem dX8_refresh_112 : decode cX8_refresh 112 = .ok (.getfield 47, 3) := by decide +kernel
theorem dX8_refresh_115 : decode cX8_refresh 115 = .ok (.aload_n 0, 1) := by decide +kernel
theorem dX8_refresh_116 : decode cX8_refresh 116 = .ok (.getfield 40, 3) := by decide +kernel
theorem dX8_refresh_119 : decode cX8_refresh 119 = .ok (.aload_n 0, 1) := by decide +kernel
theorem dX8_refresh_120 : decode cX8_refresh 120 = .ok (.getfield 10, 3) := by decide +kernel
theorem dX8_refresh_123 : decode cX8_refresh 123 = .ok (.invokevirtual 302, 3) := by decide +kernel
theorem dX8_refresh_126 : decode cX8_refresh 126 = .ok (.aload_n 0, 1) := by decide +kernel
theorem dX8_refresh_127 : decode cX8_refresh 127 = .ok (.getfield 54, 3) := by decide +kernel
theorem dX8_refresh_130 : decode cX8_refresh 130 = .ok (.aload_n 0, 1) := by decide +kernel
theorem dX8_refresh_131 : decode cX8_refresh 131 = .ok (.getfield 40, 3) := by decide +kernel
theorem dX8_refresh_134 : decode cX8_refresh 134 = .ok (.aload_n 0, 1) := by decide +kernel
theorem dX8_refresh_135 : decode cX8_refresh 135 = .ok (.getfield 47, 3) := by decide +kernel
theorem dX8_refresh_138 : decode cX8_refresh 138 = .ok (.aload_n 0, 1) := by decide +kernel
theorem dX8_refresh_139 : decode cX8_refresh 139 = .ok (.getfield 10, 3) := by decide +kernel
theorem dX8_refresh_142 : decode cX8_refresh 142 = .ok (.invokevirtual 306, 3) := by decide +kernel
theorem dX8_refresh_145 : decode cX8_refresh 145 = .ok (.return_, 1) := by decide +kernel
theorem dX8_commonDivisor_0 : decode cX8_commonDivisor 0 = .ok (.iload_n 0, 1) := by decide +kernel
theorem dX8_commonDivisor_1 : decode cX8_commonDivisor 1 = .ok (.istore_n 2, 1) := by decide +kernel
theorem dX8_commonDivisor_2 : decode cX8_commonDivisor 2 = .ok (.iload_n 1, 1) := by decide +kernel
theorem dX8_commonDivisor_3 : decode cX8_commonDivisor 3 = .ok (.istore_n 3, 1) := by decide +kernel
theorem dX8_commonDivisor_4 : decode cX8_commonDivisor 4 = .ok (.iconst 0, 1) := by decide +kernel
theorem dX8_commonDivisor_5 : decode cX8_commonDivisor 5 = .ok (.istore 4, 2) := by decide +kernel
theorem dX8_commonDivisor_7 : decode cX8_commonDivisor 7 = .ok (.iload 4, 2) := by decide +kernel
theorem dX8_commonDivisor_9 : decode cX8_commonDivisor 9 = .ok (.bipush 64, 2) := by decide +kernel
theorem dX8_commonDivisor_11 : decode cX8_commonDivisor 11 = .ok (.if_icmp .ge 23, 3) := by decide +kernel
theorem dX8_commonDivisor_14 : decode cX8_commonDivisor 14 = .ok (.iload_n 3, 1) := by decide +kernel
theorem dX8_commonDivisor_15 : decode cX8_commonDivisor 15 = .ok (.ifCond .eq 19, 3) := by decide +kernel
theorem dX8_commonDivisor_18 : decode cX8_commonDivisor 18 = .ok (.iload_n 2, 1) := by decide +kernel
theorem dX8_commonDivisor_19 : decode cX8_commonDivisor 19 = .ok (.iload_n 3, 1) := by decide +kernel
theorem dX8_commonDivisor_20 : decode cX8_commonDivisor 20 = .ok (.irem, 1) := by decide +kernel
theorem dX8_commonDivisor_21 : decode cX8_commonDivisor 21 = .ok (.istore 5, 2) := by decide +kernel
theorem dX8_commonDivisor_23 : decode cX8_commonDivisor 23 = .ok (.iload_n 3, 1) := by decide +kernel
theorem dX8_commonDivisor_24 : decode cX8_commonDivisor 24 = .ok (.istore_n 2, 1) := by decide +kernel
theorem dX8_commonDivisor_25 : decode cX8_commonDivisor 25 = .ok (.iload 5, 2) := by decide +kernel
theorem dX8_commonDivisor_27 : decode cX8_commonDivisor 27 = .ok (.istore_n 3, 1) := by decide +kernel
theorem dX8_commonDivisor_28 : decode cX8_commonDivisor 28 = .ok (.iinc 4 1, 3) := by decide +kernel
theorem dX8_commonDivisor_31 : decode cX8_commonDivisor 31 = .ok (.goto (-24), 3) := by decide +kernel
theorem dX8_commonDivisor_34 : decode cX8_commonDivisor 34 = .ok (.iload_n 2, 1) := by decide +kernel
theorem dX8_commonDivisor_35 : decode cX8_commonDivisor 35 = .ok (.ireturn, 1) := by decide +kernel
theorem dX8_meanDown_0 : decode cX8_meanDown 0 = .ok (.iload_n 2, 1) := by decide +kernel
theorem dX8_meanDown_1 : decode cX8_meanDown 1 = .ok (.iconst 1, 1) := by decide +kernel
theorem dX8_meanDown_2 : decode cX8_meanDown 2 = .ok (.if_icmp .ge 7, 3) := by decide +kernel
theorem dX8_meanDown_5 : decode cX8_meanDown 5 = .ok (.iconst 0, 1) := by decide +kernel
theorem dX8_meanDown_6 : decode cX8_meanDown 6 = .ok (.goto 10, 3) := by decide +kernel
theorem dX8_meanDown_9 : decode cX8_meanDown 9 = .ok (.lload_n 0, 1) := by decide +kernel
theorem dX8_meanDown_10 : decode cX8_meanDown 10 = .ok (.iload_n 2, 1) := by decide +kernel
theorem dX8_meanDown_11 : decode cX8_meanDown 11 = .ok (.i2l, 1) := by decide +kernel
theorem dX8_meanDown_12 : decode cX8_meanDown 12 = .ok (.invokestatic 309, 3) := by decide +kernel
theorem dX8_meanDown_15 : decode cX8_meanDown 15 = .ok (.l2i, 1) := by decide +kernel
theorem dX8_meanDown_16 : decode cX8_meanDown 16 = .ok (.ireturn, 1) := by decide +kernel
theorem dX9_init_0 : decode cX9_init 0 = .ok (.aload_n 0, 1) := by decide +kernel
theorem dX9_init_1 : decode cX9_init 1 = .ok (.invokespecial 1, 3) := by decide +kernel
theorem dX9_init_4 : decode cX9_init 4 = .ok (.aload_n 0, 1) := by decide +kernel
theorem dX9_init_5 : decode cX9_init 5 = .ok (.sipush 600, 3) := by decide +kernel
theorem dX9_init_8 : decode cX9_init 8 = .ok (.newarray .int, 2) := by decide +kernel
theorem dX9_init_10 : decode cX9_init 10 = .ok (.putfield 7, 3) := by decide +kernel
theorem dX9_init_13 : decode cX9_init 13 = .ok (.aload_n 0, 1) := by decide +kernel
theorem dX9_init_14 : decode cX9_init 14 = .ok (.bipush 8, 2) := by decide +kernel
theorem dX9_init_16 : decode cX9_init 16 = .ok (.newarray .int, 2) := by decide +kernel
theorem dX9_init_18 : decode cX9_init 18 = .ok (.putfield 13, 3) := by decide +kernel
theorem dX9_init_21 : decode cX9_init 21 = .ok (.aload_n 0, 1) := by decide +kernel
theorem dX9_init_22 : decode cX9_init 22 = .ok (.iconst 4, 1) := by decide +kernel
theorem dX9_init_23 : decode cX9_init 23 = .ok (.newarray .int, 2) := by decide +kernel
theorem dX9_init_25 : decode cX9_init 25 = .ok (.putfield 16, 3) := by decide +kernel
theorem dX9_init_28 : decode cX9_init 28 = .ok (.aload_n 0, 1) := by decide +kernel
theorem dX9_init_29 : decode cX9_init 29 = .ok (.iconst 4, 1) := by decide +kernel
theorem dX9_init_30 : decode cX9_init 30 = .ok (.newarray .int, 2) := by decide +kernel
theorem dX9_init_32 : decode cX9_init 32 = .ok (.putfield 19, 3) := by decide +kernel
theorem dX9_init_35 : decode cX9_init 35 = .ok (.aload_n 0, 1) := by decide +kernel
theorem dX9_init_36 : decode cX9_init 36 = .ok (.sipush 600, 3) := by decide +kernel
theorem dX9_init_39 : decode cX9_init 39 = .ok (.newarray .int, 2) := by decide +kernel
theorem dX9_init_41 : decode cX9_init 41 = .ok (.putfield 22, 3) := by decide +kernel
theorem dX9_init_44 : decode cX9_init 44 = .ok (.aload_n 0, 1) := by decide +kernel
theorem dX9_init_45 : decode cX9_init 45 = .ok (.sipush 600, 3) := by decide +kernel
theorem dX9_init_48 : decode cX9_init 48 = .ok (.newarray .int, 2) := by decide +kernel
theorem dX9_init_50 : decode cX9_init 50 = .ok (.putfield 25, 3) := by decide +kernel
theorem dX9_init_53 : decode cX9_init 53 = .ok (.aload_n 0, 1) := by decide +kernel
theorem dX9_init_54 : decode cX9_init 54 = .ok (.sipush 600, 3) := by decide +kernel
theorem dX9_init_57 : decode cX9_init 57 = .ok (.newarray .int, 2) := by decide +kernel
theorem dX9_init_59 : decode cX9_init 59 = .ok (.putfield 28, 3) := by decide +kernel
theorem dX9_init_62 : decode cX9_init 62 = .ok (.aload_n 0, 1) := by decide +kernel
theorem dX9_init_63 : decode cX9_init 63 = .ok (.sipush 601, 3) := by decide +kernel
theorem dX9_init_66 : decode cX9_init 66 = .ok (.newarray .int, 2) := by decide +kernel
theorem dX9_init_68 : decode cX9_init 68 = .ok (.putfield 31, 3) := by decide +kernel
theorem dX9_init_71 : decode cX9_init 71 = .ok (.aload_n 0, 1) := by decide +kernel
theorem dX9_init_72 : decode cX9_init 72 = .ok (.sipush 600, 3) := by decide +kernel
theorem dX9_init_75 : decode cX9_init 75 = .ok (.newarray .int, 2) := by decide +kernel
theorem dX9_init_77 : decode cX9_init 77 = .ok (.putfield 34, 3) := by decide +kernel
theorem dX9_init_80 : decode cX9_init 80 = .ok (.aload_n 0, 1) := by decide +kernel
theorem dX9_init_81 : decode cX9_init 81 = .ok (.sipush 600, 3) := by decide +kernel
theorem dX9_init_84 : decode cX9_init 84 = .ok (.newarray .int, 2) := by decide +kernel
theorem dX9_init_86 : decode cX9_init 86 = .ok (.putfield 37, 3) := by decide +kernel
theorem dX9_init_89 : decode cX9_init 89 = .ok (.aload_n 0, 1) := by decide +kernel
theorem dX9_init_90 : decode cX9_init 90 = .ok (.sipush 601, 3) := by decide +kernel
theorem dX9_init_93 : decode cX9_init 93 = .ok (.newarray .int, 2) := by decide +kernel
theorem dX9_init_95 : decode cX9_init 95 = .ok (.putfield 40, 3) := by decide +kernel
theorem dX9_init_98 : decode cX9_init 98 = .ok (.aload_n 0, 1) := by decide +kernel
theorem dX9_init_99 : decode cX9_init 99 = .ok (.sipush 601, 3) := by decide +kernel
theorem dX9_init_102 : decode cX9_init 102 = .ok (.newarray .int, 2) := by decide +kernel
theorem dX9_init_104 : decode cX9_init 104 = .ok (.putfield 43, 3) := by decide +kernel
theorem dX9_init_107 : decode cX9_init 107 = .ok (.aload_n 0, 1) := by decide +kernel
theorem dX9_init_108 : decode cX9_init 108 = .ok (.sipush 601, 3) := by decide +kernel
theorem dX9_init_111 : decode cX9_init 111 = .ok (.newarray .int, 2) := by decide +kernel
theorem dX9_init_113 : decode cX9_init 113 = .ok (.putfield 46, 3) := by decide +kernel
theorem dX9_init_116 : decode cX9_init 116 = .ok (.aload_n 0, 1) := by decide +kernel
theorem dX9_init_117 : decode cX9_init 117 = .ok (.sipush 601, 3) := by decide +kernel
theorem dX9_init_120 : decode cX9_init 120 = .ok (.newarray .int, 2) := by decide +kernel
theorem dX9_init_122 : decode cX9_init 122 = .ok (.putfield 49, 3) := by decide +kernel
theorem dX9_init_125 : decode cX9_init 125 = .ok (.aload_n 0, 1) := by decide +kernel
theorem dX9_init_126 : decode cX9_init 126 = .ok (.sipush 600, 3) := by decide +kernel
theorem dX9_init_129 : decode cX9_init 129 = .ok (.newarray .int, 2) := by decide +kernel
theorem dX9_init_131 : decode cX9_init 131 = .ok (.putfield 52, 3) := by decide +kernel
theorem dX9_init_134 : decode cX9_init 134 = .ok (.aload_n 0, 1) := by decide +kernel
theorem dX9_init_135 : decode cX9_init 135 = .ok (.sipush 301, 3) := by decide +kernel
theorem dX9_init_138 : decode cX9_init 138 = .ok (.newarray .int, 2) := by decide +kernel
theorem dX9_init_140 : decode cX9_init 140 = .ok (.putfield 55, 3) := by decide +kernel
theorem dX9_init_143 : decode cX9_init 143 = .ok (.aload_n 0, 1) := by decide +kernel
theorem dX9_init_144 : decode cX9_init 144 = .ok (.sipush 301, 3) := by decide +kernel
theorem dX9_init_147 : decode cX9_init 147 = .ok (.newarray .int, 2) := by decide +kernel
theorem dX9_init_149 : decode cX9_init 149 = .ok (.putfield 58, 3) := by decide +kernel
theorem dX9_init_152 : decode cX9_init 152 = .ok (.aload_n 0, 1) := by decide +kernel
theorem dX9_init_153 : decode cX9_init 153 = .ok (.sipush 301, 3) := by decide +kernel
theorem dX9_init_156 : decode cX9_init 156 = .ok (.newarray .int, 2) := by decide +kernel
theorem dX9_init_158 : decode cX9_init 158 = .ok (.putfield 61, 3) := by decide +kernel
theorem dX9_init_161 : decode cX9_init 161 = .ok (.aload_n 0, 1) := by decide +kernel
theorem dX9_init_162 : decode cX9_init 162 = .ok (.sipush 301, 3) := by decide +kernel
theorem dX9_init_165 : decode cX9_init 165 = .ok (.newarray .int, 2) := by decide +kernel
theorem dX9_init_167 : decode cX9_init 167 = .ok (.putfield 64, 3) := by decide +kernel
theorem dX9_init_170 : decode cX9_init 170 = .ok (.aload_n 0, 1) := by decide +kernel
theorem dX9_init_171 : decode cX9_init 171 = .ok (.sipush 301, 3) := by decide +kernel
theorem dX9_init_174 : decode cX9_init 174 = .ok (.newarray .int, 2) := by decide +kernel
theorem dX9_init_176 : decode cX9_init 176 = .ok (.putfield 67, 3) := by decide +kernel
theorem dX9_init_179 : decode cX9_init 179 = .ok (.aload_n 0, 1) := by decide +kernel
theorem dX9_init_180 : decode cX9_init 180 = .ok (.sipush 301, 3) := by decide +kernel
theorem dX9_init_183 : decode cX9_init 183 = .ok (.newarray .int, 2) := by decide +kernel
theorem dX9_init_185 : decode cX9_init 185 = .ok (.putfield 70, 3) := by decide +kernel
theorem dX9_init_188 : decode cX9_init 188 = .ok (.aload_n 0, 1) := by decide +kernel
theorem dX9_init_189 : decode cX9_init 189 = .ok (.sipush 301, 3) := by decide +kernel
theorem dX9_init_192 : decode cX9_init 192 = .ok (.newarray .int, 2) := by decide +kernel
theorem dX9_init_194 : decode cX9_init 194 = .ok (.putfield 73, 3) := by decide +kernel
theorem dX9_init_197 : decode cX9_init 197 = .ok (.aload_n 0, 1) := by decide +kernel
theorem dX9_init_198 : decode cX9_init 198 = .ok (.sipush 301, 3) := by decide +kernel
theorem dX9_init_201 : decode cX9_init 201 = .ok (.newarray .boolean, 2) := by decide +kernel
theorem dX9_init_203 : decode cX9_init 203 = .ok (.putfield 76, 3) := by decide +kernel
theorem dX9_init_206 : decode cX9_init 206 = .ok (.aload_n 0, 1) := by decide +kernel
theorem dX9_init_207 : decode cX9_init 207 = .ok (.getfield 13, 3) := by decide +kernel
theorem dX9_init_210 : decode cX9_init 210 = .ok (.iconst 0, 1) := by decide +kernel
theorem dX9_init_211 : decode cX9_init 211 = .ok (.iconst 2, 1) := by decide +kernel
theorem dX9_init_212 : decode cX9_init 212 = .ok (.iastore, 1) := by decide +kernel
theorem dX9_init_213 : decode cX9_init 213 = .ok (.aload_n 0, 1) := by decide +kernel
theorem dX9_init_214 : decode cX9_init 214 = .ok (.getfield 13, 3) := by decide +kernel
theorem dX9_init_217 : decode cX9_init 217 = .ok (.iconst 2, 1) := by decide +kernel
theorem dX9_init_218 : decode cX9_init 218 = .ok (.bipush 20, 2) := by decide +kernel
theorem dX9_init_220 : decode cX9_init 220 = .ok (.iastore, 1) := by decide +kernel
theorem dX9_init_221 : decode cX9_init 221 = .ok (.aload_n 0, 1) := by decide +kernel
theorem dX9_init_222 : decode cX9_init 222 = .ok (.getfield 13, 3) := by decide +kernel
theorem dX9_init_225 : decode cX9_init 225 = .ok (.iconst 3, 1) := by decide +kernel
theorem dX9_init_226 : decode cX9_init 226 = .ok (.iconst 2, 1) := by decide +kernel
theorem dX9_init_227 : decode cX9_init 227 = .ok (.iastore, 1) := by decide +kernel
theorem dX9_init_228 : decode cX9_init 228 = .ok (.iconst 0, 1) := by decide +kernel
theorem dX9_init_229 : decode cX9_init 229 = .ok (.istore_n 1, 1) := by decide +kernel
theorem dX9_init_230 : decode cX9_init 230 = .ok (.iload_n 1, 1) := by decide +kernel
theorem dX9_init_231 : decode cX9_init 231 = .ok (.sipush 600, 3) := by decide +kernel
theorem dX9_init_234 : decode cX9_init 234 = .ok (.if_icmp .ge 16, 3) := by decide +kernel
theorem dX9_init_237 : decode cX9_init 237 = .ok (.aload_n 0, 1) := by decide +kernel
theorem dX9_init_238 : decode cX9_init 238 = .ok (.getfield 22, 3) := by decide +kernel
theorem dX9_init_241 : decode cX9_init 241 = .ok (.iload_n 1, 1) := by decide +kernel
theorem dX9_init_242 : decode cX9_init 242 = .ok (.iconst (-1), 1) := by decide +kernel
theorem dX9_init_243 : decode cX9_init 243 = .ok (.iastore, 1) := by decide +kernel
theorem dX9_init_244 : decode cX9_init 244 = .ok (.iinc 1 1, 3) := by decide +kernel
theorem dX9_init_247 : decode cX9_init 247 = .ok (.goto (-17), 3) := by decide +kernel
theorem dX9_init_250 : decode cX9_init 250 = .ok (.return_, 1) := by decide +kernel
theorem dX9_isIn_0 : decode cX9_isIn 0 = .ok (.iload_n 0, 1) := by decide +kernel
theorem dX9_isIn_1 : decode cX9_isIn 1 = .ok (.iload_n 1, 1) := by decide +kernel
theorem dX9_isIn_2 : decode cX9_isIn 2 = .ok (.if_icmp .lt 12, 3) := by decide +kernel
theorem dX9_isIn_5 : decode cX9_isIn 5 = .ok (.iload_n 0, 1) := by decide +kernel
theorem dX9_isIn_6 : decode cX9_isIn 6 = .ok (.iload_n 2, 1) := by decide +kernel
theorem dX9_isIn_7 : decode cX9_isIn 7 = .ok (.if_icmp .gt 7, 3) := by decide +kernel
theorem dX9_isIn_10 : decode cX9_isIn 10 = .ok (.iconst 1, 1) := by decide +kernel
theorem dX9_isIn_11 : decode cX9_isIn 11 = .ok (.goto 4, 3) := by decide +kernel
theorem dX9_isIn_14 : decode cX9_isIn 14 = .ok (.iconst 0, 1) := by decide +kernel
theorem dX9_isIn_15 : decode cX9_isIn 15 = .ok (.ireturn, 1) := by decide +kernel
theorem dX9_down_0 : decode cX9_down 0 = .ok (.lload_n 0, 1) := by decide +kernel
theorem dX9_down_1 : decode cX9_down 1 = .ok (.lload_n 2, 1) := by decide +kernel
theorem dX9_down_2 : decode cX9_down 2 = .ok (.ldiv, 1) := by decide +kernel
theorem dX9_down_3 : decode cX9_down 3 = .ok (.lstore 4, 2) := by decide +kernel
theorem dX9_down_5 : decode cX9_down 5 = .ok (.lload_n 0, 1) := by decide +kernel
theorem dX9_down_6 : decode cX9_down 6 = .ok (.lload_n 2, 1) := by decide +kernel
theorem dX9_down_7 : decode cX9_down 7 = .ok (.lrem, 1) := by decide +kernel
theorem dX9_down_8 : decode cX9_down 8 = .ok (.lconst 0, 1) := by decide +kernel
theorem dX9_down_9 : decode cX9_down 9 = .ok (.lcmp, 1) := by decide +kernel
theorem dX9_down_10 : decode cX9_down 10 = .ok (.ifCond .ge 10, 3) := by decide +kernel
theorem dX9_down_13 : decode cX9_down 13 = .ok (.lload 4, 2) := by decide +kernel
theorem dX9_down_15 : decode cX9_down 15 = .ok (.lconst 1, 1) := by decide +kernel
theorem dX9_down_16 : decode cX9_down 16 = .ok (.lsub, 1) := by decide +kernel
theorem dX9_down_17 : decode cX9_down 17 = .ok (.goto 5, 3) := by decide +kernel
theorem dX9_down_20 : decode cX9_down 20 = .ok (.lload 4, 2) := by decide +kernel
theorem dX9_down_22 : decode cX9_down 22 = .ok (.lreturn, 1) := by decide +kernel
theorem dX9_isHeave_0 : decode cX9_isHeave 0 = .ok (.iload_n 0, 1) := by decide +kernel
theorem dX9_isHeave_1 : decode cX9_isHeave 1 = .ok (.sipush (-32768), 3) := by decide +kernel
theorem dX9_isHeave_4 : decode cX9_isHeave 4 = .ok (.if_icmp .eq 16, 3) := by decide +kernel
theorem dX9_isHeave_7 : decode cX9_isHeave 7 = .ok (.iload_n 0, 1) := by decide +kernel
theorem dX9_isHeave_8 : decode cX9_isHeave 8 = .ok (.sipush (-9999), 3) := by decide +kernel
theorem dX9_isHeave_11 : decode cX9_isHeave 11 = .ok (.sipush 9999, 3) := by decide +kernel
theorem dX9_isHeave_14 : decode cX9_isHeave 14 = .ok (.invokestatic 80, 3) := by decide +kernel
theorem dX9_isHeave_17 : decode cX9_isHeave 17 = .ok (.ifCond .eq 7, 3) := by decide +kernel
theorem dX9_isHeave_20 : decode cX9_isHeave 20 = .ok (.iconst 1, 1) := by decide +kernel
theorem dX9_isHeave_21 : decode cX9_isHeave 21 = .ok (.goto 4, 3) := by decide +kernel
theorem dX9_isHeave_24 : decode cX9_isHeave 24 = .ok (.iconst 0, 1) := by decide +kernel
theorem dX9_isHeave_25 : decode cX9_isHeave 25 = .ok (.ireturn, 1) := by decide +kernel
theorem dX9_heave_0 : decode cX9_heave 0 = .ok (.iload_n 1, 1) := by decide +kernel
theorem dX9_heave_1 : decode cX9_heave 1 = .ok (.invokestatic 84, 3) := by decide +kernel
theorem dX9_heave_4 : decode cX9_heave 4 = .ok (.ifCond .eq 13, 3) := by decide +kernel
theorem dX9_heave_7 : decode cX9_heave 7 = .ok (.aload_n 0, 1) := by decide +kernel
theorem dX9_heave_8 : decode cX9_heave 8 = .ok (.getfield 88, 3) := by decide +kernel
theorem dX9_heave_11 : decode cX9_heave 11 = .ok (.sipush 600, 3) := by decide +kernel
theorem dX9_heave_14 : decode cX9_heave 14 = .ok (.if_icmp .ne 5, 3) := by decide +kernel
theorem dX9_heave_17 : decode cX9_heave 17 = .ok (.iconst (-1), 1) := by decide +kernel
theorem dX9_heave_18 : decode cX9_heave 18 = .ok (.ireturn, 1) := by decide +kernel
theorem dX9_heave_19 : decode cX9_heave 19 = .ok (.aload_n 0, 1) := by decide +kernel
theorem dX9_heave_20 : decode cX9_heave 20 = .ok (.getfield 7, 3) := by decide +kernel
theorem dX9_heave_23 : decode cX9_heave 23 = .ok (.aload_n 0, 1) := by decide +kernel
theorem dX9_heave_24 : decode cX9_heave 24 = .ok (.getfield 88, 3) := by decide +kernel
theorem dX9_heave_27 : decode cX9_heave 27 = .ok (.iload_n 1, 1) := by decide +kernel
theorem dX9_heave_28 : decode cX9_heave 28 = .ok (.iastore, 1) := by decide +kernel
theorem dX9_heave_29 : decode cX9_heave 29 = .ok (.aload_n 0, 1) := by decide +kernel
theorem dX9_heave_30 : decode cX9_heave 30 = .ok (.getfield 22, 3) := by decide +kernel
theorem dX9_heave_33 : decode cX9_heave 33 = .ok (.aload_n 0, 1) := by decide +kernel
theorem dX9_heave_34 : decode cX9_heave 34 = .ok (.getfield 88, 3) := by decide +kernel
theorem dX9_heave_37 : decode cX9_heave 37 = .ok (.iconst (-1), 1) := by decide +kernel
theorem dX9_heave_38 : decode cX9_heave 38 = .ok (.iastore, 1) := by decide +kernel
theorem dX9_heave_39 : decode cX9_heave 39 = .ok (.aload_n 0, 1) := by decide +kernel
theorem dX9_heave_40 : decode cX9_heave 40 = .ok (.dup, 1) := by decide +kernel
theorem dX9_heave_41 : decode cX9_heave 41 = .ok (.getfield 88, 3) := by decide +kernel
theorem dX9_heave_44 : decode cX9_heave 44 = .ok (.iconst 1, 1) := by decide +kernel
theorem dX9_heave_45 : decode cX9_heave 45 = .ok (.iadd, 1) := by decide +kernel
theorem dX9_heave_46 : decode cX9_heave 46 = .ok (.putfield 88, 3) := by decide +kernel
theorem dX9_heave_49 : decode cX9_heave 49 = .ok (.aload_n 0, 1) := by decide +kernel
theorem dX9_heave_50 : decode cX9_heave 50 = .ok (.getfield 88, 3) := by decide +kernel
theorem dX9_heave_53 : decode cX9_heave 53 = .ok (.ireturn, 1) := by decide +kernel
theorem dX9_part_0 : decode cX9_part 0 = .ok (.lload_n 0, 1) := by decide +kernel
theorem dX9_part_1 : decode cX9_part 1 = .ok (.bipush 16, 2) := by decide +kernel
theorem dX9_part_3 : decode cX9_part 3 = .ok (.iload_n 2, 1) := by decide +kernel
theorem dX9_part_4 : decode cX9_part 4 = .ok (.imul, 1) := by decide +kernel
theorem dX9_part_5 : decode cX9_part 5 = .ok (.lshl, 1) := by decide +kernel
theorem dX9_part_6 : decode cX9_part 6 = .ok (.bipush 48, 2) := by decide +kernel
theorem dX9_part_8 : decode cX9_part 8 = .ok (.lshr, 1) := by decide +kernel
theorem dX9_part_9 : decode cX9_part 9 = .ok (.l2i, 1) := by decide +kernel
theorem dX9_part_10 : decode cX9_part 10 = .ok (.ireturn, 1) := by decide +kernel
theorem dX9_four_0 : decode cX9_four 0 = .ok (.aload_n 0, 1) := by decide +kernel
theorem dX9_four_1 : decode cX9_four 1 = .ok (.getfield 88, 3) := by decide +kernel
theorem dX9_four_4 : decode cX9_four 4 = .ok (.iconst 4, 1) := by decide +kernel
theorem dX9_four_5 : decode cX9_four 5 = .ok (.iadd, 1) := by decide +kernel
theorem dX9_four_6 : decode cX9_four 6 = .ok (.sipush 600, 3) := by decide +kernel
theorem dX9_four_9 : decode cX9_four 9 = .ok (.if_icmp .le 5, 3) := by decide +kernel
theorem dX9_four_12 : decode cX9_four 12 = .ok (.iconst (-1), 1) := by decide +kernel
theorem dX9_four_13 : decode cX9_four 13 = .ok (.ireturn, 1) := by decide +kernel
theorem dX9_four_14 : decode cX9_four 14 = .ok (.iconst 0, 1) := by decide +kernel
theorem dX9_four_15 : decode cX9_four 15 = .ok (.istore_n 3, 1) := by decide +kernel
theorem dX9_four_16 : decode cX9_four 16 = .ok (.iload_n 3, 1) := by decide +kernel
theorem dX9_four_17 : decode cX9_four 17 = .ok (.iconst 4, 1) := by decide +kernel
theorem dX9_four_18 : decode cX9_four 18 = .ok (.if_icmp .ge 22, 3) := by decide +kernel
theorem dX9_four_21 : decode cX9_four 21 = .ok (.lload_n 1, 1) := by decide +kernel
theorem dX9_four_22 : decode cX9_four 22 = .ok (.iload_n 3, 1) := by decide +kernel
theorem dX9_four_23 : decode cX9_four 23 = .ok (.invokestatic 92, 3) := by decide +kernel
theorem dX9_four_26 : decode cX9_four 26 = .ok (.invokestatic 84, 3) := by decide +kernel
theorem dX9_four_29 : decode cX9_four 29 = .ok (.ifCond .ne 5, 3) := by decide +kernel
theorem dX9_four_32 : decode cX9_four 32 = .ok (.iconst (-1), 1) := by decide +kernel
theorem dX9_four_33 : decode cX9_four 33 = .ok (.ireturn, 1) := by decide +kernel
theorem dX9_four_34 : decode cX9_four 34 = .ok (.iinc 3 1, 3) := by decide +kernel
theorem dX9_four_37 : decode cX9_four 37 = .ok (.goto (-21), 3) := by decide +kernel
theorem dX9_four_40 : decode cX9_four 40 = .ok (.aload_n 0, 1) := by decide +kernel
theorem dX9_four_41 : decode cX9_four 41 = .ok (.getfield 88, 3) := by decide +kernel
theorem dX9_four_44 : decode cX9_four 44 = .ok (.istore_n 3, 1) := by decide +kernel
theorem dX9_four_45 : decode cX9_four 45 = .ok (.iconst 0, 1) := by decide +kernel
theorem dX9_four_46 : decode cX9_four 46 = .ok (.istore 4, 2) := by decide +kernel
theorem dX9_four_48 : decode cX9_four 48 = .ok (.iload 4, 2) := by decide +kernel
theorem dX9_four_50 : decode cX9_four 50 = .ok (.iconst 4, 1) := by decide +kernel
theorem dX9_four_51 : decode cX9_four 51 = .ok (.if_icmp .ge 20, 3) := by decide +kernel
theorem dX9_four_54 : decode cX9_four 54 = .ok (.aload_n 0, 1) := by decide +kernel
theorem dX9_four_55 : decode cX9_four 55 = .ok (.lload_n 1, 1) := by decide +kernel
theorem dX9_four_56 : decode cX9_four 56 = .ok (.iload 4, 2) := by decide +kernel
theorem dX9_four_58 : decode cX9_four 58 = .ok (.invokestatic 92, 3) := by decide +kernel
theorem dX9_four_61 : decode cX9_four 61 = .ok (.invokevirtual 96, 3) := by decide +kernel
theorem dX9_four_64 : decode cX9_four 64 = .ok (.istore_n 3, 1) := by decide +kernel
theorem dX9_four_65 : decode cX9_four 65 = .ok (.iinc 4 1, 3) := by decide +kernel
theorem dX9_four_68 : decode cX9_four 68 = .ok (.goto (-20), 3) := by decide +kernel
theorem dX9_four_71 : decode cX9_four 71 = .ok (.iload_n 3, 1) := by decide +kernel
theorem dX9_four_72 : decode cX9_four 72 = .ok (.ireturn, 1) := by decide +kernel
theorem dX9_forget_0 : decode cX9_forget 0 = .ok (.iload_n 1, 1) := by decide +kernel
theorem dX9_forget_1 : decode cX9_forget 1 = .ok (.iconst 0, 1) := by decide +kernel
theorem dX9_forget_2 : decode cX9_forget 2 = .ok (.aload_n 0, 1) := by decide +kernel
theorem dX9_forget_3 : decode cX9_forget 3 = .ok (.getfield 88, 3) := by decide +kernel
theorem dX9_forget_6 : decode cX9_forget 6 = .ok (.invokestatic 80, 3) := by decide +kernel
theorem dX9_forget_9 : decode cX9_forget 9 = .ok (.ifCond .ne 5, 3) := by decide +kernel
theorem dX9_forget_12 : decode cX9_forget 12 = .ok (.iconst (-1), 1) := by decide +kernel
theorem dX9_forget_13 : decode cX9_forget 13 = .ok (.ireturn, 1) := by decide +kernel
theorem dX9_forget_14 : decode cX9_forget 14 = .ok (.aload_n 0, 1) := by decide +kernel
theorem dX9_forget_15 : decode cX9_forget 15 = .ok (.dup, 1) := by decide +kernel
theorem dX9_forget_16 : decode cX9_forget 16 = .ok (.getfield 88, 3) := by decide +kernel
theorem dX9_forget_19 : decode cX9_forget 19 = .ok (.iload_n 1, 1) := by decide +kernel
theorem dX9_forget_20 : decode cX9_forget 20 = .ok (.isub, 1) := by decide +kernel
theorem dX9_forget_21 : decode cX9_forget 21 = .ok (.putfield 88, 3) := by decide +kernel
theorem dX9_forget_24 : decode cX9_forget 24 = .ok (.iconst 0, 1) := by decide +kernel
theorem dX9_forget_25 : decode cX9_forget 25 = .ok (.istore_n 2, 1) := by decide +kernel
theorem dX9_forget_26 : decode cX9_forget 26 = .ok (.iload_n 2, 1) := by decide +kernel
theorem dX9_forget_27 : decode cX9_forget 27 = .ok (.aload_n 0, 1) := by decide +kernel
theorem dX9_forget_28 : decode cX9_forget 28 = .ok (.getfield 88, 3) := by decide +kernel
theorem dX9_forget_31 : decode cX9_forget 31 = .ok (.if_icmp .ge 37, 3) := by decide +kernel
theorem dX9_forget_34 : decode cX9_forget 34 = .ok (.aload_n 0, 1) := by decide +kernel
theorem dX9_forget_35 : decode cX9_forget 35 = .ok (.getfield 7, 3) := by decide +kernel
theorem dX9_forget_38 : decode cX9_forget 38 = .ok (.iload_n 2, 1) := by decide +kernel
theorem dX9_forget_39 : decode cX9_forget 39 = .ok (.aload_n 0, 1) := by decide +kernel
theorem dX9_forget_40 : decode cX9_forget 40 = .ok (.getfield 7, 3) := by decide +kernel
theorem dX9_forget_43 : decode cX9_forget 43 = .ok (.iload_n 2, 1) := by decide +kernel
theorem dX9_forget_44 : decode cX9_forget 44 = .ok (.iload_n 1, 1) := by decide +kernel
theorem dX9_forget_45 : decode cX9_forget 45 = .ok (.iadd, 1) := by decide +kernel
theorem dX9_forget_46 : decode cX9_forget 46 = .ok (.iaload, 1) := by decide +kernel
theorem dX9_forget_47 : decode cX9_forget 47 = .ok (.iastore, 1) := by decide +kernel
theorem dX9_forget_48 : decode cX9_forget 48 = .ok (.aload_n 0, 1) := by decide +kernel
theorem dX9_forget_49 : decode cX9_forget 49 = .ok (.getfield 22, 3) := by decide +kernel
theorem dX9_forget_52 : decode cX9_forget 52 = .ok (.iload_n 2, 1) := by decide +kernel
theorem dX9_forget_53 : decode cX9_forget 53 = .ok (.aload_n 0, 1) := by decide +kernel
theorem dX9_forget_54 : decode cX9_forget 54 = .ok (.getfield 22, 3) := by decide +kernel
theorem dX9_forget_57 : decode cX9_forget 57 = .ok (.iload_n 2, 1) := by decide +kernel
theorem dX9_forget_58 : decode cX9_forget 58 = .ok (.iload_n 1, 1) := by decide +kernel
theorem dX9_forget_59 : decode cX9_forget 59 = .ok (.iadd, 1) := by decide +kernel
theorem dX9_forget_60 : decode cX9_forget 60 = .ok (.iaload, 1) := by decide +kernel
theorem dX9_forget_61 : decode cX9_forget 61 = .ok (.iastore, 1) := by decide +kernel
theorem dX9_forget_62 : decode cX9_forget 62 = .ok (.iinc 2 1, 3) := by decide +kernel
theorem dX9_forget_65 : decode cX9_forget 65 = .ok (.goto (-39), 3) := by decide +kernel
theorem dX9_forget_68 : decode cX9_forget 68 = .ok (.aload_n 0, 1) := by decide +kernel
theorem dX9_forget_69 : decode cX9_forget 69 = .ok (.getfield 88, 3) := by decide +kernel
theorem dX9_forget_72 : decode cX9_forget 72 = .ok (.istore_n 2, 1) := by decide +kernel
theorem dX9_forget_73 : decode cX9_forget 73 = .ok (.iload_n 2, 1) := by decide +kernel
theorem dX9_forget_74 : decode cX9_forget 74 = .ok (.sipush 600, 3) := by decide +kernel
theorem dX9_forget_77 : decode cX9_forget 77 = .ok (.if_icmp .ge 16, 3) := by decide +kernel
theorem dX9_forget_80 : decode cX9_forget 80 = .ok (.aload_n 0, 1) := by decide +kernel
theorem dX9_forget_81 : decode cX9_forget 81 = .ok (.getfield 22, 3) := by decide +kernel
theorem dX9_forget_84 : decode cX9_forget 84 = .ok (.iload_n 2, 1) := by decide +kernel
theorem dX9_forget_85 : decode cX9_forget 85 = .ok (.iconst (-1), 1) := by decide +kernel
theorem dX9_forget_86 : decode cX9_forget 86 = .ok (.iastore, 1) := by decide +kernel
theorem dX9_forget_87 : decode cX9_forget 87 = .ok (.iinc 2 1, 3) := by decide +kernel
theorem dX9_forget_90 : decode cX9_forget 90 = .ok (.goto (-17), 3) := by decide +kernel
theorem dX9_forget_93 : decode cX9_forget 93 = .ok (.aload_n 0, 1) := by decide +kernel
theorem dX9_forget_94 : decode cX9_forget 94 = .ok (.getfield 88, 3) := by decide +kernel
theorem dX9_forget_97 : decode cX9_forget 97 = .ok (.ireturn, 1) := by decide +kernel
theorem dX9_set_0 : decode cX9_set 0 = .ok (.iload_n 1, 1) := by decide +kernel
theorem dX9_set_1 : decode cX9_set 1 = .ok (.ifCond .ne 13, 3) := by decide +kernel
theorem dX9_set_4 : decode cX9_set 4 = .ok (.iload_n 2, 1) := by decide +kernel
theorem dX9_set_5 : decode cX9_set 5 = .ok (.iconst 0, 1) := by decide +kernel
theorem dX9_set_6 : decode cX9_set 6 = .ok (.bipush 20, 2) := by decide +kernel
theorem dX9_set_8 : decode cX9_set 8 = .ok (.invokestatic 80, 3) := by decide +kernel
theorem dX9_set_11 : decode cX9_set 11 = .ok (.goto 55, 3) := by decide +kernel
theorem dX9_set_14 : decode cX9_set 14 = .ok (.iload_n 1, 1) := by decide +kernel
theorem dX9_set_15 : decode cX9_set 15 = .ok (.iconst 1, 1) := by decide +kernel
theorem dX9_set_16 : decode cX9_set 16 = .ok (.if_icmp .ne 14, 3) := by decide +kernel
theorem dX9_set_19 : decode cX9_set 19 = .ok (.iload_n 2, 1) := by decide +kernel
theorem dX9_set_20 : decode cX9_set 20 = .ok (.iconst 0, 1) := by decide +kernel
theorem dX9_set_21 : decode cX9_set 21 = .ok (.sipush 500, 3) := by decide +kernel
theorem dX9_set_24 : decode cX9_set 24 = .ok (.invokestatic 80, 3) := by decide +kernel
theorem dX9_set_27 : decode cX9_set 27 = .ok (.goto 39, 3) := by decide +kernel
theorem dX9_set_30 : decode cX9_set 30 = .ok (.iload_n 1, 1) := by decide +kernel
theorem dX9_set_31 : decode cX9_set 31 = .ok (.iconst 2, 1) := by decide +kernel
theorem dX9_set_32 : decode cX9_set 32 = .ok (.if_icmp .ne 14, 3) := by decide +kernel
theorem dX9_set_35 : decode cX9_set 35 = .ok (.iload_n 2, 1) := by decide +kernel
theorem dX9_set_36 : decode cX9_set 36 = .ok (.bipush 10, 2) := by decide +kernel
theorem dX9_set_38 : decode cX9_set 38 = .ok (.bipush 50, 2) := by decide +kernel
theorem dX9_set_40 : decode cX9_set 40 = .ok (.invokestatic 80, 3) := by decide +kernel
theorem dX9_set_43 : decode cX9_set 43 = .ok (.goto 23, 3) := by decide +kernel
theorem dX9_set_46 : decode cX9_set 46 = .ok (.iload_n 1, 1) := by decide +kernel
theorem dX9_set_47 : decode cX9_set 47 = .ok (.iconst 3, 1) := by decide +kernel
theorem dX9_set_48 : decode cX9_set 48 = .ok (.if_icmp .ne 17, 3) := by decide +kernel
theorem dX9_set_51 : decode cX9_set 51 = .ok (.iload_n 2, 1) := by decide +kernel
theorem dX9_set_52 : decode cX9_set 52 = .ok (.iconst 1, 1) := by decide +kernel
theorem dX9_set_53 : decode cX9_set 53 = .ok (.bipush 9, 2) := by decide +kernel
theorem dX9_set_55 : decode cX9_set 55 = .ok (.invokestatic 80, 3) := by decide +kernel
theorem dX9_set_58 : decode cX9_set 58 = .ok (.ifCond .eq 7, 3) := by decide +kernel
theorem dX9_set_61 : decode cX9_set 61 = .ok (.iconst 1, 1) := by decide +kernel
theorem dX9_set_62 : decode cX9_set 62 = .ok (.goto 4, 3) := by decide +kernel
theorem dX9_set_65 : decode cX9_set 65 = .ok (.iconst 0, 1) := by decide +kernel
theorem dX9_set_66 : decode cX9_set 66 = .ok (.istore_n 3, 1) := by decide +kernel
theorem dX9_set_67 : decode cX9_set 67 = .ok (.iload_n 3, 1) := by decide +kernel
theorem dX9_set_68 : decode cX9_set 68 = .ok (.ifCond .eq 13, 3) := by decide +kernel
theorem dX9_set_71 : decode cX9_set 71 = .ok (.aload_n 0, 1) := by decide +kernel
theorem dX9_set_72 : decode cX9_set 72 = .ok (.getfield 13, 3) := by decide +kernel
theorem dX9_set_75 : decode cX9_set 75 = .ok (.iload_n 1, 1) := by decide +kernel
theorem dX9_set_76 : decode cX9_set 76 = .ok (.iaload, 1) := by decide +kernel
theorem dX9_set_77 : decode cX9_set 77 = .ok (.iload_n 2, 1) := by decide +kernel
theorem dX9_set_78 : decode cX9_set 78 = .ok (.if_icmp .ne 5, 3) := by decide +kernel
theorem dX9_set_81 : decode cX9_set 81 = .ok (.iconst 0, 1) := by decide +kernel
theorem dX9_set_82 : decode cX9_set 82 = .ok (.ireturn, 1) := by decide +kernel
theorem dX9_set_83 : decode cX9_set 83 = .ok (.aload_n 0, 1) := by decide +kernel
theorem dX9_set_84 : decode cX9_set 84 = .ok (.getfield 13, 3) := by decide +kernel
theorem dX9_set_87 : decode cX9_set 87 = .ok (.iload_n 1, 1) := by decide +kernel
theorem dX9_set_88 : decode cX9_set 88 = .ok (.iload_n 2, 1) := by decide +kernel
theorem dX9_set_89 : decode cX9_set 89 = .ok (.iastore, 1) := by decide +kernel
theorem dX9_set_90 : decode cX9_set 90 = .ok (.iconst 1, 1) := by decide +kernel
theorem dX9_set_91 : decode cX9_set 91 = .ok (.ireturn, 1) := by decide +kernel
theorem dX9_both_0 : decode cX9_both 0 = .ok (.aload_n 0, 1) := by decide +kernel
theorem dX9_both_1 : decode cX9_both 1 = .ok (.getfield 13, 3) := by decide +kernel
theorem dX9_both_4 : decode cX9_both 4 = .ok (.iload_n 1, 1) := by decide +kernel
theorem dX9_both_5 : decode cX9_both 5 = .ok (.iaload, 1) := by decide +kernel
theorem dX9_both_6 : decode cX9_both 6 = .ok (.iload_n 2, 1) := by decide +kernel
theorem dX9_both_7 : decode cX9_both 7 = .ok (.if_icmp .ne 17, 3) := by decide +kernel
theorem dX9_both_10 : decode cX9_both 10 = .ok (.aload_n 0, 1) := by decide +kernel
theorem dX9_both_11 : decode cX9_both 11 = .ok (.getfield 13, 3) := by decide +kernel
theorem dX9_both_14 : decode cX9_both 14 = .ok (.iload_n 1, 1) := by decide +kernel
theorem dX9_both_15 : decode cX9_both 15 = .ok (.iconst 1, 1) := by decide +kernel
theorem dX9_both_16 : decode cX9_both 16 = .ok (.iadd, 1) := by decide +kernel
theorem dX9_both_17 : decode cX9_both 17 = .ok (.iaload, 1) := by decide +kernel
theorem dX9_both_18 : decode cX9_both 18 = .ok (.iload_n 3, 1) := by decide +kernel
theorem dX9_both_19 : decode cX9_both 19 = .ok (.if_icmp .ne 5, 3) := by decide +kernel
theorem dX9_both_22 : decode cX9_both 22 = .ok (.iconst 0, 1) := by decide +kernel
theorem dX9_both_23 : decode cX9_both 23 = .ok (.ireturn, 1) := by decide +kernel
theorem dX9_both_24 : decode cX9_both 24 = .ok (.aload_n 0, 1) := by decide +kernel
theorem dX9_both_25 : decode cX9_both 25 = .ok (.getfield 13, 3) := by decide +kernel
theorem dX9_both_28 : decode cX9_both 28 = .ok (.iload_n 1, 1) := by decide +kernel
theorem dX9_both_29 : decode cX9_both 29 = .ok (.iload_n 2, 1) := by decide +kernel
theorem dX9_both_30 : decode cX9_both 30 = .ok (.iastore, 1) := by decide +kernel
theorem dX9_both_31 : decode cX9_both 31 = .ok (.aload_n 0, 1) := by decide +kernel
theorem dX9_both_32 : decode cX9_both 32 = .ok (.getfield 13, 3) := by decide +kernel
theorem dX9_both_35 : decode cX9_both 35 = .ok (.iload_n 1, 1) := by decide +kernel
theorem dX9_both_36 : decode cX9_both 36 = .ok (.iconst 1, 1) := by decide +kernel
theorem dX9_both_37 : decode cX9_both 37 = .ok (.iadd, 1) := by decide +kernel
theorem dX9_both_38 : decode cX9_both 38 = .ok (.iload_n 3, 1) := by decide +kernel
theorem dX9_both_39 : decode cX9_both 39 = .ok (.iastore, 1) := by decide +kernel
theorem dX9_both_40 : decode cX9_both 40 = .ok (.iconst 1, 1) := by decide +kernel
theorem dX9_both_41 : decode cX9_both 41 = .ok (.ireturn, 1) := by decide +kernel
theorem dX9_level_0 : decode cX9_level 0 = .ok (.iload_n 1, 1) := by decide +kernel
theorem dX9_level_1 : decode cX9_level 1 = .ok (.iconst 0, 1) := by decide +kernel
theorem dX9_level_2 : decode cX9_level 2 = .ok (.iconst 2, 1) := by decide +kernel
theorem dX9_level_3 : decode cX9_level 3 = .ok (.invokestatic 80, 3) := by decide +kernel
theorem dX9_level_6 : decode cX9_level 6 = .ok (.ifCond .eq 27, 3) := by decide +kernel
theorem dX9_level_9 : decode cX9_level 9 = .ok (.iload_n 1, 1) := by decide +kernel
theorem dX9_level_10 : decode cX9_level 10 = .ok (.ifCond .ne 19, 3) := by decide +kernel
theorem dX9_level_13 : decode cX9_level 13 = .ok (.iload_n 2, 1) := by decide +kernel
theorem dX9_level_14 : decode cX9_level 14 = .ok (.sipush (-9999), 3) := by decide +kernel
theorem dX9_level_17 : decode cX9_level 17 = .ok (.sipush 9999, 3) := by decide +kernel
theorem dX9_level_20 : decode cX9_level 20 = .ok (.invokestatic 80, 3) := by decide +kernel
theorem dX9_level_23 : decode cX9_level 23 = .ok (.ifCond .ne 12, 3) := by decide +kernel
theorem dX9_level_26 : decode cX9_level 26 = .ok (.goto 7, 3) := by decide +kernel
theorem dX9_level_29 : decode cX9_level 29 = .ok (.iload_n 2, 1) := by decide +kernel
theorem dX9_level_30 : decode cX9_level 30 = .ok (.ifCond .eq 5, 3) := by decide +kernel
theorem dX9_level_33 : decode cX9_level 33 = .ok (.iconst 0, 1) := by decide +kernel
theorem dX9_level_34 : decode cX9_level 34 = .ok (.ireturn, 1) := by decide +kernel
theorem dX9_level_35 : decode cX9_level 35 = .ok (.aload_n 0, 1) := by decide +kernel
theorem dX9_level_36 : decode cX9_level 36 = .ok (.iconst 4, 1) := by decide +kernel
theorem dX9_level_37 : decode cX9_level 37 = .ok (.iload_n 1, 1) := by decide +kernel
theorem dX9_level_38 : decode cX9_level 38 = .ok (.iload_n 2, 1) := by decide +kernel
theorem dX9_level_39 : decode cX9_level 39 = .ok (.invokevirtual 100, 3) := by decide +kernel
theorem dX9_level_42 : decode cX9_level 42 = .ok (.ireturn, 1) := by decide +kernel
theorem dX9_mark_0 : decode cX9_mark 0 = .ok (.iload_n 1, 1) := by decide +kernel
theorem dX9_mark_1 : decode cX9_mark 1 = .ok (.iconst 0, 1) := by decide +kernel
theorem dX9_mark_2 : decode cX9_mark 2 = .ok (.iconst 3, 1) := by decide +kernel
theorem dX9_mark_3 : decode cX9_mark 3 = .ok (.invokestatic 80, 3) := by decide +kernel
theorem dX9_mark_6 : decode cX9_mark 6 = .ok (.ifCond .eq 24, 3) := by decide +kernel
theorem dX9_mark_9 : decode cX9_mark 9 = .ok (.iload_n 1, 1) := by decide +kernel
theorem dX9_mark_10 : decode cX9_mark 10 = .ok (.ifCond .ne 16, 3) := by decide +kernel
theorem dX9_mark_13 : decode cX9_mark 13 = .ok (.iload_n 2, 1) := by decide +kernel
theorem dX9_mark_14 : decode cX9_mark 14 = .ok (.iconst 0, 1) := by decide +kernel
theorem dX9_mark_15 : decode cX9_mark 15 = .ok (.ldc 103, 2) := by decide +kernel
theorem dX9_mark_17 : decode cX9_mark 17 = .ok (.invokestatic 80, 3) := by decide +kernel
theorem dX9_mark_20 : decode cX9_mark 20 = .ok (.ifCond .ne 12, 3) := by decide +kernel
theorem dX9_mark_23 : decode cX9_mark 23 = .ok (.goto 7, 3) := by decide +kernel
theorem dX9_mark_26 : decode cX9_mark 26 = .ok (.iload_n 2, 1) := by decide +kernel
theorem dX9_mark_27 : decode cX9_mark 27 = .ok (.ifCond .eq 5, 3) := by decide +kernel
theorem dX9_mark_30 : decode cX9_mark 30 = .ok (.iconst 0, 1) := by decide +kernel
theorem dX9_mark_31 : decode cX9_mark 31 = .ok (.ireturn, 1) := by decide +kernel
theorem dX9_mark_32 : decode cX9_mark 32 = .ok (.aload_n 0, 1) := by decide +kernel
theorem dX9_mark_33 : decode cX9_mark 33 = .ok (.bipush 6, 2) := by decide +kernel
theorem dX9_mark_35 : decode cX9_mark 35 = .ok (.iload_n 1, 1) := by decide +kernel
theorem dX9_mark_36 : decode cX9_mark 36 = .ok (.iload_n 2, 1) := by decide +kernel
theorem dX9_mark_37 : decode cX9_mark 37 = .ok (.invokevirtual 100, 3) := by decide +kernel
theorem dX9_mark_40 : decode cX9_mark 40 = .ok (.ireturn, 1) := by decide +kernel
theorem dX9_lens_0 : decode cX9_lens 0 = .ok (.iload_n 1, 1) := by decide +kernel
theorem dX9_lens_1 : decode cX9_lens 1 = .ok (.ifCond .ne 12, 3) := by decide +kernel
theorem dX9_lens_4 : decode cX9_lens 4 = .ok (.iload_n 2, 1) := by decide +kernel
theorem dX9_lens_5 : decode cX9_lens 5 = .ok (.iconst 1, 1) := by decide +kernel
theorem dX9_lens_6 : decode cX9_lens 6 = .ok (.iconst 5, 1) := by decide +kernel
theorem dX9_lens_7 : decode cX9_lens 7 = .ok (.invokestatic 80, 3) := by decide +kernel
theorem dX9_lens_10 : decode cX9_lens 10 = .ok (.goto 71, 3) := by decide +kernel
theorem dX9_lens_13 : decode cX9_lens 13 = .ok (.iload_n 1, 1) := by decide +kernel
theorem dX9_lens_14 : decode cX9_lens 14 = .ok (.iconst 1, 1) := by decide +kernel
theorem dX9_lens_15 : decode cX9_lens 15 = .ok (.if_icmp .ne 14, 3) := by decide +kernel
theorem dX9_lens_18 : decode cX9_lens 18 = .ok (.iload_n 2, 1) := by decide +kernel
theorem dX9_lens_19 : decode cX9_lens 19 = .ok (.iconst 0, 1) := by decide +kernel
theorem dX9_lens_20 : decode cX9_lens 20 = .ok (.sipush 9999, 3) := by decide +kernel
theorem dX9_lens_23 : decode cX9_lens 23 = .ok (.invokestatic 80, 3) := by decide +kernel
theorem dX9_lens_26 : decode cX9_lens 26 = .ok (.goto 55, 3) := by decide +kernel
theorem dX9_lens_29 : decode cX9_lens 29 = .ok (.iload_n 1, 1) := by decide +kernel
theorem dX9_lens_30 : decode cX9_lens 30 = .ok (.iconst 2, 1) := by decide +kernel
theorem dX9_lens_31 : decode cX9_lens 31 = .ok (.if_icmp .ne 15, 3) := by decide +kernel
theorem dX9_lens_34 : decode cX9_lens 34 = .ok (.iload_n 2, 1) := by decide +kernel
theorem dX9_lens_35 : decode cX9_lens 35 = .ok (.ifCond .ne 7, 3) := by decide +kernel
theorem dX9_lens_38 : decode cX9_lens 38 = .ok (.iconst 1, 1) := by decide +kernel
theorem dX9_lens_39 : decode cX9_lens 39 = .ok (.goto 42, 3) := by decide +kernel
theorem dX9_lens_42 : decode cX9_lens 42 = .ok (.iconst 0, 1) := by decide +kernel
theorem dX9_lens_43 : decode cX9_lens 43 = .ok (.goto 38, 3) := by decide +kernel
theorem dX9_lens_46 : decode cX9_lens 46 = .ok (.iload_n 1, 1) := by decide +kernel
theorem dX9_lens_47 : decode cX9_lens 47 = .ok (.iconst 3, 1) := by decide +kernel
theorem dX9_lens_48 : decode cX9_lens 48 = .ok (.if_icmp .ne 13, 3) := by decide +kernel
theorem dX9_lens_51 : decode cX9_lens 51 = .ok (.iload_n 2, 1) := by decide +kernel
theorem dX9_lens_52 : decode cX9_lens 52 = .ok (.iconst 1, 1) := by decide +kernel
theorem dX9_lens_53 : decode cX9_lens 53 = .ok (.bipush 30, 2) := by decide +kernel
theorem dX9_lens_55 : decode cX9_lens 55 = .ok (.invokestatic 80, 3) := by decide +kernel
theorem dX9_lens_58 : decode cX9_lens 58 = .ok (.goto 23, 3) := by decide +kernel
theorem dX9_lens_61 : decode cX9_lens 61 = .ok (.iload_n 1, 1) := by decide +kernel
theorem dX9_lens_62 : decode cX9_lens 62 = .ok (.iconst 4, 1) := by decide +kernel
theorem dX9_lens_63 : decode cX9_lens 63 = .ok (.if_icmp .ne 17, 3) := by decide +kernel
theorem dX9_lens_66 : decode cX9_lens 66 = .ok (.iload_n 2, 1) := by decide +kernel
theorem dX9_lens_67 : decode cX9_lens 67 = .ok (.iconst 1, 1) := by decide +kernel
theorem dX9_lens_68 : decode cX9_lens 68 = .ok (.bipush 9, 2) := by decide +kernel
theorem dX9_lens_70 : decode cX9_lens 70 = .ok (.invokestatic 80, 3) := by decide +kernel
theorem dX9_lens_73 : decode cX9_lens 73 = .ok (.ifCond .eq 7, 3) := by decide +kernel
theorem dX9_lens_76 : decode cX9_lens 76 = .ok (.iconst 1, 1) := by decide +kernel
theorem dX9_lens_77 : decode cX9_lens 77 = .ok (.goto 4, 3) := by decide +kernel
theorem dX9_lens_80 : decode cX9_lens 80 = .ok (.iconst 0, 1) := by decide +kernel
theorem dX9_lens_81 : decode cX9_lens 81 = .ok (.istore_n 3, 1) := by decide +kernel
theorem dX9_lens_82 : decode cX9_lens 82 = .ok (.iload_n 3, 1) := by decide +kernel
theorem dX9_lens_83 : decode cX9_lens 83 = .ok (.ifCond .eq 11, 3) := by decide +kernel
theorem dX9_lens_86 : decode cX9_lens 86 = .ok (.aload_n 0, 1) := by decide +kernel
theorem dX9_lens_87 : decode cX9_lens 87 = .ok (.getfield 104, 3) := by decide +kernel
theorem dX9_lens_90 : decode cX9_lens 90 = .ok (.iconst 4, 1) := by decide +kernel
theorem dX9_lens_91 : decode cX9_lens 91 = .ok (.if_icmp .ne 5, 3) := by decide +kernel
theorem dX9_lens_94 : decode cX9_lens 94 = .ok (.iconst (-1), 1) := by decide +kernel
theorem dX9_lens_95 : decode cX9_lens 95 = .ok (.ireturn, 1) := by decide +kernel
theorem dX9_lens_96 : decode cX9_lens 96 = .ok (.aload_n 0, 1) := by decide +kernel
theorem dX9_lens_97 : decode cX9_lens 97 = .ok (.getfield 16, 3) := by decide +kernel
theorem dX9_lens_100 : decode cX9_lens 100 = .ok (.aload_n 0, 1) := by decide +kernel
theorem dX9_lens_101 : decode cX9_lens 101 = .ok (.getfield 104, 3) := by decide +kernel
theorem dX9_lens_104 : decode cX9_lens 104 = .ok (.iload_n 1, 1) := by decide +kernel
theorem dX9_lens_105 : decode cX9_lens 105 = .ok (.iastore, 1) := by decide +kernel
theorem dX9_lens_106 : decode cX9_lens 106 = .ok (.aload_n 0, 1) := by decide +kernel
theorem dX9_lens_107 : decode cX9_lens 107 = .ok (.getfield 19, 3) := by decide +kernel
theorem dX9_lens_110 : decode cX9_lens 110 = .ok (.aload_n 0, 1) := by decide +kernel
theorem dX9_lens_111 : decode cX9_lens 111 = .ok (.getfield 104, 3) := by decide +kernel
theorem dX9_lens_114 : decode cX9_lens 114 = .ok (.iload_n 2, 1) := by decide +kernel
theorem dX9_lens_115 : decode cX9_lens 115 = .ok (.iastore, 1) := by decide +kernel
theorem dX9_lens_116 : decode cX9_lens 116 = .ok (.aload_n 0, 1) := by decide +kernel
theorem dX9_lens_117 : decode cX9_lens 117 = .ok (.dup, 1) := by decide +kernel
theorem dX9_lens_118 : decode cX9_lens 118 = .ok (.getfield 104, 3) := by decide +kernel
theorem dX9_lens_121 : decode cX9_lens 121 = .ok (.iconst 1, 1) := by decide +kernel
theorem dX9_lens_122 : decode cX9_lens 122 = .ok (.iadd, 1) := by decide +kernel
theorem dX9_lens_123 : decode cX9_lens 123 = .ok (.putfield 104, 3) := by decide +kernel
theorem dX9_lens_126 : decode cX9_lens 126 = .ok (.aload_n 0, 1) := by decide +kernel
theorem dX9_lens_127 : decode cX9_lens 127 = .ok (.getfield 104, 3) := by decide +kernel
theorem dX9_lens_130 : decode cX9_lens 130 = .ok (.ireturn, 1) := by decide +kernel
theorem dX9_off_0 : decode cX9_off 0 = .ok (.aload_n 0, 1) := by decide +kernel
theorem dX9_off_1 : decode cX9_off 1 = .ok (.getfield 104, 3) := by decide +kernel
theorem dX9_off_4 : decode cX9_off 4 = .ok (.ifCond .ne 5, 3) := by decide +kernel
theorem dX9_off_7 : decode cX9_off 7 = .ok (.iconst (-1), 1) := by decide +kernel
theorem dX9_off_8 : decode cX9_off 8 = .ok (.ireturn, 1) := by decide +kernel
theorem dX9_off_9 : decode cX9_off 9 = .ok (.aload_n 0, 1) := by decide +kernel
theorem dX9_off_10 : decode cX9_off 10 = .ok (.dup, 1) := by decide +kernel
theorem dX9_off_11 : decode cX9_off 11 = .ok (.getfield 104, 3) := by decide +kernel
theorem dX9_off_14 : decode cX9_off 14 = .ok (.iconst 1, 1) := by decide +kernel
theorem dX9_off_15 : decode cX9_off 15 = .ok (.isub, 1) := by decide +kernel
theorem dX9_off_16 : decode cX9_off 16 = .ok (.putfield 104, 3) := by decide +kernel
theorem dX9_off_19 : decode cX9_off 19 = .ok (.aload_n 0, 1) := by decide +kernel
theorem dX9_off_20 : decode cX9_off 20 = .ok (.getfield 104, 3) := by decide +kernel
theorem dX9_off_23 : decode cX9_off 23 = .ok (.ireturn, 1) := by decide +kernel
theorem dX9_laysStretches_0 : decode cX9_laysStretches 0 = .ok (.aload_n 0, 1) := by decide +kernel
theorem dX9_laysStretches_1 : decode cX9_laysStretches 1 = .ok (.iconst 0, 1) := by decide +kernel
theorem dX9_laysStretches_2 : decode cX9_laysStretches 2 = .ok (.putfield 107, 3) := by decide +kernel
theorem dX9_laysStretches_5 : decode cX9_laysStretches 5 = .ok (.iconst 0, 1) := by decide +kernel
theorem dX9_laysStretches_6 : decode cX9_laysStretches 6 = .ok (.istore_n 1, 1) := by decide +kernel
theorem dX9_laysStretches_7 : decode cX9_laysStretches 7 = .ok (.iload_n 1, 1) := by decide +kernel
theorem dX9_laysStretches_8 : decode cX9_laysStretches 8 = .ok (.aload_n 0, 1) := by decide +kernel
theorem dX9_laysStretches_9 : decode cX9_laysStretches 9 = .ok (.getfield 88, 3) := by decide +kernel
theorem dX9_laysStretches_12 : decode cX9_laysStretches 12 = .ok (.if_icmp .ge 21, 3) := by decide +kernel
theorem dX9_laysStretches_15 : decode cX9_laysStretches 15 = .ok (.aload_n 0, 1) := by decide +kernel
theorem dX9_laysStretches_16 : decode cX9_laysStretches 16 = .ok (.getfield 25, 3) := by decide +kernel
theorem dX9_laysStretches_19 : decode cX9_laysStretches 19 = .ok (.iload_n 1, 1) := by decide +kernel
theorem dX9_laysStretches_20 : decode cX9_laysStretches 20 = .ok (.aload_n 0, 1) := by decide +kernel
theorem dX9_laysStretches_21 : decode cX9_laysStretches 21 = .ok (.getfield 7, 3) := by decide +kernel
theorem dX9_laysStretches_24 : decode cX9_laysStretches 24 = .ok (.iload_n 1, 1) := by decide +kernel
theorem dX9_laysStretches_25 : decode cX9_laysStretches 25 = .ok (.iaload, 1) := by decide +kernel
theorem dX9_laysStretches_26 : decode cX9_laysStretches 26 = .ok (.iastore, 1) := by decide +kernel
theorem dX9_laysStretches_27 : decode cX9_laysStretches 27 = .ok (.iinc 1 1, 3) := by decide +kernel
theorem dX9_laysStretches_30 : decode cX9_laysStretches 30 = .ok (.goto (-23), 3) := by decide +kernel
theorem dX9_laysStretches_33 : decode cX9_laysStretches 33 = .ok (.iconst 0, 1) := by decide +kernel
theorem dX9_laysStretches_34 : decode cX9_laysStretches 34 = .ok (.istore_n 1, 1) := by decide +kernel
theorem dX9_laysStretches_35 : decode cX9_laysStretches 35 = .ok (.iload_n 1, 1) := by decide +kernel
theorem dX9_laysStretches_36 : decode cX9_laysStretches 36 = .ok (.aload_n 0, 1) := by decide +kernel
theorem dX9_laysStretches_37 : decode cX9_laysStretches 37 = .ok (.getfield 88, 3) := by decide +kernel
theorem dX9_laysStretches_40 : decode cX9_laysStretches 40 = .ok (.if_icmp .ge 172, 3) := by decide +kernel
theorem dX9_laysStretches_43 : decode cX9_laysStretches 43 = .ok (.aload_n 0, 1) := by decide +kernel
theorem dX9_laysStretches_44 : decode cX9_laysStretches 44 = .ok (.getfield 7, 3) := by decide +kernel
theorem dX9_laysStretches_47 : decode cX9_laysStretches 47 = .ok (.iload_n 1, 1) := by decide +kernel
theorem dX9_laysStretches_48 : decode cX9_laysStretches 48 = .ok (.iaload, 1) := by decide +kernel
theorem dX9_laysStretches_49 : decode cX9_laysStretches 49 = .ok (.sipush (-32768), 3) := by decide +kernel
theorem dX9_laysStretches_52 : decode cX9_laysStretches 52 = .ok (.if_icmp .ne 154, 3) := by decide +kernel
theorem dX9_laysStretches_55 : decode cX9_laysStretches 55 = .ok (.iload_n 1, 1) := by decide +kernel
theorem dX9_laysStretches_56 : decode cX9_laysStretches 56 = .ok (.ifCond .le 20, 3) := by decide +kernel
theorem dX9_laysStretches_59 : decode cX9_laysStretches 59 = .ok (.aload_n 0, 1) := by decide +kernel
theorem dX9_laysStretches_60 : decode cX9_laysStretches 60 = .ok (.getfield 7, 3) := by decide +kernel
theorem dX9_laysStretches_63 : decode cX9_laysStretches 63 = .ok (.iload_n 1, 1) := by decide +kernel
theorem dX9_laysStretches_64 : decode cX9_laysStretches 64 = .ok (.iconst 1, 1) := by decide +kernel
theorem dX9_laysStretches_65 : decode cX9_laysStretches 65 = .ok (.isub, 1) := by decide +kernel
theorem dX9_laysStretches_66 : decode cX9_laysStretches 66 = .ok (.iaload, 1) := by decide +kernel
theorem dX9_laysStretches_67 : decode cX9_laysStretches 67 = .ok (.sipush (-32768), 3) := by decide +kernel
theorem dX9_laysStretches_70 : decode cX9_laysStretches 70 = .ok (.if_icmp .ne 6, 3) := by decide +kernel
theorem dX9_laysStretches_73 : decode cX9_laysStretches 73 = .ok (.goto 133, 3) := by decide +kernel
theorem dX9_laysStretches_76 : decode cX9_laysStretches 76 = .ok (.iload_n 1, 1) := by decide +kernel
theorem dX9_laysStretches_77 : decode cX9_laysStretches 77 = .ok (.istore_n 2, 1) := by decide +kernel
theorem dX9_laysStretches_78 : decode cX9_laysStretches 78 = .ok (.iload_n 2, 1) := by decide +kernel
theorem dX9_laysStretches_79 : decode cX9_laysStretches 79 = .ok (.aload_n 0, 1) := by decide +kernel
theorem dX9_laysStretches_80 : decode cX9_laysStretches 80 = .ok (.getfield 88, 3) := by decide +kernel
theorem dX9_laysStretches_83 : decode cX9_laysStretches 83 = .ok (.if_icmp .ge 21, 3) := by decide +kernel
theorem dX9_laysStretches_86 : decode cX9_laysStretches 86 = .ok (.aload_n 0, 1) := by decide +kernel
theorem dX9_laysStretches_87 : decode cX9_laysStretches 87 = .ok (.getfield 7, 3) := by decide +kernel
theorem dX9_laysStretches_90 : decode cX9_laysStretches 90 = .ok (.iload_n 2, 1) := by decide +kernel
theorem dX9_laysStretches_91 : decode cX9_laysStretches 91 = .ok (.iaload, 1) := by decide +kernel
theorem dX9_laysStretches_92 : decode cX9_laysStretches 92 = .ok (.sipush (-32768), 3) := by decide +kernel
theorem dX9_laysStretches_95 : decode cX9_laysStretches 95 = .ok (.if_icmp .ne 9, 3) := by decide +kernel
theorem dX9_laysStretches_98 : decode cX9_laysStretches 98 = .ok (.iinc 2 1, 3) := by decide +kernel
theorem dX9_laysStretches_101 : decode cX9_laysStretches 101 = .ok (.goto (-23), 3) := by decide +kernel
theorem dX9_laysStretches_104 : decode cX9_laysStretches 104 = .ok (.iload_n 2, 1) := by decide +kernel
theorem dX9_laysStretches_105 : decode cX9_laysStretches 105 = .ok (.iload_n 1, 1) := by decide +kernel
theorem dX9_laysStretches_106 : decode cX9_laysStretches 106 = .ok (.isub, 1) := by decide +kernel
theorem dX9_laysStretches_107 : decode cX9_laysStretches 107 = .ok (.istore_n 3, 1) := by decide +kernel
theorem dX9_laysStretches_108 : decode cX9_laysStretches 108 = .ok (.iload_n 1, 1) := by decide +kernel
theorem dX9_laysStretches_109 : decode cX9_laysStretches 109 = .ok (.ifCond .eq 97, 3) := by decide +kernel
theorem dX9_laysStretches_112 : decode cX9_laysStretches 112 = .ok (.iload_n 2, 1) := by decide +kernel
theorem dX9_laysStretches_113 : decode cX9_laysStretches 113 = .ok (.aload_n 0, 1) := by decide +kernel
theorem dX9_laysStretches_114 : decode cX9_laysStretches 114 = .ok (.getfield 88, 3) := by decide +kernel
theorem dX9_laysStretches_117 : decode cX9_laysStretches 117 = .ok (.if_icmp .eq 89, 3) := by decide +kernel
theorem dX9_laysStretches_120 : decode cX9_laysStretches 120 = .ok (.iload_n 3, 1) := by decide +kernel
theorem dX9_laysStretches_121 : decode cX9_laysStretches 121 = .ok (.aload_n 0, 1) := by decide +kernel
theorem dX9_laysStretches_122 : decode cX9_laysStretches 122 = .ok (.getfield 13, 3) := by decide +kernel
theorem dX9_laysStretches_125 : decode cX9_laysStretches 125 = .ok (.iconst 0, 1) := by decide +kernel
theorem dX9_laysStretches_126 : decode cX9_laysStretches 126 = .ok (.iaload, 1) := by decide +kernel
theorem dX9_laysStretches_127 : decode cX9_laysStretches 127 = .ok (.if_icmp .le 6, 3) := by decide +kernel
theorem dX9_laysStretches_130 : decode cX9_laysStretches 130 = .ok (.goto 76, 3) := by decide +kernel
theorem dX9_laysStretches_133 : decode cX9_laysStretches 133 = .ok (.iconst 1, 1) := by decide +kernel
theorem dX9_laysStretches_134 : decode cX9_laysStretches 134 = .ok (.istore 4, 2) := by decide +kernel
theorem dX9_laysStretches_136 : decode cX9_laysStretches 136 = .ok (.iload 4, 2) := by decide +kernel
theorem dX9_laysStretches_138 : decode cX9_laysStretches 138 = .ok (.iload_n 3, 1) := by decide +kernel
theorem dX9_laysStretches_139 : decode cX9_laysStretches 139 = .ok (.if_icmp .gt 57, 3) := by decide +kernel
theorem dX9_laysStretches_142 : decode cX9_laysStretches 142 = .ok (.aload_n 0, 1) := by decide +kernel
theorem dX9_laysStretches_143 : decode cX9_laysStretches 143 = .ok (.getfield 25, 3) := by decide +kernel
theorem dX9_laysStretches_146 : decode cX9_laysStretches 146 = .ok (.iload_n 1, 1) := by decide +kernel
theorem dX9_laysStretches_147 : decode cX9_laysStretches 147 = .ok (.iload 4, 2) := by decide +kernel
theorem dX9_laysStretches_149 : decode cX9_laysStretches 149 = .ok (.iadd, 1) := by decide +kernel
theorem dX9_laysStretches_150 : decode cX9_laysStretches 150 = .ok (.iconst 1, 1) := by decide +kernel
theorem dX9_laysStretches_151 : decode cX9_laysStretches 151 = .ok (.isub, 1) := by decide +kernel
theorem dX9_laysStretches_152 : decode cX9_laysStretches 152 = .ok (.aload_n 0, 1) := by decide +kernel
theorem dX9_laysStretches_153 : decode cX9_laysStretches 153 = .ok (.getfield 7, 3) := by decide +kernel
theorem dX9_laysStretches_156 : decode cX9_laysStretches 156 = .ok (.iload_n 1, 1) := by decide +kernel
theorem dX9_laysStretches_157 : decode cX9_laysStretches 157 = .ok (.iconst 1, 1) := by decide +kernel
theorem dX9_laysStretches_158 : decode cX9_laysStretches 158 = .ok (.isub, 1) := by decide +kernel
theorem dX9_laysStretches_159 : decode cX9_laysStretches 159 = .ok (.iaload, 1) := by decide +kernel
theorem dX9_laysStretches_160 : decode cX9_laysStretches 160 = .ok (.i2l, 1) := by decide +kernel
theorem dX9_laysStretches_161 : decode cX9_laysStretches 161 = .ok (.iload_n 3, 1) := by decide +kernel
theorem dX9_laysStretches_162 : decode cX9_laysStretches 162 = .ok (.iconst 1, 1) := by decide +kernel
theorem dX9_laysStretches_163 : decode cX9_laysStretches 163 = .ok (.iadd, 1) := by decide +kernel
theorem dX9_laysStretches_164 : decode cX9_laysStretches 164 = .ok (.iload 4, 2) := by decide +kernel
theorem dX9_laysStretches_166 : decode cX9_laysStretches 166 = .ok (.isub, 1) := by decide +kernel
theorem dX9_laysStretches_167 : decode cX9_laysStretches 167 = .ok (.i2l, 1) := by decide +kernel
theorem dX9_laysStretches_168 : decode cX9_laysStretches 168 = .ok (.lmul, 1) := by decide +kernel
theorem dX9_laysStretches_169 : decode cX9_laysStretches 169 = .ok (.aload_n 0, 1) := by decide +kernel
theorem dX9_laysStretches_170 : decode cX9_laysStretches 170 = .ok (.getfield 7, 3) := by decide +kernel
theorem dX9_laysStretches_173 : decode cX9_laysStretches 173 = .ok (.iload_n 2, 1) := by decide +kernel
theorem dX9_laysStretches_174 : decode cX9_laysStretches 174 = .ok (.iaload, 1) := by decide +kernel
theorem dX9_laysStretches_175 : decode cX9_laysStretches 175 = .ok (.i2l, 1) := by decide +kernel
theorem dX9_laysStretches_176 : decode cX9_laysStretches 176 = .ok (.iload 4, 2) := by decide +kernel
theorem dX9_laysStretches_178 : decode cX9_laysStretches 178 = .ok (.i2l, 1) := by decide +kernel
theorem dX9_laysStretches_179 : decode cX9_laysStretches 179 = .ok (.lmul, 1) := by decide +kernel
theorem dX9_laysStretches_180 : decode cX9_laysStretches 180 = .ok (.ladd, 1) := by decide +kernel
theorem dX9_laysStretches_181 : decode cX9_laysStretches 181 = .ok (.iload_n 3, 1) := by decide +kernel
theorem dX9_laysStretches_182 : decode cX9_laysStretches 182 = .ok (.iconst 1, 1) := by decide +kernel
theorem dX9_laysStretches_183 : decode cX9_laysStretches 183 = .ok (.iadd, 1) := by decide +kernel
theorem dX9_laysStretches_184 : decode cX9_laysStretches 184 = .ok (.i2l, 1) := by decide +kernel
theorem dX9_laysStretches_185 : decode cX9_laysStretches 185 = .ok (.invokestatic 110, 3) := by decide +kernel
theorem dX9_laysStretches_188 : decode cX9_laysStretches 188 = .ok (.l2i, 1) := by decide +kernel
theorem dX9_laysStretches_189 : decode cX9_laysStretches 189 = .ok (.iastore, 1) := by decide +kernel
theorem dX9_laysStretches_190 : decode cX9_laysStretches 190 = .ok (.iinc 4 1, 3) := by decide +kernel
theorem dX9_laysStretches_193 : decode cX9_laysStretches 193 = .ok (.goto (-57), 3) := by decide +kernel
theorem dX9_laysStretches_196 : decode cX9_laysStretches 196 = .ok (.aload_n 0, 1) := by decide +kernel
theorem dX9_laysStretches_197 : decode cX9_laysStretches 197 = .ok (.dup, 1) := by decide +kernel
theorem dX9_laysStretches_198 : decode cX9_laysStretches 198 = .ok (.getfield 107, 3) := by decide +kernel
theorem dX9_laysStretches_201 : decode cX9_laysStretches 201 = .ok (.iload_n 3, 1) := by decide +kernel
theorem dX9_laysStretches_202 : decode cX9_laysStretches 202 = .ok (.iadd, 1) := by decide +kernel
theorem dX9_laysStretches_203 : decode cX9_laysStretches 203 = .ok (.putfield 107, 3) := by decide +kernel
theorem dX9_laysStretches_206 : decode cX9_laysStretches 206 = .ok (.iinc 1 1, 3) := by decide +kernel
theorem dX9_laysStretches_209 : decode cX9_laysStretches 209 = .ok (.goto (-174), 3) := by decide +kernel
theorem dX9_laysStretches_212 : decode cX9_laysStretches 212 = .ok (.aload_n 0, 1) := by decide +kernel
theorem dX9_laysStretches_213 : decode cX9_laysStretches 213 = .ok (.iconst 0, 1) := by decide +kernel
theorem dX9_laysStretches_214 : decode cX9_laysStretches 214 = .ok (.putfield 114, 3) := by decide +kernel
theorem dX9_laysStretches_217 : decode cX9_laysStretches 217 = .ok (.iconst 0, 1) := by decide +kernel
theorem dX9_laysStretches_218 : decode cX9_laysStretches 218 = .ok (.istore_n 1, 1) := by decide +kernel
theorem dX9_laysStretches_219 : decode cX9_laysStretches 219 = .ok (.iload_n 1, 1) := by decide +kernel
theorem dX9_laysStretches_220 : decode cX9_laysStretches 220 = .ok (.aload_n 0, 1) := by decide +kernel
theorem dX9_laysStretches_221 : decode cX9_laysStretches 221 = .ok (.getfield 88, 3) := by decide +kernel
theorem dX9_laysStretches_224 : decode cX9_laysStretches 224 = .ok (.if_icmp .ge 81, 3) := by decide +kernel
theorem dX9_laysStretches_227 : decode cX9_laysStretches 227 = .ok (.aload_n 0, 1) := by decide +kernel
theorem dX9_laysStretches_228 : decode cX9_laysStretches 228 = .ok (.getfield 28, 3) := by decide +kernel
theorem dX9_laysStretches_231 : decode cX9_laysStretches 231 = .ok (.iload_n 1, 1) := by decide +kernel
theorem dX9_laysStretches_232 : decode cX9_laysStretches 232 = .ok (.iconst (-1), 1) := by decide +kernel
theorem dX9_laysStretches_233 : decode cX9_laysStretches 233 = .ok (.iastore, 1) := by decide +kernel
theorem dX9_laysStretches_234 : decode cX9_laysStretches 234 = .ok (.aload_n 0, 1) := by decide +kernel
theorem dX9_laysStretches_235 : decode cX9_laysStretches 235 = .ok (.getfield 25, 3) := by decide +kernel
theorem dX9_laysStretches_238 : decode cX9_laysStretches 238 = .ok (.iload_n 1, 1) := by decide +kernel
theorem dX9_laysStretches_239 : decode cX9_laysStretches 239 = .ok (.iaload, 1) := by decide +kernel
theorem dX9_laysStretches_240 : decode cX9_laysStretches 240 = .ok (.sipush (-32768), 3) := by decide +kernel
theorem dX9_laysStretches_243 : decode cX9_laysStretches 243 = .ok (.if_icmp .ne 6, 3) := by decide +kernel
theorem dX9_laysStretches_246 : decode cX9_laysStretches 246 = .ok (.goto 53, 3) := by decide +kernel
theorem dX9_laysStretches_249 : decode cX9_laysStretches 249 = .ok (.iload_n 1, 1) := by decide +kernel
theorem dX9_laysStretches_250 : decode cX9_laysStretches 250 = .ok (.ifCond .eq 17, 3) := by decide +kernel
theorem dX9_laysStretches_253 : decode cX9_laysStretches 253 = .ok (.aload_n 0, 1) := by decide +kernel
theorem dX9_laysStretches_254 : decode cX9_laysStretches 254 = .ok (.getfield 25, 3) := by decide +kernel
theorem dX9_laysStretches_257 : decode cX9_laysStretches 257 = .ok (.iload_n 1, 1) := by decide +kernel
theorem dX9_laysStretches_258 : decode cX9_laysStretches 258 = .ok (.iconst 1, 1) := by decide +kernel
theorem dX9_laysStretches_259 : decode cX9_laysStretches 259 = .ok (.isub, 1) := by decide +kernel
theorem dX9_laysStretches_260 : decode cX9_laysStretches 260 = .ok (.iaload, 1) := by decide +kernel
theorem dX9_laysStretches_261 : decode cX9_laysStretches 261 = .ok (.sipush (-32768), 3) := by decide +kernel
theorem dX9_laysStretches_264 : decode cX9_laysStretches 264 = .ok (.if_icmp .ne 23, 3) := by decide +kernel
theorem dX9_laysStretches_267 : decode cX9_laysStretches 267 = .ok (.aload_n 0, 1) := by decide +kernel
theorem dX9_laysStretches_268 : decode cX9_laysStretches 268 = .ok (.getfield 31, 3) := by decide +kernel
theorem dX9_laysStretches_271 : decode cX9_laysStretches 271 = .ok (.aload_n 0, 1) := by decide +kernel
theorem dX9_laysStretches_272 : decode cX9_laysStretches 272 = .ok (.getfield 114, 3) := by decide +kernel
theorem dX9_laysStretches_275 : decode cX9_laysStretches 275 = .ok (.iload_n 1, 1) := by decide +kernel
theorem dX9_laysStretches_276 : decode cX9_laysStretches 276 = .ok (.iastore, 1) := by decide +kernel
theorem dX9_laysStretches_277 : decode cX9_laysStretches 277 = .ok (.aload_n 0, 1) := by decide +kernel
theorem dX9_laysStretches_278 : decode cX9_laysStretches 278 = .ok (.dup, 1) := by decide +kernel
theorem dX9_laysStretches_279 : decode cX9_laysStretches 279 = .ok (.getfield 114, 3) := by decide +kernel
theorem dX9_laysStretches_282 : decode cX9_laysStretches 282 = .ok (.iconst 1, 1) := by decide +kernel
theorem dX9_laysStretches_283 : decode cX9_laysStretches 283 = .ok (.iadd, 1) := by decide +kernel
theorem dX9_laysStretches_284 : decode cX9_laysStretches 284 = .ok (.putfield 114, 3) := by decide +kernel
theorem dX9_laysStretches_287 : decode cX9_laysStretches 287 = .ok (.aload_n 0, 1) := by decide +kernel
theorem dX9_laysStretches_288 : decode cX9_laysStretches 288 = .ok (.getfield 28, 3) := by decide +kernel
theorem dX9_laysStretches_291 : decode cX9_laysStretches 291 = .ok (.iload_n 1, 1) := by decide +kernel
theorem dX9_laysStretches_292 : decode cX9_laysStretches 292 = .ok (.aload_n 0, 1) := by decide +kernel
theorem dX9_laysStretches_293 : decode cX9_laysStretches 293 = .ok (.getfield 114, 3) := by decide +kernel
theorem dX9_laysStretches_296 : decode cX9_laysStretches 296 = .ok (.iconst 1, 1) := by decide +kernel
theorem dX9_laysStretches_297 : decode cX9_laysStretches 297 = .ok (.isub, 1) := by decide +kernel
theorem dX9_laysStretches_298 : decode cX9_laysStretches 298 = .ok (.iastore, 1) := by decide +kernel
theorem dX9_laysStretches_299 : decode cX9_laysStretches 299 = .ok (.iinc 1 1, 3) := by decide +kernel
theorem dX9_laysStretches_302 : decode cX9_laysStretches 302 = .ok (.goto (-83), 3) := by decide +kernel
theorem dX9_laysStretches_305 : decode cX9_laysStretches 305 = .ok (.return_, 1) := by decide +kernel
theorem dX9_endOf_0 : decode cX9_endOf 0 = .ok (.aload_n 0, 1) := by decide +kernel
theorem dX9_endOf_1 : decode cX9_endOf 1 = .ok (.getfield 31, 3) := by decide +kernel
theorem dX9_endOf_4 : decode cX9_endOf 4 = .ok (.iload_n 1, 1) := by decide +kernel
theorem dX9_endOf_5 : decode cX9_endOf 5 = .ok (.iaload, 1) := by decide +kernel
theorem dX9_endOf_6 : decode cX9_endOf 6 = .ok (.istore_n 2, 1) := by decide +kernel
theorem dX9_endOf_7 : decode cX9_endOf 7 = .ok (.iload_n 2, 1) := by decide +kernel
theorem dX9_endOf_8 : decode cX9_endOf 8 = .ok (.aload_n 0, 1) := by decide +kernel
theorem dX9_endOf_9 : decode cX9_endOf 9 = .ok (.getfield 88, 3) := by decide +kernel
theorem dX9_endOf_12 : decode cX9_endOf 12 = .ok (.if_icmp .ge 21, 3) := by decide +kernel
theorem dX9_endOf_15 : decode cX9_endOf 15 = .ok (.aload_n 0, 1) := by decide +kernel
theorem dX9_endOf_16 : decode cX9_endOf 16 = .ok (.getfield 25, 3) := by decide +kernel
theorem dX9_endOf_19 : decode cX9_endOf 19 = .ok (.iload_n 2, 1) := by decide +kernel
theorem dX9_endOf_20 : decode cX9_endOf 20 = .ok (.iaload, 1) := by decide +kernel
theorem dX9_endOf_21 : decode cX9_endOf 21 = .ok (.sipush (-32768), 3) := by decide +kernel
theorem dX9_endOf_24 : decode cX9_endOf 24 = .ok (.if_icmp .eq 9, 3) := by decide +kernel
theorem dX9_endOf_27 : decode cX9_endOf 27 = .ok (.iinc 2 1, 3) := by decide +kernel
theorem dX9_endOf_30 : decode cX9_endOf 30 = .ok (.goto (-23), 3) := by decide +kernel
theorem dX9_endOf_33 : decode cX9_endOf 33 = .ok (.iload_n 2, 1) := by decide +kernel
theorem dX9_endOf_34 : decode cX9_endOf 34 = .ok (.ireturn, 1) := by decide +kernel
theorem dX9_shownBy_0 : decode cX9_shownBy 0 = .ok (.aload_n 0, 1) := by decide +kernel
theorem dX9_shownBy_1 : decode cX9_shownBy 1 = .ok (.getfield 31, 3) := by decide +kernel
theorem dX9_shownBy_4 : decode cX9_shownBy 4 = .ok (.aload_n 0, 1) := by decide +kernel
theorem dX9_shownBy_5 : decode cX9_shownBy 5 = .ok (.getfield 28, 3) := by decide +kernel
theorem dX9_shownBy_8 : decode cX9_shownBy 8 = .ok (.iload_n 2, 1) := by decide +kernel
theorem dX9_shownBy_9 : decode cX9_shownBy 9 = .ok (.iaload, 1) := by decide +kernel
theorem dX9_shownBy_10 : decode cX9_shownBy 10 = .ok (.iaload, 1) := by decide +kernel
theorem dX9_shownBy_11 : decode cX9_shownBy 11 = .ok (.istore_n 3, 1) := by decide +kernel
theorem dX9_shownBy_12 : decode cX9_shownBy 12 = .ok (.aload_n 0, 1) := by decide +kernel
theorem dX9_shownBy_13 : decode cX9_shownBy 13 = .ok (.getfield 19, 3) := by decide +kernel
theorem dX9_shownBy_16 : decode cX9_shownBy 16 = .ok (.iload_n 1, 1) := by decide +kernel
theorem dX9_shownBy_17 : decode cX9_shownBy 17 = .ok (.iaload, 1) := by decide +kernel
theorem dX9_shownBy_18 : decode cX9_shownBy 18 = .ok (.istore 4, 2) := by decide +kernel
theorem dX9_shownBy_20 : decode cX9_shownBy 20 = .ok (.aload_n 0, 1) := by decide +kernel
theorem dX9_shownBy_21 : decode cX9_shownBy 21 = .ok (.getfield 37, 3) := by decide +kernel
theorem dX9_shownBy_24 : decode cX9_shownBy 24 = .ok (.iload_n 2, 1) := by decide +kernel
theorem dX9_shownBy_25 : decode cX9_shownBy 25 = .ok (.iaload, 1) := by decide +kernel
theorem dX9_shownBy_26 : decode cX9_shownBy 26 = .ok (.istore 5, 2) := by decide +kernel
theorem dX9_shownBy_28 : decode cX9_shownBy 28 = .ok (.aload_n 0, 1) := by decide +kernel
theorem dX9_shownBy_29 : decode cX9_shownBy 29 = .ok (.getfield 16, 3) := by decide +kernel
theorem dX9_shownBy_32 : decode cX9_shownBy 32 = .ok (.iload_n 1, 1) := by decide +kernel
theorem dX9_shownBy_33 : decode cX9_shownBy 33 = .ok (.iaload, 1) := by decide +kernel
theorem dX9_shownBy_34 : decode cX9_shownBy 34 = .ok (.tableswitch 86 0 3 #[30, 38, 67, 71], 30) := by decide +kernel
theorem dX9_shownBy_64 : decode cX9_shownBy 64 = .ok (.aload_n 0, 1) := by decide +kernel
theorem dX9_shownBy_65 : decode cX9_shownBy 65 = .ok (.iload_n 2, 1) := by decide +kernel
theorem dX9_shownBy_66 : decode cX9_shownBy 66 = .ok (.iload 4, 2) := by decide +kernel
theorem dX9_shownBy_68 : decode cX9_shownBy 68 = .ok (.invokevirtual 117, 3) := by decide +kernel
theorem dX9_shownBy_71 : decode cX9_shownBy 71 = .ok (.ireturn, 1) := by decide +kernel
theorem dX9_shownBy_72 : decode cX9_shownBy 72 = .ok (.iload 5, 2) := by decide +kernel
theorem dX9_shownBy_74 : decode cX9_shownBy 74 = .ok (.iload 4, 2) := by decide +kernel
theorem dX9_shownBy_76 : decode cX9_shownBy 76 = .ok (.ineg, 1) := by decide +kernel
theorem dX9_shownBy_77 : decode cX9_shownBy 77 = .ok (.if_icmp .ge 9, 3) := by decide +kernel
theorem dX9_shownBy_80 : decode cX9_shownBy 80 = .ok (.iload 4, 2) := by decide +kernel
theorem dX9_shownBy_82 : decode cX9_shownBy 82 = .ok (.ineg, 1) := by decide +kernel
theorem dX9_shownBy_83 : decode cX9_shownBy 83 = .ok (.goto 17, 3) := by decide +kernel
theorem dX9_shownBy_86 : decode cX9_shownBy 86 = .ok (.iload 5, 2) := by decide +kernel
theorem dX9_shownBy_88 : decode cX9_shownBy 88 = .ok (.iload 4, 2) := by decide +kernel
theorem dX9_shownBy_90 : decode cX9_shownBy 90 = .ok (.if_icmp .le 8, 3) := by decide +kernel
theorem dX9_shownBy_93 : decode cX9_shownBy 93 = .ok (.iload 4, 2) := by decide +kernel
theorem dX9_shownBy_95 : decode cX9_shownBy 95 = .ok (.goto 5, 3) := by decide +kernel
theorem dX9_shownBy_98 : decode cX9_shownBy 98 = .ok (.iload 5, 2) := by decide +kernel
theorem dX9_shownBy_100 : decode cX9_shownBy 100 = .ok (.ireturn, 1) := by decide +kernel
theorem dX9_shownBy_101 : decode cX9_shownBy 101 = .ok (.iload 5, 2) := by decide +kernel
theorem dX9_shownBy_103 : decode cX9_shownBy 103 = .ok (.ineg, 1) := by decide +kernel
theorem dX9_shownBy_104 : decode cX9_shownBy 104 = .ok (.ireturn, 1) := by decide +kernel
theorem dX9_shownBy_105 : decode cX9_shownBy 105 = .ok (.iload 5, 2) := by decide +kernel
theorem dX9_shownBy_107 : decode cX9_shownBy 107 = .ok (.i2l, 1) := by decide +kernel
theorem dX9_shownBy_108 : decode cX9_shownBy 108 = .ok (.iload 4, 2) := by decide +kernel
theorem dX9_shownBy_110 : decode cX9_shownBy 110 = .ok (.i2l, 1) := by decide +kernel
theorem dX9_shownBy_111 : decode cX9_shownBy 111 = .ok (.lmul, 1) := by decide +kernel
theorem dX9_shownBy_112 : decode cX9_shownBy 112 = .ok (.ldc2_w 121, 3) := by decide +kernel
theorem dX9_shownBy_115 : decode cX9_shownBy 115 = .ok (.invokestatic 110, 3) := by decide +kernel
theorem dX9_shownBy_118 : decode cX9_shownBy 118 = .ok (.l2i, 1) := by decide +kernel
theorem dX9_shownBy_119 : decode cX9_shownBy 119 = .ok (.ireturn, 1) := by decide +kernel
theorem dX9_shownBy_120 : decode cX9_shownBy 120 = .ok (.iload_n 2, 1) := by decide +kernel
theorem dX9_shownBy_121 : decode cX9_shownBy 121 = .ok (.iload_n 3, 1) := by decide +kernel
theorem dX9_shownBy_122 : decode cX9_shownBy 122 = .ok (.isub, 1) := by decide +kernel
theorem dX9_shownBy_123 : decode cX9_shownBy 123 = .ok (.iload 4, 2) := by decide +kernel
theorem dX9_shownBy_125 : decode cX9_shownBy 125 = .ok (.if_icmp .ge 7, 3) := by decide +kernel
theorem dX9_shownBy_128 : decode cX9_shownBy 128 = .ok (.iconst 0, 1) := by decide +kernel
theorem dX9_shownBy_129 : decode cX9_shownBy 129 = .ok (.goto 15, 3) := by decide +kernel
theorem dX9_shownBy_132 : decode cX9_shownBy 132 = .ok (.iload 5, 2) := by decide +kernel
theorem dX9_shownBy_134 : decode cX9_shownBy 134 = .ok (.aload_n 0, 1) := by decide +kernel
theorem dX9_shownBy_135 : decode cX9_shownBy 135 = .ok (.getfield 37, 3) := by decide +kernel
theorem dX9_shownBy_138 : decode cX9_shownBy 138 = .ok (.iload_n 2, 1) := by decide +kernel
theorem dX9_shownBy_139 : decode cX9_shownBy 139 = .ok (.iload 4, 2) := by decide +kernel
theorem dX9_shownBy_141 : decode cX9_shownBy 141 = .ok (.isub, 1) := by decide +kernel
theorem dX9_shownBy_142 : decode cX9_shownBy 142 = .ok (.iaload, 1) := by decide +kernel
theorem dX9_shownBy_143 : decode cX9_shownBy 143 = .ok (.isub, 1) := by decide +kernel
theorem dX9_shownBy_144 : decode cX9_shownBy 144 = .ok (.ireturn, 1) := by decide +kernel
theorem dX9_mean_0 : decode cX9_mean 0 = .ok (.lconst 0, 1) := by decide +kernel
theorem dX9_mean_1 : decode cX9_mean 1 = .ok (.lstore_n 3, 1) := by decide +kernel
theorem dX9_mean_2 : decode cX9_mean 2 = .ok (.iconst 0, 1) := by decide +kernel
theorem dX9_mean_3 : decode cX9_mean 3 = .ok (.istore 5, 2) := by decide +kernel
theorem dX9_mean_5 : decode cX9_mean 5 = .ok (.iload_n 1, 1) := by decide +kernel
theorem dX9_mean_6 : decode cX9_mean 6 = .ok (.iload_n 2, 1) := by decide +kernel
theorem dX9_mean_7 : decode cX9_mean 7 = .ok (.isub, 1) := by decide +kernel
theorem dX9_mean_8 : decode cX9_mean 8 = .ok (.istore 6, 2) := by decide +kernel
theorem dX9_mean_10 : decode cX9_mean 10 = .ok (.iload 6, 2) := by decide +kernel
theorem dX9_mean_12 : decode cX9_mean 12 = .ok (.iload_n 1, 1) := by decide +kernel
theorem dX9_mean_13 : decode cX9_mean 13 = .ok (.iload_n 2, 1) := by decide +kernel
theorem dX9_mean_14 : decode cX9_mean 14 = .ok (.iadd, 1) := by decide +kernel
theorem dX9_mean_15 : decode cX9_mean 15 = .ok (.if_icmp .gt 57, 3) := by decide +kernel
theorem dX9_mean_18 : decode cX9_mean 18 = .ok (.iload 6, 2) := by decide +kernel
theorem dX9_mean_20 : decode cX9_mean 20 = .ok (.iconst 0, 1) := by decide +kernel
theorem dX9_mean_21 : decode cX9_mean 21 = .ok (.aload_n 0, 1) := by decide +kernel
theorem dX9_mean_22 : decode cX9_mean 22 = .ok (.getfield 88, 3) := by decide +kernel
theorem dX9_mean_25 : decode cX9_mean 25 = .ok (.iconst 1, 1) := by decide +kernel
theorem dX9_mean_26 : decode cX9_mean 26 = .ok (.isub, 1) := by decide +kernel
theorem dX9_mean_27 : decode cX9_mean 27 = .ok (.invokestatic 80, 3) := by decide +kernel
theorem dX9_mean_30 : decode cX9_mean 30 = .ok (.ifCond .eq 36, 3) := by decide +kernel
theorem dX9_mean_33 : decode cX9_mean 33 = .ok (.aload_n 0, 1) := by decide +kernel
theorem dX9_mean_34 : decode cX9_mean 34 = .ok (.getfield 28, 3) := by decide +kernel
theorem dX9_mean_37 : decode cX9_mean 37 = .ok (.iload 6, 2) := by decide +kernel
theorem dX9_mean_39 : decode cX9_mean 39 = .ok (.iaload, 1) := by decide +kernel
theorem dX9_mean_40 : decode cX9_mean 40 = .ok (.aload_n 0, 1) := by decide +kernel
theorem dX9_mean_41 : decode cX9_mean 41 = .ok (.getfield 28, 3) := by decide +kernel
theorem dX9_mean_44 : decode cX9_mean 44 = .ok (.iload_n 1, 1) := by decide +kernel
theorem dX9_mean_45 : decode cX9_mean 45 = .ok (.iaload, 1) := by decide +kernel
theorem dX9_mean_46 : decode cX9_mean 46 = .ok (.if_icmp .eq 6, 3) := by decide +kernel
theorem dX9_mean_49 : decode cX9_mean 49 = .ok (.goto 17, 3) := by decide +kernel
theorem dX9_mean_52 : decode cX9_mean 52 = .ok (.lload_n 3, 1) := by decide +kernel
theorem dX9_mean_53 : decode cX9_mean 53 = .ok (.aload_n 0, 1) := by decide +kernel
theorem dX9_mean_54 : decode cX9_mean 54 = .ok (.getfield 37, 3) := by decide +kernel
theorem dX9_mean_57 : decode cX9_mean 57 = .ok (.iload 6, 2) := by decide +kernel
theorem dX9_mean_59 : decode cX9_mean 59 = .ok (.iaload, 1) := by decide +kernel
theorem dX9_mean_60 : decode cX9_mean 60 = .ok (.i2l, 1) := by decide +kernel
theorem dX9_mean_61 : decode cX9_mean 61 = .ok (.ladd, 1) := by decide +kernel
theorem dX9_mean_62 : decode cX9_mean 62 = .ok (.lstore_n 3, 1) := by decide +kernel
theorem dX9_mean_63 : decode cX9_mean 63 = .ok (.iinc 5 1, 3) := by decide +kernel
theorem dX9_mean_66 : decode cX9_mean 66 = .ok (.iinc 6 1, 3) := by decide +kernel
theorem dX9_mean_69 : decode cX9_mean 69 = .ok (.goto (-59), 3) := by decide +kernel
theorem dX9_mean_72 : decode cX9_mean 72 = .ok (.lload_n 3, 1) := by decide +kernel
theorem dX9_mean_73 : decode cX9_mean 73 = .ok (.iload 5, 2) := by decide +kernel
theorem dX9_mean_75 : decode cX9_mean 75 = .ok (.i2l, 1) := by decide +kernel
theorem dX9_mean_76 : decode cX9_mean 76 = .ok (.invokestatic 110, 3) := by decide +kernel
theorem dX9_mean_79 : decode cX9_mean 79 = .ok (.l2i, 1) := by decide +kernel
theorem dX9_mean_80 : decode cX9_mean 80 = .ok (.ireturn, 1) := by decide +kernel
theorem dX9_laysShown_0 : decode cX9_laysShown 0 = .ok (.aload_n 0, 1) := by decide +kernel
theorem dX9_laysShown_1 : decode cX9_laysShown 1 = .ok (.invokevirtual 123, 3) := by decide +kernel
theorem dX9_laysShown_4 : decode cX9_laysShown 4 = .ok (.iconst 0, 1) := by decide +kernel
theorem dX9_laysShown_5 : decode cX9_laysShown 5 = .ok (.istore_n 2, 1) := by decide +kernel
theorem dX9_laysShown_6 : decode cX9_laysShown 6 = .ok (.iload_n 2, 1) := by decide +kernel
theorem dX9_laysShown_7 : decode cX9_laysShown 7 = .ok (.aload_n 0, 1) := by decide +kernel
theorem dX9_laysShown_8 : decode cX9_laysShown 8 = .ok (.getfield 88, 3) := by decide +kernel
theorem dX9_laysShown_11 : decode cX9_laysShown 11 = .ok (.if_icmp .ge 21, 3) := by decide +kernel
theorem dX9_laysShown_14 : decode cX9_laysShown 14 = .ok (.aload_n 0, 1) := by decide +kernel
theorem dX9_laysShown_15 : decode cX9_laysShown 15 = .ok (.getfield 34, 3) := by decide +kernel
theorem dX9_laysShown_18 : decode cX9_laysShown 18 = .ok (.iload_n 2, 1) := by decide +kernel
theorem dX9_laysShown_19 : decode cX9_laysShown 19 = .ok (.aload_n 0, 1) := by decide +kernel
theorem dX9_laysShown_20 : decode cX9_laysShown 20 = .ok (.getfield 25, 3) := by decide +kernel
theorem dX9_laysShown_23 : decode cX9_laysShown 23 = .ok (.iload_n 2, 1) := by decide +kernel
theorem dX9_laysShown_24 : decode cX9_laysShown 24 = .ok (.iaload, 1) := by decide +kernel
theorem dX9_laysShown_25 : decode cX9_laysShown 25 = .ok (.iastore, 1) := by decide +kernel
theorem dX9_laysShown_26 : decode cX9_laysShown 26 = .ok (.iinc 2 1, 3) := by decide +kernel
theorem dX9_laysShown_29 : decode cX9_laysShown 29 = .ok (.goto (-23), 3) := by decide +kernel
theorem dX9_laysShown_32 : decode cX9_laysShown 32 = .ok (.iconst 0, 1) := by decide +kernel
theorem dX9_laysShown_33 : decode cX9_laysShown 33 = .ok (.istore_n 2, 1) := by decide +kernel
theorem dX9_laysShown_34 : decode cX9_laysShown 34 = .ok (.iload_n 2, 1) := by decide +kernel
theorem dX9_laysShown_35 : decode cX9_laysShown 35 = .ok (.iload_n 1, 1) := by decide +kernel
theorem dX9_laysShown_36 : decode cX9_laysShown 36 = .ok (.if_icmp .ge 75, 3) := by decide +kernel
theorem dX9_laysShown_39 : decode cX9_laysShown 39 = .ok (.iconst 0, 1) := by decide +kernel
theorem dX9_laysShown_40 : decode cX9_laysShown 40 = .ok (.istore_n 3, 1) := by decide +kernel
theorem dX9_laysShown_41 : decode cX9_laysShown 41 = .ok (.iload_n 3, 1) := by decide +kernel
theorem dX9_laysShown_42 : decode cX9_laysShown 42 = .ok (.aload_n 0, 1) := by decide +kernel
theorem dX9_laysShown_43 : decode cX9_laysShown 43 = .ok (.getfield 88, 3) := by decide +kernel
theorem dX9_laysShown_46 : decode cX9_laysShown 46 = .ok (.if_icmp .ge 21, 3) := by decide +kernel
theorem dX9_laysShown_49 : decode cX9_laysShown 49 = .ok (.aload_n 0, 1) := by decide +kernel
theorem dX9_laysShown_50 : decode cX9_laysShown 50 = .ok (.getfield 37, 3) := by decide +kernel
theorem dX9_laysShown_53 : decode cX9_laysShown 53 = .ok (.iload_n 3, 1) := by decide +kernel
theorem dX9_laysShown_54 : decode cX9_laysShown 54 = .ok (.aload_n 0, 1) := by decide +kernel
theorem dX9_laysShown_55 : decode cX9_laysShown 55 = .ok (.getfield 34, 3) := by decide +kernel
theorem dX9_laysShown_58 : decode cX9_laysShown 58 = .ok (.iload_n 3, 1) := by decide +kernel
theorem dX9_laysShown_59 : decode cX9_laysShown 59 = .ok (.iaload, 1) := by decide +kernel
theorem dX9_laysShown_60 : decode cX9_laysShown 60 = .ok (.iastore, 1) := by decide +kernel
theorem dX9_laysShown_61 : decode cX9_laysShown 61 = .ok (.iinc 3 1, 3) := by decide +kernel
theorem dX9_laysShown_64 : decode cX9_laysShown 64 = .ok (.goto (-23), 3) := by decide +kernel
theorem dX9_laysShown_67 : decode cX9_laysShown 67 = .ok (.iconst 0, 1) := by decide +kernel
theorem dX9_laysShown_68 : decode cX9_laysShown 68 = .ok (.istore_n 3, 1) := by decide +kernel
theorem dX9_laysShown_69 : decode cX9_laysShown 69 = .ok (.iload_n 3, 1) := by decide +kernel
theorem dX9_laysShown_70 : decode cX9_laysShown 70 = .ok (.aload_n 0, 1) := by decide +kernel
theorem dX9_laysShown_71 : decode cX9_laysShown 71 = .ok (.getfield 88, 3) := by decide +kernel
theorem dX9_laysShown_74 : decode cX9_laysShown 74 = .ok (.if_icmp .ge 31, 3) := by decide +kernel
theorem dX9_laysShown_77 : decode cX9_laysShown 77 = .ok (.aload_n 0, 1) := by decide +kernel
theorem dX9_laysShown_78 : decode cX9_laysShown 78 = .ok (.getfield 28, 3) := by decide +kernel
theorem dX9_laysShown_81 : decode cX9_laysShown 81 = .ok (.iload_n 3, 1) := by decide +kernel
theorem dX9_laysShown_82 : decode cX9_laysShown 82 = .ok (.iaload, 1) := by decide +kernel
theorem dX9_laysShown_83 : decode cX9_laysShown 83 = .ok (.iconst (-1), 1) := by decide +kernel
theorem dX9_laysShown_84 : decode cX9_laysShown 84 = .ok (.if_icmp .eq 15, 3) := by decide +kernel
theorem dX9_laysShown_87 : decode cX9_laysShown 87 = .ok (.aload_n 0, 1) := by decide +kernel
theorem dX9_laysShown_88 : decode cX9_laysShown 88 = .ok (.getfield 34, 3) := by decide +kernel
theorem dX9_laysShown_91 : decode cX9_laysShown 91 = .ok (.iload_n 3, 1) := by decide +kernel
theorem dX9_laysShown_92 : decode cX9_laysShown 92 = .ok (.aload_n 0, 1) := by decide +kernel
theorem dX9_laysShown_93 : decode cX9_laysShown 93 = .ok (.iload_n 2, 1) := by decide +kernel
theorem dX9_laysShown_94 : decode cX9_laysShown 94 = .ok (.iload_n 3, 1) := by decide +kernel
theorem dX9_laysShown_95 : decode cX9_laysShown 95 = .ok (.invokevirtual 126, 3) := by decide +kernel
theorem dX9_laysShown_98 : decode cX9_laysShown 98 = .ok (.iastore, 1) := by decide +kernel
theorem dX9_laysShown_99 : decode cX9_laysShown 99 = .ok (.iinc 3 1, 3) := by decide +kernel
theorem dX9_laysShown_102 : decode cX9_laysShown 102 = .ok (.goto (-33), 3) := by decide +kernel
theorem dX9_laysShown_105 : decode cX9_laysShown 105 = .ok (.iinc 2 1, 3) := by decide +kernel
theorem dX9_laysShown_108 : decode cX9_laysShown 108 = .ok (.goto (-74), 3) := by decide +kernel
theorem dX9_laysShown_111 : decode cX9_laysShown 111 = .ok (.return_, 1) := by decide +kernel
theorem dX9_fewer_0 : decode cX9_fewer 0 = .ok (.iconst 0, 1) := by decide +kernel
theorem dX9_fewer_1 : decode cX9_fewer 1 = .ok (.istore 4, 2) := by decide +kernel
theorem dX9_fewer_3 : decode cX9_fewer 3 = .ok (.aload_n 0, 1) := by decide +kernel
theorem dX9_fewer_4 : decode cX9_fewer 4 = .ok (.getfield 31, 3) := by decide +kernel
theorem dX9_fewer_7 : decode cX9_fewer 7 = .ok (.iload_n 1, 1) := by decide +kernel
theorem dX9_fewer_8 : decode cX9_fewer 8 = .ok (.iaload, 1) := by decide +kernel
theorem dX9_fewer_9 : decode cX9_fewer 9 = .ok (.istore 5, 2) := by decide +kernel
theorem dX9_fewer_11 : decode cX9_fewer 11 = .ok (.iload 5, 2) := by decide +kernel
theorem dX9_fewer_13 : decode cX9_fewer 13 = .ok (.aload_n 0, 1) := by decide +kernel
theorem dX9_fewer_14 : decode cX9_fewer 14 = .ok (.getfield 129, 3) := by decide +kernel
theorem dX9_fewer_17 : decode cX9_fewer 17 = .ok (.if_icmp .ge 45, 3) := by decide +kernel
theorem dX9_fewer_20 : decode cX9_fewer 20 = .ok (.iload 4, 2) := by decide +kernel
theorem dX9_fewer_22 : decode cX9_fewer 22 = .ok (.aload_n 0, 1) := by decide +kernel
theorem dX9_fewer_23 : decode cX9_fewer 23 = .ok (.getfield 34, 3) := by decide +kernel
theorem dX9_fewer_26 : decode cX9_fewer 26 = .ok (.iload 5, 2) := by decide +kernel
theorem dX9_fewer_28 : decode cX9_fewer 28 = .ok (.iaload, 1) := by decide +kernel
theorem dX9_fewer_29 : decode cX9_fewer 29 = .ok (.iload_n 2, 1) := by decide +kernel
theorem dX9_fewer_30 : decode cX9_fewer 30 = .ok (.if_icmp .lt 18, 3) := by decide +kernel
theorem dX9_fewer_33 : decode cX9_fewer 33 = .ok (.iload_n 3, 1) := by decide +kernel
theorem dX9_fewer_34 : decode cX9_fewer 34 = .ok (.ifCond .eq 18, 3) := by decide +kernel
theorem dX9_fewer_37 : decode cX9_fewer 37 = .ok (.aload_n 0, 1) := by decide +kernel
theorem dX9_fewer_38 : decode cX9_fewer 38 = .ok (.getfield 34, 3) := by decide +kernel
theorem dX9_fewer_41 : decode cX9_fewer 41 = .ok (.iload 5, 2) := by decide +kernel
theorem dX9_fewer_43 : decode cX9_fewer 43 = .ok (.iaload, 1) := by decide +kernel
theorem dX9_fewer_44 : decode cX9_fewer 44 = .ok (.iload_n 2, 1) := by decide +kernel
theorem dX9_fewer_45 : decode cX9_fewer 45 = .ok (.if_icmp .ne 7, 3) := by decide +kernel
theorem dX9_fewer_48 : decode cX9_fewer 48 = .ok (.iconst 1, 1) := by decide +kernel
theorem dX9_fewer_49 : decode cX9_fewer 49 = .ok (.goto 4, 3) := by decide +kernel
theorem dX9_fewer_52 : decode cX9_fewer 52 = .ok (.iconst 0, 1) := by decide +kernel
theorem dX9_fewer_53 : decode cX9_fewer 53 = .ok (.iadd, 1) := by decide +kernel
theorem dX9_fewer_54 : decode cX9_fewer 54 = .ok (.istore 4, 2) := by decide +kernel
theorem dX9_fewer_56 : decode cX9_fewer 56 = .ok (.iinc 5 1, 3) := by decide +kernel
theorem dX9_fewer_59 : decode cX9_fewer 59 = .ok (.goto (-48), 3) := by decide +kernel
theorem dX9_fewer_62 : decode cX9_fewer 62 = .ok (.iload 4, 2) := by decide +kernel
theorem dX9_fewer_64 : decode cX9_fewer 64 = .ok (.ireturn, 1) := by decide +kernel
theorem dX9_level__0 : decode cX9_level_ 0 = .ok (.aload_n 0, 1) := by decide +kernel
theorem dX9_level__1 : decode cX9_level_ 1 = .ok (.getfield 13, 3) := by decide +kernel
theorem dX9_level__4 : decode cX9_level_ 4 = .ok (.iconst 4, 1) := by decide +kernel
theorem dX9_level__5 : decode cX9_level_ 5 = .ok (.iaload, 1) := by decide +kernel
theorem dX9_level__6 : decode cX9_level_ 6 = .ok (.ifCond .ne 10, 3) := by decide +kernel
theorem dX9_level__9 : decode cX9_level_ 9 = .ok (.aload_n 0, 1) := by decide +kernel
theorem dX9_level__10 : decode cX9_level_ 10 = .ok (.getfield 13, 3) := by decide +kernel
theorem dX9_level__13 : decode cX9_level_ 13 = .ok (.iconst 5, 1) := by decide +kernel
theorem dX9_level__14 : decode cX9_level_ 14 = .ok (.iaload, 1) := by decide +kernel
theorem dX9_level__15 : decode cX9_level_ 15 = .ok (.ireturn, 1) := by decide +kernel
theorem dX9_level__16 : decode cX9_level_ 16 = .ok (.aload_n 0, 1) := by decide +kernel
theorem dX9_level__17 : decode cX9_level_ 17 = .ok (.aload_n 0, 1) := by decide +kernel
theorem dX9_level__18 : decode cX9_level_ 18 = .ok (.iload_n 1, 1) := by decide +kernel
theorem dX9_level__19 : decode cX9_level_ 19 = .ok (.invokevirtual 132, 3) := by decide +kernel
theorem dX9_level__22 : decode cX9_level_ 22 = .ok (.putfield 129, 3) := by decide +kernel
theorem dX9_level__25 : decode cX9_level_ 25 = .ok (.aload_n 0, 1) := by decide +kernel
theorem dX9_level__26 : decode cX9_level_ 26 = .ok (.getfield 129, 3) := by decide +kernel
theorem dX9_level__29 : decode cX9_level_ 29 = .ok (.aload_n 0, 1) := by decide +kernel
theorem dX9_level__30 : decode cX9_level_ 30 = .ok (.getfield 31, 3) := by decide +kernel
theorem dX9_level__33 : decode cX9_level_ 33 = .ok (.iload_n 1, 1) := by decide +kernel
theorem dX9_level__34 : decode cX9_level_ 34 = .ok (.iaload, 1) := by decide +kernel
theorem dX9_level__35 : decode cX9_level_ 35 = .ok (.isub, 1) := by decide +kernel
theorem dX9_level__36 : decode cX9_level_ 36 = .ok (.istore_n 2, 1) := by decide +kernel
theorem dX9_level__37 : decode cX9_level_ 37 = .ok (.lconst 0, 1) := by decide +kernel
theorem dX9_level__38 : decode cX9_level_ 38 = .ok (.lstore_n 3, 1) := by decide +kernel
theorem dX9_level__39 : decode cX9_level_ 39 = .ok (.aload_n 0, 1) := by decide +kernel
theorem dX9_level__40 : decode cX9_level_ 40 = .ok (.getfield 31, 3) := by decide +kernel
theorem dX9_level__43 : decode cX9_level_ 43 = .ok (.iload_n 1, 1) := by decide +kernel
theorem dX9_level__44 : decode cX9_level_ 44 = .ok (.iaload, 1) := by decide +kernel
theorem dX9_level__45 : decode cX9_level_ 45 = .ok (.istore 5, 2) := by decide +kernel
theorem dX9_level__47 : decode cX9_level_ 47 = .ok (.iload 5, 2) := by decide +kernel
theorem dX9_level__49 : decode cX9_level_ 49 = .ok (.aload_n 0, 1) := by decide +kernel
theorem dX9_level__50 : decode cX9_level_ 50 = .ok (.getfield 129, 3) := by decide +kernel
theorem dX9_level__53 : decode cX9_level_ 53 = .ok (.if_icmp .ge 80, 3) := by decide +kernel
theorem dX9_level__56 : decode cX9_level_ 56 = .ok (.lload_n 3, 1) := by decide +kernel
theorem dX9_level__57 : decode cX9_level_ 57 = .ok (.aload_n 0, 1) := by decide +kernel
theorem dX9_level__58 : decode cX9_level_ 58 = .ok (.getfield 34, 3) := by decide +kernel
theorem dX9_level__61 : decode cX9_level_ 61 = .ok (.iload 5, 2) := by decide +kernel
theorem dX9_level__63 : decode cX9_level_ 63 = .ok (.iaload, 1) := by decide +kernel
theorem dX9_level__64 : decode cX9_level_ 64 = .ok (.i2l, 1) := by decide +kernel
theorem dX9_level__65 : decode cX9_level_ 65 = .ok (.ladd, 1) := by decide +kernel
theorem dX9_level__66 : decode cX9_level_ 66 = .ok (.lstore_n 3, 1) := by decide +kernel
theorem dX9_level__67 : decode cX9_level_ 67 = .ok (.aload_n 0, 1) := by decide +kernel
theorem dX9_level__68 : decode cX9_level_ 68 = .ok (.getfield 13, 3) := by decide +kernel
theorem dX9_level__71 : decode cX9_level_ 71 = .ok (.iconst 4, 1) := by decide +kernel
theorem dX9_level__72 : decode cX9_level_ 72 = .ok (.iaload, 1) := by decide +kernel
theorem dX9_level__73 : decode cX9_level_ 73 = .ok (.iconst 2, 1) := by decide +kernel
theorem dX9_level__74 : decode cX9_level_ 74 = .ok (.if_icmp .ne 53, 3) := by decide +kernel
theorem dX9_level__77 : decode cX9_level_ 77 = .ok (.aload_n 0, 1) := by decide +kernel
theorem dX9_level__78 : decode cX9_level_ 78 = .ok (.iload_n 1, 1) := by decide +kernel
theorem dX9_level__79 : decode cX9_level_ 79 = .ok (.aload_n 0, 1) := by decide +kernel
theorem dX9_level__80 : decode cX9_level_ 80 = .ok (.getfield 34, 3) := by decide +kernel
theorem dX9_level__83 : decode cX9_level_ 83 = .ok (.iload 5, 2) := by decide +kernel
theorem dX9_level__85 : decode cX9_level_ 85 = .ok (.iaload, 1) := by decide +kernel
theorem dX9_level__86 : decode cX9_level_ 86 = .ok (.iconst 0, 1) := by decide +kernel
theorem dX9_level__87 : decode cX9_level_ 87 = .ok (.invokevirtual 135, 3) := by decide +kernel
theorem dX9_level__90 : decode cX9_level_ 90 = .ok (.iload_n 2, 1) := by decide +kernel
theorem dX9_level__91 : decode cX9_level_ 91 = .ok (.iconst 1, 1) := by decide +kernel
theorem dX9_level__92 : decode cX9_level_ 92 = .ok (.isub, 1) := by decide +kernel
theorem dX9_level__93 : decode cX9_level_ 93 = .ok (.iconst 2, 1) := by decide +kernel
theorem dX9_level__94 : decode cX9_level_ 94 = .ok (.idiv, 1) := by decide +kernel
theorem dX9_level__95 : decode cX9_level_ 95 = .ok (.if_icmp .gt 32, 3) := by decide +kernel
theorem dX9_level__98 : decode cX9_level_ 98 = .ok (.aload_n 0, 1) := by decide +kernel
theorem dX9_level__99 : decode cX9_level_ 99 = .ok (.iload_n 1, 1) := by decide +kernel
theorem dX9_level__100 : decode cX9_level_ 100 = .ok (.aload_n 0, 1) := by decide +kernel
theorem dX9_level__101 : decode cX9_level_ 101 = .ok (.getfield 34, 3) := by decide +kernel
theorem dX9_level__104 : decode cX9_level_ 104 = .ok (.iload 5, 2) := by decide +kernel
theorem dX9_level__106 : decode cX9_level_ 106 = .ok (.iaload, 1) := by decide +kernel
theorem dX9_level__107 : decode cX9_level_ 107 = .ok (.iconst 1, 1) := by decide +kernel
theorem dX9_level__108 : decode cX9_level_ 108 = .ok (.invokevirtual 135, 3) := by decide +kernel
theorem dX9_level__111 : decode cX9_level_ 111 = .ok (.iload_n 2, 1) := by decide +kernel
theorem dX9_level__112 : decode cX9_level_ 112 = .ok (.iconst 1, 1) := by decide +kernel
theorem dX9_level__113 : decode cX9_level_ 113 = .ok (.isub, 1) := by decide +kernel
theorem dX9_level__114 : decode cX9_level_ 114 = .ok (.iconst 2, 1) := by decide +kernel
theorem dX9_level__115 : decode cX9_level_ 115 = .ok (.idiv, 1) := by decide +kernel
theorem dX9_level__116 : decode cX9_level_ 116 = .ok (.if_icmp .le 11, 3) := by decide +kernel
theorem dX9_level__119 : decode cX9_level_ 119 = .ok (.aload_n 0, 1) := by decide +kernel
theorem dX9_level__120 : decode cX9_level_ 120 = .ok (.getfield 34, 3) := by decide +kernel
theorem dX9_level__123 : decode cX9_level_ 123 = .ok (.iload 5, 2) := by decide +kernel
theorem dX9_level__125 : decode cX9_level_ 125 = .ok (.iaload, 1) := by decide +kernel
theorem dX9_level__126 : decode cX9_level_ 126 = .ok (.ireturn, 1) := by decide +kernel
theorem dX9_level__127 : decode cX9_level_ 127 = .ok (.iinc 5 1, 3) := by decide +kernel
theorem dX9_level__130 : decode cX9_level_ 130 = .ok (.goto (-83), 3) := by decide +kernel
theorem dX9_level__133 : decode cX9_level_ 133 = .ok (.lload_n 3, 1) := by decide +kernel
theorem dX9_level__134 : decode cX9_level_ 134 = .ok (.iload_n 2, 1) := by decide +kernel
theorem dX9_level__135 : decode cX9_level_ 135 = .ok (.i2l, 1) := by decide +kernel
theorem dX9_level__136 : decode cX9_level_ 136 = .ok (.invokestatic 110, 3) := by decide +kernel
theorem dX9_level__139 : decode cX9_level_ 139 = .ok (.l2i, 1) := by decide +kernel
theorem dX9_level__140 : decode cX9_level_ 140 = .ok (.ireturn, 1) := by decide +kernel
theorem dX9_crosses_0 : decode cX9_crosses 0 = .ok (.aload_n 0, 1) := by decide +kernel
theorem dX9_crosses_1 : decode cX9_crosses 1 = .ok (.getfield 34, 3) := by decide +kernel
theorem dX9_crosses_4 : decode cX9_crosses 4 = .ok (.iload_n 1, 1) := by decide +kernel
theorem dX9_crosses_5 : decode cX9_crosses 5 = .ok (.iaload, 1) := by decide +kernel
theorem dX9_crosses_6 : decode cX9_crosses 6 = .ok (.iload_n 2, 1) := by decide +kernel
theorem dX9_crosses_7 : decode cX9_crosses 7 = .ok (.iload_n 3, 1) := by decide +kernel
theorem dX9_crosses_8 : decode cX9_crosses 8 = .ok (.isub, 1) := by decide +kernel
theorem dX9_crosses_9 : decode cX9_crosses 9 = .ok (.if_icmp .ge 8, 3) := by decide +kernel
theorem dX9_crosses_12 : decode cX9_crosses 12 = .ok (.aload_n 0, 1) := by decide +kernel
theorem dX9_crosses_13 : decode cX9_crosses 13 = .ok (.iconst 1, 1) := by decide +kernel
theorem dX9_crosses_14 : decode cX9_crosses 14 = .ok (.putfield 139, 3) := by decide +kernel
theorem dX9_crosses_17 : decode cX9_crosses 17 = .ok (.aload_n 0, 1) := by decide +kernel
theorem dX9_crosses_18 : decode cX9_crosses 18 = .ok (.getfield 139, 3) := by decide +kernel
theorem dX9_crosses_21 : decode cX9_crosses 21 = .ok (.ifCond .eq 15, 3) := by decide +kernel
theorem dX9_crosses_24 : decode cX9_crosses 24 = .ok (.aload_n 0, 1) := by decide +kernel
theorem dX9_crosses_25 : decode cX9_crosses 25 = .ok (.getfield 34, 3) := by decide +kernel
theorem dX9_crosses_28 : decode cX9_crosses 28 = .ok (.iload_n 1, 1) := by decide +kernel
theorem dX9_crosses_29 : decode cX9_crosses 29 = .ok (.iaload, 1) := by decide +kernel
theorem dX9_crosses_30 : decode cX9_crosses 30 = .ok (.iload_n 2, 1) := by decide +kernel
theorem dX9_crosses_31 : decode cX9_crosses 31 = .ok (.iload_n 3, 1) := by decide +kernel
theorem dX9_crosses_32 : decode cX9_crosses 32 = .ok (.iadd, 1) := by decide +kernel
theorem dX9_crosses_33 : decode cX9_crosses 33 = .ok (.if_icmp .gt 5, 3) := by decide +kernel
theorem dX9_crosses_36 : decode cX9_crosses 36 = .ok (.iconst 0, 1) := by decide +kernel
theorem dX9_crosses_37 : decode cX9_crosses 37 = .ok (.ireturn, 1) := by decide +kernel
theorem dX9_crosses_38 : decode cX9_crosses 38 = .ok (.aload_n 0, 1) := by decide +kernel
theorem dX9_crosses_39 : decode cX9_crosses 39 = .ok (.iconst 0, 1) := by decide +kernel
theorem dX9_crosses_40 : decode cX9_crosses 40 = .ok (.putfield 139, 3) := by decide +kernel
theorem dX9_crosses_43 : decode cX9_crosses 43 = .ok (.iconst 1, 1) := by decide +kernel
theorem dX9_crosses_44 : decode cX9_crosses 44 = .ok (.ireturn, 1) := by decide +kernel
theorem dX9_countWaves_0 : decode cX9_countWaves 0 = .ok (.iconst 0, 1) := by decide +kernel
theorem dX9_countWaves_1 : decode cX9_countWaves 1 = .ok (.istore_n 2, 1) := by decide +kernel
theorem dX9_countWaves_2 : decode cX9_countWaves 2 = .ok (.iconst 0, 1) := by decide +kernel
theorem dX9_countWaves_3 : decode cX9_countWaves 3 = .ok (.istore_n 3, 1) := by decide +kernel
theorem dX9_countWaves_4 : decode cX9_countWaves 4 = .ok (.iload_n 3, 1) := by decide +kernel
theorem dX9_countWaves_5 : decode cX9_countWaves 5 = .ok (.aload_n 0, 1) := by decide +kernel
theorem dX9_countWaves_6 : decode cX9_countWaves 6 = .ok (.getfield 114, 3) := by decide +kernel
theorem dX9_countWaves_9 : decode cX9_countWaves 9 = .ok (.if_icmp .ge 94, 3) := by decide +kernel
theorem dX9_countWaves_12 : decode cX9_countWaves 12 = .ok (.aload_n 0, 1) := by decide +kernel
theorem dX9_countWaves_13 : decode cX9_countWaves 13 = .ok (.iconst 0, 1) := by decide +kernel
theorem dX9_countWaves_14 : decode cX9_countWaves 14 = .ok (.putfield 139, 3) := by decide +kernel
theorem dX9_countWaves_17 : decode cX9_countWaves 17 = .ok (.iconst 0, 1) := by decide +kernel
theorem dX9_countWaves_18 : decode cX9_countWaves 18 = .ok (.istore 4, 2) := by decide +kernel
theorem dX9_countWaves_20 : decode cX9_countWaves 20 = .ok (.aload_n 0, 1) := by decide +kernel
theorem dX9_countWaves_21 : decode cX9_countWaves 21 = .ok (.getfield 31, 3) := by decide +kernel
theorem dX9_countWaves_24 : decode cX9_countWaves 24 = .ok (.iload_n 3, 1) := by decide +kernel
theorem dX9_countWaves_25 : decode cX9_countWaves 25 = .ok (.iaload, 1) := by decide +kernel
theorem dX9_countWaves_26 : decode cX9_countWaves 26 = .ok (.istore 5, 2) := by decide +kernel
theorem dX9_countWaves_28 : decode cX9_countWaves 28 = .ok (.iload 5, 2) := by decide +kernel
theorem dX9_countWaves_30 : decode cX9_countWaves 30 = .ok (.aload_n 0, 1) := by decide +kernel
theorem dX9_countWaves_31 : decode cX9_countWaves 31 = .ok (.getfield 88, 3) := by decide +kernel
theorem dX9_countWaves_34 : decode cX9_countWaves 34 = .ok (.if_icmp .ge 46, 3) := by decide +kernel
theorem dX9_countWaves_37 : decode cX9_countWaves 37 = .ok (.aload_n 0, 1) := by decide +kernel
theorem dX9_countWaves_38 : decode cX9_countWaves 38 = .ok (.getfield 28, 3) := by decide +kernel
theorem dX9_countWaves_41 : decode cX9_countWaves 41 = .ok (.iload 5, 2) := by decide +kernel
theorem dX9_countWaves_43 : decode cX9_countWaves 43 = .ok (.iaload, 1) := by decide +kernel
theorem dX9_countWaves_44 : decode cX9_countWaves 44 = .ok (.iload_n 3, 1) := by decide +kernel
theorem dX9_countWaves_45 : decode cX9_countWaves 45 = .ok (.if_icmp .ne 35, 3) := by decide +kernel
theorem dX9_countWaves_48 : decode cX9_countWaves 48 = .ok (.iload 4, 2) := by decide +kernel
theorem dX9_countWaves_50 : decode cX9_countWaves 50 = .ok (.aload_n 0, 1) := by decide +kernel
theorem dX9_countWaves_51 : decode cX9_countWaves 51 = .ok (.iload 5, 2) := by decide +kernel
theorem dX9_countWaves_53 : decode cX9_countWaves 53 = .ok (.aload_n 0, 1) := by decide +kernel
theorem dX9_countWaves_54 : decode cX9_countWaves 54 = .ok (.getfield 40, 3) := by decide +kernel
theorem dX9_countWaves_57 : decode cX9_countWaves 57 = .ok (.iload_n 3, 1) := by decide +kernel
theorem dX9_countWaves_58 : decode cX9_countWaves 58 = .ok (.iaload, 1) := by decide +kernel
theorem dX9_countWaves_59 : decode cX9_countWaves 59 = .ok (.iload_n 1, 1) := by decide +kernel
theorem dX9_countWaves_60 : decode cX9_countWaves 60 = .ok (.invokevirtual 143, 3) := by decide +kernel
theorem dX9_countWaves_63 : decode cX9_countWaves 63 = .ok (.ifCond .eq 7, 3) := by decide +kernel
theorem dX9_countWaves_66 : decode cX9_countWaves 66 = .ok (.iconst 1, 1) := by decide +kernel
theorem dX9_countWaves_67 : decode cX9_countWaves 67 = .ok (.goto 4, 3) := by decide +kernel
theorem dX9_countWaves_70 : decode cX9_countWaves 70 = .ok (.iconst 0, 1) := by decide +kernel
theorem dX9_countWaves_71 : decode cX9_countWaves 71 = .ok (.iadd, 1) := by decide +kernel
theorem dX9_countWaves_72 : decode cX9_countWaves 72 = .ok (.istore 4, 2) := by decide +kernel
theorem dX9_countWaves_74 : decode cX9_countWaves 74 = .ok (.iinc 5 1, 3) := by decide +kernel
theorem dX9_countWaves_77 : decode cX9_countWaves 77 = .ok (.goto (-49), 3) := by decide +kernel
theorem dX9_countWaves_80 : decode cX9_countWaves 80 = .ok (.iload_n 2, 1) := by decide +kernel
theorem dX9_countWaves_81 : decode cX9_countWaves 81 = .ok (.iload 4, 2) := by decide +kernel
theorem dX9_countWaves_83 : decode cX9_countWaves 83 = .ok (.iconst 1, 1) := by decide +kernel
theorem dX9_countWaves_84 : decode cX9_countWaves 84 = .ok (.if_icmp .le 10, 3) := by decide +kernel
theorem dX9_countWaves_87 : decode cX9_countWaves 87 = .ok (.iload 4, 2) := by decide +kernel
theorem dX9_countWaves_89 : decode cX9_countWaves 89 = .ok (.iconst 1, 1) := by decide +kernel
theorem dX9_countWaves_90 : decode cX9_countWaves 90 = .ok (.isub, 1) := by decide +kernel
theorem dX9_countWaves_91 : decode cX9_countWaves 91 = .ok (.goto 4, 3) := by decide +kernel
theorem dX9_countWaves_94 : decode cX9_countWaves 94 = .ok (.iconst 0, 1) := by decide +kernel
theorem dX9_countWaves_95 : decode cX9_countWaves 95 = .ok (.iadd, 1) := by decide +kernel
theorem dX9_countWaves_96 : decode cX9_countWaves 96 = .ok (.istore_n 2, 1) := by decide +kernel
theorem dX9_countWaves_97 : decode cX9_countWaves 97 = .ok (.iinc 3 1, 3) := by decide +kernel
theorem dX9_countWaves_100 : decode cX9_countWaves 100 = .ok (.goto (-96), 3) := by decide +kernel
theorem dX9_countWaves_103 : decode cX9_countWaves 103 = .ok (.iload_n 2, 1) := by decide +kernel
theorem dX9_countWaves_104 : decode cX9_countWaves 104 = .ok (.ireturn, 1) := by decide +kernel
theorem dX9_laysWaves_0 : decode cX9_laysWaves 0 = .ok (.aload_n 0, 1) := by decide +kernel
theorem dX9_laysWaves_1 : decode cX9_laysWaves 1 = .ok (.aload_n 0, 1) := by decide +kernel
theorem dX9_laysWaves_2 : decode cX9_laysWaves 2 = .ok (.getfield 104, 3) := by decide +kernel
theorem dX9_laysWaves_5 : decode cX9_laysWaves 5 = .ok (.invokevirtual 146, 3) := by decide +kernel
theorem dX9_laysWaves_8 : decode cX9_laysWaves 8 = .ok (.aload_n 0, 1) := by decide +kernel
theorem dX9_laysWaves_9 : decode cX9_laysWaves 9 = .ok (.iconst 0, 1) := by decide +kernel
theorem dX9_laysWaves_10 : decode cX9_laysWaves 10 = .ok (.putfield 150, 3) := by decide +kernel
theorem dX9_laysWaves_13 : decode cX9_laysWaves 13 = .ok (.iconst 0, 1) := by decide +kernel
theorem dX9_laysWaves_14 : decode cX9_laysWaves 14 = .ok (.istore_n 1, 1) := by decide +kernel
theorem dX9_laysWaves_15 : decode cX9_laysWaves 15 = .ok (.iload_n 1, 1) := by decide +kernel
theorem dX9_laysWaves_16 : decode cX9_laysWaves 16 = .ok (.aload_n 0, 1) := by decide +kernel
theorem dX9_laysWaves_17 : decode cX9_laysWaves 17 = .ok (.getfield 88, 3) := by decide +kernel
theorem dX9_laysWaves_20 : decode cX9_laysWaves 20 = .ok (.if_icmp .ge 16, 3) := by decide +kernel
theorem dX9_laysWaves_23 : decode cX9_laysWaves 23 = .ok (.aload_n 0, 1) := by decide +kernel
theorem dX9_laysWaves_24 : decode cX9_laysWaves 24 = .ok (.getfield 52, 3) := by decide +kernel
theorem dX9_laysWaves_27 : decode cX9_laysWaves 27 = .ok (.iload_n 1, 1) := by decide +kernel
theorem dX9_laysWaves_28 : decode cX9_laysWaves 28 = .ok (.iconst (-1), 1) := by decide +kernel
theorem dX9_laysWaves_29 : decode cX9_laysWaves 29 = .ok (.iastore, 1) := by decide +kernel
theorem dX9_laysWaves_30 : decode cX9_laysWaves 30 = .ok (.iinc 1 1, 3) := by decide +kernel
theorem dX9_laysWaves_33 : decode cX9_laysWaves 33 = .ok (.goto (-18), 3) := by decide +kernel
theorem dX9_laysWaves_36 : decode cX9_laysWaves 36 = .ok (.iconst 0, 1) := by decide +kernel
theorem dX9_laysWaves_37 : decode cX9_laysWaves 37 = .ok (.istore_n 1, 1) := by decide +kernel
theorem dX9_laysWaves_38 : decode cX9_laysWaves 38 = .ok (.iload_n 1, 1) := by decide +kernel
theorem dX9_laysWaves_39 : decode cX9_laysWaves 39 = .ok (.aload_n 0, 1) := by decide +kernel
theorem dX9_laysWaves_40 : decode cX9_laysWaves 40 = .ok (.getfield 114, 3) := by decide +kernel
theorem dX9_laysWaves_43 : decode cX9_laysWaves 43 = .ok (.if_icmp .ge 129, 3) := by decide +kernel
theorem dX9_laysWaves_46 : decode cX9_laysWaves 46 = .ok (.aload_n 0, 1) := by decide +kernel
theorem dX9_laysWaves_47 : decode cX9_laysWaves 47 = .ok (.getfield 40, 3) := by decide +kernel
theorem dX9_laysWaves_50 : decode cX9_laysWaves 50 = .ok (.iload_n 1, 1) := by decide +kernel
theorem dX9_laysWaves_51 : decode cX9_laysWaves 51 = .ok (.aload_n 0, 1) := by decide +kernel
theorem dX9_laysWaves_52 : decode cX9_laysWaves 52 = .ok (.iload_n 1, 1) := by decide +kernel
theorem dX9_laysWaves_53 : decode cX9_laysWaves 53 = .ok (.invokevirtual 153, 3) := by decide +kernel
theorem dX9_laysWaves_56 : decode cX9_laysWaves 56 = .ok (.iastore, 1) := by decide +kernel
theorem dX9_laysWaves_57 : decode cX9_laysWaves 57 = .ok (.aload_n 0, 1) := by decide +kernel
theorem dX9_laysWaves_58 : decode cX9_laysWaves 58 = .ok (.getfield 43, 3) := by decide +kernel
theorem dX9_laysWaves_61 : decode cX9_laysWaves 61 = .ok (.iload_n 1, 1) := by decide +kernel
theorem dX9_laysWaves_62 : decode cX9_laysWaves 62 = .ok (.iconst 0, 1) := by decide +kernel
theorem dX9_laysWaves_63 : decode cX9_laysWaves 63 = .ok (.iastore, 1) := by decide +kernel
theorem dX9_laysWaves_64 : decode cX9_laysWaves 64 = .ok (.aload_n 0, 1) := by decide +kernel
theorem dX9_laysWaves_65 : decode cX9_laysWaves 65 = .ok (.iconst 0, 1) := by decide +kernel
theorem dX9_laysWaves_66 : decode cX9_laysWaves 66 = .ok (.putfield 139, 3) := by decide +kernel
theorem dX9_laysWaves_69 : decode cX9_laysWaves 69 = .ok (.iconst (-1), 1) := by decide +kernel
theorem dX9_laysWaves_70 : decode cX9_laysWaves 70 = .ok (.istore_n 2, 1) := by decide +kernel
theorem dX9_laysWaves_71 : decode cX9_laysWaves 71 = .ok (.aload_n 0, 1) := by decide +kernel
theorem dX9_laysWaves_72 : decode cX9_laysWaves 72 = .ok (.getfield 31, 3) := by decide +kernel
theorem dX9_laysWaves_75 : decode cX9_laysWaves 75 = .ok (.iload_n 1, 1) := by decide +kernel
theorem dX9_laysWaves_76 : decode cX9_laysWaves 76 = .ok (.iaload, 1) := by decide +kernel
theorem dX9_laysWaves_77 : decode cX9_laysWaves 77 = .ok (.istore_n 3, 1) := by decide +kernel
theorem dX9_laysWaves_78 : decode cX9_laysWaves 78 = .ok (.iload_n 3, 1) := by decide +kernel
theorem dX9_laysWaves_79 : decode cX9_laysWaves 79 = .ok (.aload_n 0, 1) := by decide +kernel
theorem dX9_laysWaves_80 : decode cX9_laysWaves 80 = .ok (.getfield 88, 3) := by decide +kernel
theorem dX9_laysWaves_83 : decode cX9_laysWaves 83 = .ok (.if_icmp .ge 76, 3) := by decide +kernel
theorem dX9_laysWaves_86 : decode cX9_laysWaves 86 = .ok (.aload_n 0, 1) := by decide +kernel
theorem dX9_laysWaves_87 : decode cX9_laysWaves 87 = .ok (.getfield 28, 3) := by decide +kernel
theorem dX9_laysWaves_90 : decode cX9_laysWaves 90 = .ok (.iload_n 3, 1) := by decide +kernel
theorem dX9_laysWaves_91 : decode cX9_laysWaves 91 = .ok (.iaload, 1) := by decide +kernel
theorem dX9_laysWaves_92 : decode cX9_laysWaves 92 = .ok (.iload_n 1, 1) := by decide +kernel
theorem dX9_laysWaves_93 : decode cX9_laysWaves 93 = .ok (.if_icmp .ne 66, 3) := by decide +kernel
theorem dX9_laysWaves_96 : decode cX9_laysWaves 96 = .ok (.aload_n 0, 1) := by decide +kernel
theorem dX9_laysWaves_97 : decode cX9_laysWaves 97 = .ok (.iload_n 3, 1) := by decide +kernel
theorem dX9_laysWaves_98 : decode cX9_laysWaves 98 = .ok (.aload_n 0, 1) := by decide +kernel
theorem dX9_laysWaves_99 : decode cX9_laysWaves 99 = .ok (.getfield 40, 3) := by decide +kernel
theorem dX9_laysWaves_102 : decode cX9_laysWaves 102 = .ok (.iload_n 1, 1) := by decide +kernel
theorem dX9_laysWaves_103 : decode cX9_laysWaves 103 = .ok (.iaload, 1) := by decide +kernel
theorem dX9_laysWaves_104 : decode cX9_laysWaves 104 = .ok (.aload_n 0, 1) := by decide +kernel
theorem dX9_laysWaves_105 : decode cX9_laysWaves 105 = .ok (.getfield 13, 3) := by decide +kernel
theorem dX9_laysWaves_108 : decode cX9_laysWaves 108 = .ok (.iconst 1, 1) := by decide +kernel
theorem dX9_laysWaves_109 : decode cX9_laysWaves 109 = .ok (.iaload, 1) := by decide +kernel
theorem dX9_laysWaves_110 : decode cX9_laysWaves 110 = .ok (.invokevirtual 143, 3) := by decide +kernel
theorem dX9_laysWaves_113 : decode cX9_laysWaves 113 = .ok (.ifCond .ne 6, 3) := by decide +kernel
theorem dX9_laysWaves_116 : decode cX9_laysWaves 116 = .ok (.goto 37, 3) := by decide +kernel
theorem dX9_laysWaves_119 : decode cX9_laysWaves 119 = .ok (.iload_n 2, 1) := by decide +kernel
theorem dX9_laysWaves_120 : decode cX9_laysWaves 120 = .ok (.iconst (-1), 1) := by decide +kernel
theorem dX9_laysWaves_121 : decode cX9_laysWaves 121 = .ok (.if_icmp .eq 13, 3) := by decide +kernel
theorem dX9_laysWaves_124 : decode cX9_laysWaves 124 = .ok (.aload_n 0, 1) := by decide +kernel
theorem dX9_laysWaves_125 : decode cX9_laysWaves 125 = .ok (.iload_n 1, 1) := by decide +kernel
theorem dX9_laysWaves_126 : decode cX9_laysWaves 126 = .ok (.iload_n 2, 1) := by decide +kernel
theorem dX9_laysWaves_127 : decode cX9_laysWaves 127 = .ok (.iload_n 3, 1) := by decide +kernel
theorem dX9_laysWaves_128 : decode cX9_laysWaves 128 = .ok (.invokevirtual 156, 3) := by decide +kernel
theorem dX9_laysWaves_131 : decode cX9_laysWaves 131 = .ok (.goto 10, 3) := by decide +kernel
theorem dX9_laysWaves_134 : decode cX9_laysWaves 134 = .ok (.aload_n 0, 1) := by decide +kernel
theorem dX9_laysWaves_135 : decode cX9_laysWaves 135 = .ok (.getfield 46, 3) := by decide +kernel
theorem dX9_laysWaves_138 : decode cX9_laysWaves 138 = .ok (.iload_n 1, 1) := by decide +kernel
theorem dX9_laysWaves_139 : decode cX9_laysWaves 139 = .ok (.iload_n 3, 1) := by decide +kernel
theorem dX9_laysWaves_140 : decode cX9_laysWaves 140 = .ok (.iastore, 1) := by decide +kernel
theorem dX9_laysWaves_141 : decode cX9_laysWaves 141 = .ok (.iload_n 3, 1) := by decide +kernel
theorem dX9_laysWaves_142 : decode cX9_laysWaves 142 = .ok (.istore_n 2, 1) := by decide +kernel
theorem dX9_laysWaves_143 : decode cX9_laysWaves 143 = .ok (.aload_n 0, 1) := by decide +kernel
