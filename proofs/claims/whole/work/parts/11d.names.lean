theorem dX8_init_104 : decode cX8_init 104 = .ok (.dup, 1) := by decide +kernel
theorem dX8_init_105 : decode cX8_init 105 = .ok (.bipush 31, 2) := by decide +kernel
theorem dX8_init_107 : decode cX8_init 107 = .ok (.invokespecial 58, 3) := by decide +kernel
theorem dX8_init_110 : decode cX8_init 110 = .ok (.putfield 65, 3) := by decide +kernel
theorem dX8_init_113 : decode cX8_init 113 = .ok (.aload_n 0, 1) := by decide +kernel
theorem dX8_init_114 : decode cX8_init 114 = .ok (.new 56, 3) := by decide +kernel
theorem dX8_init_117 : decode cX8_init 117 = .ok (.dup, 1) := by decide +kernel
theorem dX8_init_118 : decode cX8_init 118 = .ok (.bipush 31, 2) := by decide +kernel
theorem dX8_init_120 : decode cX8_init 120 = .ok (.invokespecial 58, 3) := by decide +kernel
theorem dX8_init_123 : decode cX8_init 123 = .ok (.putfield 68, 3) := by decide +kernel
theorem dX8_init_126 : decode cX8_init 126 = .ok (.aload_n 0, 1) := by decide +kernel
theorem dX8_init_127 : decode cX8_init 127 = .ok (.new 56, 3) := by decide +kernel
theorem dX8_init_130 : decode cX8_init 130 = .ok (.dup, 1) := by decide +kernel
theorem dX8_init_131 : decode cX8_init 131 = .ok (.iconst 0, 1) := by decide +kernel
theorem dX8_init_132 : decode cX8_init 132 = .ok (.invokespecial 58, 3) := by decide +kernel
theorem dX8_init_135 : decode cX8_init 135 = .ok (.putfield 71, 3) := by decide +kernel
theorem dX8_init_138 : decode cX8_init 138 = .ok (.aload_n 0, 1) := by decide +kernel
theorem dX8_init_139 : decode cX8_init 139 = .ok (.iconst (-1), 1) := by decide +kernel
theorem dX8_init_140 : decode cX8_init 140 = .ok (.putfield 74, 3) := by decide +kernel
theorem dX8_init_143 : decode cX8_init 143 = .ok (.aload_n 0, 1) := by decide +kernel
theorem dX8_init_144 : decode cX8_init 144 = .ok (.new 78, 3) := by decide +kernel
theorem dX8_init_147 : decode cX8_init 147 = .ok (.dup, 1) := by decide +kernel
theorem dX8_init_148 : decode cX8_init 148 = .ok (.aload_n 0, 1) := by decide +kernel
theorem dX8_init_149 : decode cX8_init 149 = .ok (.getfield 31, 3) := by decide +kernel
theorem dX8_init_152 : decode cX8_init 152 = .ok (.invokespecial 80, 3) := by decide +kernel
theorem dX8_init_155 : decode cX8_init 155 = .ok (.putfield 83, 3) := by decide +kernel
theorem dX8_init_158 : decode cX8_init 158 = .ok (.aload_n 0, 1) := by decide +kernel
theorem dX8_init_159 : decode cX8_init 159 = .ok (.new 87, 3) := by decide +kernel
theorem dX8_init_162 : decode cX8_init 162 = .ok (.dup, 1) := by decide +kernel
theorem dX8_init_163 : decode cX8_init 163 = .ok (.aload_n 0, 1) := by decide +kernel
theorem dX8_init_164 : decode cX8_init 164 = .ok (.getfield 31, 3) := by decide +kernel
theorem dX8_init_167 : decode cX8_init 167 = .ok (.invokespecial 89, 3) := by decide +kernel
theorem dX8_init_170 : decode cX8_init 170 = .ok (.putfield 90, 3) := by decide +kernel
theorem dX8_init_173 : decode cX8_init 173 = .ok (.iconst 0, 1) := by decide +kernel
theorem dX8_init_174 : decode cX8_init 174 = .ok (.istore_n 1, 1) := by decide +kernel
theorem dX8_init_175 : decode cX8_init 175 = .ok (.iload_n 1, 1) := by decide +kernel
theorem dX8_init_176 : decode cX8_init 176 = .ok (.iconst 2, 1) := by decide +kernel
theorem dX8_init_177 : decode cX8_init 177 = .ok (.if_icmp .ge 22, 3) := by decide +kernel
theorem dX8_init_180 : decode cX8_init 180 = .ok (.aload_n 0, 1) := by decide +kernel
theorem dX8_init_181 : decode cX8_init 181 = .ok (.getfield 42, 3) := by decide +kernel
theorem dX8_init_184 : decode cX8_init 184 = .ok (.iload_n 1, 1) := by decide +kernel
theorem dX8_init_185 : decode cX8_init 185 = .ok (.new 35, 3) := by decide +kernel
theorem dX8_init_188 : decode cX8_init 188 = .ok (.dup, 1) := by decide +kernel
theorem dX8_init_189 : decode cX8_init 189 = .ok (.invokespecial 37, 3) := by decide +kernel
theorem dX8_init_192 : decode cX8_init 192 = .ok (.aastore, 1) := by decide +kernel
theorem dX8_init_193 : decode cX8_init 193 = .ok (.iinc 1 1, 3) := by decide +kernel
theorem dX8_init_196 : decode cX8_init 196 = .ok (.goto (-21), 3) := by decide +kernel
theorem dX8_init_199 : decode cX8_init 199 = .ok (.iconst 0, 1) := by decide +kernel
theorem dX8_init_200 : decode cX8_init 200 = .ok (.istore_n 1, 1) := by decide +kernel
theorem dX8_init_201 : decode cX8_init 201 = .ok (.iload_n 1, 1) := by decide +kernel
theorem dX8_init_202 : decode cX8_init 202 = .ok (.bipush 6, 2) := by decide +kernel
theorem dX8_init_204 : decode cX8_init 204 = .ok (.if_icmp .ge 22, 3) := by decide +kernel
theorem dX8_init_207 : decode cX8_init 207 = .ok (.aload_n 0, 1) := by decide +kernel
theorem dX8_init_208 : decode cX8_init 208 = .ok (.getfield 52, 3) := by decide +kernel
theorem dX8_init_211 : decode cX8_init 211 = .ok (.iload_n 1, 1) := by decide +kernel
theorem dX8_init_212 : decode cX8_init 212 = .ok (.new 50, 3) := by decide +kernel
theorem dX8_init_215 : decode cX8_init 215 = .ok (.dup, 1) := by decide +kernel
theorem dX8_init_216 : decode cX8_init 216 = .ok (.invokespecial 94, 3) := by decide +kernel
theorem dX8_init_219 : decode cX8_init 219 = .ok (.aastore, 1) := by decide +kernel
theorem dX8_init_220 : decode cX8_init 220 = .ok (.iinc 1 1, 3) := by decide +kernel
theorem dX8_init_223 : decode cX8_init 223 = .ok (.goto (-22), 3) := by decide +kernel
theorem dX8_init_226 : decode cX8_init 226 = .ok (.return_, 1) := by decide +kernel
set_option maxRecDepth 20000 in
theorem ggX8_feed_X5_take : GoodIn wsX8_feed wsX5_take := goodIn_r _ [7, 8, 9, 10, 27, 28, 29, 30, 31, 32] (by decide +kernel) (by decide +kernel)
set_option maxRecDepth 20000 in
theorem gX8_feed_X5_take : GoodIn wsX8_feed (wsV RX8 96 RX5 yX5_take wsX5_take) := goodIn_app (goodIn_of _ (by decide +kernel)) ggX8_feed_X5_take
theorem dX8_feed_0 : decode cX8_feed 0 = .ok (.iload_n 1, 1) := by decide +kernel
theorem dX8_feed_1 : decode cX8_feed 1 = .ok (.iconst 1, 1) := by decide +kernel
theorem dX8_feed_2 : decode cX8_feed 2 = .ok (.if_icmp .lt 9, 3) := by decide +kernel
theorem dX8_feed_5 : decode cX8_feed 5 = .ok (.iload_n 1, 1) := by decide +kernel
theorem dX8_feed_6 : decode cX8_feed 6 = .ok (.bipush 8, 2) := by decide +kernel
theorem dX8_feed_8 : decode cX8_feed 8 = .ok (.if_icmp .le 6, 3) := by decide +kernel
theorem dX8_feed_11 : decode cX8_feed 11 = .ok (.ldc 95, 2) := by decide +kernel
theorem dX8_feed_13 : decode cX8_feed 13 = .ok (.ireturn, 1) := by decide +kernel
theorem dX8_feed_14 : decode cX8_feed 14 = .ok (.aload_n 0, 1) := by decide +kernel
theorem dX8_feed_15 : decode cX8_feed 15 = .ok (.getfield 10, 3) := by decide +kernel
theorem dX8_feed_18 : decode cX8_feed 18 = .ok (.iload_n 1, 1) := by decide +kernel
theorem dX8_feed_19 : decode cX8_feed 19 = .ok (.lload_n 2, 1) := by decide +kernel
theorem dX8_feed_20 : decode cX8_feed 20 = .ok (.invokevirtual 96, 3) := by decide +kernel
theorem dX8_feed_23 : decode cX8_feed 23 = .ok (.ireturn, 1) := by decide +kernel
set_option maxRecDepth 20000 in
theorem ggX8_tongue_X5_read : GoodIn wsX8_tongue wsX5_read := goodIn_r _ [13, 14, 15, 16, 17, 18, 19, 20, 21, 22, 23, 24, 25, 26, 27, 28, 29, 30, 31, 32, 33, 34, 35, 36, 12, 37, 38, 39, 40, 41, 42, 43, 44, 45, 46, 47, 48, 49, 50, 51, 52, 53, 54, 55, 56, 57, 58, 59, 60, 61, 62, 63, 64, 65, 66, 67, 68, 69, 70, 71, 72, 73, 74, 75, 76, 77, 78, 79, 80, 81, 82, 83, 84, 85, 86, 87, 88, 89, 90, 91, 92, 93, 94, 95, 96, 97, 98, 99, 100, 101, 102, 103, 104, 105, 106, 107, 108, 109, 110, 111, 112, 113, 114, 115, 116, 117, 118, 119, 120, 121, 122, 123, 124, 125, 126, 127, 128, 129, 130, 131, 132, 133, 134, 135, 136, 137, 138, 139, 140, 141, 142, 143, 144, 145, 146, 147, 148, 149, 150, 151, 152, 153, 154, 155, 156, 157, 270, 271, 272, 273, 274, 275, 276, 277, 278, 279, 280, 281, 282, 283, 284, 285] (by decide +kernel) (by decide +kernel)
set_option maxRecDepth 20000 in
theorem gX8_tongue_X5_read : GoodIn wsX8_tongue (wsV RX8 100 RX5 yX5_read wsX5_read) := goodIn_app (goodIn_of _ (by decide +kernel)) ggX8_tongue_X5_read
set_option maxRecDepth 20000 in
theorem ggX8_tongue_X3_lay : GoodIn wsX8_tongue wsX3_lay := goodIn_r _ [162, 163, 164, 165, 166, 167, 168, 169, 170, 171, 172, 21, 173, 174, 24, 23, 175, 176, 177, 161, 178, 179, 180, 181, 182, 183, 184, 133, 27, 185, 186, 187, 188, 189, 190, 191, 192, 151, 152, 153, 263, 264, 265, 266, 267, 268, 269, 276, 277, 278, 279, 280, 281, 282, 283, 284, 285] (by decide +kernel) (by decide +kernel)
set_option maxRecDepth 20000 in
theorem gX8_tongue_X3_lay : GoodIn wsX8_tongue (wsV RX8 104 RX3 yX3_lay wsX3_lay) := goodIn_app (goodIn_of _ (by decide +kernel)) ggX8_tongue_X3_lay
set_option maxRecDepth 20000 in
theorem ggX8_tongue_X8_makeRoom : GoodIn wsX8_tongue wsX8_makeRoom := goodIn_r _ [197, 198, 199, 200, 201, 202, 203, 204, 205, 206, 207, 208, 209, 180, 210, 211, 212, 213, 214, 215, 216, 217, 218, 219, 220, 221, 222, 223, 224, 225, 226, 227, 228, 229, 247, 248, 249, 250, 251, 252, 253, 254, 255, 256, 257, 258, 259, 260, 261, 262, 286, 287, 288, 289, 290, 291, 292, 293, 294, 295, 296, 297] (by decide +kernel) (by decide +kernel)
set_option maxRecDepth 20000 in
theorem gX8_tongue_X8_makeRoom : GoodIn wsX8_tongue (wsV RX8 110 RX8 yX8_makeRoom wsX8_makeRoom) := goodIn_app (goodIn_of _ (by decide +kernel)) ggX8_tongue_X8_makeRoom
set_option maxRecDepth 20000 in
theorem ggX8_tongue_X0_restart : GoodIn wsX8_tongue wsX0_restart := goodIn_r _ [234, 235, 236, 237, 238, 239, 240, 31, 32, 33, 298, 299, 300, 301, 302, 303, 304, 305, 306] (by decide +kernel) (by decide +kernel)
set_option maxRecDepth 20000 in
theorem gX8_tongue_X0_restart : GoodIn wsX8_tongue (wsV RX8 113 RX0 yX0_restart wsX0_restart) := goodIn_app (goodIn_of _ (by decide +kernel)) ggX8_tongue_X0_restart
set_option maxRecDepth 20000 in
theorem ggX8_tongue_X6_empty : GoodIn wsX8_tongue wsX6_empty := goodIn_r _ [244, 245, 286, 287] (by decide +kernel) (by decide +kernel)
set_option maxRecDepth 20000 in
theorem gX8_tongue_X6_empty : GoodIn wsX8_tongue (wsV RX8 119 RX6 yX6_empty wsX6_empty) := goodIn_app (goodIn_of _ (by decide +kernel)) ggX8_tongue_X6_empty
set_option maxRecDepth 20000 in
theorem ggX8_tongue_J7_fill_53178 : GoodIn wsX8_tongue wsJ7_fill_53178 := goodIn_r _ [33] (by decide +kernel) (by decide +kernel)
set_option maxRecDepth 20000 in
theorem gX8_tongue_J7_fill_53178 : GoodIn wsX8_tongue (va_wsS RX8 122 yJ7_fill_53178 wsJ7_fill_53178) := goodIn_app (goodIn_of _ (by decide +kernel)) ggX8_tongue_J7_fill_53178
theorem dX8_tongue_0 : decode cX8_tongue 0 = .ok (.aload_n 0, 1) := by decide +kernel
theorem dX8_tongue_1 : decode cX8_tongue 1 = .ok (.getfield 10, 3) := by decide +kernel
theorem dX8_tongue_4 : decode cX8_tongue 4 = .ok (.aload_n 0, 1) := by decide +kernel
theorem dX8_tongue_5 : decode cX8_tongue 5 = .ok (.getfield 23, 3) := by decide +kernel
theorem dX8_tongue_8 : decode cX8_tongue 8 = .ok (.invokevirtual 100, 3) := by decide +kernel
theorem dX8_tongue_11 : decode cX8_tongue 11 = .ok (.istore_n 1, 1) := by decide +kernel
theorem dX8_tongue_12 : decode cX8_tongue 12 = .ok (.iload_n 1, 1) := by decide +kernel
theorem dX8_tongue_13 : decode cX8_tongue 13 = .ok (.ifCond .eq 8, 3) := by decide +kernel
theorem dX8_tongue_16 : decode cX8_tongue 16 = .ok (.bipush (-10), 2) := by decide +kernel
theorem dX8_tongue_18 : decode cX8_tongue 18 = .ok (.iload_n 1, 1) := by decide +kernel
theorem dX8_tongue_19 : decode cX8_tongue 19 = .ok (.isub, 1) := by decide +kernel
theorem dX8_tongue_20 : decode cX8_tongue 20 = .ok (.ireturn, 1) := by decide +kernel
theorem dX8_tongue_21 : decode cX8_tongue 21 = .ok (.aload_n 0, 1) := by decide +kernel
theorem dX8_tongue_22 : decode cX8_tongue 22 = .ok (.getfield 19, 3) := by decide +kernel
theorem dX8_tongue_25 : decode cX8_tongue 25 = .ok (.astore_n 2, 1) := by decide +kernel
theorem dX8_tongue_26 : decode cX8_tongue 26 = .ok (.aload_n 0, 1) := by decide +kernel
theorem dX8_tongue_27 : decode cX8_tongue 27 = .ok (.aload_n 0, 1) := by decide +kernel
theorem dX8_tongue_28 : decode cX8_tongue 28 = .ok (.getfield 23, 3) := by decide +kernel
theorem dX8_tongue_31 : decode cX8_tongue 31 = .ok (.putfield 19, 3) := by decide +kernel
theorem dX8_tongue_34 : decode cX8_tongue 34 = .ok (.aload_n 0, 1) := by decide +kernel
theorem dX8_tongue_35 : decode cX8_tongue 35 = .ok (.aload_n 2, 1) := by decide +kernel
theorem dX8_tongue_36 : decode cX8_tongue 36 = .ok (.putfield 23, 3) := by decide +kernel
theorem dX8_tongue_39 : decode cX8_tongue 39 = .ok (.aload_n 0, 1) := by decide +kernel
theorem dX8_tongue_40 : decode cX8_tongue 40 = .ok (.getfield 31, 3) := by decide +kernel
theorem dX8_tongue_43 : decode cX8_tongue 43 = .ok (.aload_n 0, 1) := by decide +kernel
theorem dX8_tongue_44 : decode cX8_tongue 44 = .ok (.getfield 19, 3) := by decide +kernel
theorem dX8_tongue_47 : decode cX8_tongue 47 = .ok (.invokevirtual 104, 3) := by decide +kernel
theorem dX8_tongue_50 : decode cX8_tongue 50 = .ok (.aload_n 0, 1) := by decide +kernel
theorem dX8_tongue_51 : decode cX8_tongue 51 = .ok (.aload_n 0, 1) := by decide +kernel
theorem dX8_tongue_52 : decode cX8_tongue 52 = .ok (.getfield 31, 3) := by decide +kernel
theorem dX8_tongue_55 : decode cX8_tongue 55 = .ok (.getfield 107, 3) := by decide +kernel
theorem dX8_tongue_58 : decode cX8_tongue 58 = .ok (.invokevirtual 110, 3) := by decide +kernel
theorem dX8_tongue_61 : decode cX8_tongue 61 = .ok (.aload_n 0, 1) := by decide +kernel
theorem dX8_tongue_62 : decode cX8_tongue 62 = .ok (.getfield 38, 3) := by decide +kernel
theorem dX8_tongue_65 : decode cX8_tongue 65 = .ok (.invokevirtual 113, 3) := by decide +kernel
theorem dX8_tongue_68 : decode cX8_tongue 68 = .ok (.aload_n 0, 1) := by decide +kernel
theorem dX8_tongue_69 : decode cX8_tongue 69 = .ok (.iconst 0, 1) := by decide +kernel
theorem dX8_tongue_70 : decode cX8_tongue 70 = .ok (.putfield 116, 3) := by decide +kernel
theorem dX8_tongue_73 : decode cX8_tongue 73 = .ok (.aload_n 0, 1) := by decide +kernel
theorem dX8_tongue_74 : decode cX8_tongue 74 = .ok (.getfield 61, 3) := by decide +kernel
theorem dX8_tongue_77 : decode cX8_tongue 77 = .ok (.invokevirtual 119, 3) := by decide +kernel
theorem dX8_tongue_80 : decode cX8_tongue 80 = .ok (.aload_n 0, 1) := by decide +kernel
theorem dX8_tongue_81 : decode cX8_tongue 81 = .ok (.getfield 46, 3) := by decide +kernel
theorem dX8_tongue_84 : decode cX8_tongue 84 = .ok (.iconst 0, 1) := by decide +kernel
theorem dX8_tongue_85 : decode cX8_tongue 85 = .ok (.invokestatic 122, 3) := by decide +kernel
theorem dX8_tongue_88 : decode cX8_tongue 88 = .ok (.aload_n 0, 1) := by decide +kernel
theorem dX8_tongue_89 : decode cX8_tongue 89 = .ok (.getfield 31, 3) := by decide +kernel
theorem dX8_tongue_92 : decode cX8_tongue 92 = .ok (.getfield 107, 3) := by decide +kernel
theorem dX8_tongue_95 : decode cX8_tongue 95 = .ok (.ireturn, 1) := by decide +kernel
theorem dX8_fault_0 : decode cX8_fault 0 = .ok (.aload_n 0, 1) := by decide +kernel
theorem dX8_fault_1 : decode cX8_fault 1 = .ok (.getfield 10, 3) := by decide +kernel
theorem dX8_fault_4 : decode cX8_fault 4 = .ok (.getfield 128, 3) := by decide +kernel
theorem dX8_fault_7 : decode cX8_fault 7 = .ok (.ireturn, 1) := by decide +kernel
theorem dX8_told_0 : decode cX8_told 0 = .ok (.iload_n 1, 1) := by decide +kernel
theorem dX8_told_1 : decode cX8_told 1 = .ok (.tableswitch 188 0 13 #[71, 79, 87, 95, 103, 111, 119, 127, 135, 143, 159, 167, 172, 180], 71) := by decide +kernel
theorem dX8_told_72 : decode cX8_told 72 = .ok (.aload_n 0, 1) := by decide +kernel
theorem dX8_told_73 : decode cX8_told 73 = .ok (.getfield 19, 3) := by decide +kernel
theorem dX8_told_76 : decode cX8_told 76 = .ok (.getfield 131, 3) := by decide +kernel
theorem dX8_told_79 : decode cX8_told 79 = .ok (.ireturn, 1) := by decide +kernel
theorem dX8_told_80 : decode cX8_told 80 = .ok (.aload_n 0, 1) := by decide +kernel
theorem dX8_told_81 : decode cX8_told 81 = .ok (.getfield 19, 3) := by decide +kernel
theorem dX8_told_84 : decode cX8_told 84 = .ok (.getfield 134, 3) := by decide +kernel
theorem dX8_told_87 : decode cX8_told 87 = .ok (.ireturn, 1) := by decide +kernel
theorem dX8_told_88 : decode cX8_told 88 = .ok (.aload_n 0, 1) := by decide +kernel
theorem dX8_told_89 : decode cX8_told 89 = .ok (.getfield 19, 3) := by decide +kernel
theorem dX8_told_92 : decode cX8_told 92 = .ok (.getfield 137, 3) := by decide +kernel
theorem dX8_told_95 : decode cX8_told 95 = .ok (.ireturn, 1) := by decide +kernel
theorem dX8_told_96 : decode cX8_told 96 = .ok (.aload_n 0, 1) := by decide +kernel
theorem dX8_told_97 : decode cX8_told 97 = .ok (.getfield 19, 3) := by decide +kernel
theorem dX8_told_100 : decode cX8_told 100 = .ok (.getfield 140, 3) := by decide +kernel
theorem dX8_told_103 : decode cX8_told 103 = .ok (.ireturn, 1) := by decide +kernel
theorem dX8_told_104 : decode cX8_told 104 = .ok (.aload_n 0, 1) := by decide +kernel
theorem dX8_told_105 : decode cX8_told 105 = .ok (.getfield 10, 3) := by decide +kernel
theorem dX8_told_108 : decode cX8_told 108 = .ok (.getfield 143, 3) := by decide +kernel
theorem dX8_told_111 : decode cX8_told 111 = .ok (.ireturn, 1) := by decide +kernel
theorem dX8_told_112 : decode cX8_told 112 = .ok (.aload_n 0, 1) := by decide +kernel
theorem dX8_told_113 : decode cX8_told 113 = .ok (.getfield 38, 3) := by decide +kernel
theorem dX8_told_116 : decode cX8_told 116 = .ok (.getfield 144, 3) := by decide +kernel
theorem dX8_told_119 : decode cX8_told 119 = .ok (.ireturn, 1) := by decide +kernel
theorem dX8_told_120 : decode cX8_told 120 = .ok (.aload_n 0, 1) := by decide +kernel
theorem dX8_told_121 : decode cX8_told 121 = .ok (.getfield 38, 3) := by decide +kernel
theorem dX8_told_124 : decode cX8_told 124 = .ok (.getfield 147, 3) := by decide +kernel
theorem dX8_told_127 : decode cX8_told 127 = .ok (.ireturn, 1) := by decide +kernel
theorem dX8_told_128 : decode cX8_told 128 = .ok (.aload_n 0, 1) := by decide +kernel
theorem dX8_told_129 : decode cX8_told 129 = .ok (.getfield 38, 3) := by decide +kernel
theorem dX8_told_132 : decode cX8_told 132 = .ok (.getfield 150, 3) := by decide +kernel
theorem dX8_told_135 : decode cX8_told 135 = .ok (.ireturn, 1) := by decide +kernel
theorem dX8_told_136 : decode cX8_told 136 = .ok (.aload_n 0, 1) := by decide +kernel
theorem dX8_told_137 : decode cX8_told 137 = .ok (.getfield 38, 3) := by decide +kernel
theorem dX8_told_140 : decode cX8_told 140 = .ok (.getfield 153, 3) := by decide +kernel
theorem dX8_told_143 : decode cX8_told 143 = .ok (.ireturn, 1) := by decide +kernel
theorem dX8_told_144 : decode cX8_told 144 = .ok (.aload_n 0, 1) := by decide +kernel
theorem dX8_told_145 : decode cX8_told 145 = .ok (.getfield 38, 3) := by decide +kernel
theorem dX8_told_148 : decode cX8_told 148 = .ok (.getfield 156, 3) := by decide +kernel
theorem dX8_told_151 : decode cX8_told 151 = .ok (.ifCond .eq 7, 3) := by decide +kernel
theorem dX8_told_154 : decode cX8_told 154 = .ok (.iconst 1, 1) := by decide +kernel
theorem dX8_told_155 : decode cX8_told 155 = .ok (.goto 4, 3) := by decide +kernel
theorem dX8_told_158 : decode cX8_told 158 = .ok (.iconst 0, 1) := by decide +kernel
theorem dX8_told_159 : decode cX8_told 159 = .ok (.ireturn, 1) := by decide +kernel
theorem dX8_told_160 : decode cX8_told 160 = .ok (.aload_n 0, 1) := by decide +kernel
theorem dX8_told_161 : decode cX8_told 161 = .ok (.getfield 38, 3) := by decide +kernel
theorem dX8_told_164 : decode cX8_told 164 = .ok (.getfield 160, 3) := by decide +kernel
theorem dX8_told_167 : decode cX8_told 167 = .ok (.ireturn, 1) := by decide +kernel
theorem dX8_told_168 : decode cX8_told 168 = .ok (.aload_n 0, 1) := by decide +kernel
theorem dX8_told_169 : decode cX8_told 169 = .ok (.getfield 116, 3) := by decide +kernel
theorem dX8_told_172 : decode cX8_told 172 = .ok (.ireturn, 1) := by decide +kernel
theorem dX8_told_173 : decode cX8_told 173 = .ok (.aload_n 0, 1) := by decide +kernel
theorem dX8_told_174 : decode cX8_told 174 = .ok (.getfield 61, 3) := by decide +kernel
theorem dX8_told_177 : decode cX8_told 177 = .ok (.getfield 163, 3) := by decide +kernel
theorem dX8_told_180 : decode cX8_told 180 = .ok (.ireturn, 1) := by decide +kernel
theorem dX8_told_181 : decode cX8_told 181 = .ok (.aload_n 0, 1) := by decide +kernel
theorem dX8_told_182 : decode cX8_told 182 = .ok (.getfield 31, 3) := by decide +kernel
theorem dX8_told_185 : decode cX8_told 185 = .ok (.getfield 166, 3) := by decide +kernel
theorem dX8_told_188 : decode cX8_told 188 = .ok (.ireturn, 1) := by decide +kernel
theorem dX8_told_189 : decode cX8_told 189 = .ok (.ldc 95, 2) := by decide +kernel
theorem dX8_told_191 : decode cX8_told 191 = .ok (.ireturn, 1) := by decide +kernel
set_option maxRecDepth 20000 in
theorem ggX8_word_X8_isWord : GoodIn wsX8_word wsX8_isWord := goodIn_r _ [8, 3, 9, 10, 11, 12, 13, 14, 15, 16, 17, 18, 19, 20, 21, 22, 23, 24, 25, 26, 27, 28, 29, 30, 31, 32, 33, 34] (by decide +kernel) (by decide +kernel)
set_option maxRecDepth 20000 in
theorem gX8_word_X8_isWord : GoodIn wsX8_word (wsV RX8 169 RX8 yX8_isWord wsX8_isWord) := goodIn_app (goodIn_of _ (by decide +kernel)) ggX8_word_X8_isWord
theorem dX8_word_0 : decode cX8_word 0 = .ok (.aload_n 0, 1) := by decide +kernel
theorem dX8_word_1 : decode cX8_word 1 = .ok (.iload_n 1, 1) := by decide +kernel
theorem dX8_word_2 : decode cX8_word 2 = .ok (.invokevirtual 169, 3) := by decide +kernel
theorem dX8_word_5 : decode cX8_word 5 = .ok (.ifCond .ne 6, 3) := by decide +kernel
theorem dX8_word_8 : decode cX8_word 8 = .ok (.ldc 173, 2) := by decide +kernel
theorem dX8_word_10 : decode cX8_word 10 = .ok (.ireturn, 1) := by decide +kernel
theorem dX8_word_11 : decode cX8_word 11 = .ok (.iload_n 2, 1) := by decide +kernel
theorem dX8_word_12 : decode cX8_word 12 = .ok (.ifCond .lt 8, 3) := by decide +kernel
theorem dX8_word_15 : decode cX8_word 15 = .ok (.iload_n 2, 1) := by decide +kernel
theorem dX8_word_16 : decode cX8_word 16 = .ok (.iconst 2, 1) := by decide +kernel
theorem dX8_word_17 : decode cX8_word 17 = .ok (.if_icmp .le 6, 3) := by decide +kernel
theorem dX8_word_20 : decode cX8_word 20 = .ok (.ldc 95, 2) := by decide +kernel
theorem dX8_word_22 : decode cX8_word 22 = .ok (.ireturn, 1) := by decide +kernel
theorem dX8_word_23 : decode cX8_word 23 = .ok (.iload_n 2, 1) := by decide +kernel
theorem dX8_word_24 : decode cX8_word 24 = .ok (.ifCond .ne 15, 3) := by decide +kernel
theorem dX8_word_27 : decode cX8_word 27 = .ok (.aload_n 0, 1) := by decide +kernel
theorem dX8_word_28 : decode cX8_word 28 = .ok (.getfield 19, 3) := by decide +kernel
theorem dX8_word_31 : decode cX8_word 31 = .ok (.getfield 174, 3) := by decide +kernel
theorem dX8_word_34 : decode cX8_word 34 = .ok (.iload_n 1, 1) := by decide +kernel
theorem dX8_word_35 : decode cX8_word 35 = .ok (.iaload, 1) := by decide +kernel
theorem dX8_word_36 : decode cX8_word 36 = .ok (.goto 16, 3) := by decide +kernel
theorem dX8_word_39 : decode cX8_word 39 = .ok (.aload_n 0, 1) := by decide +kernel
theorem dX8_word_40 : decode cX8_word 40 = .ok (.getfield 19, 3) := by decide +kernel
theorem dX8_word_43 : decode cX8_word 43 = .ok (.getfield 177, 3) := by decide +kernel
theorem dX8_word_46 : decode cX8_word 46 = .ok (.iload_n 2, 1) := by decide +kernel
theorem dX8_word_47 : decode cX8_word 47 = .ok (.iconst 1, 1) := by decide +kernel
theorem dX8_word_48 : decode cX8_word 48 = .ok (.isub, 1) := by decide +kernel
theorem dX8_word_49 : decode cX8_word 49 = .ok (.aaload, 1) := by decide +kernel
theorem dX8_word_50 : decode cX8_word 50 = .ok (.iload_n 1, 1) := by decide +kernel
theorem dX8_word_51 : decode cX8_word 51 = .ok (.iaload, 1) := by decide +kernel
theorem dX8_word_52 : decode cX8_word 52 = .ok (.ireturn, 1) := by decide +kernel
set_option maxRecDepth 20000 in
theorem ggX8_at_X8_isLetter : GoodIn wsX8_at wsX8_isLetter := goodIn_r _ [7, 8, 17, 18, 19, 20, 21, 22, 23, 24, 25, 26, 27, 28, 29, 30, 31, 32, 43, 44, 45, 46, 47, 48, 49] (by decide +kernel) (by decide +kernel)
set_option maxRecDepth 20000 in
theorem gX8_at_X8_isLetter : GoodIn wsX8_at (wsV RX8 181 RX8 yX8_isLetter wsX8_isLetter) := goodIn_app (goodIn_of _ (by decide +kernel)) ggX8_at_X8_isLetter
set_option maxRecDepth 20000 in
theorem ggX8_at_X7_wordAt : GoodIn wsX8_at wsX7_wordAt := goodIn_r _ [13, 14, 15, 16, 33, 34, 35, 36, 37, 38, 39, 40, 41, 42] (by decide +kernel) (by decide +kernel)
set_option maxRecDepth 20000 in
theorem gX8_at_X7_wordAt : GoodIn wsX8_at (wsV RX8 184 RX7 yX7_wordAt wsX7_wordAt) := goodIn_app (goodIn_of _ (by decide +kernel)) ggX8_at_X7_wordAt
theorem dX8_at_0 : decode cX8_at 0 = .ok (.aload_n 0, 1) := by decide +kernel
theorem dX8_at_1 : decode cX8_at 1 = .ok (.iload_n 1, 1) := by decide +kernel
theorem dX8_at_2 : decode cX8_at 2 = .ok (.invokevirtual 181, 3) := by decide +kernel
theorem dX8_at_5 : decode cX8_at 5 = .ok (.ifCond .eq 18, 3) := by decide +kernel
theorem dX8_at_8 : decode cX8_at 8 = .ok (.iload_n 2, 1) := by decide +kernel
theorem dX8_at_9 : decode cX8_at 9 = .ok (.ifCond .lt 14, 3) := by decide +kernel
theorem dX8_at_12 : decode cX8_at 12 = .ok (.iload_n 2, 1) := by decide +kernel
theorem dX8_at_13 : decode cX8_at 13 = .ok (.aload_n 0, 1) := by decide +kernel
theorem dX8_at_14 : decode cX8_at 14 = .ok (.getfield 19, 3) := by decide +kernel
theorem dX8_at_17 : decode cX8_at 17 = .ok (.getfield 131, 3) := by decide +kernel
theorem dX8_at_20 : decode cX8_at 20 = .ok (.if_icmp .lt 6, 3) := by decide +kernel
theorem dX8_at_23 : decode cX8_at 23 = .ok (.ldc 95, 2) := by decide +kernel
theorem dX8_at_25 : decode cX8_at 25 = .ok (.ireturn, 1) := by decide +kernel
theorem dX8_at_26 : decode cX8_at 26 = .ok (.aload_n 0, 1) := by decide +kernel
theorem dX8_at_27 : decode cX8_at 27 = .ok (.getfield 19, 3) := by decide +kernel
theorem dX8_at_30 : decode cX8_at 30 = .ok (.iload_n 1, 1) := by decide +kernel
theorem dX8_at_31 : decode cX8_at 31 = .ok (.iload_n 2, 1) := by decide +kernel
theorem dX8_at_32 : decode cX8_at 32 = .ok (.invokevirtual 184, 3) := by decide +kernel
theorem dX8_at_35 : decode cX8_at 35 = .ok (.ireturn, 1) := by decide +kernel
set_option maxRecDepth 20000 in
theorem ggX8_stands_X8_isLetter : GoodIn wsX8_stands wsX8_isLetter := goodIn_r _ [7, 2, 15, 16, 17, 18, 19, 20, 21, 22, 23, 24, 25, 26, 27, 28, 29, 30, 31, 32, 33, 34, 35, 36, 37] (by decide +kernel) (by decide +kernel)
set_option maxRecDepth 20000 in
theorem gX8_stands_X8_isLetter : GoodIn wsX8_stands (wsV RX8 181 RX8 yX8_isLetter wsX8_isLetter) := goodIn_app (goodIn_of _ (by decide +kernel)) ggX8_stands_X8_isLetter
set_option maxRecDepth 20000 in
theorem ggX8_stands_X3_isSense : GoodIn wsX8_stands wsX3_isSense := goodIn_r _ [12, 13, 14, 31, 32, 33, 34, 35, 36, 37] (by decide +kernel) (by decide +kernel)
set_option maxRecDepth 20000 in
theorem gX8_stands_X3_isSense : GoodIn wsX8_stands (wsV RX8 188 RX3 yX3_isSense wsX3_isSense) := goodIn_app (goodIn_of _ (by decide +kernel)) ggX8_stands_X3_isSense
theorem dX8_stands_0 : decode cX8_stands 0 = .ok (.aload_n 0, 1) := by decide +kernel
theorem dX8_stands_1 : decode cX8_stands 1 = .ok (.iload_n 1, 1) := by decide +kernel
theorem dX8_stands_2 : decode cX8_stands 2 = .ok (.invokevirtual 181, 3) := by decide +kernel
theorem dX8_stands_5 : decode cX8_stands 5 = .ok (.ifCond .ne 6, 3) := by decide +kernel
theorem dX8_stands_8 : decode cX8_stands 8 = .ok (.ldc 95, 2) := by decide +kernel
theorem dX8_stands_10 : decode cX8_stands 10 = .ok (.ireturn, 1) := by decide +kernel
theorem dX8_stands_11 : decode cX8_stands 11 = .ok (.aload_n 0, 1) := by decide +kernel
theorem dX8_stands_12 : decode cX8_stands 12 = .ok (.getfield 31, 3) := by decide +kernel
theorem dX8_stands_15 : decode cX8_stands 15 = .ok (.iload_n 1, 1) := by decide +kernel
theorem dX8_stands_16 : decode cX8_stands 16 = .ok (.invokevirtual 188, 3) := by decide +kernel
theorem dX8_stands_19 : decode cX8_stands 19 = .ok (.ifCond .eq 7, 3) := by decide +kernel
theorem dX8_stands_22 : decode cX8_stands 22 = .ok (.iconst 1, 1) := by decide +kernel
theorem dX8_stands_23 : decode cX8_stands 23 = .ok (.goto 4, 3) := by decide +kernel
theorem dX8_stands_26 : decode cX8_stands 26 = .ok (.iconst 0, 1) := by decide +kernel
theorem dX8_stands_27 : decode cX8_stands 27 = .ok (.ireturn, 1) := by decide +kernel
set_option maxRecDepth 20000 in
theorem ggX8_worth_X8_isHouse : GoodIn wsX8_worth wsX8_isHouse := goodIn_r _ [7] (by decide +kernel) (by decide +kernel)
set_option maxRecDepth 20000 in
theorem gX8_worth_X8_isHouse : GoodIn wsX8_worth (va_wsS RX8 191 yX8_isHouse wsX8_isHouse) := goodIn_app (goodIn_of _ (by decide +kernel)) ggX8_worth_X8_isHouse
set_option maxRecDepth 20000 in
theorem ggX8_worth_X8_isLetter : GoodIn wsX8_worth wsX8_isLetter := goodIn_r _ [11, 3, 20, 21, 22, 23, 24, 25, 26, 27, 28, 29, 30, 31, 32, 33, 34, 35, 36, 37, 38, 39, 40, 41, 42] (by decide +kernel) (by decide +kernel)
set_option maxRecDepth 20000 in
theorem gX8_worth_X8_isLetter : GoodIn wsX8_worth (wsV RX8 181 RX8 yX8_isLetter wsX8_isLetter) := goodIn_app (goodIn_of _ (by decide +kernel)) ggX8_worth_X8_isLetter
set_option maxRecDepth 20000 in
theorem ggX8_worth_X3_worthTo : GoodIn wsX8_worth wsX3_worthTo := goodIn_r _ [16, 17, 18, 19, 36, 37, 38, 39, 40, 41, 42] (by decide +kernel) (by decide +kernel)
set_option maxRecDepth 20000 in
theorem gX8_worth_X3_worthTo : GoodIn wsX8_worth (wsV RX8 194 RX3 yX3_worthTo wsX3_worthTo) := goodIn_app (goodIn_of _ (by decide +kernel)) ggX8_worth_X3_worthTo
theorem dX8_worth_0 : decode cX8_worth 0 = .ok (.iload_n 1, 1) := by decide +kernel
theorem dX8_worth_1 : decode cX8_worth 1 = .ok (.invokestatic 191, 3) := by decide +kernel
theorem dX8_worth_4 : decode cX8_worth 4 = .ok (.ifCond .ne 6, 3) := by decide +kernel
theorem dX8_worth_7 : decode cX8_worth 7 = .ok (.ldc 173, 2) := by decide +kernel
theorem dX8_worth_9 : decode cX8_worth 9 = .ok (.ireturn, 1) := by decide +kernel
theorem dX8_worth_10 : decode cX8_worth 10 = .ok (.aload_n 0, 1) := by decide +kernel
theorem dX8_worth_11 : decode cX8_worth 11 = .ok (.iload_n 2, 1) := by decide +kernel
theorem dX8_worth_12 : decode cX8_worth 12 = .ok (.invokevirtual 181, 3) := by decide +kernel
theorem dX8_worth_15 : decode cX8_worth 15 = .ok (.ifCond .ne 6, 3) := by decide +kernel
theorem dX8_worth_18 : decode cX8_worth 18 = .ok (.ldc 95, 2) := by decide +kernel
theorem dX8_worth_20 : decode cX8_worth 20 = .ok (.ireturn, 1) := by decide +kernel
theorem dX8_worth_21 : decode cX8_worth 21 = .ok (.aload_n 0, 1) := by decide +kernel
theorem dX8_worth_22 : decode cX8_worth 22 = .ok (.getfield 31, 3) := by decide +kernel
theorem dX8_worth_25 : decode cX8_worth 25 = .ok (.iload_n 1, 1) := by decide +kernel
theorem dX8_worth_26 : decode cX8_worth 26 = .ok (.iload_n 2, 1) := by decide +kernel
theorem dX8_worth_27 : decode cX8_worth 27 = .ok (.invokevirtual 194, 3) := by decide +kernel
theorem dX8_worth_30 : decode cX8_worth 30 = .ok (.ireturn, 1) := by decide +kernel
theorem dX8_law_0 : decode cX8_law 0 = .ok (.iload_n 1, 1) := by decide +kernel
theorem dX8_law_1 : decode cX8_law 1 = .ok (.ifCond .lt 8, 3) := by decide +kernel
theorem dX8_law_4 : decode cX8_law 4 = .ok (.iload_n 1, 1) := by decide +kernel
theorem dX8_law_5 : decode cX8_law 5 = .ok (.iconst 2, 1) := by decide +kernel
theorem dX8_law_6 : decode cX8_law 6 = .ok (.if_icmp .le 6, 3) := by decide +kernel
theorem dX8_law_9 : decode cX8_law 9 = .ok (.ldc 95, 2) := by decide +kernel
theorem dX8_law_11 : decode cX8_law 11 = .ok (.ireturn, 1) := by decide +kernel
theorem dX8_law_12 : decode cX8_law 12 = .ok (.aload_n 0, 1) := by decide +kernel
theorem dX8_law_13 : decode cX8_law 13 = .ok (.getfield 38, 3) := by decide +kernel
theorem dX8_law_16 : decode cX8_law 16 = .ok (.getfield 144, 3) := by decide +kernel
theorem dX8_law_19 : decode cX8_law 19 = .ok (.istore_n 2, 1) := by decide +kernel
theorem dX8_law_20 : decode cX8_law 20 = .ok (.aload_n 0, 1) := by decide +kernel
theorem dX8_law_21 : decode cX8_law 21 = .ok (.getfield 38, 3) := by decide +kernel
theorem dX8_law_24 : decode cX8_law 24 = .ok (.iload_n 1, 1) := by decide +kernel
theorem dX8_law_25 : decode cX8_law 25 = .ok (.putfield 144, 3) := by decide +kernel
theorem dX8_law_28 : decode cX8_law 28 = .ok (.iload_n 2, 1) := by decide +kernel
theorem dX8_law_29 : decode cX8_law 29 = .ok (.ireturn, 1) := by decide +kernel
theorem dX8_way_0 : decode cX8_way 0 = .ok (.iload_n 1, 1) := by decide +kernel
theorem dX8_way_1 : decode cX8_way 1 = .ok (.ifCond .lt 8, 3) := by decide +kernel
theorem dX8_way_4 : decode cX8_way 4 = .ok (.iload_n 1, 1) := by decide +kernel
theorem dX8_way_5 : decode cX8_way 5 = .ok (.iconst 1, 1) := by decide +kernel
theorem dX8_way_6 : decode cX8_way 6 = .ok (.if_icmp .le 6, 3) := by decide +kernel
theorem dX8_way_9 : decode cX8_way 9 = .ok (.ldc 95, 2) := by decide +kernel
theorem dX8_way_11 : decode cX8_way 11 = .ok (.ireturn, 1) := by decide +kernel
theorem dX8_way_12 : decode cX8_way 12 = .ok (.aload_n 0, 1) := by decide +kernel
theorem dX8_way_13 : decode cX8_way 13 = .ok (.getfield 38, 3) := by decide +kernel
theorem dX8_way_16 : decode cX8_way 16 = .ok (.getfield 147, 3) := by decide +kernel
theorem dX8_way_19 : decode cX8_way 19 = .ok (.istore_n 2, 1) := by decide +kernel
theorem dX8_way_20 : decode cX8_way 20 = .ok (.aload_n 0, 1) := by decide +kernel
theorem dX8_way_21 : decode cX8_way 21 = .ok (.getfield 38, 3) := by decide +kernel
theorem dX8_way_24 : decode cX8_way 24 = .ok (.iload_n 1, 1) := by decide +kernel
theorem dX8_way_25 : decode cX8_way 25 = .ok (.putfield 147, 3) := by decide +kernel
theorem dX8_way_28 : decode cX8_way 28 = .ok (.iload_n 2, 1) := by decide +kernel
theorem dX8_way_29 : decode cX8_way 29 = .ok (.ireturn, 1) := by decide +kernel
set_option maxRecDepth 20000 in
theorem ggX8_change_X8_isLetter : GoodIn wsX8_change wsX8_isLetter := goodIn_r _ [7, 8, 61, 62, 63, 64, 65, 66, 67, 68, 69, 70, 71, 72, 73, 74, 75, 76, 77, 78, 79, 80, 81, 82, 83] (by decide +kernel) (by decide +kernel)
set_option maxRecDepth 20000 in
theorem gX8_change_X8_isLetter : GoodIn wsX8_change (wsV RX8 181 RX8 yX8_isLetter wsX8_isLetter) := goodIn_app (goodIn_of _ (by decide +kernel)) ggX8_change_X8_isLetter
set_option maxRecDepth 20000 in
theorem ggX8_change_X8_listChanges : GoodIn wsX8_change wsX8_listChanges := goodIn_r _ [12, 8, 13, 2, 14, 15, 16, 17, 18, 19, 20, 21, 22, 23, 24, 25, 26, 27, 28, 29, 30, 31, 32, 33, 34, 35, 36, 37, 38, 39, 40, 41, 42, 43, 44, 45, 46, 47, 48, 49, 50, 51, 52, 61, 62, 63, 64, 65, 66, 67, 68, 69, 70, 71, 72, 73, 74, 75, 76, 84, 85, 86, 87, 88, 89, 90, 91, 92, 93, 94, 77, 78, 79, 80, 81, 82, 83, 95, 96, 97, 98, 99, 100, 101, 102, 103, 104] (by decide +kernel) (by decide +kernel)
set_option maxRecDepth 20000 in
theorem gX8_change_X8_listChanges : GoodIn wsX8_change (wsV RX8 197 RX8 yX8_listChanges wsX8_listChanges) := goodIn_app (goodIn_of _ (by decide +kernel)) ggX8_change_X8_listChanges
set_option maxRecDepth 20000 in
theorem ggX8_change_X6_countOrGet : GoodIn wsX8_change wsX6_countOrGet := goodIn_r _ [56, 24, 57, 58, 59, 22, 60, 48, 93, 94] (by decide +kernel) (by decide +kernel)
set_option maxRecDepth 20000 in
theorem gX8_change_X6_countOrGet : GoodIn wsX8_change (wsV RX8 200 RX6 yX6_countOrGet wsX6_countOrGet) := goodIn_app (goodIn_of _ (by decide +kernel)) ggX8_change_X6_countOrGet
theorem dX8_change_0 : decode cX8_change 0 = .ok (.aload_n 0, 1) := by decide +kernel
theorem dX8_change_1 : decode cX8_change 1 = .ok (.iload_n 1, 1) := by decide +kernel
theorem dX8_change_2 : decode cX8_change 2 = .ok (.invokevirtual 181, 3) := by decide +kernel
theorem dX8_change_5 : decode cX8_change 5 = .ok (.ifCond .ne 6, 3) := by decide +kernel
theorem dX8_change_8 : decode cX8_change 8 = .ok (.ldc 95, 2) := by decide +kernel
theorem dX8_change_10 : decode cX8_change 10 = .ok (.ireturn, 1) := by decide +kernel
theorem dX8_change_11 : decode cX8_change 11 = .ok (.aload_n 0, 1) := by decide +kernel
theorem dX8_change_12 : decode cX8_change 12 = .ok (.iload_n 1, 1) := by decide +kernel
theorem dX8_change_13 : decode cX8_change 13 = .ok (.invokevirtual 197, 3) := by decide +kernel
theorem dX8_change_16 : decode cX8_change 16 = .ok (.aload_n 0, 1) := by decide +kernel
theorem dX8_change_17 : decode cX8_change 17 = .ok (.getfield 65, 3) := by decide +kernel
theorem dX8_change_20 : decode cX8_change 20 = .ok (.iload_n 2, 1) := by decide +kernel
theorem dX8_change_21 : decode cX8_change 21 = .ok (.invokevirtual 200, 3) := by decide +kernel
theorem dX8_change_24 : decode cX8_change 24 = .ok (.ireturn, 1) := by decide +kernel
set_option maxRecDepth 20000 in
theorem ggX8_begin_X8_isHouse : GoodIn wsX8_begin wsX8_isHouse := goodIn_r _ [7] (by decide +kernel) (by decide +kernel)
set_option maxRecDepth 20000 in
theorem gX8_begin_X8_isHouse : GoodIn wsX8_begin (va_wsS RX8 191 yX8_isHouse wsX8_isHouse) := goodIn_app (goodIn_of _ (by decide +kernel)) ggX8_begin_X8_isHouse
set_option maxRecDepth 20000 in
theorem ggX8_begin_X8_isLetter : GoodIn wsX8_begin wsX8_isLetter := goodIn_r _ [11, 12, 13, 14, 15, 16, 17, 18, 19, 20, 21, 22, 23, 24, 25, 26, 27, 28, 38, 39, 40, 41, 42, 43, 44] (by decide +kernel) (by decide +kernel)
set_option maxRecDepth 20000 in
theorem gX8_begin_X8_isLetter : GoodIn wsX8_begin (wsV RX8 181 RX8 yX8_isLetter wsX8_isLetter) := goodIn_app (goodIn_of _ (by decide +kernel)) ggX8_begin_X8_isLetter
theorem dX8_begin_0 : decode cX8_begin 0 = .ok (.iload_n 2, 1) := by decide +kernel
theorem dX8_begin_1 : decode cX8_begin 1 = .ok (.invokestatic 191, 3) := by decide +kernel
theorem dX8_begin_4 : decode cX8_begin 4 = .ok (.ifCond .ne 6, 3) := by decide +kernel
theorem dX8_begin_7 : decode cX8_begin 7 = .ok (.ldc 173, 2) := by decide +kernel
theorem dX8_begin_9 : decode cX8_begin 9 = .ok (.ireturn, 1) := by decide +kernel
theorem dX8_begin_10 : decode cX8_begin 10 = .ok (.aload_n 0, 1) := by decide +kernel
theorem dX8_begin_11 : decode cX8_begin 11 = .ok (.iload_n 1, 1) := by decide +kernel
theorem dX8_begin_12 : decode cX8_begin 12 = .ok (.invokevirtual 181, 3) := by decide +kernel
theorem dX8_begin_15 : decode cX8_begin 15 = .ok (.ifCond .ne 6, 3) := by decide +kernel
theorem dX8_begin_18 : decode cX8_begin 18 = .ok (.ldc 95, 2) := by decide +kernel
theorem dX8_begin_20 : decode cX8_begin 20 = .ok (.ireturn, 1) := by decide +kernel
theorem dX8_begin_21 : decode cX8_begin 21 = .ok (.aload_n 0, 1) := by decide +kernel
theorem dX8_begin_22 : decode cX8_begin 22 = .ok (.getfield 38, 3) := by decide +kernel
theorem dX8_begin_25 : decode cX8_begin 25 = .ok (.getfield 150, 3) := by decide +kernel
theorem dX8_begin_28 : decode cX8_begin 28 = .ok (.istore_n 3, 1) := by decide +kernel
theorem dX8_begin_29 : decode cX8_begin 29 = .ok (.aload_n 0, 1) := by decide +kernel
theorem dX8_begin_30 : decode cX8_begin 30 = .ok (.getfield 38, 3) := by decide +kernel
theorem dX8_begin_33 : decode cX8_begin 33 = .ok (.iload_n 1, 1) := by decide +kernel
theorem dX8_begin_34 : decode cX8_begin 34 = .ok (.putfield 150, 3) := by decide +kernel
theorem dX8_begin_37 : decode cX8_begin 37 = .ok (.aload_n 0, 1) := by decide +kernel
theorem dX8_begin_38 : decode cX8_begin 38 = .ok (.getfield 38, 3) := by decide +kernel
theorem dX8_begin_41 : decode cX8_begin 41 = .ok (.iload_n 2, 1) := by decide +kernel
theorem dX8_begin_42 : decode cX8_begin 42 = .ok (.putfield 153, 3) := by decide +kernel
theorem dX8_begin_45 : decode cX8_begin 45 = .ok (.aload_n 0, 1) := by decide +kernel
theorem dX8_begin_46 : decode cX8_begin 46 = .ok (.getfield 38, 3) := by decide +kernel
theorem dX8_begin_49 : decode cX8_begin 49 = .ok (.iconst 0, 1) := by decide +kernel
theorem dX8_begin_50 : decode cX8_begin 50 = .ok (.putfield 156, 3) := by decide +kernel
theorem dX8_begin_53 : decode cX8_begin 53 = .ok (.iload_n 3, 1) := by decide +kernel
theorem dX8_begin_54 : decode cX8_begin 54 = .ok (.ireturn, 1) := by decide +kernel
set_option maxRecDepth 20000 in
theorem ggX8_send_X8_isLetter : GoodIn wsX8_send wsX8_isLetter := goodIn_r _ [9, 10, 72, 73, 74, 75, 76, 77, 78, 79, 80, 81, 82, 83, 84, 85, 86, 87, 97, 98, 99, 100, 101, 102, 103] (by decide +kernel) (by decide +kernel)
set_option maxRecDepth 20000 in
theorem gX8_send_X8_isLetter : GoodIn wsX8_send (wsV RX8 181 RX8 yX8_isLetter wsX8_isLetter) := goodIn_app (goodIn_of _ (by decide +kernel)) ggX8_send_X8_isLetter
set_option maxRecDepth 20000 in
theorem ggX8_send_X8_isChange : GoodIn wsX8_send wsX8_isChange := goodIn_r _ [14, 15, 16, 17, 18, 8, 19, 10, 2, 20, 21, 22, 23, 24, 25, 26, 27, 28, 29, 30, 31, 32, 33, 34, 35, 36, 37, 38, 39, 40, 41, 42, 43, 44, 45, 46, 47, 48, 49, 50, 51, 52, 53, 54, 55, 56, 57, 58, 59, 60, 61, 62, 72, 73, 74, 75, 76, 77, 78, 79, 80, 81, 82, 83, 84, 85, 86, 87, 88, 89, 90, 91, 92, 93, 94, 95, 96, 104, 105, 97, 98, 99, 100, 101, 102, 103, 106, 107, 108, 109, 110, 111, 112, 113, 114, 115] (by decide +kernel) (by decide +kernel)
set_option maxRecDepth 20000 in
theorem gX8_send_X8_isChange : GoodIn wsX8_send (wsV RX8 204 RX8 yX8_isChange wsX8_isChange) := goodIn_app (goodIn_of _ (by decide +kernel)) ggX8_send_X8_isChange
set_option maxRecDepth 20000 in
theorem ggX8_send_X0_pass : GoodIn wsX8_send wsX0_pass := goodIn_r _ [67, 68, 69, 70, 71, 88, 89, 90, 91, 92, 93, 94, 95, 96] (by decide +kernel) (by decide +kernel)
set_option maxRecDepth 20000 in
theorem gX8_send_X0_pass : GoodIn wsX8_send (wsV RX8 210 RX0 yX0_pass wsX0_pass) := goodIn_app (goodIn_of _ (by decide +kernel)) ggX8_send_X0_pass
theorem dX8_send_0 : decode cX8_send 0 = .ok (.aload_n 0, 1) := by decide +kernel
theorem dX8_send_1 : decode cX8_send 1 = .ok (.iload_n 1, 1) := by decide +kernel
theorem dX8_send_2 : decode cX8_send 2 = .ok (.invokevirtual 181, 3) := by decide +kernel
theorem dX8_send_5 : decode cX8_send 5 = .ok (.ifCond .ne 6, 3) := by decide +kernel
theorem dX8_send_8 : decode cX8_send 8 = .ok (.ldc 95, 2) := by decide +kernel
theorem dX8_send_10 : decode cX8_send 10 = .ok (.ireturn, 1) := by decide +kernel
theorem dX8_send_11 : decode cX8_send 11 = .ok (.aload_n 0, 1) := by decide +kernel
theorem dX8_send_12 : decode cX8_send 12 = .ok (.getfield 38, 3) := by decide +kernel
theorem dX8_send_15 : decode cX8_send 15 = .ok (.getfield 156, 3) := by decide +kernel
theorem dX8_send_18 : decode cX8_send 18 = .ok (.ifCond .ne 18, 3) := by decide +kernel
theorem dX8_send_21 : decode cX8_send 21 = .ok (.aload_n 0, 1) := by decide +kernel
theorem dX8_send_22 : decode cX8_send 22 = .ok (.aload_n 0, 1) := by decide +kernel
theorem dX8_send_23 : decode cX8_send 23 = .ok (.getfield 38, 3) := by decide +kernel
theorem dX8_send_26 : decode cX8_send 26 = .ok (.getfield 150, 3) := by decide +kernel
theorem dX8_send_29 : decode cX8_send 29 = .ok (.iload_n 1, 1) := by decide +kernel
theorem dX8_send_30 : decode cX8_send 30 = .ok (.invokevirtual 204, 3) := by decide +kernel
theorem dX8_send_33 : decode cX8_send 33 = .ok (.ifCond .ne 6, 3) := by decide +kernel
theorem dX8_send_36 : decode cX8_send 36 = .ok (.ldc 208, 2) := by decide +kernel
theorem dX8_send_38 : decode cX8_send 38 = .ok (.ireturn, 1) := by decide +kernel
theorem dX8_send_39 : decode cX8_send 39 = .ok (.aload_n 0, 1) := by decide +kernel
theorem dX8_send_40 : decode cX8_send 40 = .ok (.getfield 38, 3) := by decide +kernel
theorem dX8_send_43 : decode cX8_send 43 = .ok (.getfield 160, 3) := by decide +kernel
theorem dX8_send_46 : decode cX8_send 46 = .ok (.bipush 60, 2) := by decide +kernel
theorem dX8_send_48 : decode cX8_send 48 = .ok (.if_icmp .lt 6, 3) := by decide +kernel
theorem dX8_send_51 : decode cX8_send 51 = .ok (.ldc 209, 2) := by decide +kernel
theorem dX8_send_53 : decode cX8_send 53 = .ok (.ireturn, 1) := by decide +kernel
theorem dX8_send_54 : decode cX8_send 54 = .ok (.aload_n 0, 1) := by decide +kernel
theorem dX8_send_55 : decode cX8_send 55 = .ok (.getfield 38, 3) := by decide +kernel
theorem dX8_send_58 : decode cX8_send 58 = .ok (.iload_n 1, 1) := by decide +kernel
theorem dX8_send_59 : decode cX8_send 59 = .ok (.invokevirtual 210, 3) := by decide +kernel
theorem dX8_send_62 : decode cX8_send 62 = .ok (.aload_n 0, 1) := by decide +kernel
theorem dX8_send_63 : decode cX8_send 63 = .ok (.getfield 38, 3) := by decide +kernel
theorem dX8_send_66 : decode cX8_send 66 = .ok (.getfield 153, 3) := by decide +kernel
theorem dX8_send_69 : decode cX8_send 69 = .ok (.ireturn, 1) := by decide +kernel
set_option maxRecDepth 20000 in
theorem ggX8_settle_X8_giveBoth : GoodIn wsX8_settle wsX8_giveBoth := goodIn_r _ [8, 1, 2, 9, 10, 11, 12, 13, 14, 15, 16, 17, 18, 19, 20, 21, 22, 23, 24, 25, 26, 27, 28, 29, 30, 31, 32, 33, 34, 35, 36, 37, 38, 39, 40, 41, 42, 43, 44, 45, 46, 47, 48] (by decide +kernel) (by decide +kernel)
set_option maxRecDepth 20000 in
theorem gX8_settle_X8_giveBoth : GoodIn wsX8_settle (wsV RX8 213 RX8 yX8_giveBoth wsX8_giveBoth) := goodIn_app (goodIn_of _ (by decide +kernel)) ggX8_settle_X8_giveBoth
set_option maxRecDepth 20000 in
theorem ggX8_settle_X3_worthTo : GoodIn wsX8_settle wsX3_worthTo := goodIn_r _ [13, 14, 15, 16, 42, 43, 44, 45, 46, 47, 48] (by decide +kernel) (by decide +kernel)
set_option maxRecDepth 20000 in
theorem gX8_settle_X3_worthTo : GoodIn wsX8_settle (wsV RX8 194 RX3 yX3_worthTo wsX3_worthTo) := goodIn_app (goodIn_of _ (by decide +kernel)) ggX8_settle_X3_worthTo
theorem dX8_settle_0 : decode cX8_settle 0 = .ok (.aload_n 0, 1) := by decide +kernel
theorem dX8_settle_1 : decode cX8_settle 1 = .ok (.getfield 38, 3) := by decide +kernel
theorem dX8_settle_4 : decode cX8_settle 4 = .ok (.getfield 156, 3) := by decide +kernel
theorem dX8_settle_7 : decode cX8_settle 7 = .ok (.ifCond .ne 13, 3) := by decide +kernel
theorem dX8_settle_10 : decode cX8_settle 10 = .ok (.aload_n 0, 1) := by decide +kernel
theorem dX8_settle_11 : decode cX8_settle 11 = .ok (.getfield 31, 3) := by decide +kernel
theorem dX8_settle_14 : decode cX8_settle 14 = .ok (.getfield 107, 3) := by decide +kernel
theorem dX8_settle_17 : decode cX8_settle 17 = .ok (.ifCond .ne 6, 3) := by decide +kernel
theorem dX8_settle_20 : decode cX8_settle 20 = .ok (.ldc 208, 2) := by decide +kernel
theorem dX8_settle_22 : decode cX8_settle 22 = .ok (.ireturn, 1) := by decide +kernel
theorem dX8_settle_23 : decode cX8_settle 23 = .ok (.aload_n 0, 1) := by decide +kernel
theorem dX8_settle_24 : decode cX8_settle 24 = .ok (.invokevirtual 213, 3) := by decide +kernel
theorem dX8_settle_27 : decode cX8_settle 27 = .ok (.aload_n 0, 1) := by decide +kernel
theorem dX8_settle_28 : decode cX8_settle 28 = .ok (.getfield 38, 3) := by decide +kernel
theorem dX8_settle_31 : decode cX8_settle 31 = .ok (.iconst 1, 1) := by decide +kernel
theorem dX8_settle_32 : decode cX8_settle 32 = .ok (.putfield 156, 3) := by decide +kernel
theorem dX8_settle_35 : decode cX8_settle 35 = .ok (.aload_n 0, 1) := by decide +kernel
theorem dX8_settle_36 : decode cX8_settle 36 = .ok (.getfield 31, 3) := by decide +kernel
theorem dX8_settle_39 : decode cX8_settle 39 = .ok (.aload_n 0, 1) := by decide +kernel
theorem dX8_settle_40 : decode cX8_settle 40 = .ok (.getfield 38, 3) := by decide +kernel
theorem dX8_settle_43 : decode cX8_settle 43 = .ok (.getfield 153, 3) := by decide +kernel
theorem dX8_settle_46 : decode cX8_settle 46 = .ok (.aload_n 0, 1) := by decide +kernel
theorem dX8_settle_47 : decode cX8_settle 47 = .ok (.getfield 38, 3) := by decide +kernel
theorem dX8_settle_50 : decode cX8_settle 50 = .ok (.getfield 150, 3) := by decide +kernel
theorem dX8_settle_53 : decode cX8_settle 53 = .ok (.invokevirtual 194, 3) := by decide +kernel
theorem dX8_settle_56 : decode cX8_settle 56 = .ok (.ireturn, 1) := by decide +kernel
set_option maxRecDepth 20000 in
theorem ggX8_had_X8_isHouse : GoodIn wsX8_had wsX8_isHouse := goodIn_r _ [6] (by decide +kernel) (by decide +kernel)
set_option maxRecDepth 20000 in
theorem gX8_had_X8_isHouse : GoodIn wsX8_had (va_wsS RX8 191 yX8_isHouse wsX8_isHouse) := goodIn_app (goodIn_of _ (by decide +kernel)) ggX8_had_X8_isHouse
theorem dX8_had_0 : decode cX8_had 0 = .ok (.iload_n 1, 1) := by decide +kernel
theorem dX8_had_1 : decode cX8_had 1 = .ok (.invokestatic 191, 3) := by decide +kernel
theorem dX8_had_4 : decode cX8_had 4 = .ok (.ifCond .ne 6, 3) := by decide +kernel
theorem dX8_had_7 : decode cX8_had 7 = .ok (.ldc 173, 2) := by decide +kernel
theorem dX8_had_9 : decode cX8_had 9 = .ok (.ireturn, 1) := by decide +kernel
theorem dX8_had_10 : decode cX8_had 10 = .ok (.aload_n 0, 1) := by decide +kernel
theorem dX8_had_11 : decode cX8_had 11 = .ok (.getfield 38, 3) := by decide +kernel
theorem dX8_had_14 : decode cX8_had 14 = .ok (.getfield 216, 3) := by decide +kernel
theorem dX8_had_17 : decode cX8_had 17 = .ok (.iload_n 1, 1) := by decide +kernel
theorem dX8_had_18 : decode cX8_had 18 = .ok (.iaload, 1) := by decide +kernel
theorem dX8_had_19 : decode cX8_had 19 = .ok (.ireturn, 1) := by decide +kernel
set_option maxRecDepth 20000 in
theorem ggX8_log_X0_entry : GoodIn wsX8_log wsX0_entry := goodIn_r _ [7, 8, 9, 26, 27, 28, 29, 30, 31, 32, 33, 34] (by decide +kernel) (by decide +kernel)
set_option maxRecDepth 20000 in
theorem gX8_log_X0_entry : GoodIn wsX8_log (wsV RX8 219 RX0 yX0_entry wsX0_entry) := goodIn_app (goodIn_of _ (by decide +kernel)) ggX8_log_X0_entry
theorem dX8_log_0 : decode cX8_log 0 = .ok (.iload_n 2, 1) := by decide +kernel
theorem dX8_log_1 : decode cX8_log 1 = .ok (.ifCond .lt 8, 3) := by decide +kernel
theorem dX8_log_4 : decode cX8_log 4 = .ok (.iload_n 2, 1) := by decide +kernel
theorem dX8_log_5 : decode cX8_log 5 = .ok (.iconst 2, 1) := by decide +kernel
theorem dX8_log_6 : decode cX8_log 6 = .ok (.if_icmp .le 6, 3) := by decide +kernel
theorem dX8_log_9 : decode cX8_log 9 = .ok (.ldc 95, 2) := by decide +kernel
theorem dX8_log_11 : decode cX8_log 11 = .ok (.ireturn, 1) := by decide +kernel
theorem dX8_log_12 : decode cX8_log 12 = .ok (.aload_n 0, 1) := by decide +kernel
theorem dX8_log_13 : decode cX8_log 13 = .ok (.getfield 38, 3) := by decide +kernel
theorem dX8_log_16 : decode cX8_log 16 = .ok (.iload_n 1, 1) := by decide +kernel
theorem dX8_log_17 : decode cX8_log 17 = .ok (.iload_n 2, 1) := by decide +kernel
theorem dX8_log_18 : decode cX8_log 18 = .ok (.invokevirtual 219, 3) := by decide +kernel
theorem dX8_log_21 : decode cX8_log 21 = .ok (.ireturn, 1) := by decide +kernel
set_option maxRecDepth 20000 in
theorem ggX8_fewest_X8_isLetter : GoodIn wsX8_fewest wsX8_isLetter := goodIn_r _ [8, 9, 77, 78, 79, 80, 81, 82, 83, 84, 85, 86, 87, 88, 89, 90, 91, 92, 102, 103, 104, 105, 106, 107, 108] (by decide +kernel) (by decide +kernel)
set_option maxRecDepth 20000 in
theorem gX8_fewest_X8_isLetter : GoodIn wsX8_fewest (wsV RX8 181 RX8 yX8_isLetter wsX8_isLetter) := goodIn_app (goodIn_of _ (by decide +kernel)) ggX8_fewest_X8_isLetter
set_option maxRecDepth 20000 in
theorem ggX8_fewest_X4_shortest : GoodIn wsX8_fewest wsX4_shortest := goodIn_r _ [14, 15, 16, 17, 18, 19, 20, 21, 22, 23, 24, 25, 26, 27, 28, 29, 30, 31, 13, 32, 33, 34, 35, 36, 37, 38, 39, 40, 41, 42, 43, 44, 45, 46, 47, 48, 49, 50, 51, 52, 53, 54, 55, 56, 57, 58, 59, 60, 61, 62, 63, 64, 65, 66, 67, 68, 69, 70, 71, 72, 73, 74, 75, 76, 109, 110, 111, 112, 102, 103, 104, 105, 106, 107, 108, 113, 114, 115, 116, 117, 118, 119, 120, 121, 122, 123, 124] (by decide +kernel) (by decide +kernel)
set_option maxRecDepth 20000 in
theorem gX8_fewest_X4_shortest : GoodIn wsX8_fewest (wsV RX8 222 RX4 yX4_shortest wsX4_shortest) := goodIn_app (goodIn_of _ (by decide +kernel)) ggX8_fewest_X4_shortest
theorem dX8_fewest_0 : decode cX8_fewest 0 = .ok (.aload_n 0, 1) := by decide +kernel
theorem dX8_fewest_1 : decode cX8_fewest 1 = .ok (.iload_n 1, 1) := by decide +kernel
theorem dX8_fewest_2 : decode cX8_fewest 2 = .ok (.invokevirtual 181, 3) := by decide +kernel
theorem dX8_fewest_5 : decode cX8_fewest 5 = .ok (.ifCond .eq 11, 3) := by decide +kernel
theorem dX8_fewest_8 : decode cX8_fewest 8 = .ok (.aload_n 0, 1) := by decide +kernel
theorem dX8_fewest_9 : decode cX8_fewest 9 = .ok (.iload_n 2, 1) := by decide +kernel
theorem dX8_fewest_10 : decode cX8_fewest 10 = .ok (.invokevirtual 181, 3) := by decide +kernel
theorem dX8_fewest_13 : decode cX8_fewest 13 = .ok (.ifCond .ne 6, 3) := by decide +kernel
theorem dX8_fewest_16 : decode cX8_fewest 16 = .ok (.ldc 95, 2) := by decide +kernel
theorem dX8_fewest_18 : decode cX8_fewest 18 = .ok (.ireturn, 1) := by decide +kernel
theorem dX8_fewest_19 : decode cX8_fewest 19 = .ok (.aload_n 0, 1) := by decide +kernel
theorem dX8_fewest_20 : decode cX8_fewest 20 = .ok (.getfield 83, 3) := by decide +kernel
theorem dX8_fewest_23 : decode cX8_fewest 23 = .ok (.aload_n 0, 1) := by decide +kernel
theorem dX8_fewest_24 : decode cX8_fewest 24 = .ok (.getfield 38, 3) := by decide +kernel
theorem dX8_fewest_27 : decode cX8_fewest 27 = .ok (.getfield 144, 3) := by decide +kernel
theorem dX8_fewest_30 : decode cX8_fewest 30 = .ok (.iload_n 1, 1) := by decide +kernel
theorem dX8_fewest_31 : decode cX8_fewest 31 = .ok (.iload_n 2, 1) := by decide +kernel
theorem dX8_fewest_32 : decode cX8_fewest 32 = .ok (.iload_n 3, 1) := by decide +kernel
theorem dX8_fewest_33 : decode cX8_fewest 33 = .ok (.invokevirtual 222, 3) := by decide +kernel
theorem dX8_fewest_36 : decode cX8_fewest 36 = .ok (.ireturn, 1) := by decide +kernel
set_option maxRecDepth 20000 in
theorem ggX8_still_X8_stamp : GoodIn wsX8_still wsX8_stamp := goodIn_r _ [7, 8, 9, 80, 81, 82, 83, 84, 85, 86, 87, 88, 89, 90, 91, 92, 93, 94, 95, 96, 97, 98, 99, 100, 101, 102, 103, 104, 105, 106, 107, 108, 109, 110, 111] (by decide +kernel) (by decide +kernel)
set_option maxRecDepth 20000 in
theorem gX8_still_X8_stamp : GoodIn wsX8_still (wsV RX8 226 RX8 yX8_stamp wsX8_stamp) := goodIn_app (goodIn_of _ (by decide +kernel)) ggX8_still_X8_stamp
set_option maxRecDepth 20000 in
theorem ggX8_still_X8_listStill : GoodIn wsX8_still wsX8_listStill := goodIn_r _ [13, 2, 8, 14, 15, 16, 17, 18, 19, 20, 21, 22, 23, 24, 25, 26, 27, 28, 29, 6, 30, 31, 32, 33, 34, 35, 9, 36, 37, 38, 39, 40, 41, 42, 43, 44, 45, 46, 47, 48, 49, 50, 51, 52, 53, 54, 55, 56, 57, 58, 59, 60, 61, 62, 63, 64, 65, 66, 67, 68, 69, 70, 71, 72, 73, 74, 80, 81, 82, 83, 84, 85, 86, 87, 88, 89, 90, 91, 92, 93, 94, 95, 96, 97, 98, 99, 100, 101, 102, 112, 113, 103, 104, 105, 106, 107, 108, 109, 110, 111, 114, 115, 116, 117, 118, 119, 120, 121, 122, 123] (by decide +kernel) (by decide +kernel)
set_option maxRecDepth 20000 in
theorem gX8_still_X8_listStill : GoodIn wsX8_still (wsV RX8 230 RX8 yX8_listStill wsX8_listStill) := goodIn_app (goodIn_of _ (by decide +kernel)) ggX8_still_X8_listStill
set_option maxRecDepth 20000 in
theorem ggX8_still_X6_countOrGet : GoodIn wsX8_still wsX6_countOrGet := goodIn_r _ [78, 19, 79, 71, 72, 17, 73, 59, 112, 113] (by decide +kernel) (by decide +kernel)
set_option maxRecDepth 20000 in
theorem gX8_still_X6_countOrGet : GoodIn wsX8_still (wsV RX8 200 RX6 yX6_countOrGet wsX6_countOrGet) := goodIn_app (goodIn_of _ (by decide +kernel)) ggX8_still_X6_countOrGet
theorem dX8_still_0 : decode cX8_still 0 = .ok (.aload_n 0, 1) := by decide +kernel
theorem dX8_still_1 : decode cX8_still 1 = .ok (.getfield 74, 3) := by decide +kernel
theorem dX8_still_4 : decode cX8_still 4 = .ok (.aload_n 0, 1) := by decide +kernel
theorem dX8_still_5 : decode cX8_still 5 = .ok (.invokevirtual 226, 3) := by decide +kernel
theorem dX8_still_8 : decode cX8_still 8 = .ok (.if_icmp .eq 15, 3) := by decide +kernel
theorem dX8_still_11 : decode cX8_still 11 = .ok (.aload_n 0, 1) := by decide +kernel
theorem dX8_still_12 : decode cX8_still 12 = .ok (.invokevirtual 230, 3) := by decide +kernel
theorem dX8_still_15 : decode cX8_still 15 = .ok (.aload_n 0, 1) := by decide +kernel
theorem dX8_still_16 : decode cX8_still 16 = .ok (.aload_n 0, 1) := by decide +kernel
theorem dX8_still_17 : decode cX8_still 17 = .ok (.invokevirtual 226, 3) := by decide +kernel
theorem dX8_still_20 : decode cX8_still 20 = .ok (.putfield 74, 3) := by decide +kernel
theorem dX8_still_23 : decode cX8_still 23 = .ok (.aload_n 0, 1) := by decide +kernel
theorem dX8_still_24 : decode cX8_still 24 = .ok (.getfield 71, 3) := by decide +kernel
theorem dX8_still_27 : decode cX8_still 27 = .ok (.iload_n 1, 1) := by decide +kernel
theorem dX8_still_28 : decode cX8_still 28 = .ok (.invokevirtual 200, 3) := by decide +kernel
theorem dX8_still_31 : decode cX8_still 31 = .ok (.ireturn, 1) := by decide +kernel
set_option maxRecDepth 20000 in
theorem ggX8_ahead_X8_isHouse : GoodIn wsX8_ahead wsX8_isHouse := goodIn_r _ [9] (by decide +kernel) (by decide +kernel)
set_option maxRecDepth 20000 in
theorem gX8_ahead_X8_isHouse : GoodIn wsX8_ahead (va_wsS RX8 191 yX8_isHouse wsX8_isHouse) := goodIn_app (goodIn_of _ (by decide +kernel)) ggX8_ahead_X8_isHouse
set_option maxRecDepth 20000 in
theorem ggX8_ahead_X8_isLetter : GoodIn wsX8_ahead wsX8_isLetter := goodIn_r _ [13, 5, 91, 92, 93, 94, 95, 96, 97, 98, 99, 100, 101, 102, 103, 104, 105, 106, 116, 117, 118, 119, 120, 121, 122] (by decide +kernel) (by decide +kernel)
set_option maxRecDepth 20000 in
theorem gX8_ahead_X8_isLetter : GoodIn wsX8_ahead (wsV RX8 181 RX8 yX8_isLetter wsX8_isLetter) := goodIn_app (goodIn_of _ (by decide +kernel)) ggX8_ahead_X8_isLetter
set_option maxRecDepth 20000 in
theorem ggX8_ahead_X8_isMoves : GoodIn wsX8_ahead wsX8_isMoves := goodIn_r _ [16] (by decide +kernel) (by decide +kernel)
set_option maxRecDepth 20000 in
theorem gX8_ahead_X8_isMoves : GoodIn wsX8_ahead (va_wsS RX8 233 yX8_isMoves wsX8_isMoves) := goodIn_app (goodIn_of _ (by decide +kernel)) ggX8_ahead_X8_isMoves
set_option maxRecDepth 20000 in
theorem ggX8_ahead_X8_stamp : GoodIn wsX8_ahead wsX8_stamp := goodIn_r _ [20, 5, 4, 91, 92, 93, 94, 95, 96, 97, 98, 99, 100, 101, 102, 103, 104, 105, 106, 116, 117, 118, 119, 120, 121, 122, 107, 108, 109, 110, 111, 112, 113, 114, 115] (by decide +kernel) (by decide +kernel)
set_option maxRecDepth 20000 in
theorem gX8_ahead_X8_stamp : GoodIn wsX8_ahead (wsV RX8 226 RX8 yX8_stamp wsX8_stamp) := goodIn_app (goodIn_of _ (by decide +kernel)) ggX8_ahead_X8_stamp
set_option maxRecDepth 20000 in
theorem ggX8_ahead_X1_useRules : GoodIn wsX8_ahead wsX1_useRules := goodIn_r _ [25, 26, 27, 28, 29, 123, 124, 125, 126, 127, 128] (by decide +kernel) (by decide +kernel)
set_option maxRecDepth 20000 in
theorem gX8_ahead_X1_useRules : GoodIn wsX8_ahead (wsV RX8 236 RX1 yX1_useRules wsX1_useRules) := goodIn_app (goodIn_of _ (by decide +kernel)) ggX8_ahead_X1_useRules
set_option maxRecDepth 20000 in
theorem ggX8_ahead_X1_firstSent : GoodIn wsX8_ahead wsX1_firstSent := goodIn_r _ [33, 34, 35, 26, 27, 36, 37, 38, 24, 39, 40, 29, 28, 41, 42, 43, 44, 45, 46, 47, 48, 49, 50, 51, 52, 53, 54, 55, 56, 57, 58, 59, 60, 61, 62, 63, 64, 65, 66, 67, 68, 69, 70, 71, 72, 73, 74, 75, 76, 77, 78, 79, 80, 81, 82, 83, 84, 85, 86, 87, 88, 89, 123, 124, 125, 126, 127, 128, 129, 130, 116, 117, 118, 119, 120, 121, 122, 131, 132, 133, 134, 135, 136, 137, 138, 139, 140] (by decide +kernel) (by decide +kernel)
set_option maxRecDepth 20000 in
theorem gX8_ahead_X1_firstSent : GoodIn wsX8_ahead (wsV RX8 240 RX1 yX1_firstSent wsX1_firstSent) := goodIn_app (goodIn_of _ (by decide +kernel)) ggX8_ahead_X1_firstSent
set_option maxRecDepth 20000 in
theorem ggX8_ahead_X1_look : GoodIn wsX8_ahead wsX1_look := goodIn_r _ [39, 34, 40, 29, 28, 35, 26, 27, 41, 42, 43, 44, 45, 46, 47, 48, 49, 50, 51, 52, 53, 54, 55, 56, 57, 58, 59, 60, 61, 62, 63, 64, 65, 66, 67, 68, 69, 70, 71, 72, 73, 74, 75, 76, 77, 78, 79, 80, 81, 82, 83, 84, 85, 86, 87, 88, 89, 36, 37, 38, 24, 123, 124, 125, 126, 127, 128, 116, 117, 118, 119, 120, 121, 122, 129, 130, 131, 132, 133, 134, 135, 136, 137, 138, 139, 140] (by decide +kernel) (by decide +kernel)
set_option maxRecDepth 20000 in
theorem gX8_ahead_X1_look_n244 : GoodIn wsX8_ahead (wsX1_look) := ggX8_ahead_X1_look
set_option maxRecDepth 20000 in
theorem ggX8_ahead_X3_worthTo : GoodIn wsX8_ahead wsX3_worthTo := goodIn_r _ [45, 46, 47, 48, 116, 117, 118, 119, 120, 121, 122] (by decide +kernel) (by decide +kernel)
set_option maxRecDepth 20000 in
theorem gX8_ahead_X3_worthTo : GoodIn wsX8_ahead (wsV RX8 194 RX3 yX3_worthTo wsX3_worthTo) := goodIn_app (goodIn_of _ (by decide +kernel)) ggX8_ahead_X3_worthTo
theorem dX8_ahead_0 : decode cX8_ahead 0 = .ok (.iload_n 2, 1) := by decide +kernel
theorem dX8_ahead_1 : decode cX8_ahead 1 = .ok (.invokestatic 191, 3) := by decide +kernel
theorem dX8_ahead_4 : decode cX8_ahead 4 = .ok (.ifCond .ne 6, 3) := by decide +kernel
theorem dX8_ahead_7 : decode cX8_ahead 7 = .ok (.ldc 173, 2) := by decide +kernel
theorem dX8_ahead_9 : decode cX8_ahead 9 = .ok (.ireturn, 1) := by decide +kernel
theorem dX8_ahead_10 : decode cX8_ahead 10 = .ok (.aload_n 0, 1) := by decide +kernel
theorem dX8_ahead_11 : decode cX8_ahead 11 = .ok (.iload_n 1, 1) := by decide +kernel
theorem dX8_ahead_12 : decode cX8_ahead 12 = .ok (.invokevirtual 181, 3) := by decide +kernel
theorem dX8_ahead_15 : decode cX8_ahead 15 = .ok (.ifCond .eq 21, 3) := by decide +kernel
theorem dX8_ahead_18 : decode cX8_ahead 18 = .ok (.iload_n 3, 1) := by decide +kernel
theorem dX8_ahead_19 : decode cX8_ahead 19 = .ok (.invokestatic 233, 3) := by decide +kernel
theorem dX8_ahead_22 : decode cX8_ahead 22 = .ok (.ifCond .eq 14, 3) := by decide +kernel
theorem dX8_ahead_25 : decode cX8_ahead 25 = .ok (.iload 4, 2) := by decide +kernel
theorem dX8_ahead_27 : decode cX8_ahead 27 = .ok (.ifCond .lt 9, 3) := by decide +kernel
theorem dX8_ahead_30 : decode cX8_ahead 30 = .ok (.iload 4, 2) := by decide +kernel
theorem dX8_ahead_32 : decode cX8_ahead 32 = .ok (.iconst 4, 1) := by decide +kernel
theorem dX8_ahead_33 : decode cX8_ahead 33 = .ok (.if_icmp .le 6, 3) := by decide +kernel
theorem dX8_ahead_36 : decode cX8_ahead 36 = .ok (.ldc 95, 2) := by decide +kernel
theorem dX8_ahead_38 : decode cX8_ahead 38 = .ok (.ireturn, 1) := by decide +kernel
theorem dX8_ahead_39 : decode cX8_ahead 39 = .ok (.aload_n 0, 1) := by decide +kernel
theorem dX8_ahead_40 : decode cX8_ahead 40 = .ok (.getfield 90, 3) := by decide +kernel
theorem dX8_ahead_43 : decode cX8_ahead 43 = .ok (.aload_n 0, 1) := by decide +kernel
theorem dX8_ahead_44 : decode cX8_ahead 44 = .ok (.getfield 38, 3) := by decide +kernel
theorem dX8_ahead_47 : decode cX8_ahead 47 = .ok (.getfield 144, 3) := by decide +kernel
theorem dX8_ahead_50 : decode cX8_ahead 50 = .ok (.aload_n 0, 1) := by decide +kernel
theorem dX8_ahead_51 : decode cX8_ahead 51 = .ok (.getfield 38, 3) := by decide +kernel
theorem dX8_ahead_54 : decode cX8_ahead 54 = .ok (.getfield 147, 3) := by decide +kernel
theorem dX8_ahead_57 : decode cX8_ahead 57 = .ok (.iconst 1, 1) := by decide +kernel
theorem dX8_ahead_58 : decode cX8_ahead 58 = .ok (.if_icmp .ne 7, 3) := by decide +kernel
theorem dX8_ahead_61 : decode cX8_ahead 61 = .ok (.iconst 1, 1) := by decide +kernel
theorem dX8_ahead_62 : decode cX8_ahead 62 = .ok (.goto 4, 3) := by decide +kernel
theorem dX8_ahead_65 : decode cX8_ahead 65 = .ok (.iconst 0, 1) := by decide +kernel
theorem dX8_ahead_66 : decode cX8_ahead 66 = .ok (.aload_n 0, 1) := by decide +kernel
theorem dX8_ahead_67 : decode cX8_ahead 67 = .ok (.invokevirtual 226, 3) := by decide +kernel
theorem dX8_ahead_70 : decode cX8_ahead 70 = .ok (.invokevirtual 236, 3) := by decide +kernel
theorem dX8_ahead_73 : decode cX8_ahead 73 = .ok (.iload 4, 2) := by decide +kernel
theorem dX8_ahead_75 : decode cX8_ahead 75 = .ok (.iconst 4, 1) := by decide +kernel
theorem dX8_ahead_76 : decode cX8_ahead 76 = .ok (.if_icmp .ne 14, 3) := by decide +kernel
theorem dX8_ahead_79 : decode cX8_ahead 79 = .ok (.aload_n 0, 1) := by decide +kernel
theorem dX8_ahead_80 : decode cX8_ahead 80 = .ok (.getfield 90, 3) := by decide +kernel
theorem dX8_ahead_83 : decode cX8_ahead 83 = .ok (.iload_n 1, 1) := by decide +kernel
theorem dX8_ahead_84 : decode cX8_ahead 84 = .ok (.iload_n 2, 1) := by decide +kernel
theorem dX8_ahead_85 : decode cX8_ahead 85 = .ok (.iload_n 3, 1) := by decide +kernel
theorem dX8_ahead_86 : decode cX8_ahead 86 = .ok (.invokevirtual 240, 3) := by decide +kernel
theorem dX8_ahead_89 : decode cX8_ahead 89 = .ok (.ireturn, 1) := by decide +kernel
theorem dX8_ahead_90 : decode cX8_ahead 90 = .ok (.aload_n 0, 1) := by decide +kernel
theorem dX8_ahead_91 : decode cX8_ahead 91 = .ok (.getfield 90, 3) := by decide +kernel
theorem dX8_ahead_94 : decode cX8_ahead 94 = .ok (.iload_n 1, 1) := by decide +kernel
theorem dX8_ahead_95 : decode cX8_ahead 95 = .ok (.iload_n 2, 1) := by decide +kernel
theorem dX8_ahead_96 : decode cX8_ahead 96 = .ok (.iload_n 3, 1) := by decide +kernel
theorem dX8_ahead_97 : decode cX8_ahead 97 = .ok (.invokevirtual 244, 3) := by decide +kernel
theorem dX8_ahead_100 : decode cX8_ahead 100 = .ok (.istore 5, 2) := by decide +kernel
theorem dX8_ahead_102 : decode cX8_ahead 102 = .ok (.iload 4, 2) := by decide +kernel
theorem dX8_ahead_104 : decode cX8_ahead 104 = .ok (.lookupswitch 42 #[(2, 28), (3, 35)], 28) := by decide +kernel
theorem dX8_ahead_132 : decode cX8_ahead 132 = .ok (.iload 5, 2) := by decide +kernel
theorem dX8_ahead_134 : decode cX8_ahead 134 = .ok (.sipush 4096, 3) := by decide +kernel
theorem dX8_ahead_137 : decode cX8_ahead 137 = .ok (.irem, 1) := by decide +kernel
theorem dX8_ahead_138 : decode cX8_ahead 138 = .ok (.ireturn, 1) := by decide +kernel
theorem dX8_ahead_139 : decode cX8_ahead 139 = .ok (.iload 5, 2) := by decide +kernel
theorem dX8_ahead_141 : decode cX8_ahead 141 = .ok (.sipush 4096, 3) := by decide +kernel
theorem dX8_ahead_144 : decode cX8_ahead 144 = .ok (.idiv, 1) := by decide +kernel
theorem dX8_ahead_145 : decode cX8_ahead 145 = .ok (.ireturn, 1) := by decide +kernel
theorem dX8_ahead_146 : decode cX8_ahead 146 = .ok (.aload_n 0, 1) := by decide +kernel
theorem dX8_ahead_147 : decode cX8_ahead 147 = .ok (.getfield 31, 3) := by decide +kernel
theorem dX8_ahead_150 : decode cX8_ahead 150 = .ok (.iload 4, 2) := by decide +kernel
theorem dX8_ahead_152 : decode cX8_ahead 152 = .ok (.iload 5, 2) := by decide +kernel
theorem dX8_ahead_154 : decode cX8_ahead 154 = .ok (.sipush 4096, 3) := by decide +kernel
theorem dX8_ahead_157 : decode cX8_ahead 157 = .ok (.irem, 1) := by decide +kernel
theorem dX8_ahead_158 : decode cX8_ahead 158 = .ok (.invokevirtual 194, 3) := by decide +kernel
theorem dX8_ahead_161 : decode cX8_ahead 161 = .ok (.ireturn, 1) := by decide +kernel
set_option maxRecDepth 20000 in
theorem ggX8_first_X8_isLetter : GoodIn wsX8_first wsX8_isLetter := goodIn_r _ [9, 4, 83, 84, 85, 86, 87, 88, 89, 90, 91, 92, 93, 94, 95, 96, 97, 98, 108, 109, 110, 111, 112, 113, 114] (by decide +kernel) (by decide +kernel)
set_option maxRecDepth 20000 in
theorem gX8_first_X8_isLetter : GoodIn wsX8_first (wsV RX8 181 RX8 yX8_isLetter wsX8_isLetter) := goodIn_app (goodIn_of _ (by decide +kernel)) ggX8_first_X8_isLetter
set_option maxRecDepth 20000 in
theorem ggX8_first_X8_isMoves : GoodIn wsX8_first wsX8_isMoves := goodIn_r _ [12] (by decide +kernel) (by decide +kernel)
set_option maxRecDepth 20000 in
theorem gX8_first_X8_isMoves : GoodIn wsX8_first (va_wsS RX8 233 yX8_isMoves wsX8_isMoves) := goodIn_app (goodIn_of _ (by decide +kernel)) ggX8_first_X8_isMoves
set_option maxRecDepth 20000 in
theorem ggX8_first_X8_stamp : GoodIn wsX8_first wsX8_stamp := goodIn_r _ [16, 4, 3, 83, 84, 85, 86, 87, 88, 89, 90, 91, 92, 93, 94, 95, 96, 97, 98, 108, 109, 110, 111, 112, 113, 114, 99, 100, 101, 102, 103, 104, 105, 106, 107] (by decide +kernel) (by decide +kernel)
set_option maxRecDepth 20000 in
theorem gX8_first_X8_stamp : GoodIn wsX8_first (wsV RX8 226 RX8 yX8_stamp wsX8_stamp) := goodIn_app (goodIn_of _ (by decide +kernel)) ggX8_first_X8_stamp
set_option maxRecDepth 20000 in
theorem ggX8_first_X1_useRules : GoodIn wsX8_first wsX1_useRules := goodIn_r _ [21, 22, 23, 24, 25, 115, 116, 117, 118, 119, 120] (by decide +kernel) (by decide +kernel)
set_option maxRecDepth 20000 in
theorem gX8_first_X1_useRules : GoodIn wsX8_first (wsV RX8 236 RX1 yX1_useRules wsX1_useRules) := goodIn_app (goodIn_of _ (by decide +kernel)) ggX8_first_X1_useRules
set_option maxRecDepth 20000 in
theorem ggX8_first_X1_look : GoodIn wsX8_first wsX1_look := goodIn_r _ [28, 29, 30, 25, 24, 31, 22, 23, 32, 33, 34, 35, 36, 37, 38, 39, 40, 41, 42, 43, 44, 45, 46, 47, 48, 49, 50, 51, 52, 53, 54, 55, 56, 57, 58, 59, 60, 61, 62, 63, 64, 65, 66, 67, 68, 69, 70, 71, 72, 73, 74, 75, 76, 77, 78, 79, 80, 81, 26, 27, 20, 115, 116, 117, 118, 119, 120, 108, 109, 110, 111, 112, 113, 114, 121, 122, 123, 124, 125, 126, 127, 128, 129, 130, 131, 132] (by decide +kernel) (by decide +kernel)
set_option maxRecDepth 20000 in
theorem gX8_first_X1_look_n244 : GoodIn wsX8_first (wsX1_look) := ggX8_first_X1_look
set_option maxRecDepth 20000 in
theorem ggX8_first_X3_worthTo : GoodIn wsX8_first wsX3_worthTo := goodIn_r _ [36, 37, 38, 39, 108, 109, 110, 111, 112, 113, 114] (by decide +kernel) (by decide +kernel)
set_option maxRecDepth 20000 in
theorem gX8_first_X3_worthTo : GoodIn wsX8_first (wsV RX8 194 RX3 yX3_worthTo wsX3_worthTo) := goodIn_app (goodIn_of _ (by decide +kernel)) ggX8_first_X3_worthTo
theorem dX8_first_0 : decode cX8_first 0 = .ok (.aload_n 0, 1) := by decide +kernel
theorem dX8_first_1 : decode cX8_first 1 = .ok (.iload_n 1, 1) := by decide +kernel
theorem dX8_first_2 : decode cX8_first 2 = .ok (.invokevirtual 181, 3) := by decide +kernel
theorem dX8_first_5 : decode cX8_first 5 = .ok (.ifCond .eq 10, 3) := by decide +kernel
theorem dX8_first_8 : decode cX8_first 8 = .ok (.iload_n 2, 1) := by decide +kernel
theorem dX8_first_9 : decode cX8_first 9 = .ok (.invokestatic 233, 3) := by decide +kernel
theorem dX8_first_12 : decode cX8_first 12 = .ok (.ifCond .ne 6, 3) := by decide +kernel
theorem dX8_first_15 : decode cX8_first 15 = .ok (.ldc 95, 2) := by decide +kernel
theorem dX8_first_17 : decode cX8_first 17 = .ok (.ireturn, 1) := by decide +kernel
theorem dX8_first_18 : decode cX8_first 18 = .ok (.aload_n 0, 1) := by decide +kernel
theorem dX8_first_19 : decode cX8_first 19 = .ok (.getfield 90, 3) := by decide +kernel
theorem dX8_first_22 : decode cX8_first 22 = .ok (.aload_n 0, 1) := by decide +kernel
theorem dX8_first_23 : decode cX8_first 23 = .ok (.getfield 38, 3) := by decide +kernel
theorem dX8_first_26 : decode cX8_first 26 = .ok (.getfield 144, 3) := by decide +kernel
theorem dX8_first_29 : decode cX8_first 29 = .ok (.aload_n 0, 1) := by decide +kernel
theorem dX8_first_30 : decode cX8_first 30 = .ok (.getfield 38, 3) := by decide +kernel
theorem dX8_first_33 : decode cX8_first 33 = .ok (.getfield 147, 3) := by decide +kernel
theorem dX8_first_36 : decode cX8_first 36 = .ok (.iconst 1, 1) := by decide +kernel
theorem dX8_first_37 : decode cX8_first 37 = .ok (.if_icmp .ne 7, 3) := by decide +kernel
theorem dX8_first_40 : decode cX8_first 40 = .ok (.iconst 1, 1) := by decide +kernel
theorem dX8_first_41 : decode cX8_first 41 = .ok (.goto 4, 3) := by decide +kernel
theorem dX8_first_44 : decode cX8_first 44 = .ok (.iconst 0, 1) := by decide +kernel
theorem dX8_first_45 : decode cX8_first 45 = .ok (.aload_n 0, 1) := by decide +kernel
theorem dX8_first_46 : decode cX8_first 46 = .ok (.invokevirtual 226, 3) := by decide +kernel
theorem dX8_first_49 : decode cX8_first 49 = .ok (.invokevirtual 236, 3) := by decide +kernel
theorem dX8_first_52 : decode cX8_first 52 = .ok (.aload_n 0, 1) := by decide +kernel
theorem dX8_first_53 : decode cX8_first 53 = .ok (.getfield 90, 3) := by decide +kernel
theorem dX8_first_56 : decode cX8_first 56 = .ok (.iload_n 1, 1) := by decide +kernel
theorem dX8_first_57 : decode cX8_first 57 = .ok (.iconst 0, 1) := by decide +kernel
theorem dX8_first_58 : decode cX8_first 58 = .ok (.iload_n 2, 1) := by decide +kernel
theorem dX8_first_59 : decode cX8_first 59 = .ok (.invokevirtual 244, 3) := by decide +kernel
theorem dX8_first_62 : decode cX8_first 62 = .ok (.sipush 4096, 3) := by decide +kernel
theorem dX8_first_65 : decode cX8_first 65 = .ok (.irem, 1) := by decide +kernel
theorem dX8_first_66 : decode cX8_first 66 = .ok (.istore_n 3, 1) := by decide +kernel
theorem dX8_first_67 : decode cX8_first 67 = .ok (.aload_n 0, 1) := by decide +kernel
theorem dX8_first_68 : decode cX8_first 68 = .ok (.getfield 90, 3) := by decide +kernel
theorem dX8_first_71 : decode cX8_first 71 = .ok (.iload_n 1, 1) := by decide +kernel
theorem dX8_first_72 : decode cX8_first 72 = .ok (.iconst 1, 1) := by decide +kernel
theorem dX8_first_73 : decode cX8_first 73 = .ok (.iload_n 2, 1) := by decide +kernel
theorem dX8_first_74 : decode cX8_first 74 = .ok (.invokevirtual 244, 3) := by decide +kernel
theorem dX8_first_77 : decode cX8_first 77 = .ok (.sipush 4096, 3) := by decide +kernel
theorem dX8_first_80 : decode cX8_first 80 = .ok (.irem, 1) := by decide +kernel
theorem dX8_first_81 : decode cX8_first 81 = .ok (.istore 4, 2) := by decide +kernel
theorem dX8_first_83 : decode cX8_first 83 = .ok (.aload_n 0, 1) := by decide +kernel
theorem dX8_first_84 : decode cX8_first 84 = .ok (.getfield 31, 3) := by decide +kernel
theorem dX8_first_87 : decode cX8_first 87 = .ok (.iconst 0, 1) := by decide +kernel
theorem dX8_first_88 : decode cX8_first 88 = .ok (.iload_n 3, 1) := by decide +kernel
theorem dX8_first_89 : decode cX8_first 89 = .ok (.invokevirtual 194, 3) := by decide +kernel
theorem dX8_first_92 : decode cX8_first 92 = .ok (.aload_n 0, 1) := by decide +kernel
theorem dX8_first_93 : decode cX8_first 93 = .ok (.getfield 31, 3) := by decide +kernel
theorem dX8_first_96 : decode cX8_first 96 = .ok (.iconst 0, 1) := by decide +kernel
theorem dX8_first_97 : decode cX8_first 97 = .ok (.iload 4, 2) := by decide +kernel
theorem dX8_first_99 : decode cX8_first 99 = .ok (.invokevirtual 194, 3) := by decide +kernel
theorem dX8_first_102 : decode cX8_first 102 = .ok (.isub, 1) := by decide +kernel
theorem dX8_first_103 : decode cX8_first 103 = .ok (.ireturn, 1) := by decide +kernel
set_option maxRecDepth 20000 in
theorem ggX8_carrier_X8_isLetter : GoodIn wsX8_carrier wsX8_isLetter := goodIn_r _ [9, 10, 71, 72, 73, 74, 75, 76, 77, 78, 79, 80, 81, 82, 83, 84, 85, 86, 89, 90, 91, 92, 93, 94, 95] (by decide +kernel) (by decide +kernel)
set_option maxRecDepth 20000 in
theorem gX8_carrier_X8_isLetter : GoodIn wsX8_carrier (wsV RX8 181 RX8 yX8_isLetter wsX8_isLetter) := goodIn_app (goodIn_of _ (by decide +kernel)) ggX8_carrier_X8_isLetter
set_option maxRecDepth 20000 in
theorem ggX8_carrier_X8_listChanges : GoodIn wsX8_carrier wsX8_listChanges := goodIn_r _ [14, 10, 15, 3, 16, 17, 18, 19, 20, 21, 22, 23, 24, 25, 26, 27, 28, 29, 30, 31, 32, 33, 34, 35, 36, 37, 38, 39, 40, 41, 42, 43, 44, 45, 46, 47, 48, 49, 50, 51, 52, 53, 54, 71, 72, 73, 74, 75, 76, 77, 78, 79, 80, 81, 82, 83, 84, 85, 86, 96, 97, 98, 99, 100, 101, 102, 103, 104, 87, 88, 89, 90, 91, 92, 93, 94, 95, 105, 106, 107, 108, 109, 110, 111, 112, 113, 114] (by decide +kernel) (by decide +kernel)
set_option maxRecDepth 20000 in
theorem gX8_carrier_X8_listChanges : GoodIn wsX8_carrier (wsV RX8 197 RX8 yX8_listChanges wsX8_listChanges) := goodIn_app (goodIn_of _ (by decide +kernel)) ggX8_carrier_X8_listChanges
set_option maxRecDepth 20000 in
theorem ggX8_carrier_X6_empty : GoodIn wsX8_carrier wsX6_empty := goodIn_r _ [25, 26, 87, 88] (by decide +kernel) (by decide +kernel)
set_option maxRecDepth 20000 in
theorem gX8_carrier_X6_empty : GoodIn wsX8_carrier (wsV RX8 119 RX6 yX6_empty wsX6_empty) := goodIn_app (goodIn_of _ (by decide +kernel)) ggX8_carrier_X6_empty
set_option maxRecDepth 20000 in
theorem ggX8_carrier_X6_get : GoodIn wsX8_carrier wsX6_get := goodIn_r _ [59, 26, 50, 87, 88] (by decide +kernel) (by decide +kernel)
set_option maxRecDepth 20000 in
theorem gX8_carrier_X6_get : GoodIn wsX8_carrier (wsV RX8 247 RX6 yX6_get wsX6_get) := goodIn_app (goodIn_of _ (by decide +kernel)) ggX8_carrier_X6_get
set_option maxRecDepth 20000 in
theorem ggX8_carrier_X7_wordsApart : GoodIn wsX8_carrier wsX7_wordsApart := goodIn_r _ [63, 38, 64, 33, 34, 35, 36, 37, 39, 105, 106, 107, 108, 109, 110, 111, 112, 113, 114] (by decide +kernel) (by decide +kernel)
set_option maxRecDepth 20000 in
theorem gX8_carrier_X7_wordsApart : GoodIn wsX8_carrier (wsV RX8 250 RX7 yX7_wordsApart wsX7_wordsApart) := goodIn_app (goodIn_of _ (by decide +kernel)) ggX8_carrier_X7_wordsApart
set_option maxRecDepth 20000 in
theorem ggX8_carrier_X6_add : GoodIn wsX8_carrier wsX6_add := goodIn_r _ [49, 26, 50, 87, 88] (by decide +kernel) (by decide +kernel)
set_option maxRecDepth 20000 in
theorem gX8_carrier_X6_add : GoodIn wsX8_carrier (wsV RX8 253 RX6 yX6_add wsX6_add) := goodIn_app (goodIn_of _ (by decide +kernel)) ggX8_carrier_X6_add
set_option maxRecDepth 20000 in
theorem ggX8_carrier_X6_countOrGet : GoodIn wsX8_carrier wsX6_countOrGet := goodIn_r _ [69, 26, 70, 57, 58, 24, 59, 50, 87, 88] (by decide +kernel) (by decide +kernel)
set_option maxRecDepth 20000 in
theorem gX8_carrier_X6_countOrGet : GoodIn wsX8_carrier (wsV RX8 200 RX6 yX6_countOrGet wsX6_countOrGet) := goodIn_app (goodIn_of _ (by decide +kernel)) ggX8_carrier_X6_countOrGet
theorem dX8_carrier_0 : decode cX8_carrier 0 = .ok (.aload_n 0, 1) := by decide +kernel
theorem dX8_carrier_1 : decode cX8_carrier 1 = .ok (.iload_n 1, 1) := by decide +kernel
theorem dX8_carrier_2 : decode cX8_carrier 2 = .ok (.invokevirtual 181, 3) := by decide +kernel
theorem dX8_carrier_5 : decode cX8_carrier 5 = .ok (.ifCond .eq 11, 3) := by decide +kernel
theorem dX8_carrier_8 : decode cX8_carrier 8 = .ok (.aload_n 0, 1) := by decide +kernel
theorem dX8_carrier_9 : decode cX8_carrier 9 = .ok (.iload_n 2, 1) := by decide +kernel
theorem dX8_carrier_10 : decode cX8_carrier 10 = .ok (.invokevirtual 181, 3) := by decide +kernel
theorem dX8_carrier_13 : decode cX8_carrier 13 = .ok (.ifCond .ne 6, 3) := by decide +kernel
theorem dX8_carrier_16 : decode cX8_carrier 16 = .ok (.ldc 95, 2) := by decide +kernel
theorem dX8_carrier_18 : decode cX8_carrier 18 = .ok (.ireturn, 1) := by decide +kernel
theorem dX8_carrier_19 : decode cX8_carrier 19 = .ok (.aload_n 0, 1) := by decide +kernel
theorem dX8_carrier_20 : decode cX8_carrier 20 = .ok (.iload_n 1, 1) := by decide +kernel
theorem dX8_carrier_21 : decode cX8_carrier 21 = .ok (.invokevirtual 197, 3) := by decide +kernel
theorem dX8_carrier_24 : decode cX8_carrier 24 = .ok (.aload_n 0, 1) := by decide +kernel
theorem dX8_carrier_25 : decode cX8_carrier 25 = .ok (.getfield 68, 3) := by decide +kernel
theorem dX8_carrier_28 : decode cX8_carrier 28 = .ok (.invokevirtual 119, 3) := by decide +kernel
theorem dX8_carrier_31 : decode cX8_carrier 31 = .ok (.iconst 0, 1) := by decide +kernel
theorem dX8_carrier_32 : decode cX8_carrier 32 = .ok (.istore 4, 2) := by decide +kernel
theorem dX8_carrier_34 : decode cX8_carrier 34 = .ok (.iload 4, 2) := by decide +kernel
theorem dX8_carrier_36 : decode cX8_carrier 36 = .ok (.aload_n 0, 1) := by decide +kernel
theorem dX8_carrier_37 : decode cX8_carrier 37 = .ok (.getfield 65, 3) := by decide +kernel
theorem dX8_carrier_40 : decode cX8_carrier 40 = .ok (.getfield 163, 3) := by decide +kernel
theorem dX8_carrier_43 : decode cX8_carrier 43 = .ok (.if_icmp .ge 46, 3) := by decide +kernel
theorem dX8_carrier_46 : decode cX8_carrier 46 = .ok (.aload_n 0, 1) := by decide +kernel
theorem dX8_carrier_47 : decode cX8_carrier 47 = .ok (.getfield 19, 3) := by decide +kernel
theorem dX8_carrier_50 : decode cX8_carrier 50 = .ok (.aload_n 0, 1) := by decide +kernel
theorem dX8_carrier_51 : decode cX8_carrier 51 = .ok (.getfield 65, 3) := by decide +kernel
theorem dX8_carrier_54 : decode cX8_carrier 54 = .ok (.iload 4, 2) := by decide +kernel
theorem dX8_carrier_56 : decode cX8_carrier 56 = .ok (.invokevirtual 247, 3) := by decide +kernel
theorem dX8_carrier_59 : decode cX8_carrier 59 = .ok (.iload_n 2, 1) := by decide +kernel
theorem dX8_carrier_60 : decode cX8_carrier 60 = .ok (.invokevirtual 250, 3) := by decide +kernel
theorem dX8_carrier_63 : decode cX8_carrier 63 = .ok (.iconst 1, 1) := by decide +kernel
theorem dX8_carrier_64 : decode cX8_carrier 64 = .ok (.if_icmp .gt 19, 3) := by decide +kernel
theorem dX8_carrier_67 : decode cX8_carrier 67 = .ok (.aload_n 0, 1) := by decide +kernel
theorem dX8_carrier_68 : decode cX8_carrier 68 = .ok (.getfield 68, 3) := by decide +kernel
theorem dX8_carrier_71 : decode cX8_carrier 71 = .ok (.aload_n 0, 1) := by decide +kernel
theorem dX8_carrier_72 : decode cX8_carrier 72 = .ok (.getfield 65, 3) := by decide +kernel
theorem dX8_carrier_75 : decode cX8_carrier 75 = .ok (.iload 4, 2) := by decide +kernel
theorem dX8_carrier_77 : decode cX8_carrier 77 = .ok (.invokevirtual 247, 3) := by decide +kernel
theorem dX8_carrier_80 : decode cX8_carrier 80 = .ok (.invokevirtual 253, 3) := by decide +kernel
theorem dX8_carrier_83 : decode cX8_carrier 83 = .ok (.iinc 4 1, 3) := by decide +kernel
theorem dX8_carrier_86 : decode cX8_carrier 86 = .ok (.goto (-52), 3) := by decide +kernel
theorem dX8_carrier_89 : decode cX8_carrier 89 = .ok (.aload_n 0, 1) := by decide +kernel
theorem dX8_carrier_90 : decode cX8_carrier 90 = .ok (.getfield 68, 3) := by decide +kernel
theorem dX8_carrier_93 : decode cX8_carrier 93 = .ok (.iload_n 3, 1) := by decide +kernel
theorem dX8_carrier_94 : decode cX8_carrier 94 = .ok (.invokevirtual 200, 3) := by decide +kernel
theorem dX8_carrier_97 : decode cX8_carrier 97 = .ok (.ireturn, 1) := by decide +kernel
set_option maxRecDepth 20000 in
theorem ggX8_guess_X8_isHouse : GoodIn wsX8_guess wsX8_isHouse := goodIn_r _ [8] (by decide +kernel) (by decide +kernel)
set_option maxRecDepth 20000 in
theorem gX8_guess_X8_isHouse : GoodIn wsX8_guess (va_wsS RX8 191 yX8_isHouse wsX8_isHouse) := goodIn_app (goodIn_of _ (by decide +kernel)) ggX8_guess_X8_isHouse
set_option maxRecDepth 20000 in
theorem ggX8_guess_X2_restart : GoodIn wsX8_guess wsX2_restart := goodIn_r _ [13, 14, 15, 16, 17, 18, 19, 36, 37] (by decide +kernel) (by decide +kernel)
set_option maxRecDepth 20000 in
theorem gX8_guess_X2_restart : GoodIn wsX8_guess (wsV RX8 256 RX2 yX2_restart wsX2_restart) := goodIn_app (goodIn_of _ (by decide +kernel)) ggX8_guess_X2_restart
theorem dX8_guess_0 : decode cX8_guess 0 = .ok (.iload_n 1, 1) := by decide +kernel
theorem dX8_guess_1 : decode cX8_guess 1 = .ok (.invokestatic 191, 3) := by decide +kernel
theorem dX8_guess_4 : decode cX8_guess 4 = .ok (.ifCond .ne 6, 3) := by decide +kernel
theorem dX8_guess_7 : decode cX8_guess 7 = .ok (.ldc 173, 2) := by decide +kernel
theorem dX8_guess_9 : decode cX8_guess 9 = .ok (.ireturn, 1) := by decide +kernel
theorem dX8_guess_10 : decode cX8_guess 10 = .ok (.aload_n 0, 1) := by decide +kernel
theorem dX8_guess_11 : decode cX8_guess 11 = .ok (.getfield 116, 3) := by decide +kernel
theorem dX8_guess_14 : decode cX8_guess 14 = .ok (.bipush 6, 2) := by decide +kernel
theorem dX8_guess_16 : decode cX8_guess 16 = .ok (.if_icmp .lt 6, 3) := by decide +kernel
theorem dX8_guess_19 : decode cX8_guess 19 = .ok (.ldc 209, 2) := by decide +kernel
theorem dX8_guess_21 : decode cX8_guess 21 = .ok (.ireturn, 1) := by decide +kernel
theorem dX8_guess_22 : decode cX8_guess 22 = .ok (.aload_n 0, 1) := by decide +kernel
theorem dX8_guess_23 : decode cX8_guess 23 = .ok (.getfield 52, 3) := by decide +kernel
theorem dX8_guess_26 : decode cX8_guess 26 = .ok (.aload_n 0, 1) := by decide +kernel
theorem dX8_guess_27 : decode cX8_guess 27 = .ok (.getfield 116, 3) := by decide +kernel
theorem dX8_guess_30 : decode cX8_guess 30 = .ok (.aaload, 1) := by decide +kernel
theorem dX8_guess_31 : decode cX8_guess 31 = .ok (.iload_n 1, 1) := by decide +kernel
theorem dX8_guess_32 : decode cX8_guess 32 = .ok (.invokevirtual 256, 3) := by decide +kernel
theorem dX8_guess_35 : decode cX8_guess 35 = .ok (.aload_n 0, 1) := by decide +kernel
theorem dX8_guess_36 : decode cX8_guess 36 = .ok (.dup, 1) := by decide +kernel
theorem dX8_guess_37 : decode cX8_guess 37 = .ok (.getfield 116, 3) := by decide +kernel
theorem dX8_guess_40 : decode cX8_guess 40 = .ok (.iconst 1, 1) := by decide +kernel
theorem dX8_guess_41 : decode cX8_guess 41 = .ok (.iadd, 1) := by decide +kernel
theorem dX8_guess_42 : decode cX8_guess 42 = .ok (.putfield 116, 3) := by decide +kernel
theorem dX8_guess_45 : decode cX8_guess 45 = .ok (.aload_n 0, 1) := by decide +kernel
theorem dX8_guess_46 : decode cX8_guess 46 = .ok (.getfield 116, 3) := by decide +kernel
theorem dX8_guess_49 : decode cX8_guess 49 = .ok (.iconst 1, 1) := by decide +kernel
theorem dX8_guess_50 : decode cX8_guess 50 = .ok (.isub, 1) := by decide +kernel
theorem dX8_guess_51 : decode cX8_guess 51 = .ok (.ireturn, 1) := by decide +kernel
set_option maxRecDepth 20000 in
theorem ggX8_mean_X8_isGuess : GoodIn wsX8_mean wsX8_isGuess := goodIn_r _ [8, 9, 15, 16, 17, 18, 19, 20, 21, 22, 23, 24, 25, 26, 27, 28, 29, 30] (by decide +kernel) (by decide +kernel)
set_option maxRecDepth 20000 in
theorem gX8_mean_X8_isGuess : GoodIn wsX8_mean (wsV RX8 258 RX8 yX8_isGuess wsX8_isGuess) := goodIn_app (goodIn_of _ (by decide +kernel)) ggX8_mean_X8_isGuess
set_option maxRecDepth 20000 in
theorem ggX8_mean_X8_isWord : GoodIn wsX8_mean wsX8_isWord := goodIn_r _ [13, 14, 15, 16, 17, 18, 19, 20, 21, 22, 23, 24, 25, 26, 27, 28, 29, 30, 33, 34, 35, 36, 37, 38, 39, 40, 41, 42] (by decide +kernel) (by decide +kernel)
set_option maxRecDepth 20000 in
theorem gX8_mean_X8_isWord : GoodIn wsX8_mean (wsV RX8 169 RX8 yX8_isWord wsX8_isWord) := goodIn_app (goodIn_of _ (by decide +kernel)) ggX8_mean_X8_isWord
theorem dX8_mean_0 : decode cX8_mean 0 = .ok (.aload_n 0, 1) := by decide +kernel
theorem dX8_mean_1 : decode cX8_mean 1 = .ok (.iload_n 1, 1) := by decide +kernel
theorem dX8_mean_2 : decode cX8_mean 2 = .ok (.invokevirtual 258, 3) := by decide +kernel
theorem dX8_mean_5 : decode cX8_mean 5 = .ok (.ifCond .eq 11, 3) := by decide +kernel
theorem dX8_mean_8 : decode cX8_mean 8 = .ok (.aload_n 0, 1) := by decide +kernel
theorem dX8_mean_9 : decode cX8_mean 9 = .ok (.iload_n 2, 1) := by decide +kernel
theorem dX8_mean_10 : decode cX8_mean 10 = .ok (.invokevirtual 169, 3) := by decide +kernel
theorem dX8_mean_13 : decode cX8_mean 13 = .ok (.ifCond .ne 6, 3) := by decide +kernel
theorem dX8_mean_16 : decode cX8_mean 16 = .ok (.ldc 173, 2) := by decide +kernel
theorem dX8_mean_18 : decode cX8_mean 18 = .ok (.ireturn, 1) := by decide +kernel
theorem dX8_mean_19 : decode cX8_mean 19 = .ok (.iload_n 3, 1) := by decide +kernel
theorem dX8_mean_20 : decode cX8_mean 20 = .ok (.bipush (-50), 2) := by decide +kernel
theorem dX8_mean_22 : decode cX8_mean 22 = .ok (.if_icmp .lt 9, 3) := by decide +kernel
theorem dX8_mean_25 : decode cX8_mean 25 = .ok (.iload_n 3, 1) := by decide +kernel
theorem dX8_mean_26 : decode cX8_mean 26 = .ok (.bipush 49, 2) := by decide +kernel
theorem dX8_mean_28 : decode cX8_mean 28 = .ok (.if_icmp .le 6, 3) := by decide +kernel
theorem dX8_mean_31 : decode cX8_mean 31 = .ok (.ldc 95, 2) := by decide +kernel
theorem dX8_mean_33 : decode cX8_mean 33 = .ok (.ireturn, 1) := by decide +kernel
theorem dX8_mean_34 : decode cX8_mean 34 = .ok (.aload_n 0, 1) := by decide +kernel
theorem dX8_mean_35 : decode cX8_mean 35 = .ok (.getfield 52, 3) := by decide +kernel
theorem dX8_mean_38 : decode cX8_mean 38 = .ok (.iload_n 1, 1) := by decide +kernel
theorem dX8_mean_39 : decode cX8_mean 39 = .ok (.aaload, 1) := by decide +kernel
theorem dX8_mean_40 : decode cX8_mean 40 = .ok (.getfield 261, 3) := by decide +kernel
theorem dX8_mean_43 : decode cX8_mean 43 = .ok (.iload_n 2, 1) := by decide +kernel
theorem dX8_mean_44 : decode cX8_mean 44 = .ok (.iaload, 1) := by decide +kernel
theorem dX8_mean_45 : decode cX8_mean 45 = .ok (.istore 4, 2) := by decide +kernel
theorem dX8_mean_47 : decode cX8_mean 47 = .ok (.aload_n 0, 1) := by decide +kernel
theorem dX8_mean_48 : decode cX8_mean 48 = .ok (.getfield 52, 3) := by decide +kernel
theorem dX8_mean_51 : decode cX8_mean 51 = .ok (.iload_n 1, 1) := by decide +kernel
theorem dX8_mean_52 : decode cX8_mean 52 = .ok (.aaload, 1) := by decide +kernel
theorem dX8_mean_53 : decode cX8_mean 53 = .ok (.getfield 261, 3) := by decide +kernel
theorem dX8_mean_56 : decode cX8_mean 56 = .ok (.iload_n 2, 1) := by decide +kernel
theorem dX8_mean_57 : decode cX8_mean 57 = .ok (.iload_n 3, 1) := by decide +kernel
theorem dX8_mean_58 : decode cX8_mean 58 = .ok (.iastore, 1) := by decide +kernel
theorem dX8_mean_59 : decode cX8_mean 59 = .ok (.iload 4, 2) := by decide +kernel
theorem dX8_mean_61 : decode cX8_mean 61 = .ok (.ireturn, 1) := by decide +kernel
set_option maxRecDepth 20000 in
theorem ggX8_fits_X8_isGuess : GoodIn wsX8_fits wsX8_isGuess := goodIn_r _ [8, 9, 88, 89, 90, 91, 92, 93, 94, 95, 96, 97, 98, 99, 100, 101, 102, 103] (by decide +kernel) (by decide +kernel)
set_option maxRecDepth 20000 in
theorem gX8_fits_X8_isGuess : GoodIn wsX8_fits (wsV RX8 258 RX8 yX8_isGuess wsX8_isGuess) := goodIn_app (goodIn_of _ (by decide +kernel)) ggX8_fits_X8_isGuess
set_option maxRecDepth 20000 in
theorem ggX8_fits_X0_entry : GoodIn wsX8_fits wsX0_entry := goodIn_r _ [14, 15, 16, 104, 105, 106, 107, 108, 109, 110, 111, 112] (by decide +kernel) (by decide +kernel)
set_option maxRecDepth 20000 in
theorem gX8_fits_X0_entry : GoodIn wsX8_fits (wsV RX8 219 RX0 yX0_entry wsX0_entry) := goodIn_app (goodIn_of _ (by decide +kernel)) ggX8_fits_X0_entry
set_option maxRecDepth 20000 in
theorem ggX8_fits_X8_explains : GoodIn wsX8_fits wsX8_explains := goodIn_r _ [20, 21, 22, 23, 24, 7, 25, 26, 27, 28, 29, 30, 31, 32, 33, 34, 35, 36, 37, 38, 39, 40, 41, 42, 43, 44, 45, 46, 47, 48, 49, 50, 51, 52, 53, 54, 55, 56, 57, 3, 58, 59, 60, 61, 62, 63, 64, 65, 66, 67, 68, 69, 70, 71, 72, 73, 74, 75, 76, 77, 78, 79, 80, 81, 82, 83, 84, 85, 86, 87, 88, 89, 90, 91, 92, 93, 94, 95, 96, 97, 98, 99, 100, 101, 102, 103, 115, 116, 113, 114, 117, 118, 119, 120, 121, 122, 123, 124, 125, 126, 127, 128, 129, 130, 131, 132, 133, 104, 105, 106, 107, 108, 109, 110, 111, 112] (by decide +kernel) (by decide +kernel)
set_option maxRecDepth 20000 in
theorem gX8_fits_X8_explains : GoodIn wsX8_fits (wsV RX8 266 RX8 yX8_explains wsX8_explains) := goodIn_app (goodIn_of _ (by decide +kernel)) ggX8_fits_X8_explains
theorem dX8_fits_0 : decode cX8_fits 0 = .ok (.aload_n 0, 1) := by decide +kernel
theorem dX8_fits_1 : decode cX8_fits 1 = .ok (.iload_n 1, 1) := by decide +kernel
theorem dX8_fits_2 : decode cX8_fits 2 = .ok (.invokevirtual 258, 3) := by decide +kernel
theorem dX8_fits_5 : decode cX8_fits 5 = .ok (.ifCond .ne 6, 3) := by decide +kernel
theorem dX8_fits_8 : decode cX8_fits 8 = .ok (.ldc 173, 2) := by decide +kernel
theorem dX8_fits_10 : decode cX8_fits 10 = .ok (.ireturn, 1) := by decide +kernel
theorem dX8_fits_11 : decode cX8_fits 11 = .ok (.aload_n 0, 1) := by decide +kernel
theorem dX8_fits_12 : decode cX8_fits 12 = .ok (.getfield 52, 3) := by decide +kernel
theorem dX8_fits_15 : decode cX8_fits 15 = .ok (.iload_n 1, 1) := by decide +kernel
theorem dX8_fits_16 : decode cX8_fits 16 = .ok (.aaload, 1) := by decide +kernel
theorem dX8_fits_17 : decode cX8_fits 17 = .ok (.astore_n 2, 1) := by decide +kernel
theorem dX8_fits_18 : decode cX8_fits 18 = .ok (.iconst 0, 1) := by decide +kernel
theorem dX8_fits_19 : decode cX8_fits 19 = .ok (.istore_n 3, 1) := by decide +kernel
theorem dX8_fits_20 : decode cX8_fits 20 = .ok (.iload_n 3, 1) := by decide +kernel
theorem dX8_fits_21 : decode cX8_fits 21 = .ok (.aload_n 0, 1) := by decide +kernel
theorem dX8_fits_22 : decode cX8_fits 22 = .ok (.getfield 38, 3) := by decide +kernel
theorem dX8_fits_25 : decode cX8_fits 25 = .ok (.getfield 160, 3) := by decide +kernel
theorem dX8_fits_28 : decode cX8_fits 28 = .ok (.if_icmp .ge 53, 3) := by decide +kernel
theorem dX8_fits_31 : decode cX8_fits 31 = .ok (.aload_n 0, 1) := by decide +kernel
theorem dX8_fits_32 : decode cX8_fits 32 = .ok (.getfield 38, 3) := by decide +kernel
theorem dX8_fits_35 : decode cX8_fits 35 = .ok (.iload_n 3, 1) := by decide +kernel
theorem dX8_fits_36 : decode cX8_fits 36 = .ok (.iconst 0, 1) := by decide +kernel
theorem dX8_fits_37 : decode cX8_fits 37 = .ok (.invokevirtual 219, 3) := by decide +kernel
theorem dX8_fits_40 : decode cX8_fits 40 = .ok (.aload_n 2, 1) := by decide +kernel
theorem dX8_fits_41 : decode cX8_fits 41 = .ok (.getfield 263, 3) := by decide +kernel
theorem dX8_fits_44 : decode cX8_fits 44 = .ok (.if_icmp .ne 31, 3) := by decide +kernel
theorem dX8_fits_47 : decode cX8_fits 47 = .ok (.aload_n 0, 1) := by decide +kernel
theorem dX8_fits_48 : decode cX8_fits 48 = .ok (.aload_n 2, 1) := by decide +kernel
theorem dX8_fits_49 : decode cX8_fits 49 = .ok (.aload_n 0, 1) := by decide +kernel
theorem dX8_fits_50 : decode cX8_fits 50 = .ok (.getfield 38, 3) := by decide +kernel
theorem dX8_fits_53 : decode cX8_fits 53 = .ok (.iload_n 3, 1) := by decide +kernel
theorem dX8_fits_54 : decode cX8_fits 54 = .ok (.iconst 1, 1) := by decide +kernel
theorem dX8_fits_55 : decode cX8_fits 55 = .ok (.invokevirtual 219, 3) := by decide +kernel
theorem dX8_fits_58 : decode cX8_fits 58 = .ok (.aload_n 0, 1) := by decide +kernel
theorem dX8_fits_59 : decode cX8_fits 59 = .ok (.getfield 38, 3) := by decide +kernel
theorem dX8_fits_62 : decode cX8_fits 62 = .ok (.iload_n 3, 1) := by decide +kernel
theorem dX8_fits_63 : decode cX8_fits 63 = .ok (.iconst 2, 1) := by decide +kernel
theorem dX8_fits_64 : decode cX8_fits 64 = .ok (.invokevirtual 219, 3) := by decide +kernel
theorem dX8_fits_67 : decode cX8_fits 67 = .ok (.invokevirtual 266, 3) := by decide +kernel
theorem dX8_fits_70 : decode cX8_fits 70 = .ok (.ifCond .ne 5, 3) := by decide +kernel
theorem dX8_fits_73 : decode cX8_fits 73 = .ok (.iconst 0, 1) := by decide +kernel
theorem dX8_fits_74 : decode cX8_fits 74 = .ok (.ireturn, 1) := by decide +kernel
theorem dX8_fits_75 : decode cX8_fits 75 = .ok (.iinc 3 1, 3) := by decide +kernel
theorem dX8_fits_78 : decode cX8_fits 78 = .ok (.goto (-58), 3) := by decide +kernel
theorem dX8_fits_81 : decode cX8_fits 81 = .ok (.iconst 1, 1) := by decide +kernel
theorem dX8_fits_82 : decode cX8_fits 82 = .ok (.ireturn, 1) := by decide +kernel
set_option maxRecDepth 20000 in
theorem ggX8_write_X8_isLetter : GoodIn wsX8_write wsX8_isLetter := goodIn_r _ [8, 9, 17, 18, 19, 20, 21, 22, 23, 24, 25, 26, 27, 28, 29, 30, 31, 32, 35, 36, 37, 38, 39, 40, 41] (by decide +kernel) (by decide +kernel)
set_option maxRecDepth 20000 in
theorem gX8_write_X8_isLetter : GoodIn wsX8_write (wsV RX8 181 RX8 yX8_isLetter wsX8_isLetter) := goodIn_app (goodIn_of _ (by decide +kernel)) ggX8_write_X8_isLetter
set_option maxRecDepth 20000 in
theorem ggX8_write_X6_add : GoodIn wsX8_write wsX6_add := goodIn_r _ [14, 15, 16, 33, 34] (by decide +kernel) (by decide +kernel)
set_option maxRecDepth 20000 in
theorem gX8_write_X6_add : GoodIn wsX8_write (wsV RX8 253 RX6 yX6_add wsX6_add) := goodIn_app (goodIn_of _ (by decide +kernel)) ggX8_write_X6_add
theorem dX8_write_0 : decode cX8_write 0 = .ok (.aload_n 0, 1) := by decide +kernel
theorem dX8_write_1 : decode cX8_write 1 = .ok (.iload_n 1, 1) := by decide +kernel
theorem dX8_write_2 : decode cX8_write 2 = .ok (.invokevirtual 181, 3) := by decide +kernel
theorem dX8_write_5 : decode cX8_write 5 = .ok (.ifCond .ne 6, 3) := by decide +kernel
theorem dX8_write_8 : decode cX8_write 8 = .ok (.ldc 95, 2) := by decide +kernel
theorem dX8_write_10 : decode cX8_write 10 = .ok (.ireturn, 1) := by decide +kernel
theorem dX8_write_11 : decode cX8_write 11 = .ok (.aload_n 0, 1) := by decide +kernel
theorem dX8_write_12 : decode cX8_write 12 = .ok (.getfield 61, 3) := by decide +kernel
theorem dX8_write_15 : decode cX8_write 15 = .ok (.getfield 163, 3) := by decide +kernel
theorem dX8_write_18 : decode cX8_write 18 = .ok (.bipush 30, 2) := by decide +kernel
theorem dX8_write_20 : decode cX8_write 20 = .ok (.if_icmp .lt 6, 3) := by decide +kernel
theorem dX8_write_23 : decode cX8_write 23 = .ok (.ldc 209, 2) := by decide +kernel
theorem dX8_write_25 : decode cX8_write 25 = .ok (.ireturn, 1) := by decide +kernel
theorem dX8_write_26 : decode cX8_write 26 = .ok (.aload_n 0, 1) := by decide +kernel
theorem dX8_write_27 : decode cX8_write 27 = .ok (.getfield 61, 3) := by decide +kernel
theorem dX8_write_30 : decode cX8_write 30 = .ok (.iload_n 1, 1) := by decide +kernel
theorem dX8_write_31 : decode cX8_write 31 = .ok (.invokevirtual 253, 3) := by decide +kernel
theorem dX8_write_34 : decode cX8_write 34 = .ok (.aload_n 0, 1) := by decide +kernel
theorem dX8_write_35 : decode cX8_write 35 = .ok (.getfield 61, 3) := by decide +kernel
theorem dX8_write_38 : decode cX8_write 38 = .ok (.getfield 163, 3) := by decide +kernel
theorem dX8_write_41 : decode cX8_write 41 = .ok (.ireturn, 1) := by decide +kernel
set_option maxRecDepth 20000 in
theorem ggX8_tear_X6_empty : GoodIn wsX8_tear wsX6_empty := goodIn_r _ [7, 8, 25, 26] (by decide +kernel) (by decide +kernel)
set_option maxRecDepth 20000 in
theorem gX8_tear_X6_empty : GoodIn wsX8_tear (wsV RX8 119 RX6 yX6_empty wsX6_empty) := goodIn_app (goodIn_of _ (by decide +kernel)) ggX8_tear_X6_empty
theorem dX8_tear_0 : decode cX8_tear 0 = .ok (.aload_n 0, 1) := by decide +kernel
theorem dX8_tear_1 : decode cX8_tear 1 = .ok (.getfield 61, 3) := by decide +kernel
theorem dX8_tear_4 : decode cX8_tear 4 = .ok (.getfield 163, 3) := by decide +kernel
theorem dX8_tear_7 : decode cX8_tear 7 = .ok (.aload_n 0, 1) := by decide +kernel
theorem dX8_tear_8 : decode cX8_tear 8 = .ok (.getfield 116, 3) := by decide +kernel
theorem dX8_tear_11 : decode cX8_tear 11 = .ok (.iadd, 1) := by decide +kernel
theorem dX8_tear_12 : decode cX8_tear 12 = .ok (.istore_n 1, 1) := by decide +kernel
theorem dX8_tear_13 : decode cX8_tear 13 = .ok (.aload_n 0, 1) := by decide +kernel
theorem dX8_tear_14 : decode cX8_tear 14 = .ok (.getfield 61, 3) := by decide +kernel
theorem dX8_tear_17 : decode cX8_tear 17 = .ok (.invokevirtual 119, 3) := by decide +kernel
theorem dX8_tear_20 : decode cX8_tear 20 = .ok (.aload_n 0, 1) := by decide +kernel
theorem dX8_tear_21 : decode cX8_tear 21 = .ok (.iconst 0, 1) := by decide +kernel
theorem dX8_tear_22 : decode cX8_tear 22 = .ok (.putfield 116, 3) := by decide +kernel
theorem dX8_tear_25 : decode cX8_tear 25 = .ok (.iload_n 1, 1) := by decide +kernel
theorem dX8_tear_26 : decode cX8_tear 26 = .ok (.ireturn, 1) := by decide +kernel
set_option maxRecDepth 20000 in
theorem ggX8_judge_X6_get : GoodIn wsX8_judge wsX6_get := goodIn_r _ [6, 7, 8, 77, 78] (by decide +kernel) (by decide +kernel)
set_option maxRecDepth 20000 in
theorem gX8_judge_X6_get : GoodIn wsX8_judge (wsV RX8 247 RX6 yX6_get wsX6_get) := goodIn_app (goodIn_of _ (by decide +kernel)) ggX8_judge_X6_get
set_option maxRecDepth 20000 in
theorem ggX8_judge_X8_isChange : GoodIn wsX8_judge wsX8_isChange := goodIn_r _ [13, 14, 15, 16, 17, 12, 18, 19, 20, 21, 22, 23, 24, 25, 26, 27, 28, 5, 29, 7, 30, 31, 32, 33, 34, 35, 36, 37, 38, 39, 40, 41, 42, 43, 44, 45, 46, 47, 48, 49, 50, 51, 52, 8, 53, 54, 55, 56, 57, 58, 59, 60, 61, 62, 63, 64, 65, 66, 67, 68, 69, 70, 71, 72, 73, 74, 75, 76, 79, 80, 81, 82, 83, 84, 85, 86, 87, 77, 78, 88, 89, 90, 91, 92, 93, 94, 95, 96, 97, 98, 99, 100, 101, 102, 103, 104] (by decide +kernel) (by decide +kernel)
set_option maxRecDepth 20000 in
theorem gX8_judge_X8_isChange : GoodIn wsX8_judge (wsV RX8 204 RX8 yX8_isChange wsX8_isChange) := goodIn_app (goodIn_of _ (by decide +kernel)) ggX8_judge_X8_isChange
theorem dX8_judge_0 : decode cX8_judge 0 = .ok (.iconst 1, 1) := by decide +kernel
theorem dX8_judge_1 : decode cX8_judge 1 = .ok (.istore_n 1, 1) := by decide +kernel
theorem dX8_judge_2 : decode cX8_judge 2 = .ok (.iload_n 1, 1) := by decide +kernel
theorem dX8_judge_3 : decode cX8_judge 3 = .ok (.aload_n 0, 1) := by decide +kernel
theorem dX8_judge_4 : decode cX8_judge 4 = .ok (.getfield 61, 3) := by decide +kernel
theorem dX8_judge_7 : decode cX8_judge 7 = .ok (.getfield 163, 3) := by decide +kernel
theorem dX8_judge_10 : decode cX8_judge 10 = .ok (.if_icmp .ge 36, 3) := by decide +kernel
theorem dX8_judge_13 : decode cX8_judge 13 = .ok (.aload_n 0, 1) := by decide +kernel
theorem dX8_judge_14 : decode cX8_judge 14 = .ok (.aload_n 0, 1) := by decide +kernel
theorem dX8_judge_15 : decode cX8_judge 15 = .ok (.getfield 61, 3) := by decide +kernel
theorem dX8_judge_18 : decode cX8_judge 18 = .ok (.iload_n 1, 1) := by decide +kernel
theorem dX8_judge_19 : decode cX8_judge 19 = .ok (.iconst 1, 1) := by decide +kernel
theorem dX8_judge_20 : decode cX8_judge 20 = .ok (.isub, 1) := by decide +kernel
theorem dX8_judge_21 : decode cX8_judge 21 = .ok (.invokevirtual 247, 3) := by decide +kernel
theorem dX8_judge_24 : decode cX8_judge 24 = .ok (.aload_n 0, 1) := by decide +kernel
theorem dX8_judge_25 : decode cX8_judge 25 = .ok (.getfield 61, 3) := by decide +kernel
theorem dX8_judge_28 : decode cX8_judge 28 = .ok (.iload_n 1, 1) := by decide +kernel
theorem dX8_judge_29 : decode cX8_judge 29 = .ok (.invokevirtual 247, 3) := by decide +kernel
theorem dX8_judge_32 : decode cX8_judge 32 = .ok (.invokevirtual 204, 3) := by decide +kernel
theorem dX8_judge_35 : decode cX8_judge 35 = .ok (.ifCond .ne 5, 3) := by decide +kernel
theorem dX8_judge_38 : decode cX8_judge 38 = .ok (.iload_n 1, 1) := by decide +kernel
theorem dX8_judge_39 : decode cX8_judge 39 = .ok (.ireturn, 1) := by decide +kernel
theorem dX8_judge_40 : decode cX8_judge 40 = .ok (.iinc 1 1, 3) := by decide +kernel
theorem dX8_judge_43 : decode cX8_judge 43 = .ok (.goto (-41), 3) := by decide +kernel
theorem dX8_judge_46 : decode cX8_judge 46 = .ok (.iconst (-1), 1) := by decide +kernel
theorem dX8_judge_47 : decode cX8_judge 47 = .ok (.ireturn, 1) := by decide +kernel
set_option maxRecDepth 20000 in
theorem ggX8_drift_X8_stamp : GoodIn wsX8_drift wsX8_stamp := goodIn_r _ [10, 2, 3, 117, 118, 119, 120, 121, 122, 123, 124, 125, 126, 127, 128, 129, 130, 131, 132, 133, 134, 135, 136, 137, 138, 139, 140, 141, 142, 143, 144, 145, 146, 147, 148] (by decide +kernel) (by decide +kernel)
set_option maxRecDepth 20000 in
theorem gX8_drift_X8_stamp : GoodIn wsX8_drift (wsV RX8 226 RX8 yX8_stamp wsX8_stamp) := goodIn_app (goodIn_of _ (by decide +kernel)) ggX8_drift_X8_stamp
set_option maxRecDepth 20000 in
theorem ggX8_drift_X1_useRules : GoodIn wsX8_drift wsX1_useRules := goodIn_r _ [15, 16, 17, 18, 19, 149, 150, 151, 152, 153, 154] (by decide +kernel) (by decide +kernel)
set_option maxRecDepth 20000 in
theorem gX8_drift_X1_useRules : GoodIn wsX8_drift (wsV RX8 236 RX1 yX1_useRules wsX1_useRules) := goodIn_app (goodIn_of _ (by decide +kernel)) ggX8_drift_X1_useRules
set_option maxRecDepth 20000 in
theorem ggX8_drift_X0_draw : GoodIn wsX8_drift wsX0_draw := goodIn_r _ [24, 25, 26, 27, 28, 140, 141, 142, 143, 144, 145, 146, 147, 148] (by decide +kernel) (by decide +kernel)
set_option maxRecDepth 20000 in
theorem gX8_drift_X0_draw : GoodIn wsX8_drift (wsV RX8 270 RX0 yX0_draw wsX0_draw) := goodIn_app (goodIn_of _ (by decide +kernel)) ggX8_drift_X0_draw
set_option maxRecDepth 20000 in
theorem ggX8_drift_X8_sendAnyChange : GoodIn wsX8_drift wsX8_sendAnyChange := goodIn_r _ [32, 3, 33, 34, 35, 36, 9, 37, 2, 38, 39, 40, 41, 42, 43, 44, 45, 46, 47, 48, 49, 50, 51, 52, 53, 54, 55, 56, 57, 58, 59, 60, 61, 62, 63, 64, 65, 66, 67, 68, 69, 70, 71, 72, 73, 74, 75, 76, 20, 21, 22, 23, 24, 25, 26, 27, 28, 77, 78, 79, 80, 81, 82, 83, 84, 85, 86, 87, 88, 117, 118, 119, 120, 121, 122, 123, 124, 125, 126, 127, 128, 129, 130, 131, 132, 140, 141, 142, 143, 144, 145, 146, 147, 148, 155, 156, 133, 134, 135, 136, 137, 138, 139, 157, 158, 159, 160, 161, 162, 163, 164, 165, 166] (by decide +kernel) (by decide +kernel)
set_option maxRecDepth 20000 in
theorem gX8_drift_X8_sendAnyChange : GoodIn wsX8_drift (wsV RX8 273 RX8 yX8_sendAnyChange wsX8_sendAnyChange) := goodIn_app (goodIn_of _ (by decide +kernel)) ggX8_drift_X8_sendAnyChange
set_option maxRecDepth 20000 in
theorem ggX8_drift_X8_sendWhatPays : GoodIn wsX8_drift wsX8_sendWhatPays := goodIn_r _ [92, 5, 3, 93, 94, 95, 14, 96, 97, 98, 16, 17, 99, 100, 101, 102, 103, 19, 18, 104, 105, 106, 41, 107, 66, 108, 109, 110, 39, 40, 42, 43, 44, 45, 46, 47, 48, 49, 50, 51, 52, 53, 54, 55, 56, 57, 58, 59, 60, 61, 62, 63, 64, 65, 67, 68, 69, 70, 71, 72, 73, 74, 75, 76, 111, 78, 79, 80, 112, 113, 114, 9, 115, 2, 116, 81, 82, 83, 23, 84, 85, 86, 87, 88, 117, 118, 119, 120, 121, 122, 123, 124, 125, 126, 127, 128, 129, 130, 131, 132, 140, 141, 142, 143, 144, 145, 146, 147, 148, 149, 150, 151, 152, 153, 154, 155, 156, 133, 134, 135, 136, 137, 138, 139, 157, 158, 159, 160, 161, 162, 163, 164, 165, 166] (by decide +kernel) (by decide +kernel)
set_option maxRecDepth 20000 in
theorem gX8_drift_X8_sendWhatPays : GoodIn wsX8_drift (wsV RX8 276 RX8 yX8_sendWhatPays wsX8_sendWhatPays) := goodIn_app (goodIn_of _ (by decide +kernel)) ggX8_drift_X8_sendWhatPays
theorem dX8_drift_0 : decode cX8_drift 0 = .ok (.iload_n 1, 1) := by decide +kernel
theorem dX8_drift_1 : decode cX8_drift 1 = .ok (.iconst 1, 1) := by decide +kernel
theorem dX8_drift_2 : decode cX8_drift 2 = .ok (.if_icmp .lt 9, 3) := by decide +kernel
theorem dX8_drift_5 : decode cX8_drift 5 = .ok (.iload_n 1, 1) := by decide +kernel
theorem dX8_drift_6 : decode cX8_drift 6 = .ok (.bipush 40, 2) := by decide +kernel
theorem dX8_drift_8 : decode cX8_drift 8 = .ok (.if_icmp .le 6, 3) := by decide +kernel
theorem dX8_drift_11 : decode cX8_drift 11 = .ok (.ldc 95, 2) := by decide +kernel
theorem dX8_drift_13 : decode cX8_drift 13 = .ok (.ireturn, 1) := by decide +kernel
theorem dX8_drift_14 : decode cX8_drift 14 = .ok (.aload_n 0, 1) := by decide +kernel
theorem dX8_drift_15 : decode cX8_drift 15 = .ok (.getfield 31, 3) := by decide +kernel
theorem dX8_drift_18 : decode cX8_drift 18 = .ok (.getfield 107, 3) := by decide +kernel
theorem dX8_drift_21 : decode cX8_drift 21 = .ok (.ifCond .eq 13, 3) := by decide +kernel
theorem dX8_drift_24 : decode cX8_drift 24 = .ok (.aload_n 0, 1) := by decide +kernel
theorem dX8_drift_25 : decode cX8_drift 25 = .ok (.getfield 38, 3) := by decide +kernel
theorem dX8_drift_28 : decode cX8_drift 28 = .ok (.getfield 156, 3) := by decide +kernel
theorem dX8_drift_31 : decode cX8_drift 31 = .ok (.ifCond .eq 6, 3) := by decide +kernel
theorem dX8_drift_34 : decode cX8_drift 34 = .ok (.ldc 208, 2) := by decide +kernel
theorem dX8_drift_36 : decode cX8_drift 36 = .ok (.ireturn, 1) := by decide +kernel
theorem dX8_drift_37 : decode cX8_drift 37 = .ok (.aload_n 0, 1) := by decide +kernel
theorem dX8_drift_38 : decode cX8_drift 38 = .ok (.getfield 90, 3) := by decide +kernel
theorem dX8_drift_41 : decode cX8_drift 41 = .ok (.aload_n 0, 1) := by decide +kernel
theorem dX8_drift_42 : decode cX8_drift 42 = .ok (.getfield 38, 3) := by decide +kernel
theorem dX8_drift_45 : decode cX8_drift 45 = .ok (.getfield 144, 3) := by decide +kernel
theorem dX8_drift_48 : decode cX8_drift 48 = .ok (.aload_n 0, 1) := by decide +kernel
theorem dX8_drift_49 : decode cX8_drift 49 = .ok (.getfield 38, 3) := by decide +kernel
theorem dX8_drift_52 : decode cX8_drift 52 = .ok (.getfield 147, 3) := by decide +kernel
theorem dX8_drift_55 : decode cX8_drift 55 = .ok (.iconst 1, 1) := by decide +kernel
theorem dX8_drift_56 : decode cX8_drift 56 = .ok (.if_icmp .ne 7, 3) := by decide +kernel
theorem dX8_drift_59 : decode cX8_drift 59 = .ok (.iconst 1, 1) := by decide +kernel
theorem dX8_drift_60 : decode cX8_drift 60 = .ok (.goto 4, 3) := by decide +kernel
theorem dX8_drift_63 : decode cX8_drift 63 = .ok (.iconst 0, 1) := by decide +kernel
theorem dX8_drift_64 : decode cX8_drift 64 = .ok (.aload_n 0, 1) := by decide +kernel
theorem dX8_drift_65 : decode cX8_drift 65 = .ok (.invokevirtual 226, 3) := by decide +kernel
theorem dX8_drift_68 : decode cX8_drift 68 = .ok (.invokevirtual 236, 3) := by decide +kernel
theorem dX8_drift_71 : decode cX8_drift 71 = .ok (.iconst 0, 1) := by decide +kernel
theorem dX8_drift_72 : decode cX8_drift 72 = .ok (.istore_n 2, 1) := by decide +kernel
theorem dX8_drift_73 : decode cX8_drift 73 = .ok (.iload_n 2, 1) := by decide +kernel
theorem dX8_drift_74 : decode cX8_drift 74 = .ok (.iload_n 1, 1) := by decide +kernel
theorem dX8_drift_75 : decode cX8_drift 75 = .ok (.if_icmp .ge 31, 3) := by decide +kernel
theorem dX8_drift_78 : decode cX8_drift 78 = .ok (.aload_n 0, 1) := by decide +kernel
theorem dX8_drift_79 : decode cX8_drift 79 = .ok (.getfield 38, 3) := by decide +kernel
theorem dX8_drift_82 : decode cX8_drift 82 = .ok (.iconst 4, 1) := by decide +kernel
theorem dX8_drift_83 : decode cX8_drift 83 = .ok (.invokevirtual 270, 3) := by decide +kernel
theorem dX8_drift_86 : decode cX8_drift 86 = .ok (.ifCond .ne 10, 3) := by decide +kernel
theorem dX8_drift_89 : decode cX8_drift 89 = .ok (.aload_n 0, 1) := by decide +kernel
theorem dX8_drift_90 : decode cX8_drift 90 = .ok (.invokevirtual 273, 3) := by decide +kernel
theorem dX8_drift_93 : decode cX8_drift 93 = .ok (.goto 7, 3) := by decide +kernel
theorem dX8_drift_96 : decode cX8_drift 96 = .ok (.aload_n 0, 1) := by decide +kernel
theorem dX8_drift_97 : decode cX8_drift 97 = .ok (.invokevirtual 276, 3) := by decide +kernel
theorem dX8_drift_100 : decode cX8_drift 100 = .ok (.iinc 2 1, 3) := by decide +kernel
theorem dX8_drift_103 : decode cX8_drift 103 = .ok (.goto (-30), 3) := by decide +kernel
theorem dX8_drift_106 : decode cX8_drift 106 = .ok (.aload_n 0, 1) := by decide +kernel
theorem dX8_drift_107 : decode cX8_drift 107 = .ok (.getfield 38, 3) := by decide +kernel
theorem dX8_drift_110 : decode cX8_drift 110 = .ok (.getfield 150, 3) := by decide +kernel
theorem dX8_drift_113 : decode cX8_drift 113 = .ok (.ireturn, 1) := by decide +kernel
theorem dX8_seed_0 : decode cX8_seed 0 = .ok (.iload_n 1, 1) := by decide +kernel
theorem dX8_seed_1 : decode cX8_seed 1 = .ok (.ifCond .ge 6, 3) := by decide +kernel
theorem dX8_seed_4 : decode cX8_seed 4 = .ok (.ldc 95, 2) := by decide +kernel
theorem dX8_seed_6 : decode cX8_seed 6 = .ok (.ireturn, 1) := by decide +kernel
theorem dX8_seed_7 : decode cX8_seed 7 = .ok (.aload_n 0, 1) := by decide +kernel
theorem dX8_seed_8 : decode cX8_seed 8 = .ok (.getfield 38, 3) := by decide +kernel
theorem dX8_seed_11 : decode cX8_seed 11 = .ok (.getfield 279, 3) := by decide +kernel
theorem dX8_seed_14 : decode cX8_seed 14 = .ok (.istore_n 2, 1) := by decide +kernel
theorem dX8_seed_15 : decode cX8_seed 15 = .ok (.aload_n 0, 1) := by decide +kernel
theorem dX8_seed_16 : decode cX8_seed 16 = .ok (.getfield 38, 3) := by decide +kernel
theorem dX8_seed_19 : decode cX8_seed 19 = .ok (.iload_n 1, 1) := by decide +kernel
theorem dX8_seed_20 : decode cX8_seed 20 = .ok (.putfield 279, 3) := by decide +kernel
theorem dX8_seed_23 : decode cX8_seed 23 = .ok (.iload_n 2, 1) := by decide +kernel
theorem dX8_seed_24 : decode cX8_seed 24 = .ok (.ireturn, 1) := by decide +kernel
set_option maxRecDepth 20000 in
theorem ggX8_keep_X8_isImage : GoodIn wsX8_keep wsX8_isImage := goodIn_r _ [8] (by decide +kernel) (by decide +kernel)
set_option maxRecDepth 20000 in
theorem gX8_keep_X8_isImage : GoodIn wsX8_keep (va_wsS RX8 282 yX8_isImage wsX8_isImage) := goodIn_app (goodIn_of _ (by decide +kernel)) ggX8_keep_X8_isImage
set_option maxRecDepth 20000 in
theorem ggX8_keep_X0_become : GoodIn wsX8_keep wsX0_become := goodIn_r _ [13, 14, 15, 16, 17, 18, 19, 20, 21, 22, 23, 24, 25, 26, 43, 44, 45, 46, 47, 48, 49, 50, 51] (by decide +kernel) (by decide +kernel)
set_option maxRecDepth 20000 in
theorem gX8_keep_X0_become : GoodIn wsX8_keep (wsV RX8 285 RX0 yX0_become wsX0_become) := goodIn_app (goodIn_of _ (by decide +kernel)) ggX8_keep_X0_become
theorem dX8_keep_0 : decode cX8_keep 0 = .ok (.iload_n 1, 1) := by decide +kernel
theorem dX8_keep_1 : decode cX8_keep 1 = .ok (.invokestatic 282, 3) := by decide +kernel
theorem dX8_keep_4 : decode cX8_keep 4 = .ok (.ifCond .ne 6, 3) := by decide +kernel
theorem dX8_keep_7 : decode cX8_keep 7 = .ok (.ldc 173, 2) := by decide +kernel
theorem dX8_keep_9 : decode cX8_keep 9 = .ok (.ireturn, 1) := by decide +kernel
theorem dX8_keep_10 : decode cX8_keep 10 = .ok (.aload_n 0, 1) := by decide +kernel
theorem dX8_keep_11 : decode cX8_keep 11 = .ok (.getfield 42, 3) := by decide +kernel
theorem dX8_keep_14 : decode cX8_keep 14 = .ok (.iload_n 1, 1) := by decide +kernel
theorem dX8_keep_15 : decode cX8_keep 15 = .ok (.aaload, 1) := by decide +kernel
theorem dX8_keep_16 : decode cX8_keep 16 = .ok (.aload_n 0, 1) := by decide +kernel
theorem dX8_keep_17 : decode cX8_keep 17 = .ok (.getfield 38, 3) := by decide +kernel
theorem dX8_keep_20 : decode cX8_keep 20 = .ok (.invokevirtual 285, 3) := by decide +kernel
theorem dX8_keep_23 : decode cX8_keep 23 = .ok (.aload_n 0, 1) := by decide +kernel
theorem dX8_keep_24 : decode cX8_keep 24 = .ok (.getfield 46, 3) := by decide +kernel
theorem dX8_keep_27 : decode cX8_keep 27 = .ok (.iload_n 1, 1) := by decide +kernel
theorem dX8_keep_28 : decode cX8_keep 28 = .ok (.iconst 1, 1) := by decide +kernel
theorem dX8_keep_29 : decode cX8_keep 29 = .ok (.iastore, 1) := by decide +kernel
theorem dX8_keep_30 : decode cX8_keep 30 = .ok (.iconst 1, 1) := by decide +kernel
theorem dX8_keep_31 : decode cX8_keep 31 = .ok (.ireturn, 1) := by decide +kernel
set_option maxRecDepth 20000 in
theorem ggX8_goBack_X8_isImage : GoodIn wsX8_goBack wsX8_isImage := goodIn_r _ [9] (by decide +kernel) (by decide +kernel)
set_option maxRecDepth 20000 in
theorem gX8_goBack_X8_isImage : GoodIn wsX8_goBack (va_wsS RX8 282 yX8_isImage wsX8_isImage) := goodIn_app (goodIn_of _ (by decide +kernel)) ggX8_goBack_X8_isImage
set_option maxRecDepth 20000 in
theorem ggX8_goBack_X0_become : GoodIn wsX8_goBack wsX0_become := goodIn_r _ [14, 15, 16, 17, 18, 19, 20, 21, 22, 23, 24, 25, 26, 27, 44, 45, 46, 47, 48, 49, 50, 51, 52] (by decide +kernel) (by decide +kernel)
set_option maxRecDepth 20000 in
theorem gX8_goBack_X0_become : GoodIn wsX8_goBack (wsV RX8 285 RX0 yX0_become wsX0_become) := goodIn_app (goodIn_of _ (by decide +kernel)) ggX8_goBack_X0_become
theorem dX8_goBack_0 : decode cX8_goBack 0 = .ok (.iload_n 1, 1) := by decide +kernel
theorem dX8_goBack_1 : decode cX8_goBack 1 = .ok (.invokestatic 282, 3) := by decide +kernel
theorem dX8_goBack_4 : decode cX8_goBack 4 = .ok (.ifCond .ne 6, 3) := by decide +kernel
theorem dX8_goBack_7 : decode cX8_goBack 7 = .ok (.ldc 173, 2) := by decide +kernel
theorem dX8_goBack_9 : decode cX8_goBack 9 = .ok (.ireturn, 1) := by decide +kernel
theorem dX8_goBack_10 : decode cX8_goBack 10 = .ok (.aload_n 0, 1) := by decide +kernel
theorem dX8_goBack_11 : decode cX8_goBack 11 = .ok (.getfield 46, 3) := by decide +kernel
theorem dX8_goBack_14 : decode cX8_goBack 14 = .ok (.iload_n 1, 1) := by decide +kernel
theorem dX8_goBack_15 : decode cX8_goBack 15 = .ok (.iaload, 1) := by decide +kernel
theorem dX8_goBack_16 : decode cX8_goBack 16 = .ok (.ifCond .ne 6, 3) := by decide +kernel
theorem dX8_goBack_19 : decode cX8_goBack 19 = .ok (.ldc 208, 2) := by decide +kernel
theorem dX8_goBack_21 : decode cX8_goBack 21 = .ok (.ireturn, 1) := by decide +kernel
theorem dX8_goBack_22 : decode cX8_goBack 22 = .ok (.aload_n 0, 1) := by decide +kernel
theorem dX8_goBack_23 : decode cX8_goBack 23 = .ok (.getfield 38, 3) := by decide +kernel
theorem dX8_goBack_26 : decode cX8_goBack 26 = .ok (.aload_n 0, 1) := by decide +kernel
theorem dX8_goBack_27 : decode cX8_goBack 27 = .ok (.getfield 42, 3) := by decide +kernel
theorem dX8_goBack_30 : decode cX8_goBack 30 = .ok (.iload_n 1, 1) := by decide +kernel
theorem dX8_goBack_31 : decode cX8_goBack 31 = .ok (.aaload, 1) := by decide +kernel
theorem dX8_goBack_32 : decode cX8_goBack 32 = .ok (.invokevirtual 285, 3) := by decide +kernel
theorem dX8_goBack_35 : decode cX8_goBack 35 = .ok (.iconst 1, 1) := by decide +kernel
theorem dX8_goBack_36 : decode cX8_goBack 36 = .ok (.ireturn, 1) := by decide +kernel
theorem dX8_isHouse_0 : decode cX8_isHouse 0 = .ok (.iload_n 0, 1) := by decide +kernel
theorem dX8_isHouse_1 : decode cX8_isHouse 1 = .ok (.ifCond .lt 12, 3) := by decide +kernel
theorem dX8_isHouse_4 : decode cX8_isHouse 4 = .ok (.iload_n 0, 1) := by decide +kernel
theorem dX8_isHouse_5 : decode cX8_isHouse 5 = .ok (.iconst 2, 1) := by decide +kernel
theorem dX8_isHouse_6 : decode cX8_isHouse 6 = .ok (.if_icmp .ge 7, 3) := by decide +kernel
theorem dX8_isHouse_9 : decode cX8_isHouse 9 = .ok (.iconst 1, 1) := by decide +kernel
theorem dX8_isHouse_10 : decode cX8_isHouse 10 = .ok (.goto 4, 3) := by decide +kernel
theorem dX8_isHouse_13 : decode cX8_isHouse 13 = .ok (.iconst 0, 1) := by decide +kernel
theorem dX8_isHouse_14 : decode cX8_isHouse 14 = .ok (.ireturn, 1) := by decide +kernel
theorem dX8_isImage_0 : decode cX8_isImage 0 = .ok (.iload_n 0, 1) := by decide +kernel
theorem dX8_isImage_1 : decode cX8_isImage 1 = .ok (.ifCond .lt 12, 3) := by decide +kernel
theorem dX8_isImage_4 : decode cX8_isImage 4 = .ok (.iload_n 0, 1) := by decide +kernel
theorem dX8_isImage_5 : decode cX8_isImage 5 = .ok (.iconst 2, 1) := by decide +kernel
theorem dX8_isImage_6 : decode cX8_isImage 6 = .ok (.if_icmp .ge 7, 3) := by decide +kernel
theorem dX8_isImage_9 : decode cX8_isImage 9 = .ok (.iconst 1, 1) := by decide +kernel
theorem dX8_isImage_10 : decode cX8_isImage 10 = .ok (.goto 4, 3) := by decide +kernel
theorem dX8_isImage_13 : decode cX8_isImage 13 = .ok (.iconst 0, 1) := by decide +kernel
theorem dX8_isImage_14 : decode cX8_isImage 14 = .ok (.ireturn, 1) := by decide +kernel
theorem dX8_isMoves_0 : decode cX8_isMoves 0 = .ok (.iload_n 0, 1) := by decide +kernel
theorem dX8_isMoves_1 : decode cX8_isMoves 1 = .ok (.ifCond .lt 13, 3) := by decide +kernel
theorem dX8_isMoves_4 : decode cX8_isMoves 4 = .ok (.iload_n 0, 1) := by decide +kernel
theorem dX8_isMoves_5 : decode cX8_isMoves 5 = .ok (.bipush 8, 2) := by decide +kernel
theorem dX8_isMoves_7 : decode cX8_isMoves 7 = .ok (.if_icmp .gt 7, 3) := by decide +kernel
theorem dX8_isMoves_10 : decode cX8_isMoves 10 = .ok (.iconst 1, 1) := by decide +kernel
theorem dX8_isMoves_11 : decode cX8_isMoves 11 = .ok (.goto 4, 3) := by decide +kernel
theorem dX8_isMoves_14 : decode cX8_isMoves 14 = .ok (.iconst 0, 1) := by decide +kernel
theorem dX8_isMoves_15 : decode cX8_isMoves 15 = .ok (.ireturn, 1) := by decide +kernel
theorem dX8_isWord_0 : decode cX8_isWord 0 = .ok (.iload_n 1, 1) := by decide +kernel
theorem dX8_isWord_1 : decode cX8_isWord 1 = .ok (.ifCond .lt 18, 3) := by decide +kernel
theorem dX8_isWord_4 : decode cX8_isWord 4 = .ok (.iload_n 1, 1) := by decide +kernel
theorem dX8_isWord_5 : decode cX8_isWord 5 = .ok (.aload_n 0, 1) := by decide +kernel
theorem dX8_isWord_6 : decode cX8_isWord 6 = .ok (.getfield 19, 3) := by decide +kernel
theorem dX8_isWord_9 : decode cX8_isWord 9 = .ok (.getfield 134, 3) := by decide +kernel
theorem dX8_isWord_12 : decode cX8_isWord 12 = .ok (.if_icmp .ge 7, 3) := by decide +kernel
theorem dX8_isWord_15 : decode cX8_isWord 15 = .ok (.iconst 1, 1) := by decide +kernel
theorem dX8_isWord_16 : decode cX8_isWord 16 = .ok (.goto 4, 3) := by decide +kernel
theorem dX8_isWord_19 : decode cX8_isWord 19 = .ok (.iconst 0, 1) := by decide +kernel
theorem dX8_isWord_20 : decode cX8_isWord 20 = .ok (.ireturn, 1) := by decide +kernel
theorem dX8_isLetter_0 : decode cX8_isLetter 0 = .ok (.iload_n 1, 1) := by decide +kernel
theorem dX8_isLetter_1 : decode cX8_isLetter 1 = .ok (.ifCond .lt 18, 3) := by decide +kernel
theorem dX8_isLetter_4 : decode cX8_isLetter 4 = .ok (.iload_n 1, 1) := by decide +kernel
theorem dX8_isLetter_5 : decode cX8_isLetter 5 = .ok (.aload_n 0, 1) := by decide +kernel
theorem dX8_isLetter_6 : decode cX8_isLetter 6 = .ok (.getfield 31, 3) := by decide +kernel
theorem dX8_isLetter_9 : decode cX8_isLetter 9 = .ok (.getfield 107, 3) := by decide +kernel
theorem dX8_isLetter_12 : decode cX8_isLetter 12 = .ok (.if_icmp .ge 7, 3) := by decide +kernel
theorem dX8_isLetter_15 : decode cX8_isLetter 15 = .ok (.iconst 1, 1) := by decide +kernel
theorem dX8_isLetter_16 : decode cX8_isLetter 16 = .ok (.goto 4, 3) := by decide +kernel
theorem dX8_isLetter_19 : decode cX8_isLetter 19 = .ok (.iconst 0, 1) := by decide +kernel
theorem dX8_isLetter_20 : decode cX8_isLetter 20 = .ok (.ireturn, 1) := by decide +kernel
theorem dX8_isGuess_0 : decode cX8_isGuess 0 = .ok (.iload_n 1, 1) := by decide +kernel
theorem dX8_isGuess_1 : decode cX8_isGuess 1 = .ok (.ifCond .lt 15, 3) := by decide +kernel
theorem dX8_isGuess_4 : decode cX8_isGuess 4 = .ok (.iload_n 1, 1) := by decide +kernel
theorem dX8_isGuess_5 : decode cX8_isGuess 5 = .ok (.aload_n 0, 1) := by decide +kernel
theorem dX8_isGuess_6 : decode cX8_isGuess 6 = .ok (.getfield 116, 3) := by decide +kernel
theorem dX8_isGuess_9 : decode cX8_isGuess 9 = .ok (.if_icmp .ge 7, 3) := by decide +kernel
theorem dX8_isGuess_12 : decode cX8_isGuess 12 = .ok (.iconst 1, 1) := by decide +kernel
theorem dX8_isGuess_13 : decode cX8_isGuess 13 = .ok (.goto 4, 3) := by decide +kernel
theorem dX8_isGuess_16 : decode cX8_isGuess 16 = .ok (.iconst 0, 1) := by decide +kernel
theorem dX8_isGuess_17 : decode cX8_isGuess 17 = .ok (.ireturn, 1) := by decide +kernel
set_option maxRecDepth 20000 in
theorem ggX8_listChanges_X3_listChanges : GoodIn wsX8_listChanges wsX3_listChanges := goodIn_r _ [8, 9, 10, 11, 12, 13, 14, 15, 16, 17, 7, 18, 19, 20, 21, 22, 23, 24, 25, 26, 27, 28, 29, 30, 31, 32, 33, 34, 35, 36, 37, 38, 39, 40, 41, 42, 68, 69, 70, 71, 72, 73, 74, 75, 76, 77, 78, 79, 80, 81, 82, 83, 84, 85, 86] (by decide +kernel) (by decide +kernel)
set_option maxRecDepth 20000 in
theorem gX8_listChanges_X3_listChanges : GoodIn wsX8_listChanges (wsV RX8 289 RX3 yX3_listChanges wsX3_listChanges) := goodIn_app (goodIn_of _ (by decide +kernel)) ggX8_listChanges_X3_listChanges
theorem dX8_listChanges_0 : decode cX8_listChanges 0 = .ok (.aload_n 0, 1) := by decide +kernel
theorem dX8_listChanges_1 : decode cX8_listChanges 1 = .ok (.getfield 31, 3) := by decide +kernel
theorem dX8_listChanges_4 : decode cX8_listChanges 4 = .ok (.iload_n 1, 1) := by decide +kernel
theorem dX8_listChanges_5 : decode cX8_listChanges 5 = .ok (.aload_n 0, 1) := by decide +kernel
theorem dX8_listChanges_6 : decode cX8_listChanges 6 = .ok (.getfield 38, 3) := by decide +kernel
theorem dX8_listChanges_9 : decode cX8_listChanges 9 = .ok (.getfield 144, 3) := by decide +kernel
theorem dX8_listChanges_12 : decode cX8_listChanges 12 = .ok (.aload_n 0, 1) := by decide +kernel
theorem dX8_listChanges_13 : decode cX8_listChanges 13 = .ok (.getfield 38, 3) := by decide +kernel
theorem dX8_listChanges_16 : decode cX8_listChanges 16 = .ok (.getfield 147, 3) := by decide +kernel
theorem dX8_listChanges_19 : decode cX8_listChanges 19 = .ok (.iconst 1, 1) := by decide +kernel
theorem dX8_listChanges_20 : decode cX8_listChanges 20 = .ok (.if_icmp .ne 7, 3) := by decide +kernel
theorem dX8_listChanges_23 : decode cX8_listChanges 23 = .ok (.iconst 1, 1) := by decide +kernel
theorem dX8_listChanges_24 : decode cX8_listChanges 24 = .ok (.goto 4, 3) := by decide +kernel
theorem dX8_listChanges_27 : decode cX8_listChanges 27 = .ok (.iconst 0, 1) := by decide +kernel
theorem dX8_listChanges_28 : decode cX8_listChanges 28 = .ok (.aload_n 0, 1) := by decide +kernel
theorem dX8_listChanges_29 : decode cX8_listChanges 29 = .ok (.getfield 65, 3) := by decide +kernel
theorem dX8_listChanges_32 : decode cX8_listChanges 32 = .ok (.invokevirtual 289, 3) := by decide +kernel
theorem dX8_listChanges_35 : decode cX8_listChanges 35 = .ok (.return_, 1) := by decide +kernel
set_option maxRecDepth 20000 in
theorem ggX8_isChange_X8_listChanges : GoodIn wsX8_isChange wsX8_listChanges := goodIn_r _ [6, 7, 8, 1, 9, 10, 11, 12, 13, 14, 15, 16, 17, 18, 19, 20, 21, 22, 23, 24, 25, 26, 27, 28, 29, 30, 31, 32, 33, 34, 35, 36, 37, 38, 39, 40, 41, 42, 43, 44, 45, 46, 47, 52, 53, 54, 55, 56, 57, 58, 59, 60, 61, 62, 63, 64, 65, 66, 67, 68, 69, 70, 71, 72, 73, 74, 75, 76, 77, 78, 79, 80, 81, 82, 83, 84, 85, 86, 87, 88, 89, 90, 91, 92, 93, 94, 95] (by decide +kernel) (by decide +kernel)
set_option maxRecDepth 20000 in
theorem gX8_isChange_X8_listChanges : GoodIn wsX8_isChange (wsV RX8 197 RX8 yX8_listChanges wsX8_listChanges) := goodIn_app (goodIn_of _ (by decide +kernel)) ggX8_isChange_X8_listChanges
set_option maxRecDepth 20000 in
theorem ggX8_isChange_X6_has : GoodIn wsX8_isChange wsX6_has := goodIn_r _ [51, 19, 43, 77, 78] (by decide +kernel) (by decide +kernel)
set_option maxRecDepth 20000 in
theorem gX8_isChange_X6_has : GoodIn wsX8_isChange (wsV RX8 292 RX6 yX6_has wsX6_has) := goodIn_app (goodIn_of _ (by decide +kernel)) ggX8_isChange_X6_has
theorem dX8_isChange_0 : decode cX8_isChange 0 = .ok (.aload_n 0, 1) := by decide +kernel
theorem dX8_isChange_1 : decode cX8_isChange 1 = .ok (.iload_n 1, 1) := by decide +kernel
theorem dX8_isChange_2 : decode cX8_isChange 2 = .ok (.invokevirtual 197, 3) := by decide +kernel
theorem dX8_isChange_5 : decode cX8_isChange 5 = .ok (.aload_n 0, 1) := by decide +kernel
theorem dX8_isChange_6 : decode cX8_isChange 6 = .ok (.getfield 65, 3) := by decide +kernel
theorem dX8_isChange_9 : decode cX8_isChange 9 = .ok (.iload_n 2, 1) := by decide +kernel
theorem dX8_isChange_10 : decode cX8_isChange 10 = .ok (.invokevirtual 292, 3) := by decide +kernel
theorem dX8_isChange_13 : decode cX8_isChange 13 = .ok (.ireturn, 1) := by decide +kernel
theorem dX8_stamp_0 : decode cX8_stamp 0 = .ok (.aload_n 0, 1) := by decide +kernel
theorem dX8_stamp_1 : decode cX8_stamp 1 = .ok (.getfield 31, 3) := by decide +kernel
theorem dX8_stamp_4 : decode cX8_stamp 4 = .ok (.getfield 295, 3) := by decide +kernel
theorem dX8_stamp_7 : decode cX8_stamp 7 = .ok (.bipush 6, 2) := by decide +kernel
theorem dX8_stamp_9 : decode cX8_stamp 9 = .ok (.imul, 1) := by decide +kernel
theorem dX8_stamp_10 : decode cX8_stamp 10 = .ok (.aload_n 0, 1) := by decide +kernel
theorem dX8_stamp_11 : decode cX8_stamp 11 = .ok (.getfield 38, 3) := by decide +kernel
theorem dX8_stamp_14 : decode cX8_stamp 14 = .ok (.getfield 144, 3) := by decide +kernel
theorem dX8_stamp_17 : decode cX8_stamp 17 = .ok (.iconst 2, 1) := by decide +kernel
theorem dX8_stamp_18 : decode cX8_stamp 18 = .ok (.imul, 1) := by decide +kernel
theorem dX8_stamp_19 : decode cX8_stamp 19 = .ok (.iadd, 1) := by decide +kernel
theorem dX8_stamp_20 : decode cX8_stamp 20 = .ok (.aload_n 0, 1) := by decide +kernel
theorem dX8_stamp_21 : decode cX8_stamp 21 = .ok (.getfield 38, 3) := by decide +kernel
theorem dX8_stamp_24 : decode cX8_stamp 24 = .ok (.getfield 147, 3) := by decide +kernel
theorem dX8_stamp_27 : decode cX8_stamp 27 = .ok (.iadd, 1) := by decide +kernel
theorem dX8_stamp_28 : decode cX8_stamp 28 = .ok (.ireturn, 1) := by decide +kernel
set_option maxRecDepth 20000 in
theorem ggX8_makeRoom_X4_makeRoom : GoodIn wsX8_makeRoom wsX4_makeRoom := goodIn_r _ [11, 12, 13, 14, 5, 6, 15, 16, 17, 18, 19, 20, 21, 22, 23, 24, 25, 26, 52, 53, 54, 55, 50, 51] (by decide +kernel) (by decide +kernel)
set_option maxRecDepth 20000 in
theorem gX8_makeRoom_X4_makeRoom : GoodIn wsX8_makeRoom (wsV RX8 298 RX4 yX4_makeRoom wsX4_makeRoom) := goodIn_app (goodIn_of _ (by decide +kernel)) ggX8_makeRoom_X4_makeRoom
set_option maxRecDepth 20000 in
theorem ggX8_makeRoom_X1_makeRoom : GoodIn wsX8_makeRoom wsX1_makeRoom := goodIn_r _ [31, 32, 13, 56, 57, 58, 59, 60, 61] (by decide +kernel) (by decide +kernel)
set_option maxRecDepth 20000 in
theorem gX8_makeRoom_X1_makeRoom : GoodIn wsX8_makeRoom (wsV RX8 299 RX1 yX1_makeRoom wsX1_makeRoom) := goodIn_app (goodIn_of _ (by decide +kernel)) ggX8_makeRoom_X1_makeRoom
set_option maxRecDepth 20000 in
theorem ggX8_makeRoom_X6_init : GoodIn wsX8_makeRoom wsX6_init := goodIn_r _ [18, 19, 20, 21, 22, 23, 24, 25, 13, 26, 50, 51] (by decide +kernel) (by decide +kernel)
set_option maxRecDepth 20000 in
theorem gX8_makeRoom_X6_init : GoodIn wsX8_makeRoom (wsX6_init) := ggX8_makeRoom_X6_init
theorem dX8_makeRoom_0 : decode cX8_makeRoom 0 = .ok (.aload_n 0, 1) := by decide +kernel
theorem dX8_makeRoom_1 : decode cX8_makeRoom 1 = .ok (.getfield 83, 3) := by decide +kernel
theorem dX8_makeRoom_4 : decode cX8_makeRoom 4 = .ok (.iload_n 1, 1) := by decide +kernel
theorem dX8_makeRoom_5 : decode cX8_makeRoom 5 = .ok (.invokevirtual 298, 3) := by decide +kernel
theorem dX8_makeRoom_8 : decode cX8_makeRoom 8 = .ok (.aload_n 0, 1) := by decide +kernel
theorem dX8_makeRoom_9 : decode cX8_makeRoom 9 = .ok (.getfield 90, 3) := by decide +kernel
theorem dX8_makeRoom_12 : decode cX8_makeRoom 12 = .ok (.iload_n 1, 1) := by decide +kernel
theorem dX8_makeRoom_13 : decode cX8_makeRoom 13 = .ok (.invokevirtual 299, 3) := by decide +kernel
theorem dX8_makeRoom_16 : decode cX8_makeRoom 16 = .ok (.iload_n 1, 1) := by decide +kernel
theorem dX8_makeRoom_17 : decode cX8_makeRoom 17 = .ok (.aload_n 0, 1) := by decide +kernel
theorem dX8_makeRoom_18 : decode cX8_makeRoom 18 = .ok (.getfield 71, 3) := by decide +kernel
theorem dX8_makeRoom_21 : decode cX8_makeRoom 21 = .ok (.getfield 300, 3) := by decide +kernel
theorem dX8_makeRoom_24 : decode cX8_makeRoom 24 = .ok (.arraylength, 1) := by decide +kernel
theorem dX8_makeRoom_25 : decode cX8_makeRoom 25 = .ok (.if_icmp .le 15, 3) := by decide +kernel
theorem dX8_makeRoom_28 : decode cX8_makeRoom 28 = .ok (.aload_n 0, 1) := by decide +kernel
theorem dX8_makeRoom_29 : decode cX8_makeRoom 29 = .ok (.new 56, 3) := by decide +kernel
theorem dX8_makeRoom_32 : decode cX8_makeRoom 32 = .ok (.dup, 1) := by decide +kernel
theorem dX8_makeRoom_33 : decode cX8_makeRoom 33 = .ok (.iload_n 1, 1) := by decide +kernel
theorem dX8_makeRoom_34 : decode cX8_makeRoom 34 = .ok (.invokespecial 58, 3) := by decide +kernel
theorem dX8_makeRoom_37 : decode cX8_makeRoom 37 = .ok (.putfield 71, 3) := by decide +kernel
theorem dX8_makeRoom_40 : decode cX8_makeRoom 40 = .ok (.return_, 1) := by decide +kernel
set_option maxRecDepth 20000 in
theorem ggX8_listStill_X6_empty : GoodIn wsX8_listStill wsX6_empty := goodIn_r _ [7, 8, 89, 90] (by decide +kernel) (by decide +kernel)
set_option maxRecDepth 20000 in
theorem gX8_listStill_X6_empty : GoodIn wsX8_listStill (wsV RX8 119 RX6 yX6_empty wsX6_empty) := goodIn_app (goodIn_of _ (by decide +kernel)) ggX8_listStill_X6_empty
set_option maxRecDepth 20000 in
theorem ggX8_listStill_X3_isSense : GoodIn wsX8_listStill wsX3_isSense := goodIn_r _ [13, 14, 15, 82, 83, 84, 85, 86, 87, 88] (by decide +kernel) (by decide +kernel)
set_option maxRecDepth 20000 in
theorem gX8_listStill_X3_isSense : GoodIn wsX8_listStill (wsV RX8 188 RX3 yX3_isSense wsX3_isSense) := goodIn_app (goodIn_of _ (by decide +kernel)) ggX8_listStill_X3_isSense
set_option maxRecDepth 20000 in
theorem ggX8_listStill_X8_neitherWouldChange : GoodIn wsX8_listStill wsX8_neitherWouldChange := goodIn_r _ [20, 2, 21, 22, 23, 24, 19, 25, 26, 27, 28, 29, 12, 30, 31, 4, 5, 6, 7, 8, 32, 33, 34, 35, 36, 37, 38, 39, 40, 41, 42, 43, 44, 45, 10, 11, 13, 14, 15, 46, 47, 48, 49, 50, 51, 52, 53, 54, 55, 56, 57, 58, 59, 60, 61, 62, 63, 64, 66, 67, 68, 69, 70, 71, 72, 73, 74, 75, 76, 77, 78, 79, 80, 81, 89, 90, 91, 92, 93, 94, 95, 96, 97, 98, 99, 82, 83, 84, 85, 86, 87, 88, 100, 101, 102, 103, 104, 105, 106, 107, 108, 109] (by decide +kernel) (by decide +kernel)
set_option maxRecDepth 20000 in
theorem gX8_listStill_X8_neitherWouldChange : GoodIn wsX8_listStill (wsV RX8 302 RX8 yX8_neitherWouldChange wsX8_neitherWouldChange) := goodIn_app (goodIn_of _ (by decide +kernel)) ggX8_listStill_X8_neitherWouldChange
set_option maxRecDepth 20000 in
theorem ggX8_listStill_X6_add : GoodIn wsX8_listStill wsX6_add := goodIn_r _ [49, 8, 50, 89, 90] (by decide +kernel) (by decide +kernel)
set_option maxRecDepth 20000 in
theorem gX8_listStill_X6_add : GoodIn wsX8_listStill (wsV RX8 253 RX6 yX6_add wsX6_add) := goodIn_app (goodIn_of _ (by decide +kernel)) ggX8_listStill_X6_add
theorem dX8_listStill_0 : decode cX8_listStill 0 = .ok (.aload_n 0, 1) := by decide +kernel
theorem dX8_listStill_1 : decode cX8_listStill 1 = .ok (.getfield 71, 3) := by decide +kernel
theorem dX8_listStill_4 : decode cX8_listStill 4 = .ok (.invokevirtual 119, 3) := by decide +kernel
theorem dX8_listStill_7 : decode cX8_listStill 7 = .ok (.iconst 0, 1) := by decide +kernel
theorem dX8_listStill_8 : decode cX8_listStill 8 = .ok (.istore_n 1, 1) := by decide +kernel
theorem dX8_listStill_9 : decode cX8_listStill 9 = .ok (.iload_n 1, 1) := by decide +kernel
theorem dX8_listStill_10 : decode cX8_listStill 10 = .ok (.aload_n 0, 1) := by decide +kernel
theorem dX8_listStill_11 : decode cX8_listStill 11 = .ok (.getfield 31, 3) := by decide +kernel
theorem dX8_listStill_14 : decode cX8_listStill 14 = .ok (.getfield 107, 3) := by decide +kernel
theorem dX8_listStill_17 : decode cX8_listStill 17 = .ok (.if_icmp .ge 36, 3) := by decide +kernel
theorem dX8_listStill_20 : decode cX8_listStill 20 = .ok (.aload_n 0, 1) := by decide +kernel
theorem dX8_listStill_21 : decode cX8_listStill 21 = .ok (.getfield 31, 3) := by decide +kernel
theorem dX8_listStill_24 : decode cX8_listStill 24 = .ok (.iload_n 1, 1) := by decide +kernel
theorem dX8_listStill_25 : decode cX8_listStill 25 = .ok (.invokevirtual 188, 3) := by decide +kernel
theorem dX8_listStill_28 : decode cX8_listStill 28 = .ok (.ifCond .eq 19, 3) := by decide +kernel
theorem dX8_listStill_31 : decode cX8_listStill 31 = .ok (.aload_n 0, 1) := by decide +kernel
theorem dX8_listStill_32 : decode cX8_listStill 32 = .ok (.iload_n 1, 1) := by decide +kernel
theorem dX8_listStill_33 : decode cX8_listStill 33 = .ok (.invokevirtual 302, 3) := by decide +kernel
theorem dX8_listStill_36 : decode cX8_listStill 36 = .ok (.ifCond .eq 11, 3) := by decide +kernel
theorem dX8_listStill_39 : decode cX8_listStill 39 = .ok (.aload_n 0, 1) := by decide +kernel
theorem dX8_listStill_40 : decode cX8_listStill 40 = .ok (.getfield 71, 3) := by decide +kernel
theorem dX8_listStill_43 : decode cX8_listStill 43 = .ok (.iload_n 1, 1) := by decide +kernel
theorem dX8_listStill_44 : decode cX8_listStill 44 = .ok (.invokevirtual 253, 3) := by decide +kernel
theorem dX8_listStill_47 : decode cX8_listStill 47 = .ok (.iinc 1 1, 3) := by decide +kernel
theorem dX8_listStill_50 : decode cX8_listStill 50 = .ok (.goto (-41), 3) := by decide +kernel
theorem dX8_listStill_53 : decode cX8_listStill 53 = .ok (.return_, 1) := by decide +kernel
set_option maxRecDepth 20000 in
theorem ggX8_neitherWouldChange_X8_listChanges : GoodIn wsX8_neitherWouldChange wsX8_listChanges := goodIn_r _ [7, 1, 8, 2, 9, 10, 11, 12, 13, 14, 15, 16, 17, 18, 19, 20, 21, 22, 23, 24, 25, 26, 27, 28, 29, 30, 31, 32, 33, 34, 35, 36, 37, 38, 39, 40, 41, 42, 43, 44, 45, 46, 47, 58, 59, 60, 61, 62, 63, 64, 65, 66, 67, 68, 69, 70, 71, 72, 73, 76, 77, 78, 79, 80, 81, 82, 83, 84, 74, 75, 85, 86, 87, 88, 89, 90, 91, 92, 93, 94, 95, 96, 97, 98, 99, 100, 101] (by decide +kernel) (by decide +kernel)
set_option maxRecDepth 20000 in
theorem gX8_neitherWouldChange_X8_listChanges : GoodIn wsX8_neitherWouldChange (wsV RX8 197 RX8 yX8_listChanges wsX8_listChanges) := goodIn_app (goodIn_of _ (by decide +kernel)) ggX8_neitherWouldChange_X8_listChanges
set_option maxRecDepth 20000 in
theorem ggX8_neitherWouldChange_X3_worthTo : GoodIn wsX8_neitherWouldChange wsX3_worthTo := goodIn_r _ [51, 37, 52, 53, 85, 86, 87, 88, 89, 90, 91] (by decide +kernel) (by decide +kernel)
set_option maxRecDepth 20000 in
theorem gX8_neitherWouldChange_X3_worthTo : GoodIn wsX8_neitherWouldChange (wsV RX8 194 RX3 yX3_worthTo wsX3_worthTo) := goodIn_app (goodIn_of _ (by decide +kernel)) ggX8_neitherWouldChange_X3_worthTo
set_option maxRecDepth 20000 in
theorem ggX8_neitherWouldChange_X6_get : GoodIn wsX8_neitherWouldChange wsX6_get := goodIn_r _ [57, 19, 43, 74, 75] (by decide +kernel) (by decide +kernel)
set_option maxRecDepth 20000 in
theorem gX8_neitherWouldChange_X6_get : GoodIn wsX8_neitherWouldChange (wsV RX8 247 RX6 yX6_get wsX6_get) := goodIn_app (goodIn_of _ (by decide +kernel)) ggX8_neitherWouldChange_X6_get
theorem dX8_neitherWouldChange_0 : decode cX8_neitherWouldChange 0 = .ok (.aload_n 0, 1) := by decide +kernel
theorem dX8_neitherWouldChange_1 : decode cX8_neitherWouldChange 1 = .ok (.iload_n 1, 1) := by decide +kernel
theorem dX8_neitherWouldChange_2 : decode cX8_neitherWouldChange 2 = .ok (.invokevirtual 197, 3) := by decide +kernel
theorem dX8_neitherWouldChange_5 : decode cX8_neitherWouldChange 5 = .ok (.iconst 0, 1) := by decide +kernel
theorem dX8_neitherWouldChange_6 : decode cX8_neitherWouldChange 6 = .ok (.istore_n 2, 1) := by decide +kernel
theorem dX8_neitherWouldChange_7 : decode cX8_neitherWouldChange 7 = .ok (.iload_n 2, 1) := by decide +kernel
theorem dX8_neitherWouldChange_8 : decode cX8_neitherWouldChange 8 = .ok (.iconst 2, 1) := by decide +kernel
theorem dX8_neitherWouldChange_9 : decode cX8_neitherWouldChange 9 = .ok (.if_icmp .ge 63, 3) := by decide +kernel
theorem dX8_neitherWouldChange_12 : decode cX8_neitherWouldChange 12 = .ok (.aload_n 0, 1) := by decide +kernel
theorem dX8_neitherWouldChange_13 : decode cX8_neitherWouldChange 13 = .ok (.getfield 31, 3) := by decide +kernel
theorem dX8_neitherWouldChange_16 : decode cX8_neitherWouldChange 16 = .ok (.iload_n 2, 1) := by decide +kernel
theorem dX8_neitherWouldChange_17 : decode cX8_neitherWouldChange 17 = .ok (.iload_n 1, 1) := by decide +kernel
theorem dX8_neitherWouldChange_18 : decode cX8_neitherWouldChange 18 = .ok (.invokevirtual 194, 3) := by decide +kernel
theorem dX8_neitherWouldChange_21 : decode cX8_neitherWouldChange 21 = .ok (.istore_n 3, 1) := by decide +kernel
theorem dX8_neitherWouldChange_22 : decode cX8_neitherWouldChange 22 = .ok (.iconst 0, 1) := by decide +kernel
theorem dX8_neitherWouldChange_23 : decode cX8_neitherWouldChange 23 = .ok (.istore 4, 2) := by decide +kernel
theorem dX8_neitherWouldChange_25 : decode cX8_neitherWouldChange 25 = .ok (.iload 4, 2) := by decide +kernel
theorem dX8_neitherWouldChange_27 : decode cX8_neitherWouldChange 27 = .ok (.aload_n 0, 1) := by decide +kernel
theorem dX8_neitherWouldChange_28 : decode cX8_neitherWouldChange 28 = .ok (.getfield 65, 3) := by decide +kernel
theorem dX8_neitherWouldChange_31 : decode cX8_neitherWouldChange 31 = .ok (.getfield 163, 3) := by decide +kernel
theorem dX8_neitherWouldChange_34 : decode cX8_neitherWouldChange 34 = .ok (.if_icmp .ge 32, 3) := by decide +kernel
theorem dX8_neitherWouldChange_37 : decode cX8_neitherWouldChange 37 = .ok (.aload_n 0, 1) := by decide +kernel
theorem dX8_neitherWouldChange_38 : decode cX8_neitherWouldChange 38 = .ok (.getfield 31, 3) := by decide +kernel
theorem dX8_neitherWouldChange_41 : decode cX8_neitherWouldChange 41 = .ok (.iload_n 2, 1) := by decide +kernel
theorem dX8_neitherWouldChange_42 : decode cX8_neitherWouldChange 42 = .ok (.aload_n 0, 1) := by decide +kernel
theorem dX8_neitherWouldChange_43 : decode cX8_neitherWouldChange 43 = .ok (.getfield 65, 3) := by decide +kernel
theorem dX8_neitherWouldChange_46 : decode cX8_neitherWouldChange 46 = .ok (.iload 4, 2) := by decide +kernel
theorem dX8_neitherWouldChange_48 : decode cX8_neitherWouldChange 48 = .ok (.invokevirtual 247, 3) := by decide +kernel
theorem dX8_neitherWouldChange_51 : decode cX8_neitherWouldChange 51 = .ok (.invokevirtual 194, 3) := by decide +kernel
theorem dX8_neitherWouldChange_54 : decode cX8_neitherWouldChange 54 = .ok (.iload_n 3, 1) := by decide +kernel
theorem dX8_neitherWouldChange_55 : decode cX8_neitherWouldChange 55 = .ok (.if_icmp .le 5, 3) := by decide +kernel
theorem dX8_neitherWouldChange_58 : decode cX8_neitherWouldChange 58 = .ok (.iconst 0, 1) := by decide +kernel
theorem dX8_neitherWouldChange_59 : decode cX8_neitherWouldChange 59 = .ok (.ireturn, 1) := by decide +kernel
theorem dX8_neitherWouldChange_60 : decode cX8_neitherWouldChange 60 = .ok (.iinc 4 1, 3) := by decide +kernel
theorem dX8_neitherWouldChange_63 : decode cX8_neitherWouldChange 63 = .ok (.goto (-38), 3) := by decide +kernel
theorem dX8_neitherWouldChange_66 : decode cX8_neitherWouldChange 66 = .ok (.iinc 2 1, 3) := by decide +kernel
theorem dX8_neitherWouldChange_69 : decode cX8_neitherWouldChange 69 = .ok (.goto (-62), 3) := by decide +kernel
theorem dX8_neitherWouldChange_72 : decode cX8_neitherWouldChange 72 = .ok (.iconst 1, 1) := by decide +kernel
theorem dX8_neitherWouldChange_73 : decode cX8_neitherWouldChange 73 = .ok (.ireturn, 1) := by decide +kernel
set_option maxRecDepth 20000 in
theorem ggX8_explains_X8_guessedWorth : GoodIn wsX8_explains wsX8_guessedWorth := goodIn_r _ [6, 7, 8, 9, 10, 11, 12, 13, 14, 15, 16, 17, 5, 18, 19, 20, 21, 22, 23, 24, 25, 26, 27, 28, 29, 30, 31, 32, 33, 34, 70, 71, 72, 73, 74, 75, 76, 77, 78, 79, 80, 81, 82, 83, 84, 85, 88, 89, 90, 91, 92, 93, 94, 95, 96, 97, 98, 99, 100, 101, 102, 103, 104, 105, 106] (by decide +kernel) (by decide +kernel)
set_option maxRecDepth 20000 in
theorem gX8_explains_X8_guessedWorth : GoodIn wsX8_explains (wsV RX8 305 RX8 yX8_guessedWorth wsX8_guessedWorth) := goodIn_app (goodIn_of _ (by decide +kernel)) ggX8_explains_X8_guessedWorth
set_option maxRecDepth 20000 in
theorem ggX8_explains_X8_listChanges : GoodIn wsX8_explains wsX8_listChanges := goodIn_r _ [38, 7, 39, 1, 40, 41, 42, 12, 43, 44, 45, 46, 47, 48, 49, 50, 51, 52, 53, 54, 55, 27, 28, 22, 29, 30, 24, 31, 56, 10, 11, 13, 14, 15, 57, 58, 59, 60, 61, 62, 63, 64, 65, 70, 71, 72, 73, 74, 75, 76, 77, 78, 79, 80, 81, 82, 83, 84, 85, 107, 108, 109, 110, 111, 112, 113, 114, 115, 86, 87, 100, 101, 102, 103, 104, 105, 106, 90, 91, 92, 93, 94, 95, 96, 97, 98, 99] (by decide +kernel) (by decide +kernel)
set_option maxRecDepth 20000 in
theorem gX8_explains_X8_listChanges : GoodIn wsX8_explains (wsV RX8 197 RX8 yX8_listChanges wsX8_listChanges) := goodIn_app (goodIn_of _ (by decide +kernel)) ggX8_explains_X8_listChanges
set_option maxRecDepth 20000 in
theorem ggX8_explains_X6_get : GoodIn wsX8_explains wsX6_get := goodIn_r _ [69, 49, 61, 86, 87] (by decide +kernel) (by decide +kernel)
set_option maxRecDepth 20000 in
theorem gX8_explains_X6_get : GoodIn wsX8_explains (wsV RX8 247 RX6 yX6_get wsX6_get) := goodIn_app (goodIn_of _ (by decide +kernel)) ggX8_explains_X6_get
theorem dX8_explains_0 : decode cX8_explains 0 = .ok (.aload_n 0, 1) := by decide +kernel
theorem dX8_explains_1 : decode cX8_explains 1 = .ok (.aload_n 1, 1) := by decide +kernel
theorem dX8_explains_2 : decode cX8_explains 2 = .ok (.iload_n 3, 1) := by decide +kernel
theorem dX8_explains_3 : decode cX8_explains 3 = .ok (.invokevirtual 305, 3) := by decide +kernel
theorem dX8_explains_6 : decode cX8_explains 6 = .ok (.istore 4, 2) := by decide +kernel
theorem dX8_explains_8 : decode cX8_explains 8 = .ok (.aload_n 0, 1) := by decide +kernel
theorem dX8_explains_9 : decode cX8_explains 9 = .ok (.aload_n 1, 1) := by decide +kernel
theorem dX8_explains_10 : decode cX8_explains 10 = .ok (.iload_n 2, 1) := by decide +kernel
theorem dX8_explains_11 : decode cX8_explains 11 = .ok (.invokevirtual 305, 3) := by decide +kernel
theorem dX8_explains_14 : decode cX8_explains 14 = .ok (.iload 4, 2) := by decide +kernel
theorem dX8_explains_16 : decode cX8_explains 16 = .ok (.if_icmp .le 5, 3) := by decide +kernel
theorem dX8_explains_19 : decode cX8_explains 19 = .ok (.iconst 0, 1) := by decide +kernel
theorem dX8_explains_20 : decode cX8_explains 20 = .ok (.ireturn, 1) := by decide +kernel
theorem dX8_explains_21 : decode cX8_explains 21 = .ok (.aload_n 0, 1) := by decide +kernel
theorem dX8_explains_22 : decode cX8_explains 22 = .ok (.iload_n 2, 1) := by decide +kernel
theorem dX8_explains_23 : decode cX8_explains 23 = .ok (.invokevirtual 197, 3) := by decide +kernel
theorem dX8_explains_26 : decode cX8_explains 26 = .ok (.iconst 0, 1) := by decide +kernel
theorem dX8_explains_27 : decode cX8_explains 27 = .ok (.istore 5, 2) := by decide +kernel
theorem dX8_explains_29 : decode cX8_explains 29 = .ok (.iload 5, 2) := by decide +kernel
theorem dX8_explains_31 : decode cX8_explains 31 = .ok (.aload_n 0, 1) := by decide +kernel
theorem dX8_explains_32 : decode cX8_explains 32 = .ok (.getfield 65, 3) := by decide +kernel
theorem dX8_explains_35 : decode cX8_explains 35 = .ok (.getfield 163, 3) := by decide +kernel
theorem dX8_explains_38 : decode cX8_explains 38 = .ok (.if_icmp .ge 30, 3) := by decide +kernel
theorem dX8_explains_41 : decode cX8_explains 41 = .ok (.aload_n 0, 1) := by decide +kernel
theorem dX8_explains_42 : decode cX8_explains 42 = .ok (.aload_n 1, 1) := by decide +kernel
theorem dX8_explains_43 : decode cX8_explains 43 = .ok (.aload_n 0, 1) := by decide +kernel
theorem dX8_explains_44 : decode cX8_explains 44 = .ok (.getfield 65, 3) := by decide +kernel
theorem dX8_explains_47 : decode cX8_explains 47 = .ok (.iload 5, 2) := by decide +kernel
theorem dX8_explains_49 : decode cX8_explains 49 = .ok (.invokevirtual 247, 3) := by decide +kernel
theorem dX8_explains_52 : decode cX8_explains 52 = .ok (.invokevirtual 305, 3) := by decide +kernel
theorem dX8_explains_55 : decode cX8_explains 55 = .ok (.iload 4, 2) := by decide +kernel
theorem dX8_explains_57 : decode cX8_explains 57 = .ok (.if_icmp .le 5, 3) := by decide +kernel
theorem dX8_explains_60 : decode cX8_explains 60 = .ok (.iconst 0, 1) := by decide +kernel
theorem dX8_explains_61 : decode cX8_explains 61 = .ok (.ireturn, 1) := by decide +kernel
theorem dX8_explains_62 : decode cX8_explains 62 = .ok (.iinc 5 1, 3) := by decide +kernel
theorem dX8_explains_65 : decode cX8_explains 65 = .ok (.goto (-36), 3) := by decide +kernel
theorem dX8_explains_68 : decode cX8_explains 68 = .ok (.iconst 1, 1) := by decide +kernel
theorem dX8_explains_69 : decode cX8_explains 69 = .ok (.ireturn, 1) := by decide +kernel
set_option maxRecDepth 20000 in
theorem ggX8_guessedWorth_X3_isSense : GoodIn wsX8_guessedWorth wsX3_isSense := goodIn_r _ [7, 8, 9, 58, 59, 60, 61, 62, 63, 64] (by decide +kernel) (by decide +kernel)
set_option maxRecDepth 20000 in
theorem gX8_guessedWorth_X3_isSense : GoodIn wsX8_guessedWorth (wsV RX8 188 RX3 yX3_isSense wsX3_isSense) := goodIn_app (goodIn_of _ (by decide +kernel)) ggX8_guessedWorth_X3_isSense
set_option maxRecDepth 20000 in
theorem ggX8_guessedWorth_X8_isHouse : GoodIn wsX8_guessedWorth wsX8_isHouse := goodIn_r _ [13] (by decide +kernel) (by decide +kernel)
set_option maxRecDepth 20000 in
theorem gX8_guessedWorth_X8_isHouse : GoodIn wsX8_guessedWorth (va_wsS RX8 191 yX8_isHouse wsX8_isHouse) := goodIn_app (goodIn_of _ (by decide +kernel)) ggX8_guessedWorth_X8_isHouse
set_option maxRecDepth 20000 in
theorem ggX8_guessedWorth_X7_weigh : GoodIn wsX8_guessedWorth wsX7_weigh := goodIn_r _ [18, 19, 20, 21, 22, 23, 17, 24, 25, 26, 27, 28, 29, 48, 49, 50, 51, 52, 53, 54, 55, 56, 57] (by decide +kernel) (by decide +kernel)
set_option maxRecDepth 20000 in
theorem gX8_guessedWorth_X7_weigh : GoodIn wsX8_guessedWorth (wsV RX8 312 RX7 yX7_weigh wsX7_weigh) := goodIn_app (goodIn_of _ (by decide +kernel)) ggX8_guessedWorth_X7_weigh
theorem dX8_guessedWorth_0 : decode cX8_guessedWorth 0 = .ok (.aload_n 0, 1) := by decide +kernel
theorem dX8_guessedWorth_1 : decode cX8_guessedWorth 1 = .ok (.getfield 31, 3) := by decide +kernel
theorem dX8_guessedWorth_4 : decode cX8_guessedWorth 4 = .ok (.iload_n 2, 1) := by decide +kernel
theorem dX8_guessedWorth_5 : decode cX8_guessedWorth 5 = .ok (.invokevirtual 188, 3) := by decide +kernel
theorem dX8_guessedWorth_8 : decode cX8_guessedWorth 8 = .ok (.ifCond .eq 13, 3) := by decide +kernel
theorem dX8_guessedWorth_11 : decode cX8_guessedWorth 11 = .ok (.aload_n 1, 1) := by decide +kernel
theorem dX8_guessedWorth_12 : decode cX8_guessedWorth 12 = .ok (.getfield 263, 3) := by decide +kernel
theorem dX8_guessedWorth_15 : decode cX8_guessedWorth 15 = .ok (.invokestatic 191, 3) := by decide +kernel
theorem dX8_guessedWorth_18 : decode cX8_guessedWorth 18 = .ok (.ifCond .ne 5, 3) := by decide +kernel
theorem dX8_guessedWorth_21 : decode cX8_guessedWorth 21 = .ok (.iconst 0, 1) := by decide +kernel
theorem dX8_guessedWorth_22 : decode cX8_guessedWorth 22 = .ok (.ireturn, 1) := by decide +kernel
theorem dX8_guessedWorth_23 : decode cX8_guessedWorth 23 = .ok (.aload_n 0, 1) := by decide +kernel
theorem dX8_guessedWorth_24 : decode cX8_guessedWorth 24 = .ok (.getfield 19, 3) := by decide +kernel
theorem dX8_guessedWorth_27 : decode cX8_guessedWorth 27 = .ok (.iload_n 2, 1) := by decide +kernel
theorem dX8_guessedWorth_28 : decode cX8_guessedWorth 28 = .ok (.aload_n 1, 1) := by decide +kernel
theorem dX8_guessedWorth_29 : decode cX8_guessedWorth 29 = .ok (.getfield 261, 3) := by decide +kernel
theorem dX8_guessedWorth_32 : decode cX8_guessedWorth 32 = .ok (.aload_n 0, 1) := by decide +kernel
theorem dX8_guessedWorth_33 : decode cX8_guessedWorth 33 = .ok (.getfield 19, 3) := by decide +kernel
theorem dX8_guessedWorth_36 : decode cX8_guessedWorth 36 = .ok (.getfield 309, 3) := by decide +kernel
theorem dX8_guessedWorth_39 : decode cX8_guessedWorth 39 = .ok (.aload_n 1, 1) := by decide +kernel
theorem dX8_guessedWorth_40 : decode cX8_guessedWorth 40 = .ok (.getfield 263, 3) := by decide +kernel
theorem dX8_guessedWorth_43 : decode cX8_guessedWorth 43 = .ok (.aaload, 1) := by decide +kernel
theorem dX8_guessedWorth_44 : decode cX8_guessedWorth 44 = .ok (.invokevirtual 312, 3) := by decide +kernel
theorem dX8_guessedWorth_47 : decode cX8_guessedWorth 47 = .ok (.ireturn, 1) := by decide +kernel
set_option maxRecDepth 20000 in
theorem ggX8_giveBoth_X3_worthTo : GoodIn wsX8_giveBoth wsX3_worthTo := goodIn_r _ [7, 8, 9, 10, 36, 37, 38, 39, 40, 41, 42] (by decide +kernel) (by decide +kernel)
set_option maxRecDepth 20000 in
theorem gX8_giveBoth_X3_worthTo : GoodIn wsX8_giveBoth (wsV RX8 194 RX3 yX3_worthTo wsX3_worthTo) := goodIn_app (goodIn_of _ (by decide +kernel)) ggX8_giveBoth_X3_worthTo
theorem dX8_giveBoth_0 : decode cX8_giveBoth 0 = .ok (.iconst 0, 1) := by decide +kernel
theorem dX8_giveBoth_1 : decode cX8_giveBoth 1 = .ok (.istore_n 1, 1) := by decide +kernel
theorem dX8_giveBoth_2 : decode cX8_giveBoth 2 = .ok (.iload_n 1, 1) := by decide +kernel
theorem dX8_giveBoth_3 : decode cX8_giveBoth 3 = .ok (.iconst 2, 1) := by decide +kernel
theorem dX8_giveBoth_4 : decode cX8_giveBoth 4 = .ok (.if_icmp .ge 36, 3) := by decide +kernel
theorem dX8_giveBoth_7 : decode cX8_giveBoth 7 = .ok (.aload_n 0, 1) := by decide +kernel
theorem dX8_giveBoth_8 : decode cX8_giveBoth 8 = .ok (.getfield 38, 3) := by decide +kernel
theorem dX8_giveBoth_11 : decode cX8_giveBoth 11 = .ok (.getfield 216, 3) := by decide +kernel
theorem dX8_giveBoth_14 : decode cX8_giveBoth 14 = .ok (.iload_n 1, 1) := by decide +kernel
theorem dX8_giveBoth_15 : decode cX8_giveBoth 15 = .ok (.dup2, 1) := by decide +kernel
theorem dX8_giveBoth_16 : decode cX8_giveBoth 16 = .ok (.iaload, 1) := by decide +kernel
theorem dX8_giveBoth_17 : decode cX8_giveBoth 17 = .ok (.aload_n 0, 1) := by decide +kernel
theorem dX8_giveBoth_18 : decode cX8_giveBoth 18 = .ok (.getfield 31, 3) := by decide +kernel
theorem dX8_giveBoth_21 : decode cX8_giveBoth 21 = .ok (.iload_n 1, 1) := by decide +kernel
theorem dX8_giveBoth_22 : decode cX8_giveBoth 22 = .ok (.aload_n 0, 1) := by decide +kernel
theorem dX8_giveBoth_23 : decode cX8_giveBoth 23 = .ok (.getfield 38, 3) := by decide +kernel
theorem dX8_giveBoth_26 : decode cX8_giveBoth 26 = .ok (.getfield 150, 3) := by decide +kernel
theorem dX8_giveBoth_29 : decode cX8_giveBoth 29 = .ok (.invokevirtual 194, 3) := by decide +kernel
theorem dX8_giveBoth_32 : decode cX8_giveBoth 32 = .ok (.iadd, 1) := by decide +kernel
theorem dX8_giveBoth_33 : decode cX8_giveBoth 33 = .ok (.iastore, 1) := by decide +kernel
theorem dX8_giveBoth_34 : decode cX8_giveBoth 34 = .ok (.iinc 1 1, 3) := by decide +kernel
theorem dX8_giveBoth_37 : decode cX8_giveBoth 37 = .ok (.goto (-35), 3) := by decide +kernel
theorem dX8_giveBoth_40 : decode cX8_giveBoth 40 = .ok (.return_, 1) := by decide +kernel
set_option maxRecDepth 20000 in
theorem ggX8_sendAnyChange_X8_listChanges : GoodIn wsX8_sendAnyChange wsX8_listChanges := goodIn_r _ [7, 8, 1, 2, 9, 10, 11, 12, 13, 14, 15, 16, 17, 18, 19, 20, 21, 22, 23, 24, 25, 26, 27, 28, 29, 30, 31, 32, 33, 34, 35, 36, 37, 38, 39, 40, 41, 42, 43, 44, 45, 46, 47, 69, 70, 71, 72, 73, 74, 75, 76, 77, 78, 79, 80, 81, 82, 83, 84, 85, 86, 87, 88, 89, 90, 91, 92, 93, 94, 95, 96, 97, 98, 99, 100, 101, 102, 103, 104, 105, 106, 107, 108, 109, 110, 111, 112] (by decide +kernel) (by decide +kernel)
set_option maxRecDepth 20000 in
theorem gX8_sendAnyChange_X8_listChanges : GoodIn wsX8_sendAnyChange (wsV RX8 197 RX8 yX8_listChanges wsX8_listChanges) := goodIn_app (goodIn_of _ (by decide +kernel)) ggX8_sendAnyChange_X8_listChanges
set_option maxRecDepth 20000 in
theorem ggX8_sendAnyChange_X0_draw : GoodIn wsX8_sendAnyChange wsX0_draw := goodIn_r _ [52, 53, 54, 55, 56, 85, 86, 87, 88, 89, 90, 91, 92, 93] (by decide +kernel) (by decide +kernel)
set_option maxRecDepth 20000 in
theorem gX8_sendAnyChange_X0_draw : GoodIn wsX8_sendAnyChange (wsV RX8 270 RX0 yX0_draw wsX0_draw) := goodIn_app (goodIn_of _ (by decide +kernel)) ggX8_sendAnyChange_X0_draw
set_option maxRecDepth 20000 in
theorem ggX8_sendAnyChange_X6_get : GoodIn wsX8_sendAnyChange wsX6_get := goodIn_r _ [60, 19, 43, 94, 95] (by decide +kernel) (by decide +kernel)
set_option maxRecDepth 20000 in
theorem gX8_sendAnyChange_X6_get : GoodIn wsX8_sendAnyChange (wsV RX8 247 RX6 yX6_get wsX6_get) := goodIn_app (goodIn_of _ (by decide +kernel)) ggX8_sendAnyChange_X6_get
set_option maxRecDepth 20000 in
theorem ggX8_sendAnyChange_X0_pass : GoodIn wsX8_sendAnyChange wsX0_pass := goodIn_r _ [64, 65, 66, 67, 68, 85, 86, 87, 88, 89, 90, 91, 92, 93] (by decide +kernel) (by decide +kernel)
set_option maxRecDepth 20000 in
theorem gX8_sendAnyChange_X0_pass : GoodIn wsX8_sendAnyChange (wsV RX8 210 RX0 yX0_pass wsX0_pass) := goodIn_app (goodIn_of _ (by decide +kernel)) ggX8_sendAnyChange_X0_pass
theorem dX8_sendAnyChange_0 : decode cX8_sendAnyChange 0 = .ok (.aload_n 0, 1) := by decide +kernel
theorem dX8_sendAnyChange_1 : decode cX8_sendAnyChange 1 = .ok (.aload_n 0, 1) := by decide +kernel
theorem dX8_sendAnyChange_2 : decode cX8_sendAnyChange 2 = .ok (.getfield 38, 3) := by decide +kernel
theorem dX8_sendAnyChange_5 : decode cX8_sendAnyChange 5 = .ok (.getfield 150, 3) := by decide +kernel
theorem dX8_sendAnyChange_8 : decode cX8_sendAnyChange 8 = .ok (.invokevirtual 197, 3) := by decide +kernel
theorem dX8_sendAnyChange_11 : decode cX8_sendAnyChange 11 = .ok (.aload_n 0, 1) := by decide +kernel
theorem dX8_sendAnyChange_12 : decode cX8_sendAnyChange 12 = .ok (.getfield 65, 3) := by decide +kernel
theorem dX8_sendAnyChange_15 : decode cX8_sendAnyChange 15 = .ok (.getfield 163, 3) := by decide +kernel
theorem dX8_sendAnyChange_18 : decode cX8_sendAnyChange 18 = .ok (.ifCond .le 31, 3) := by decide +kernel
theorem dX8_sendAnyChange_21 : decode cX8_sendAnyChange 21 = .ok (.aload_n 0, 1) := by decide +kernel
theorem dX8_sendAnyChange_22 : decode cX8_sendAnyChange 22 = .ok (.getfield 38, 3) := by decide +kernel
theorem dX8_sendAnyChange_25 : decode cX8_sendAnyChange 25 = .ok (.aload_n 0, 1) := by decide +kernel
theorem dX8_sendAnyChange_26 : decode cX8_sendAnyChange 26 = .ok (.getfield 65, 3) := by decide +kernel
theorem dX8_sendAnyChange_29 : decode cX8_sendAnyChange 29 = .ok (.aload_n 0, 1) := by decide +kernel
theorem dX8_sendAnyChange_30 : decode cX8_sendAnyChange 30 = .ok (.getfield 38, 3) := by decide +kernel
theorem dX8_sendAnyChange_33 : decode cX8_sendAnyChange 33 = .ok (.aload_n 0, 1) := by decide +kernel
theorem dX8_sendAnyChange_34 : decode cX8_sendAnyChange 34 = .ok (.getfield 65, 3) := by decide +kernel
theorem dX8_sendAnyChange_37 : decode cX8_sendAnyChange 37 = .ok (.getfield 163, 3) := by decide +kernel
theorem dX8_sendAnyChange_40 : decode cX8_sendAnyChange 40 = .ok (.invokevirtual 270, 3) := by decide +kernel
theorem dX8_sendAnyChange_43 : decode cX8_sendAnyChange 43 = .ok (.invokevirtual 247, 3) := by decide +kernel
theorem dX8_sendAnyChange_46 : decode cX8_sendAnyChange 46 = .ok (.invokevirtual 210, 3) := by decide +kernel
theorem dX8_sendAnyChange_49 : decode cX8_sendAnyChange 49 = .ok (.return_, 1) := by decide +kernel
set_option maxRecDepth 20000 in
theorem ggX8_sendWhatPays_X1_firstSent : GoodIn wsX8_sendWhatPays wsX1_firstSent := goodIn_r _ [7, 8, 9, 10, 11, 12, 13, 14, 6, 15, 16, 17, 18, 19, 20, 21, 22, 23, 24, 25, 26, 27, 28, 29, 30, 31, 32, 33, 34, 35, 36, 37, 38, 39, 40, 41, 42, 43, 44, 45, 46, 47, 48, 49, 50, 51, 52, 53, 54, 55, 56, 57, 58, 59, 60, 61, 62, 63, 64, 65, 66, 67, 109, 110, 111, 112, 113, 114, 115, 116, 117, 118, 119, 120, 121, 122, 123, 124, 125, 126, 127, 128, 129, 130, 131, 132, 133] (by decide +kernel) (by decide +kernel)
set_option maxRecDepth 20000 in
theorem gX8_sendWhatPays_X1_firstSent : GoodIn wsX8_sendWhatPays (wsV RX8 240 RX1 yX1_firstSent wsX1_firstSent) := goodIn_app (goodIn_of _ (by decide +kernel)) ggX8_sendWhatPays_X1_firstSent
set_option maxRecDepth 20000 in
theorem ggX8_sendWhatPays_X8_giveBoth : GoodIn wsX8_sendWhatPays wsX8_giveBoth := goodIn_r _ [72, 2, 73, 74, 20, 21, 22, 23, 24, 25, 26, 84, 85, 86, 87, 88, 89, 90, 91, 92, 93, 94, 95, 96, 97, 98, 99, 100, 101, 102, 103, 104, 105, 106, 107, 108, 117, 118, 119, 120, 121, 122, 123] (by decide +kernel) (by decide +kernel)
set_option maxRecDepth 20000 in
theorem gX8_sendWhatPays_X8_giveBoth : GoodIn wsX8_sendWhatPays (wsV RX8 213 RX8 yX8_giveBoth wsX8_giveBoth) := goodIn_app (goodIn_of _ (by decide +kernel)) ggX8_sendWhatPays_X8_giveBoth
set_option maxRecDepth 20000 in
theorem ggX8_sendWhatPays_X0_pass : GoodIn wsX8_sendWhatPays wsX0_pass := goodIn_r _ [79, 80, 81, 82, 83, 100, 101, 102, 103, 104, 105, 106, 107, 108] (by decide +kernel) (by decide +kernel)
set_option maxRecDepth 20000 in
theorem gX8_sendWhatPays_X0_pass : GoodIn wsX8_sendWhatPays (wsV RX8 210 RX0 yX0_pass wsX0_pass) := goodIn_app (goodIn_of _ (by decide +kernel)) ggX8_sendWhatPays_X0_pass
theorem dX8_sendWhatPays_0 : decode cX8_sendWhatPays 0 = .ok (.aload_n 0, 1) := by decide +kernel
theorem dX8_sendWhatPays_1 : decode cX8_sendWhatPays 1 = .ok (.getfield 90, 3) := by decide +kernel
theorem dX8_sendWhatPays_4 : decode cX8_sendWhatPays 4 = .ok (.aload_n 0, 1) := by decide +kernel
theorem dX8_sendWhatPays_5 : decode cX8_sendWhatPays 5 = .ok (.getfield 38, 3) := by decide +kernel
theorem dX8_sendWhatPays_8 : decode cX8_sendWhatPays 8 = .ok (.getfield 150, 3) := by decide +kernel
theorem dX8_sendWhatPays_11 : decode cX8_sendWhatPays 11 = .ok (.aload_n 0, 1) := by decide +kernel
theorem dX8_sendWhatPays_12 : decode cX8_sendWhatPays 12 = .ok (.getfield 38, 3) := by decide +kernel
theorem dX8_sendWhatPays_15 : decode cX8_sendWhatPays 15 = .ok (.getfield 153, 3) := by decide +kernel
theorem dX8_sendWhatPays_18 : decode cX8_sendWhatPays 18 = .ok (.iconst 2, 1) := by decide +kernel
theorem dX8_sendWhatPays_19 : decode cX8_sendWhatPays 19 = .ok (.invokevirtual 240, 3) := by decide +kernel
theorem dX8_sendWhatPays_22 : decode cX8_sendWhatPays 22 = .ok (.istore_n 1, 1) := by decide +kernel
theorem dX8_sendWhatPays_23 : decode cX8_sendWhatPays 23 = .ok (.iload_n 1, 1) := by decide +kernel
theorem dX8_sendWhatPays_24 : decode cX8_sendWhatPays 24 = .ok (.iconst (-1), 1) := by decide +kernel
theorem dX8_sendWhatPays_25 : decode cX8_sendWhatPays 25 = .ok (.if_icmp .ne 26, 3) := by decide +kernel
theorem dX8_sendWhatPays_28 : decode cX8_sendWhatPays 28 = .ok (.aload_n 0, 1) := by decide +kernel
theorem dX8_sendWhatPays_29 : decode cX8_sendWhatPays 29 = .ok (.invokevirtual 213, 3) := by decide +kernel
theorem dX8_sendWhatPays_32 : decode cX8_sendWhatPays 32 = .ok (.aload_n 0, 1) := by decide +kernel
theorem dX8_sendWhatPays_33 : decode cX8_sendWhatPays 33 = .ok (.getfield 38, 3) := by decide +kernel
theorem dX8_sendWhatPays_36 : decode cX8_sendWhatPays 36 = .ok (.iconst 1, 1) := by decide +kernel
theorem dX8_sendWhatPays_37 : decode cX8_sendWhatPays 37 = .ok (.aload_n 0, 1) := by decide +kernel
theorem dX8_sendWhatPays_38 : decode cX8_sendWhatPays 38 = .ok (.getfield 38, 3) := by decide +kernel
theorem dX8_sendWhatPays_41 : decode cX8_sendWhatPays 41 = .ok (.getfield 153, 3) := by decide +kernel
theorem dX8_sendWhatPays_44 : decode cX8_sendWhatPays 44 = .ok (.isub, 1) := by decide +kernel
theorem dX8_sendWhatPays_45 : decode cX8_sendWhatPays 45 = .ok (.putfield 153, 3) := by decide +kernel
theorem dX8_sendWhatPays_48 : decode cX8_sendWhatPays 48 = .ok (.goto 11, 3) := by decide +kernel
theorem dX8_sendWhatPays_51 : decode cX8_sendWhatPays 51 = .ok (.aload_n 0, 1) := by decide +kernel
theorem dX8_sendWhatPays_52 : decode cX8_sendWhatPays 52 = .ok (.getfield 38, 3) := by decide +kernel
theorem dX8_sendWhatPays_55 : decode cX8_sendWhatPays 55 = .ok (.iload_n 1, 1) := by decide +kernel
theorem dX8_sendWhatPays_56 : decode cX8_sendWhatPays 56 = .ok (.invokevirtual 210, 3) := by decide +kernel
theorem dX8_sendWhatPays_59 : decode cX8_sendWhatPays 59 = .ok (.return_, 1) := by decide +kernel
theorem dX9_init_0 : decode cX9_init 0 = .ok (.aload_n 0, 1) := by decide +kernel
theorem dX9_init_1 : decode cX9_init 1 = .ok (.invokespecial 1, 3) := by decide +kernel
theorem dX9_init_4 : decode cX9_init 4 = .ok (.aload_n 0, 1) := by decide +kernel
theorem dX9_init_5 : decode cX9_init 5 = .ok (.bipush 8, 2) := by decide +kernel
theorem dX9_init_7 : decode cX9_init 7 = .ok (.newarray .int, 2) := by decide +kernel
theorem dX9_init_9 : decode cX9_init 9 = .ok (.putfield 7, 3) := by decide +kernel
theorem dX9_init_12 : decode cX9_init 12 = .ok (.aload_n 0, 1) := by decide +kernel
theorem dX9_init_13 : decode cX9_init 13 = .ok (.bipush 16, 2) := by decide +kernel
theorem dX9_init_15 : decode cX9_init 15 = .ok (.newarray .int, 2) := by decide +kernel
theorem dX9_init_17 : decode cX9_init 17 = .ok (.putfield 13, 3) := by decide +kernel
theorem dX9_init_20 : decode cX9_init 20 = .ok (.aload_n 0, 1) := by decide +kernel
theorem dX9_init_21 : decode cX9_init 21 = .ok (.bipush 32, 2) := by decide +kernel
theorem dX9_init_23 : decode cX9_init 23 = .ok (.newarray .int, 2) := by decide +kernel
theorem dX9_init_25 : decode cX9_init 25 = .ok (.putfield 16, 3) := by decide +kernel
theorem dX9_init_28 : decode cX9_init 28 = .ok (.aload_n 0, 1) := by decide +kernel
theorem dX9_init_29 : decode cX9_init 29 = .ok (.bipush 48, 2) := by decide +kernel
theorem dX9_init_31 : decode cX9_init 31 = .ok (.newarray .int, 2) := by decide +kernel
theorem dX9_init_33 : decode cX9_init 33 = .ok (.putfield 19, 3) := by decide +kernel
theorem dX9_init_36 : decode cX9_init 36 = .ok (.aload_n 0, 1) := by decide +kernel
theorem dX9_init_37 : decode cX9_init 37 = .ok (.sipush 4096, 3) := by decide +kernel
theorem dX9_init_40 : decode cX9_init 40 = .ok (.newarray .boolean, 2) := by decide +kernel
theorem dX9_init_42 : decode cX9_init 42 = .ok (.putfield 22, 3) := by decide +kernel
theorem dX9_init_45 : decode cX9_init 45 = .ok (.aload_n 0, 1) := by decide +kernel
theorem dX9_init_46 : decode cX9_init 46 = .ok (.sipush 8192, 3) := by decide +kernel
theorem dX9_init_49 : decode cX9_init 49 = .ok (.newarray .int, 2) := by decide +kernel
theorem dX9_init_51 : decode cX9_init 51 = .ok (.putfield 26, 3) := by decide +kernel
theorem dX9_init_54 : decode cX9_init 54 = .ok (.aload_n 0, 1) := by decide +kernel
theorem dX9_init_55 : decode cX9_init 55 = .ok (.iconst 2, 1) := by decide +kernel
theorem dX9_init_56 : decode cX9_init 56 = .ok (.newarray .int, 2) := by decide +kernel
theorem dX9_init_58 : decode cX9_init 58 = .ok (.putfield 29, 3) := by decide +kernel
theorem dX9_init_61 : decode cX9_init 61 = .ok (.aload_n 0, 1) := by decide +kernel
theorem dX9_init_62 : decode cX9_init 62 = .ok (.bipush 60, 2) := by decide +kernel
theorem dX9_init_64 : decode cX9_init 64 = .ok (.newarray .int, 2) := by decide +kernel
theorem dX9_init_66 : decode cX9_init 66 = .ok (.putfield 32, 3) := by decide +kernel
theorem dX9_init_69 : decode cX9_init 69 = .ok (.aload_n 0, 1) := by decide +kernel
theorem dX9_init_70 : decode cX9_init 70 = .ok (.bipush 60, 2) := by decide +kernel
theorem dX9_init_72 : decode cX9_init 72 = .ok (.newarray .int, 2) := by decide +kernel
theorem dX9_init_74 : decode cX9_init 74 = .ok (.putfield 35, 3) := by decide +kernel
theorem dX9_init_77 : decode cX9_init 77 = .ok (.aload_n 0, 1) := by decide +kernel
theorem dX9_init_78 : decode cX9_init 78 = .ok (.bipush 60, 2) := by decide +kernel
theorem dX9_init_80 : decode cX9_init 80 = .ok (.newarray .int, 2) := by decide +kernel
theorem dX9_init_82 : decode cX9_init 82 = .ok (.putfield 38, 3) := by decide +kernel
theorem dX9_init_85 : decode cX9_init 85 = .ok (.aload_n 0, 1) := by decide +kernel
theorem dX9_init_86 : decode cX9_init 86 = .ok (.sipush 500, 3) := by decide +kernel
theorem dX9_init_89 : decode cX9_init 89 = .ok (.newarray .int, 2) := by decide +kernel
theorem dX9_init_91 : decode cX9_init 91 = .ok (.putfield 41, 3) := by decide +kernel
theorem dX9_init_94 : decode cX9_init 94 = .ok (.aload_n 0, 1) := by decide +kernel
theorem dX9_init_95 : decode cX9_init 95 = .ok (.iconst (-1), 1) := by decide +kernel
theorem dX9_init_96 : decode cX9_init 96 = .ok (.putfield 44, 3) := by decide +kernel
theorem dX9_init_99 : decode cX9_init 99 = .ok (.aload_n 0, 1) := by decide +kernel
theorem dX9_init_100 : decode cX9_init 100 = .ok (.bipush 8, 2) := by decide +kernel
theorem dX9_init_102 : decode cX9_init 102 = .ok (.newarray .int, 2) := by decide +kernel
theorem dX9_init_104 : decode cX9_init 104 = .ok (.putfield 48, 3) := by decide +kernel
theorem dX9_init_107 : decode cX9_init 107 = .ok (.aload_n 0, 1) := by decide +kernel
theorem dX9_init_108 : decode cX9_init 108 = .ok (.bipush 16, 2) := by decide +kernel
theorem dX9_init_110 : decode cX9_init 110 = .ok (.newarray .int, 2) := by decide +kernel
theorem dX9_init_112 : decode cX9_init 112 = .ok (.putfield 51, 3) := by decide +kernel
theorem dX9_init_115 : decode cX9_init 115 = .ok (.aload_n 0, 1) := by decide +kernel
theorem dX9_init_116 : decode cX9_init 116 = .ok (.bipush 32, 2) := by decide +kernel
theorem dX9_init_118 : decode cX9_init 118 = .ok (.newarray .int, 2) := by decide +kernel
theorem dX9_init_120 : decode cX9_init 120 = .ok (.putfield 54, 3) := by decide +kernel
theorem dX9_init_123 : decode cX9_init 123 = .ok (.aload_n 0, 1) := by decide +kernel
theorem dX9_init_124 : decode cX9_init 124 = .ok (.bipush 48, 2) := by decide +kernel
theorem dX9_init_126 : decode cX9_init 126 = .ok (.newarray .int, 2) := by decide +kernel
theorem dX9_init_128 : decode cX9_init 128 = .ok (.putfield 57, 3) := by decide +kernel
theorem dX9_init_131 : decode cX9_init 131 = .ok (.aload_n 0, 1) := by decide +kernel
theorem dX9_init_132 : decode cX9_init 132 = .ok (.bipush 40, 2) := by decide +kernel
theorem dX9_init_134 : decode cX9_init 134 = .ok (.newarray .int, 2) := by decide +kernel
theorem dX9_init_136 : decode cX9_init 136 = .ok (.putfield 60, 3) := by decide +kernel
theorem dX9_init_139 : decode cX9_init 139 = .ok (.aload_n 0, 1) := by decide +kernel
theorem dX9_init_140 : decode cX9_init 140 = .ok (.sipush 4096, 3) := by decide +kernel
theorem dX9_init_143 : decode cX9_init 143 = .ok (.newarray .int, 2) := by decide +kernel
theorem dX9_init_145 : decode cX9_init 145 = .ok (.putfield 63, 3) := by decide +kernel
theorem dX9_init_148 : decode cX9_init 148 = .ok (.aload_n 0, 1) := by decide +kernel
theorem dX9_init_149 : decode cX9_init 149 = .ok (.sipush 4096, 3) := by decide +kernel
theorem dX9_init_152 : decode cX9_init 152 = .ok (.newarray .int, 2) := by decide +kernel
theorem dX9_init_154 : decode cX9_init 154 = .ok (.putfield 66, 3) := by decide +kernel
theorem dX9_init_157 : decode cX9_init 157 = .ok (.aload_n 0, 1) := by decide +kernel
theorem dX9_init_158 : decode cX9_init 158 = .ok (.sipush 8192, 3) := by decide +kernel
theorem dX9_init_161 : decode cX9_init 161 = .ok (.newarray .int, 2) := by decide +kernel
theorem dX9_init_163 : decode cX9_init 163 = .ok (.putfield 69, 3) := by decide +kernel
theorem dX9_init_166 : decode cX9_init 166 = .ok (.aload_n 0, 1) := by decide +kernel
theorem dX9_init_167 : decode cX9_init 167 = .ok (.sipush 8192, 3) := by decide +kernel
theorem dX9_init_170 : decode cX9_init 170 = .ok (.newarray .int, 2) := by decide +kernel
theorem dX9_init_172 : decode cX9_init 172 = .ok (.putfield 72, 3) := by decide +kernel
theorem dX9_init_175 : decode cX9_init 175 = .ok (.aload_n 0, 1) := by decide +kernel
theorem dX9_init_176 : decode cX9_init 176 = .ok (.sipush 8192, 3) := by decide +kernel
theorem dX9_init_179 : decode cX9_init 179 = .ok (.newarray .int, 2) := by decide +kernel
theorem dX9_init_181 : decode cX9_init 181 = .ok (.putfield 75, 3) := by decide +kernel
theorem dX9_init_184 : decode cX9_init 184 = .ok (.aload_n 0, 1) := by decide +kernel
theorem dX9_init_185 : decode cX9_init 185 = .ok (.sipush 8192, 3) := by decide +kernel
theorem dX9_init_188 : decode cX9_init 188 = .ok (.newarray .int, 2) := by decide +kernel
theorem dX9_init_190 : decode cX9_init 190 = .ok (.putfield 78, 3) := by decide +kernel
theorem dX9_init_193 : decode cX9_init 193 = .ok (.aload_n 0, 1) := by decide +kernel
theorem dX9_init_194 : decode cX9_init 194 = .ok (.sipush 8192, 3) := by decide +kernel
theorem dX9_init_197 : decode cX9_init 197 = .ok (.newarray .int, 2) := by decide +kernel
theorem dX9_init_199 : decode cX9_init 199 = .ok (.putfield 81, 3) := by decide +kernel
theorem dX9_init_202 : decode cX9_init 202 = .ok (.aload_n 0, 1) := by decide +kernel
theorem dX9_init_203 : decode cX9_init 203 = .ok (.bipush 6, 2) := by decide +kernel
theorem dX9_init_205 : decode cX9_init 205 = .ok (.newarray .int, 2) := by decide +kernel
theorem dX9_init_207 : decode cX9_init 207 = .ok (.putfield 84, 3) := by decide +kernel
theorem dX9_init_210 : decode cX9_init 210 = .ok (.aload_n 0, 1) := by decide +kernel
theorem dX9_init_211 : decode cX9_init 211 = .ok (.bipush 48, 2) := by decide +kernel
theorem dX9_init_213 : decode cX9_init 213 = .ok (.newarray .int, 2) := by decide +kernel
theorem dX9_init_215 : decode cX9_init 215 = .ok (.putfield 87, 3) := by decide +kernel
theorem dX9_init_218 : decode cX9_init 218 = .ok (.aload_n 0, 1) := by decide +kernel
theorem dX9_init_219 : decode cX9_init 219 = .ok (.bipush 30, 2) := by decide +kernel
theorem dX9_init_221 : decode cX9_init 221 = .ok (.newarray .int, 2) := by decide +kernel
theorem dX9_init_223 : decode cX9_init 223 = .ok (.putfield 90, 3) := by decide +kernel
theorem dX9_init_226 : decode cX9_init 226 = .ok (.aload_n 0, 1) := by decide +kernel
theorem dX9_init_227 : decode cX9_init 227 = .ok (.sipush 400, 3) := by decide +kernel
theorem dX9_init_230 : decode cX9_init 230 = .ok (.newarray .int, 2) := by decide +kernel
theorem dX9_init_232 : decode cX9_init 232 = .ok (.putfield 93, 3) := by decide +kernel
theorem dX9_init_235 : decode cX9_init 235 = .ok (.aload_n 0, 1) := by decide +kernel
theorem dX9_init_236 : decode cX9_init 236 = .ok (.iconst 2, 1) := by decide +kernel
theorem dX9_init_237 : decode cX9_init 237 = .ok (.newarray .boolean, 2) := by decide +kernel
theorem dX9_init_239 : decode cX9_init 239 = .ok (.putfield 96, 3) := by decide +kernel
theorem dX9_init_242 : decode cX9_init 242 = .ok (.aload_n 0, 1) := by decide +kernel
theorem dX9_init_243 : decode cX9_init 243 = .ok (.iconst 0, 1) := by decide +kernel
theorem dX9_init_244 : decode cX9_init 244 = .ok (.putfield 99, 3) := by decide +kernel
theorem dX9_init_247 : decode cX9_init 247 = .ok (.return_, 1) := by decide +kernel
theorem dX9_in_0 : decode cX9_in 0 = .ok (.lload_n 0, 1) := by decide +kernel
theorem dX9_in_1 : decode cX9_in 1 = .ok (.lload_n 2, 1) := by decide +kernel
theorem dX9_in_2 : decode cX9_in 2 = .ok (.lcmp, 1) := by decide +kernel
theorem dX9_in_3 : decode cX9_in 3 = .ok (.ifCond .lt 14, 3) := by decide +kernel
theorem dX9_in_6 : decode cX9_in 6 = .ok (.lload_n 0, 1) := by decide +kernel
theorem dX9_in_7 : decode cX9_in 7 = .ok (.lload 4, 2) := by decide +kernel
theorem dX9_in_9 : decode cX9_in 9 = .ok (.lcmp, 1) := by decide +kernel
theorem dX9_in_10 : decode cX9_in 10 = .ok (.ifCond .gt 7, 3) := by decide +kernel
theorem dX9_in_13 : decode cX9_in 13 = .ok (.iconst 1, 1) := by decide +kernel
theorem dX9_in_14 : decode cX9_in 14 = .ok (.goto 4, 3) := by decide +kernel
theorem dX9_in_17 : decode cX9_in 17 = .ok (.iconst 0, 1) := by decide +kernel
theorem dX9_in_18 : decode cX9_in 18 = .ok (.ireturn, 1) := by decide +kernel
set_option maxRecDepth 20000 in
theorem ggX9_isLetter_X9_in : GoodIn wsX9_isLetter wsX9_in := goodIn_r _ [5] (by decide +kernel) (by decide +kernel)
set_option maxRecDepth 20000 in
theorem gX9_isLetter_X9_in : GoodIn wsX9_isLetter (va_wsS RX9 105 yX9_in wsX9_in) := goodIn_app (goodIn_of _ (by decide +kernel)) ggX9_isLetter_X9_in
theorem dX9_isLetter_0 : decode cX9_isLetter 0 = .ok (.iload_n 1, 1) := by decide +kernel
theorem dX9_isLetter_1 : decode cX9_isLetter 1 = .ok (.i2l, 1) := by decide +kernel
theorem dX9_isLetter_2 : decode cX9_isLetter 2 = .ok (.lconst 0, 1) := by decide +kernel
theorem dX9_isLetter_3 : decode cX9_isLetter 3 = .ok (.aload_n 0, 1) := by decide +kernel
theorem dX9_isLetter_4 : decode cX9_isLetter 4 = .ok (.getfield 102, 3) := by decide +kernel
theorem dX9_isLetter_7 : decode cX9_isLetter 7 = .ok (.iconst 1, 1) := by decide +kernel
theorem dX9_isLetter_8 : decode cX9_isLetter 8 = .ok (.isub, 1) := by decide +kernel
theorem dX9_isLetter_9 : decode cX9_isLetter 9 = .ok (.i2l, 1) := by decide +kernel
theorem dX9_isLetter_10 : decode cX9_isLetter 10 = .ok (.invokestatic 105, 3) := by decide +kernel
theorem dX9_isLetter_13 : decode cX9_isLetter 13 = .ok (.ireturn, 1) := by decide +kernel
set_option maxRecDepth 20000 in
theorem ggX9_isHouse_X9_in : GoodIn wsX9_isHouse wsX9_in := goodIn_r _ [4] (by decide +kernel) (by decide +kernel)
set_option maxRecDepth 20000 in
theorem gX9_isHouse_X9_in : GoodIn wsX9_isHouse (va_wsS RX9 105 yX9_in wsX9_in) := goodIn_app (goodIn_of _ (by decide +kernel)) ggX9_isHouse_X9_in
theorem dX9_isHouse_0 : decode cX9_isHouse 0 = .ok (.iload_n 0, 1) := by decide +kernel
theorem dX9_isHouse_1 : decode cX9_isHouse 1 = .ok (.i2l, 1) := by decide +kernel
theorem dX9_isHouse_2 : decode cX9_isHouse 2 = .ok (.lconst 0, 1) := by decide +kernel
theorem dX9_isHouse_3 : decode cX9_isHouse 3 = .ok (.lconst 1, 1) := by decide +kernel
theorem dX9_isHouse_4 : decode cX9_isHouse 4 = .ok (.invokestatic 105, 3) := by decide +kernel
theorem dX9_isHouse_7 : decode cX9_isHouse 7 = .ok (.ireturn, 1) := by decide +kernel
set_option maxRecDepth 20000 in
theorem ggX9_isWord_X9_in : GoodIn wsX9_isWord wsX9_in := goodIn_r _ [5] (by decide +kernel) (by decide +kernel)
set_option maxRecDepth 20000 in
theorem gX9_isWord_X9_in : GoodIn wsX9_isWord (va_wsS RX9 105 yX9_in wsX9_in) := goodIn_app (goodIn_of _ (by decide +kernel)) ggX9_isWord_X9_in
theorem dX9_isWord_0 : decode cX9_isWord 0 = .ok (.iload_n 1, 1) := by decide +kernel
theorem dX9_isWord_1 : decode cX9_isWord 1 = .ok (.i2l, 1) := by decide +kernel
theorem dX9_isWord_2 : decode cX9_isWord 2 = .ok (.lconst 0, 1) := by decide +kernel
theorem dX9_isWord_3 : decode cX9_isWord 3 = .ok (.aload_n 0, 1) := by decide +kernel
theorem dX9_isWord_4 : decode cX9_isWord 4 = .ok (.getfield 109, 3) := by decide +kernel
theorem dX9_isWord_7 : decode cX9_isWord 7 = .ok (.iconst 1, 1) := by decide +kernel
theorem dX9_isWord_8 : decode cX9_isWord 8 = .ok (.isub, 1) := by decide +kernel
theorem dX9_isWord_9 : decode cX9_isWord 9 = .ok (.i2l, 1) := by decide +kernel
theorem dX9_isWord_10 : decode cX9_isWord 10 = .ok (.invokestatic 105, 3) := by decide +kernel
theorem dX9_isWord_13 : decode cX9_isWord 13 = .ok (.ireturn, 1) := by decide +kernel
theorem dX9_unit_0 : decode cX9_unit 0 = .ok (.iconst 1, 1) := by decide +kernel
theorem dX9_unit_1 : decode cX9_unit 1 = .ok (.istore_n 2, 1) := by decide +kernel
theorem dX9_unit_2 : decode cX9_unit 2 = .ok (.iconst 0, 1) := by decide +kernel
theorem dX9_unit_3 : decode cX9_unit 3 = .ok (.istore_n 3, 1) := by decide +kernel
theorem dX9_unit_4 : decode cX9_unit 4 = .ok (.iload_n 3, 1) := by decide +kernel
theorem dX9_unit_5 : decode cX9_unit 5 = .ok (.iload_n 1, 1) := by decide +kernel
theorem dX9_unit_6 : decode cX9_unit 6 = .ok (.if_icmp .ge 16, 3) := by decide +kernel
theorem dX9_unit_9 : decode cX9_unit 9 = .ok (.iload_n 2, 1) := by decide +kernel
theorem dX9_unit_10 : decode cX9_unit 10 = .ok (.aload_n 0, 1) := by decide +kernel
theorem dX9_unit_11 : decode cX9_unit 11 = .ok (.getfield 109, 3) := by decide +kernel
theorem dX9_unit_14 : decode cX9_unit 14 = .ok (.imul, 1) := by decide +kernel
theorem dX9_unit_15 : decode cX9_unit 15 = .ok (.istore_n 2, 1) := by decide +kernel
theorem dX9_unit_16 : decode cX9_unit 16 = .ok (.iinc 3 1, 3) := by decide +kernel
theorem dX9_unit_19 : decode cX9_unit 19 = .ok (.goto (-15), 3) := by decide +kernel
theorem dX9_unit_22 : decode cX9_unit 22 = .ok (.iload_n 2, 1) := by decide +kernel
theorem dX9_unit_23 : decode cX9_unit 23 = .ok (.ireturn, 1) := by decide +kernel
set_option maxRecDepth 20000 in
theorem ggX9_wordAt_X9_unit : GoodIn wsX9_wordAt wsX9_unit := goodIn_r _ [6, 1, 7, 8, 9, 10, 11, 12, 13, 14, 15, 16, 17, 18, 19, 20, 21, 22, 23, 24, 25, 26, 27, 28, 29, 30, 31, 32, 33, 34, 35, 36, 37, 38, 39, 40, 41, 42, 43, 44, 45, 46, 47, 48, 49, 50, 51, 52, 53, 54, 55, 56, 57, 58, 59, 60, 61] (by decide +kernel) (by decide +kernel)
set_option maxRecDepth 20000 in
theorem gX9_wordAt_X9_unit : GoodIn wsX9_wordAt (wsV RX9 112 RX9 yX9_unit wsX9_unit) := goodIn_app (goodIn_of _ (by decide +kernel)) ggX9_wordAt_X9_unit
theorem dX9_wordAt_0 : decode cX9_wordAt 0 = .ok (.iload_n 1, 1) := by decide +kernel
theorem dX9_wordAt_1 : decode cX9_wordAt 1 = .ok (.aload_n 0, 1) := by decide +kernel
theorem dX9_wordAt_2 : decode cX9_wordAt 2 = .ok (.iload_n 2, 1) := by decide +kernel
theorem dX9_wordAt_3 : decode cX9_wordAt 3 = .ok (.invokevirtual 112, 3) := by decide +kernel
theorem dX9_wordAt_6 : decode cX9_wordAt 6 = .ok (.idiv, 1) := by decide +kernel
theorem dX9_wordAt_7 : decode cX9_wordAt 7 = .ok (.aload_n 0, 1) := by decide +kernel
theorem dX9_wordAt_8 : decode cX9_wordAt 8 = .ok (.getfield 109, 3) := by decide +kernel
theorem dX9_wordAt_11 : decode cX9_wordAt 11 = .ok (.irem, 1) := by decide +kernel
theorem dX9_wordAt_12 : decode cX9_wordAt 12 = .ok (.ireturn, 1) := by decide +kernel
set_option maxRecDepth 20000 in
theorem ggX9_feed_X9_in : GoodIn wsX9_feed wsX9_in := goodIn_r _ [10] (by decide +kernel) (by decide +kernel)
set_option maxRecDepth 20000 in
theorem gX9_feed_X9_in : GoodIn wsX9_feed (va_wsS RX9 105 yX9_in wsX9_in) := goodIn_app (goodIn_of _ (by decide +kernel)) ggX9_feed_X9_in
theorem dX9_feed_0 : decode cX9_feed 0 = .ok (.iload_n 1, 1) := by decide +kernel
theorem dX9_feed_1 : decode cX9_feed 1 = .ok (.i2l, 1) := by decide +kernel
theorem dX9_feed_2 : decode cX9_feed 2 = .ok (.lconst 1, 1) := by decide +kernel
theorem dX9_feed_3 : decode cX9_feed 3 = .ok (.ldc2_w 116, 3) := by decide +kernel
theorem dX9_feed_6 : decode cX9_feed 6 = .ok (.invokestatic 105, 3) := by decide +kernel
theorem dX9_feed_9 : decode cX9_feed 9 = .ok (.ifCond .ne 6, 3) := by decide +kernel
theorem dX9_feed_12 : decode cX9_feed 12 = .ok (.ldc 118, 2) := by decide +kernel
theorem dX9_feed_14 : decode cX9_feed 14 = .ok (.ireturn, 1) := by decide +kernel
theorem dX9_feed_15 : decode cX9_feed 15 = .ok (.aload_n 0, 1) := by decide +kernel
theorem dX9_feed_16 : decode cX9_feed 16 = .ok (.getfield 119, 3) := by decide +kernel
theorem dX9_feed_19 : decode cX9_feed 19 = .ok (.iload_n 1, 1) := by decide +kernel
theorem dX9_feed_20 : decode cX9_feed 20 = .ok (.iadd, 1) := by decide +kernel
theorem dX9_feed_21 : decode cX9_feed 21 = .ok (.sipush 500, 3) := by decide +kernel
theorem dX9_feed_24 : decode cX9_feed 24 = .ok (.if_icmp .le 6, 3) := by decide +kernel
theorem dX9_feed_27 : decode cX9_feed 27 = .ok (.ldc 122, 2) := by decide +kernel
theorem dX9_feed_29 : decode cX9_feed 29 = .ok (.ireturn, 1) := by decide +kernel
theorem dX9_feed_30 : decode cX9_feed 30 = .ok (.iload_n 1, 1) := by decide +kernel
theorem dX9_feed_31 : decode cX9_feed 31 = .ok (.iconst 1, 1) := by decide +kernel
theorem dX9_feed_32 : decode cX9_feed 32 = .ok (.isub, 1) := by decide +kernel
theorem dX9_feed_33 : decode cX9_feed 33 = .ok (.istore 4, 2) := by decide +kernel
theorem dX9_feed_35 : decode cX9_feed 35 = .ok (.iload 4, 2) := by decide +kernel
theorem dX9_feed_37 : decode cX9_feed 37 = .ok (.ifCond .lt 40, 3) := by decide +kernel
theorem dX9_feed_40 : decode cX9_feed 40 = .ok (.aload_n 0, 1) := by decide +kernel
theorem dX9_feed_41 : decode cX9_feed 41 = .ok (.getfield 41, 3) := by decide +kernel
theorem dX9_feed_44 : decode cX9_feed 44 = .ok (.aload_n 0, 1) := by decide +kernel
theorem dX9_feed_45 : decode cX9_feed 45 = .ok (.getfield 119, 3) := by decide +kernel
theorem dX9_feed_48 : decode cX9_feed 48 = .ok (.lload_n 2, 1) := by decide +kernel
theorem dX9_feed_49 : decode cX9_feed 49 = .ok (.bipush 8, 2) := by decide +kernel
theorem dX9_feed_51 : decode cX9_feed 51 = .ok (.iload 4, 2) := by decide +kernel
theorem dX9_feed_53 : decode cX9_feed 53 = .ok (.imul, 1) := by decide +kernel
theorem dX9_feed_54 : decode cX9_feed 54 = .ok (.lshr, 1) := by decide +kernel
theorem dX9_feed_55 : decode cX9_feed 55 = .ok (.ldc2_w 123, 3) := by decide +kernel
theorem dX9_feed_58 : decode cX9_feed 58 = .ok (.land, 1) := by decide +kernel
theorem dX9_feed_59 : decode cX9_feed 59 = .ok (.l2i, 1) := by decide +kernel
theorem dX9_feed_60 : decode cX9_feed 60 = .ok (.iastore, 1) := by decide +kernel
theorem dX9_feed_61 : decode cX9_feed 61 = .ok (.aload_n 0, 1) := by decide +kernel
theorem dX9_feed_62 : decode cX9_feed 62 = .ok (.dup, 1) := by decide +kernel
theorem dX9_feed_63 : decode cX9_feed 63 = .ok (.getfield 119, 3) := by decide +kernel
theorem dX9_feed_66 : decode cX9_feed 66 = .ok (.iconst 1, 1) := by decide +kernel
theorem dX9_feed_67 : decode cX9_feed 67 = .ok (.iadd, 1) := by decide +kernel
theorem dX9_feed_68 : decode cX9_feed 68 = .ok (.putfield 119, 3) := by decide +kernel
theorem dX9_feed_71 : decode cX9_feed 71 = .ok (.iinc 4 (-1), 3) := by decide +kernel
theorem dX9_feed_74 : decode cX9_feed 74 = .ok (.goto (-39), 3) := by decide +kernel
theorem dX9_feed_77 : decode cX9_feed 77 = .ok (.aload_n 0, 1) := by decide +kernel
theorem dX9_feed_78 : decode cX9_feed 78 = .ok (.getfield 119, 3) := by decide +kernel
theorem dX9_feed_81 : decode cX9_feed 81 = .ok (.ireturn, 1) := by decide +kernel
theorem dX9_here_0 : decode cX9_here 0 = .ok (.aload_n 0, 1) := by decide +kernel
theorem dX9_here_1 : decode cX9_here 1 = .ok (.getfield 125, 3) := by decide +kernel
theorem dX9_here_4 : decode cX9_here 4 = .ok (.aload_n 0, 1) := by decide +kernel
theorem dX9_here_5 : decode cX9_here 5 = .ok (.getfield 119, 3) := by decide +kernel
theorem dX9_here_8 : decode cX9_here 8 = .ok (.if_icmp .ge 30, 3) := by decide +kernel
theorem dX9_here_11 : decode cX9_here 11 = .ok (.aload_n 0, 1) := by decide +kernel
theorem dX9_here_12 : decode cX9_here 12 = .ok (.getfield 41, 3) := by decide +kernel
theorem dX9_here_15 : decode cX9_here 15 = .ok (.aload_n 0, 1) := by decide +kernel
theorem dX9_here_16 : decode cX9_here 16 = .ok (.getfield 125, 3) := by decide +kernel
theorem dX9_here_19 : decode cX9_here 19 = .ok (.iaload, 1) := by decide +kernel
theorem dX9_here_20 : decode cX9_here 20 = .ok (.bipush 32, 2) := by decide +kernel
theorem dX9_here_22 : decode cX9_here 22 = .ok (.if_icmp .ne 16, 3) := by decide +kernel
theorem dX9_here_25 : decode cX9_here 25 = .ok (.aload_n 0, 1) := by decide +kernel
theorem dX9_here_26 : decode cX9_here 26 = .ok (.dup, 1) := by decide +kernel
theorem dX9_here_27 : decode cX9_here 27 = .ok (.getfield 125, 3) := by decide +kernel
theorem dX9_here_30 : decode cX9_here 30 = .ok (.iconst 1, 1) := by decide +kernel
theorem dX9_here_31 : decode cX9_here 31 = .ok (.iadd, 1) := by decide +kernel
theorem dX9_here_32 : decode cX9_here 32 = .ok (.putfield 125, 3) := by decide +kernel
theorem dX9_here_35 : decode cX9_here 35 = .ok (.goto (-35), 3) := by decide +kernel
theorem dX9_here_38 : decode cX9_here 38 = .ok (.aload_n 0, 1) := by decide +kernel
theorem dX9_here_39 : decode cX9_here 39 = .ok (.getfield 125, 3) := by decide +kernel
theorem dX9_here_42 : decode cX9_here 42 = .ok (.aload_n 0, 1) := by decide +kernel
theorem dX9_here_43 : decode cX9_here 43 = .ok (.getfield 119, 3) := by decide +kernel
theorem dX9_here_46 : decode cX9_here 46 = .ok (.if_icmp .ge 15, 3) := by decide +kernel
theorem dX9_here_49 : decode cX9_here 49 = .ok (.aload_n 0, 1) := by decide +kernel
theorem dX9_here_50 : decode cX9_here 50 = .ok (.getfield 41, 3) := by decide +kernel
theorem dX9_here_53 : decode cX9_here 53 = .ok (.aload_n 0, 1) := by decide +kernel
theorem dX9_here_54 : decode cX9_here 54 = .ok (.getfield 125, 3) := by decide +kernel
theorem dX9_here_57 : decode cX9_here 57 = .ok (.iaload, 1) := by decide +kernel
theorem dX9_here_58 : decode cX9_here 58 = .ok (.goto 4, 3) := by decide +kernel
theorem dX9_here_61 : decode cX9_here 61 = .ok (.iconst (-1), 1) := by decide +kernel
theorem dX9_here_62 : decode cX9_here 62 = .ok (.ireturn, 1) := by decide +kernel
theorem dX9_fails_0 : decode cX9_fails 0 = .ok (.aload_n 0, 1) := by decide +kernel
theorem dX9_fails_1 : decode cX9_fails 1 = .ok (.iload_n 2, 1) := by decide +kernel
theorem dX9_fails_2 : decode cX9_fails 2 = .ok (.putfield 44, 3) := by decide +kernel
theorem dX9_fails_5 : decode cX9_fails 5 = .ok (.iload_n 1, 1) := by decide +kernel
theorem dX9_fails_6 : decode cX9_fails 6 = .ok (.ireturn, 1) := by decide +kernel
set_option maxRecDepth 20000 in
theorem ggX9_readWord_X9_here : GoodIn wsX9_readWord wsX9_here := goodIn_r _ [16, 2, 4, 5, 20, 21, 22, 23, 24, 25, 26, 27, 28, 29, 30, 31, 32, 33, 34, 35, 36, 37, 38, 39, 40, 41, 42, 43, 44, 45, 46, 47, 48, 49, 50, 51, 52, 53, 54, 55, 56, 57, 58, 59, 60, 61, 62, 63, 64, 65, 66, 67, 68, 69, 70, 71, 72, 73, 74] (by decide +kernel) (by decide +kernel)
set_option maxRecDepth 20000 in
theorem gX9_readWord_X9_here : GoodIn wsX9_readWord (wsV RX9 128 RX9 yX9_here wsX9_here) := goodIn_app (goodIn_of _ (by decide +kernel)) ggX9_readWord_X9_here
set_option maxRecDepth 20000 in
theorem ggX9_readWord_X9_in : GoodIn wsX9_readWord wsX9_in := goodIn_r _ [19] (by decide +kernel) (by decide +kernel)
set_option maxRecDepth 20000 in
theorem gX9_readWord_X9_in : GoodIn wsX9_readWord (va_wsS RX9 105 yX9_in wsX9_in) := goodIn_app (goodIn_of _ (by decide +kernel)) ggX9_readWord_X9_in
theorem dX9_readWord_0 : decode cX9_readWord 0 = .ok (.aload_n 0, 1) := by decide +kernel
theorem dX9_readWord_1 : decode cX9_readWord 1 = .ok (.invokevirtual 128, 3) := by decide +kernel
theorem dX9_readWord_4 : decode cX9_readWord 4 = .ok (.istore_n 1, 1) := by decide +kernel
theorem dX9_readWord_5 : decode cX9_readWord 5 = .ok (.aload_n 0, 1) := by decide +kernel
theorem dX9_readWord_6 : decode cX9_readWord 6 = .ok (.lconst 0, 1) := by decide +kernel
theorem dX9_readWord_7 : decode cX9_readWord 7 = .ok (.putfield 132, 3) := by decide +kernel
theorem dX9_readWord_10 : decode cX9_readWord 10 = .ok (.aload_n 0, 1) := by decide +kernel
theorem dX9_readWord_11 : decode cX9_readWord 11 = .ok (.aload_n 0, 1) := by decide +kernel
theorem dX9_readWord_12 : decode cX9_readWord 12 = .ok (.getfield 125, 3) := by decide +kernel
theorem dX9_readWord_15 : decode cX9_readWord 15 = .ok (.putfield 136, 3) := by decide +kernel
theorem dX9_readWord_18 : decode cX9_readWord 18 = .ok (.aload_n 0, 1) := by decide +kernel
theorem dX9_readWord_19 : decode cX9_readWord 19 = .ok (.getfield 136, 3) := by decide +kernel
theorem dX9_readWord_22 : decode cX9_readWord 22 = .ok (.aload_n 0, 1) := by decide +kernel
theorem dX9_readWord_23 : decode cX9_readWord 23 = .ok (.getfield 119, 3) := by decide +kernel
theorem dX9_readWord_26 : decode cX9_readWord 26 = .ok (.if_icmp .ge 82, 3) := by decide +kernel
theorem dX9_readWord_29 : decode cX9_readWord 29 = .ok (.aload_n 0, 1) := by decide +kernel
theorem dX9_readWord_30 : decode cX9_readWord 30 = .ok (.getfield 41, 3) := by decide +kernel
theorem dX9_readWord_33 : decode cX9_readWord 33 = .ok (.aload_n 0, 1) := by decide +kernel
theorem dX9_readWord_34 : decode cX9_readWord 34 = .ok (.getfield 136, 3) := by decide +kernel
theorem dX9_readWord_37 : decode cX9_readWord 37 = .ok (.iaload, 1) := by decide +kernel
theorem dX9_readWord_38 : decode cX9_readWord 38 = .ok (.i2l, 1) := by decide +kernel
theorem dX9_readWord_39 : decode cX9_readWord 39 = .ok (.ldc2_w 139, 3) := by decide +kernel
theorem dX9_readWord_42 : decode cX9_readWord 42 = .ok (.ldc2_w 141, 3) := by decide +kernel
theorem dX9_readWord_45 : decode cX9_readWord 45 = .ok (.invokestatic 105, 3) := by decide +kernel
theorem dX9_readWord_48 : decode cX9_readWord 48 = .ok (.ifCond .eq 60, 3) := by decide +kernel
theorem dX9_readWord_51 : decode cX9_readWord 51 = .ok (.aload_n 0, 1) := by decide +kernel
theorem dX9_readWord_52 : decode cX9_readWord 52 = .ok (.aload_n 0, 1) := by decide +kernel
theorem dX9_readWord_53 : decode cX9_readWord 53 = .ok (.getfield 132, 3) := by decide +kernel
theorem dX9_readWord_56 : decode cX9_readWord 56 = .ok (.ldc2_w 143, 3) := by decide +kernel
theorem dX9_readWord_59 : decode cX9_readWord 59 = .ok (.lcmp, 1) := by decide +kernel
theorem dX9_readWord_60 : decode cX9_readWord 60 = .ok (.ifCond .le 9, 3) := by decide +kernel
theorem dX9_readWord_63 : decode cX9_readWord 63 = .ok (.ldc2_w 145, 3) := by decide +kernel
theorem dX9_readWord_66 : decode cX9_readWord 66 = .ok (.goto 26, 3) := by decide +kernel
theorem dX9_readWord_69 : decode cX9_readWord 69 = .ok (.ldc2_w 147, 3) := by decide +kernel
theorem dX9_readWord_72 : decode cX9_readWord 72 = .ok (.aload_n 0, 1) := by decide +kernel
theorem dX9_readWord_73 : decode cX9_readWord 73 = .ok (.getfield 132, 3) := by decide +kernel
theorem dX9_readWord_76 : decode cX9_readWord 76 = .ok (.lmul, 1) := by decide +kernel
theorem dX9_readWord_77 : decode cX9_readWord 77 = .ok (.aload_n 0, 1) := by decide +kernel
theorem dX9_readWord_78 : decode cX9_readWord 78 = .ok (.getfield 41, 3) := by decide +kernel
theorem dX9_readWord_81 : decode cX9_readWord 81 = .ok (.aload_n 0, 1) := by decide +kernel
theorem dX9_readWord_82 : decode cX9_readWord 82 = .ok (.getfield 136, 3) := by decide +kernel
theorem dX9_readWord_85 : decode cX9_readWord 85 = .ok (.iaload, 1) := by decide +kernel
theorem dX9_readWord_86 : decode cX9_readWord 86 = .ok (.i2l, 1) := by decide +kernel
theorem dX9_readWord_87 : decode cX9_readWord 87 = .ok (.ladd, 1) := by decide +kernel
theorem dX9_readWord_88 : decode cX9_readWord 88 = .ok (.ldc2_w 149, 3) := by decide +kernel
theorem dX9_readWord_91 : decode cX9_readWord 91 = .ok (.lsub, 1) := by decide +kernel
theorem dX9_readWord_92 : decode cX9_readWord 92 = .ok (.putfield 132, 3) := by decide +kernel
theorem dX9_readWord_95 : decode cX9_readWord 95 = .ok (.aload_n 0, 1) := by decide +kernel
theorem dX9_readWord_96 : decode cX9_readWord 96 = .ok (.dup, 1) := by decide +kernel
theorem dX9_readWord_97 : decode cX9_readWord 97 = .ok (.getfield 136, 3) := by decide +kernel
theorem dX9_readWord_100 : decode cX9_readWord 100 = .ok (.iconst 1, 1) := by decide +kernel
theorem dX9_readWord_101 : decode cX9_readWord 101 = .ok (.iadd, 1) := by decide +kernel
theorem dX9_readWord_102 : decode cX9_readWord 102 = .ok (.putfield 136, 3) := by decide +kernel
theorem dX9_readWord_105 : decode cX9_readWord 105 = .ok (.goto (-87), 3) := by decide +kernel
theorem dX9_readWord_108 : decode cX9_readWord 108 = .ok (.return_, 1) := by decide +kernel
theorem dX9_code_0 : decode cX9_code 0 = .ok (.ldc2_w 147, 3) := by decide +kernel
theorem dX9_code_3 : decode cX9_code 3 = .ok (.ldc2_w 147, 3) := by decide +kernel
theorem dX9_code_6 : decode cX9_code 6 = .ok (.ldc2_w 147, 3) := by decide +kernel
theorem dX9_code_9 : decode cX9_code 9 = .ok (.iload_n 0, 1) := by decide +kernel
theorem dX9_code_10 : decode cX9_code 10 = .ok (.i2l, 1) := by decide +kernel
theorem dX9_code_11 : decode cX9_code 11 = .ok (.ldc2_w 149, 3) := by decide +kernel
theorem dX9_code_14 : decode cX9_code 14 = .ok (.lsub, 1) := by decide +kernel
theorem dX9_code_15 : decode cX9_code 15 = .ok (.lmul, 1) := by decide +kernel
theorem dX9_code_16 : decode cX9_code 16 = .ok (.iload_n 1, 1) := by decide +kernel
theorem dX9_code_17 : decode cX9_code 17 = .ok (.i2l, 1) := by decide +kernel
theorem dX9_code_18 : decode cX9_code 18 = .ok (.ladd, 1) := by decide +kernel
theorem dX9_code_19 : decode cX9_code 19 = .ok (.ldc2_w 149, 3) := by decide +kernel
theorem dX9_code_22 : decode cX9_code 22 = .ok (.lsub, 1) := by decide +kernel
theorem dX9_code_23 : decode cX9_code 23 = .ok (.lmul, 1) := by decide +kernel
theorem dX9_code_24 : decode cX9_code 24 = .ok (.iload_n 2, 1) := by decide +kernel
theorem dX9_code_25 : decode cX9_code 25 = .ok (.i2l, 1) := by decide +kernel
theorem dX9_code_26 : decode cX9_code 26 = .ok (.ladd, 1) := by decide +kernel
theorem dX9_code_27 : decode cX9_code 27 = .ok (.ldc2_w 149, 3) := by decide +kernel
theorem dX9_code_30 : decode cX9_code 30 = .ok (.lsub, 1) := by decide +kernel
theorem dX9_code_31 : decode cX9_code 31 = .ok (.lmul, 1) := by decide +kernel
theorem dX9_code_32 : decode cX9_code 32 = .ok (.iload_n 3, 1) := by decide +kernel
theorem dX9_code_33 : decode cX9_code 33 = .ok (.i2l, 1) := by decide +kernel
theorem dX9_code_34 : decode cX9_code 34 = .ok (.ladd, 1) := by decide +kernel
theorem dX9_code_35 : decode cX9_code 35 = .ok (.ldc2_w 149, 3) := by decide +kernel
theorem dX9_code_38 : decode cX9_code 38 = .ok (.lsub, 1) := by decide +kernel
theorem dX9_code_39 : decode cX9_code 39 = .ok (.lreturn, 1) := by decide +kernel
theorem dX9_longer_0 : decode cX9_longer 0 = .ok (.ldc2_w 147, 3) := by decide +kernel
theorem dX9_longer_3 : decode cX9_longer 3 = .ok (.lload_n 0, 1) := by decide +kernel
theorem dX9_longer_4 : decode cX9_longer 4 = .ok (.lmul, 1) := by decide +kernel
theorem dX9_longer_5 : decode cX9_longer 5 = .ok (.iload_n 2, 1) := by decide +kernel
theorem dX9_longer_6 : decode cX9_longer 6 = .ok (.i2l, 1) := by decide +kernel
theorem dX9_longer_7 : decode cX9_longer 7 = .ok (.ladd, 1) := by decide +kernel
theorem dX9_longer_8 : decode cX9_longer 8 = .ok (.ldc2_w 149, 3) := by decide +kernel
theorem dX9_longer_11 : decode cX9_longer 11 = .ok (.lsub, 1) := by decide +kernel
theorem dX9_longer_12 : decode cX9_longer 12 = .ok (.lreturn, 1) := by decide +kernel
set_option maxRecDepth 20000 in
theorem ggX9_takeNumber_X9_here : GoodIn wsX9_takeNumber wsX9_here := goodIn_r _ [12, 3, 6, 7, 21, 22, 23, 24, 25, 26, 27, 28, 29, 30, 31, 32, 33, 34, 35, 36, 37, 38, 39, 40, 41, 42, 43, 44, 45, 46, 47, 48, 49, 50, 51, 52, 53, 54, 55, 56, 57, 58, 59, 60, 61, 62, 63, 64, 65, 66, 67, 68, 69, 70, 71, 72, 73, 74, 75] (by decide +kernel) (by decide +kernel)
set_option maxRecDepth 20000 in
theorem gX9_takeNumber_X9_here : GoodIn wsX9_takeNumber (wsV RX9 128 RX9 yX9_here wsX9_here) := goodIn_app (goodIn_of _ (by decide +kernel)) ggX9_takeNumber_X9_here
set_option maxRecDepth 20000 in
theorem ggX9_takeNumber_X9_in : GoodIn wsX9_takeNumber wsX9_in := goodIn_r _ [15] (by decide +kernel) (by decide +kernel)
set_option maxRecDepth 20000 in
theorem gX9_takeNumber_X9_in : GoodIn wsX9_takeNumber (va_wsS RX9 105 yX9_in wsX9_in) := goodIn_app (goodIn_of _ (by decide +kernel)) ggX9_takeNumber_X9_in
set_option maxRecDepth 20000 in
theorem ggX9_takeNumber_X9_fails : GoodIn wsX9_takeNumber wsX9_fails := goodIn_r _ [19, 20, 21, 22, 23, 24, 25, 26, 27, 28, 29, 30, 31, 32, 33, 34, 35, 36, 37, 38, 39, 40, 41, 42, 43, 44, 45, 46, 47, 48, 49, 50, 51, 52, 53, 54, 55, 56, 57, 58, 59, 60, 61, 62, 63, 64, 65, 66, 67, 68, 69, 70, 71, 72, 73, 74, 75] (by decide +kernel) (by decide +kernel)
set_option maxRecDepth 20000 in
theorem gX9_takeNumber_X9_fails : GoodIn wsX9_takeNumber (wsV RX9 155 RX9 yX9_fails wsX9_fails) := goodIn_app (goodIn_of _ (by decide +kernel)) ggX9_takeNumber_X9_fails
theorem dX9_takeNumber_0 : decode cX9_takeNumber 0 = .ok (.aload_n 0, 1) := by decide +kernel
theorem dX9_takeNumber_1 : decode cX9_takeNumber 1 = .ok (.invokevirtual 128, 3) := by decide +kernel
theorem dX9_takeNumber_4 : decode cX9_takeNumber 4 = .ok (.istore_n 3, 1) := by decide +kernel
theorem dX9_takeNumber_5 : decode cX9_takeNumber 5 = .ok (.iload_n 3, 1) := by decide +kernel
theorem dX9_takeNumber_6 : decode cX9_takeNumber 6 = .ok (.i2l, 1) := by decide +kernel
theorem dX9_takeNumber_7 : decode cX9_takeNumber 7 = .ok (.ldc2_w 151, 3) := by decide +kernel
theorem dX9_takeNumber_10 : decode cX9_takeNumber 10 = .ok (.ldc2_w 153, 3) := by decide +kernel
theorem dX9_takeNumber_13 : decode cX9_takeNumber 13 = .ok (.invokestatic 105, 3) := by decide +kernel
theorem dX9_takeNumber_16 : decode cX9_takeNumber 16 = .ok (.ifCond .ne 13, 3) := by decide +kernel
theorem dX9_takeNumber_19 : decode cX9_takeNumber 19 = .ok (.aload_n 0, 1) := by decide +kernel
theorem dX9_takeNumber_20 : decode cX9_takeNumber 20 = .ok (.iconst 1, 1) := by decide +kernel
theorem dX9_takeNumber_21 : decode cX9_takeNumber 21 = .ok (.aload_n 0, 1) := by decide +kernel
theorem dX9_takeNumber_22 : decode cX9_takeNumber 22 = .ok (.getfield 125, 3) := by decide +kernel
theorem dX9_takeNumber_25 : decode cX9_takeNumber 25 = .ok (.invokevirtual 155, 3) := by decide +kernel
theorem dX9_takeNumber_28 : decode cX9_takeNumber 28 = .ok (.ireturn, 1) := by decide +kernel
theorem dX9_takeNumber_29 : decode cX9_takeNumber 29 = .ok (.aload_n 0, 1) := by decide +kernel
theorem dX9_takeNumber_30 : decode cX9_takeNumber 30 = .ok (.aload_n 0, 1) := by decide +kernel
theorem dX9_takeNumber_31 : decode cX9_takeNumber 31 = .ok (.getfield 125, 3) := by decide +kernel
theorem dX9_takeNumber_34 : decode cX9_takeNumber 34 = .ok (.putfield 159, 3) := by decide +kernel
theorem dX9_takeNumber_37 : decode cX9_takeNumber 37 = .ok (.aload_n 0, 1) := by decide +kernel
theorem dX9_takeNumber_38 : decode cX9_takeNumber 38 = .ok (.iconst 0, 1) := by decide +kernel
theorem dX9_takeNumber_39 : decode cX9_takeNumber 39 = .ok (.putfield 162, 3) := by decide +kernel
theorem dX9_takeNumber_42 : decode cX9_takeNumber 42 = .ok (.aload_n 0, 1) := by decide +kernel
theorem dX9_takeNumber_43 : decode cX9_takeNumber 43 = .ok (.getfield 125, 3) := by decide +kernel
theorem dX9_takeNumber_46 : decode cX9_takeNumber 46 = .ok (.aload_n 0, 1) := by decide +kernel
theorem dX9_takeNumber_47 : decode cX9_takeNumber 47 = .ok (.getfield 119, 3) := by decide +kernel
theorem dX9_takeNumber_50 : decode cX9_takeNumber 50 = .ok (.if_icmp .ge 79, 3) := by decide +kernel
theorem dX9_takeNumber_53 : decode cX9_takeNumber 53 = .ok (.aload_n 0, 1) := by decide +kernel
theorem dX9_takeNumber_54 : decode cX9_takeNumber 54 = .ok (.getfield 41, 3) := by decide +kernel
theorem dX9_takeNumber_57 : decode cX9_takeNumber 57 = .ok (.aload_n 0, 1) := by decide +kernel
theorem dX9_takeNumber_58 : decode cX9_takeNumber 58 = .ok (.getfield 125, 3) := by decide +kernel
theorem dX9_takeNumber_61 : decode cX9_takeNumber 61 = .ok (.iaload, 1) := by decide +kernel
theorem dX9_takeNumber_62 : decode cX9_takeNumber 62 = .ok (.i2l, 1) := by decide +kernel
theorem dX9_takeNumber_63 : decode cX9_takeNumber 63 = .ok (.ldc2_w 151, 3) := by decide +kernel
theorem dX9_takeNumber_66 : decode cX9_takeNumber 66 = .ok (.ldc2_w 153, 3) := by decide +kernel
theorem dX9_takeNumber_69 : decode cX9_takeNumber 69 = .ok (.invokestatic 105, 3) := by decide +kernel
theorem dX9_takeNumber_72 : decode cX9_takeNumber 72 = .ok (.ifCond .eq 57, 3) := by decide +kernel
theorem dX9_takeNumber_75 : decode cX9_takeNumber 75 = .ok (.aload_n 0, 1) := by decide +kernel
theorem dX9_takeNumber_76 : decode cX9_takeNumber 76 = .ok (.aload_n 0, 1) := by decide +kernel
theorem dX9_takeNumber_77 : decode cX9_takeNumber 77 = .ok (.getfield 162, 3) := by decide +kernel
theorem dX9_takeNumber_80 : decode cX9_takeNumber 80 = .ok (.sipush 10000, 3) := by decide +kernel
theorem dX9_takeNumber_83 : decode cX9_takeNumber 83 = .ok (.if_icmp .le 10, 3) := by decide +kernel
theorem dX9_takeNumber_86 : decode cX9_takeNumber 86 = .ok (.aload_n 0, 1) := by decide +kernel
theorem dX9_takeNumber_87 : decode cX9_takeNumber 87 = .ok (.getfield 162, 3) := by decide +kernel
theorem dX9_takeNumber_90 : decode cX9_takeNumber 90 = .ok (.goto 23, 3) := by decide +kernel
theorem dX9_takeNumber_93 : decode cX9_takeNumber 93 = .ok (.bipush 10, 2) := by decide +kernel
theorem dX9_takeNumber_95 : decode cX9_takeNumber 95 = .ok (.aload_n 0, 1) := by decide +kernel
theorem dX9_takeNumber_96 : decode cX9_takeNumber 96 = .ok (.getfield 162, 3) := by decide +kernel
theorem dX9_takeNumber_99 : decode cX9_takeNumber 99 = .ok (.imul, 1) := by decide +kernel
theorem dX9_takeNumber_100 : decode cX9_takeNumber 100 = .ok (.aload_n 0, 1) := by decide +kernel
theorem dX9_takeNumber_101 : decode cX9_takeNumber 101 = .ok (.getfield 41, 3) := by decide +kernel
theorem dX9_takeNumber_104 : decode cX9_takeNumber 104 = .ok (.aload_n 0, 1) := by decide +kernel
theorem dX9_takeNumber_105 : decode cX9_takeNumber 105 = .ok (.getfield 125, 3) := by decide +kernel
theorem dX9_takeNumber_108 : decode cX9_takeNumber 108 = .ok (.iaload, 1) := by decide +kernel
theorem dX9_takeNumber_109 : decode cX9_takeNumber 109 = .ok (.iadd, 1) := by decide +kernel
theorem dX9_takeNumber_110 : decode cX9_takeNumber 110 = .ok (.bipush 48, 2) := by decide +kernel
theorem dX9_takeNumber_112 : decode cX9_takeNumber 112 = .ok (.isub, 1) := by decide +kernel
theorem dX9_takeNumber_113 : decode cX9_takeNumber 113 = .ok (.putfield 162, 3) := by decide +kernel
theorem dX9_takeNumber_116 : decode cX9_takeNumber 116 = .ok (.aload_n 0, 1) := by decide +kernel
theorem dX9_takeNumber_117 : decode cX9_takeNumber 117 = .ok (.dup, 1) := by decide +kernel
theorem dX9_takeNumber_118 : decode cX9_takeNumber 118 = .ok (.getfield 125, 3) := by decide +kernel
theorem dX9_takeNumber_121 : decode cX9_takeNumber 121 = .ok (.iconst 1, 1) := by decide +kernel
theorem dX9_takeNumber_122 : decode cX9_takeNumber 122 = .ok (.iadd, 1) := by decide +kernel
theorem dX9_takeNumber_123 : decode cX9_takeNumber 123 = .ok (.putfield 125, 3) := by decide +kernel
theorem dX9_takeNumber_126 : decode cX9_takeNumber 126 = .ok (.goto (-84), 3) := by decide +kernel
theorem dX9_takeNumber_129 : decode cX9_takeNumber 129 = .ok (.aload_n 0, 1) := by decide +kernel
theorem dX9_takeNumber_130 : decode cX9_takeNumber 130 = .ok (.getfield 125, 3) := by decide +kernel
theorem dX9_takeNumber_133 : decode cX9_takeNumber 133 = .ok (.aload_n 0, 1) := by decide +kernel
theorem dX9_takeNumber_134 : decode cX9_takeNumber 134 = .ok (.getfield 159, 3) := by decide +kernel
theorem dX9_takeNumber_137 : decode cX9_takeNumber 137 = .ok (.isub, 1) := by decide +kernel
theorem dX9_takeNumber_138 : decode cX9_takeNumber 138 = .ok (.iconst 3, 1) := by decide +kernel
theorem dX9_takeNumber_139 : decode cX9_takeNumber 139 = .ok (.if_icmp .gt 18, 3) := by decide +kernel
theorem dX9_takeNumber_142 : decode cX9_takeNumber 142 = .ok (.aload_n 0, 1) := by decide +kernel
theorem dX9_takeNumber_143 : decode cX9_takeNumber 143 = .ok (.getfield 162, 3) := by decide +kernel
theorem dX9_takeNumber_146 : decode cX9_takeNumber 146 = .ok (.i2l, 1) := by decide +kernel
theorem dX9_takeNumber_147 : decode cX9_takeNumber 147 = .ok (.iload_n 1, 1) := by decide +kernel
theorem dX9_takeNumber_148 : decode cX9_takeNumber 148 = .ok (.i2l, 1) := by decide +kernel
theorem dX9_takeNumber_149 : decode cX9_takeNumber 149 = .ok (.iload_n 2, 1) := by decide +kernel
theorem dX9_takeNumber_150 : decode cX9_takeNumber 150 = .ok (.i2l, 1) := by decide +kernel
theorem dX9_takeNumber_151 : decode cX9_takeNumber 151 = .ok (.invokestatic 105, 3) := by decide +kernel
theorem dX9_takeNumber_154 : decode cX9_takeNumber 154 = .ok (.ifCond .ne 15, 3) := by decide +kernel
theorem dX9_takeNumber_157 : decode cX9_takeNumber 157 = .ok (.aload_n 0, 1) := by decide +kernel
theorem dX9_takeNumber_158 : decode cX9_takeNumber 158 = .ok (.iconst 2, 1) := by decide +kernel
theorem dX9_takeNumber_159 : decode cX9_takeNumber 159 = .ok (.aload_n 0, 1) := by decide +kernel
theorem dX9_takeNumber_160 : decode cX9_takeNumber 160 = .ok (.getfield 159, 3) := by decide +kernel
theorem dX9_takeNumber_163 : decode cX9_takeNumber 163 = .ok (.invokevirtual 155, 3) := by decide +kernel
theorem dX9_takeNumber_166 : decode cX9_takeNumber 166 = .ok (.goto 4, 3) := by decide +kernel
theorem dX9_takeNumber_169 : decode cX9_takeNumber 169 = .ok (.iconst 0, 1) := by decide +kernel
theorem dX9_takeNumber_170 : decode cX9_takeNumber 170 = .ok (.ireturn, 1) := by decide +kernel
set_option maxRecDepth 20000 in
theorem ggX9_takeKind_X9_readWord : GoodIn wsX9_takeKind wsX9_readWord := goodIn_r _ [8, 1, 2, 3, 9, 10, 11, 12, 13, 14, 15, 16, 17, 18, 19, 7, 20, 21, 22, 23, 32, 33, 34, 35, 36, 37, 38, 39, 40, 41, 42, 43, 44, 45, 46, 47, 48, 49, 50, 51, 52, 53, 54, 55, 56, 57, 58, 59, 60, 61, 62, 63, 64, 65, 66, 67, 68, 69, 70, 71, 72, 73, 74, 75, 76, 77, 78, 79, 80, 81, 82, 83, 84, 85, 86] (by decide +kernel) (by decide +kernel)
set_option maxRecDepth 20000 in
theorem gX9_takeKind_X9_readWord : GoodIn wsX9_takeKind (wsV RX9 165 RX9 yX9_readWord wsX9_readWord) := goodIn_app (goodIn_of _ (by decide +kernel)) ggX9_takeKind_X9_readWord
set_option maxRecDepth 20000 in
theorem ggX9_takeKind_X9_code : GoodIn wsX9_takeKind wsX9_code := goodIn_r _ [26, 15, 16] (by decide +kernel) (by decide +kernel)
set_option maxRecDepth 20000 in
theorem gX9_takeKind_X9_code : GoodIn wsX9_takeKind (va_wsS RX9 168 yX9_code wsX9_code) := goodIn_app (goodIn_of _ (by decide +kernel)) ggX9_takeKind_X9_code
set_option maxRecDepth 20000 in
theorem ggX9_takeKind_X9_fails : GoodIn wsX9_takeKind wsX9_fails := goodIn_r _ [30, 31, 32, 33, 34, 35, 36, 37, 38, 39, 40, 41, 42, 43, 44, 45, 46, 47, 48, 49, 50, 51, 52, 53, 54, 55, 56, 57, 58, 59, 60, 61, 62, 63, 64, 65, 66, 67, 68, 69, 70, 71, 72, 73, 74, 75, 76, 77, 78, 79, 80, 81, 82, 83, 84, 85, 86] (by decide +kernel) (by decide +kernel)
set_option maxRecDepth 20000 in
theorem gX9_takeKind_X9_fails : GoodIn wsX9_takeKind (wsV RX9 155 RX9 yX9_fails wsX9_fails) := goodIn_app (goodIn_of _ (by decide +kernel)) ggX9_takeKind_X9_fails
theorem dX9_takeKind_0 : decode cX9_takeKind 0 = .ok (.aload_n 0, 1) := by decide +kernel
theorem dX9_takeKind_1 : decode cX9_takeKind 1 = .ok (.invokevirtual 165, 3) := by decide +kernel
theorem dX9_takeKind_4 : decode cX9_takeKind 4 = .ok (.aload_n 0, 1) := by decide +kernel
theorem dX9_takeKind_5 : decode cX9_takeKind 5 = .ok (.getfield 132, 3) := by decide +kernel
theorem dX9_takeKind_8 : decode cX9_takeKind 8 = .ok (.bipush 110, 2) := by decide +kernel
theorem dX9_takeKind_10 : decode cX9_takeKind 10 = .ok (.bipush 97, 2) := by decide +kernel
theorem dX9_takeKind_12 : decode cX9_takeKind 12 = .ok (.bipush 109, 2) := by decide +kernel
theorem dX9_takeKind_14 : decode cX9_takeKind 14 = .ok (.bipush 101, 2) := by decide +kernel
theorem dX9_takeKind_16 : decode cX9_takeKind 16 = .ok (.invokestatic 168, 3) := by decide +kernel
theorem dX9_takeKind_19 : decode cX9_takeKind 19 = .ok (.lcmp, 1) := by decide +kernel
theorem dX9_takeKind_20 : decode cX9_takeKind 20 = .ok (.ifCond .ne 7, 3) := by decide +kernel
theorem dX9_takeKind_23 : decode cX9_takeKind 23 = .ok (.iconst 0, 1) := by decide +kernel
theorem dX9_takeKind_24 : decode cX9_takeKind 24 = .ok (.goto 73, 3) := by decide +kernel
theorem dX9_takeKind_27 : decode cX9_takeKind 27 = .ok (.aload_n 0, 1) := by decide +kernel
theorem dX9_takeKind_28 : decode cX9_takeKind 28 = .ok (.getfield 132, 3) := by decide +kernel
theorem dX9_takeKind_31 : decode cX9_takeKind 31 = .ok (.bipush 100, 2) := by decide +kernel
theorem dX9_takeKind_33 : decode cX9_takeKind 33 = .ok (.bipush 101, 2) := by decide +kernel
theorem dX9_takeKind_35 : decode cX9_takeKind 35 = .ok (.bipush 101, 2) := by decide +kernel
theorem dX9_takeKind_37 : decode cX9_takeKind 37 = .ok (.bipush 100, 2) := by decide +kernel
theorem dX9_takeKind_39 : decode cX9_takeKind 39 = .ok (.invokestatic 168, 3) := by decide +kernel
theorem dX9_takeKind_42 : decode cX9_takeKind 42 = .ok (.lcmp, 1) := by decide +kernel
theorem dX9_takeKind_43 : decode cX9_takeKind 43 = .ok (.ifCond .ne 7, 3) := by decide +kernel
theorem dX9_takeKind_46 : decode cX9_takeKind 46 = .ok (.iconst 1, 1) := by decide +kernel
theorem dX9_takeKind_47 : decode cX9_takeKind 47 = .ok (.goto 50, 3) := by decide +kernel
theorem dX9_takeKind_50 : decode cX9_takeKind 50 = .ok (.aload_n 0, 1) := by decide +kernel
theorem dX9_takeKind_51 : decode cX9_takeKind 51 = .ok (.getfield 132, 3) := by decide +kernel
theorem dX9_takeKind_54 : decode cX9_takeKind 54 = .ok (.bipush 108, 2) := by decide +kernel
theorem dX9_takeKind_56 : decode cX9_takeKind 56 = .ok (.bipush 105, 2) := by decide +kernel
theorem dX9_takeKind_58 : decode cX9_takeKind 58 = .ok (.bipush 110, 2) := by decide +kernel
theorem dX9_takeKind_60 : decode cX9_takeKind 60 = .ok (.bipush 107, 2) := by decide +kernel
theorem dX9_takeKind_62 : decode cX9_takeKind 62 = .ok (.invokestatic 168, 3) := by decide +kernel
theorem dX9_takeKind_65 : decode cX9_takeKind 65 = .ok (.lcmp, 1) := by decide +kernel
theorem dX9_takeKind_66 : decode cX9_takeKind 66 = .ok (.ifCond .ne 7, 3) := by decide +kernel
theorem dX9_takeKind_69 : decode cX9_takeKind 69 = .ok (.iconst 2, 1) := by decide +kernel
theorem dX9_takeKind_70 : decode cX9_takeKind 70 = .ok (.goto 27, 3) := by decide +kernel
theorem dX9_takeKind_73 : decode cX9_takeKind 73 = .ok (.aload_n 0, 1) := by decide +kernel
theorem dX9_takeKind_74 : decode cX9_takeKind 74 = .ok (.getfield 132, 3) := by decide +kernel
theorem dX9_takeKind_77 : decode cX9_takeKind 77 = .ok (.bipush 116, 2) := by decide +kernel
theorem dX9_takeKind_79 : decode cX9_takeKind 79 = .ok (.bipush 117, 2) := by decide +kernel
theorem dX9_takeKind_81 : decode cX9_takeKind 81 = .ok (.bipush 114, 2) := by decide +kernel
theorem dX9_takeKind_83 : decode cX9_takeKind 83 = .ok (.bipush 110, 2) := by decide +kernel
theorem dX9_takeKind_85 : decode cX9_takeKind 85 = .ok (.invokestatic 168, 3) := by decide +kernel
theorem dX9_takeKind_88 : decode cX9_takeKind 88 = .ok (.lcmp, 1) := by decide +kernel
theorem dX9_takeKind_89 : decode cX9_takeKind 89 = .ok (.ifCond .ne 7, 3) := by decide +kernel
theorem dX9_takeKind_92 : decode cX9_takeKind 92 = .ok (.iconst 3, 1) := by decide +kernel
theorem dX9_takeKind_93 : decode cX9_takeKind 93 = .ok (.goto 4, 3) := by decide +kernel
theorem dX9_takeKind_96 : decode cX9_takeKind 96 = .ok (.iconst (-1), 1) := by decide +kernel
theorem dX9_takeKind_97 : decode cX9_takeKind 97 = .ok (.istore_n 3, 1) := by decide +kernel
theorem dX9_takeKind_98 : decode cX9_takeKind 98 = .ok (.iload_n 3, 1) := by decide +kernel
