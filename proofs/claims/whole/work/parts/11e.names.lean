theorem dX9_takeKind_99 : decode cX9_takeKind 99 = .ok (.ifCond .ge 13, 3) := by decide +kernel
theorem dX9_takeKind_102 : decode cX9_takeKind 102 = .ok (.aload_n 0, 1) := by decide +kernel
theorem dX9_takeKind_103 : decode cX9_takeKind 103 = .ok (.iconst 1, 1) := by decide +kernel
theorem dX9_takeKind_104 : decode cX9_takeKind 104 = .ok (.aload_n 0, 1) := by decide +kernel
theorem dX9_takeKind_105 : decode cX9_takeKind 105 = .ok (.getfield 125, 3) := by decide +kernel
theorem dX9_takeKind_108 : decode cX9_takeKind 108 = .ok (.invokevirtual 155, 3) := by decide +kernel
theorem dX9_takeKind_111 : decode cX9_takeKind 111 = .ok (.ireturn, 1) := by decide +kernel
theorem dX9_takeKind_112 : decode cX9_takeKind 112 = .ok (.aload_n 1, 1) := by decide +kernel
theorem dX9_takeKind_113 : decode cX9_takeKind 113 = .ok (.iload_n 2, 1) := by decide +kernel
theorem dX9_takeKind_114 : decode cX9_takeKind 114 = .ok (.iload_n 3, 1) := by decide +kernel
theorem dX9_takeKind_115 : decode cX9_takeKind 115 = .ok (.iastore, 1) := by decide +kernel
theorem dX9_takeKind_116 : decode cX9_takeKind 116 = .ok (.aload_n 0, 1) := by decide +kernel
theorem dX9_takeKind_117 : decode cX9_takeKind 117 = .ok (.aload_n 0, 1) := by decide +kernel
theorem dX9_takeKind_118 : decode cX9_takeKind 118 = .ok (.getfield 136, 3) := by decide +kernel
theorem dX9_takeKind_121 : decode cX9_takeKind 121 = .ok (.putfield 125, 3) := by decide +kernel
theorem dX9_takeKind_124 : decode cX9_takeKind 124 = .ok (.iconst 0, 1) := by decide +kernel
theorem dX9_takeKind_125 : decode cX9_takeKind 125 = .ok (.ireturn, 1) := by decide +kernel
set_option maxRecDepth 20000 in
theorem ggX9_takeTwo_X9_takeNumber : GoodIn wsX9_takeTwo wsX9_takeNumber := goodIn_r _ [6, 7, 8, 9, 10, 1, 11, 12, 13, 14, 15, 5, 16, 17, 18, 19, 20, 21, 22, 23, 24, 25, 26, 27, 28, 29, 30, 31, 32, 33, 34, 35, 36, 37, 38, 39, 40, 41, 42, 43, 44, 45, 46, 47, 48, 49, 50, 51, 52, 53, 54, 55, 56, 57, 58, 59, 60, 61, 62, 63, 64, 65, 66, 67, 68, 69, 70, 71, 72, 73, 74, 75, 76, 77, 78, 79] (by decide +kernel) (by decide +kernel)
set_option maxRecDepth 20000 in
theorem gX9_takeTwo_X9_takeNumber : GoodIn wsX9_takeTwo (wsV RX9 172 RX9 yX9_takeNumber wsX9_takeNumber) := goodIn_app (goodIn_of _ (by decide +kernel)) ggX9_takeTwo_X9_takeNumber
theorem dX9_takeTwo_0 : decode cX9_takeTwo 0 = .ok (.aload_n 0, 1) := by decide +kernel
theorem dX9_takeTwo_1 : decode cX9_takeTwo 1 = .ok (.iconst 0, 1) := by decide +kernel
theorem dX9_takeTwo_2 : decode cX9_takeTwo 2 = .ok (.bipush 99, 2) := by decide +kernel
theorem dX9_takeTwo_4 : decode cX9_takeTwo 4 = .ok (.invokevirtual 172, 3) := by decide +kernel
theorem dX9_takeTwo_7 : decode cX9_takeTwo 7 = .ok (.istore_n 3, 1) := by decide +kernel
theorem dX9_takeTwo_8 : decode cX9_takeTwo 8 = .ok (.aload_n 1, 1) := by decide +kernel
theorem dX9_takeTwo_9 : decode cX9_takeTwo 9 = .ok (.iload_n 2, 1) := by decide +kernel
theorem dX9_takeTwo_10 : decode cX9_takeTwo 10 = .ok (.aload_n 0, 1) := by decide +kernel
theorem dX9_takeTwo_11 : decode cX9_takeTwo 11 = .ok (.getfield 162, 3) := by decide +kernel
theorem dX9_takeTwo_14 : decode cX9_takeTwo 14 = .ok (.bipush 50, 2) := by decide +kernel
theorem dX9_takeTwo_16 : decode cX9_takeTwo 16 = .ok (.isub, 1) := by decide +kernel
theorem dX9_takeTwo_17 : decode cX9_takeTwo 17 = .ok (.iastore, 1) := by decide +kernel
theorem dX9_takeTwo_18 : decode cX9_takeTwo 18 = .ok (.iload_n 3, 1) := by decide +kernel
theorem dX9_takeTwo_19 : decode cX9_takeTwo 19 = .ok (.ifCond .le 7, 3) := by decide +kernel
theorem dX9_takeTwo_22 : decode cX9_takeTwo 22 = .ok (.iload_n 3, 1) := by decide +kernel
theorem dX9_takeTwo_23 : decode cX9_takeTwo 23 = .ok (.goto 10, 3) := by decide +kernel
theorem dX9_takeTwo_26 : decode cX9_takeTwo 26 = .ok (.aload_n 0, 1) := by decide +kernel
theorem dX9_takeTwo_27 : decode cX9_takeTwo 27 = .ok (.iconst 0, 1) := by decide +kernel
theorem dX9_takeTwo_28 : decode cX9_takeTwo 28 = .ok (.bipush 99, 2) := by decide +kernel
theorem dX9_takeTwo_30 : decode cX9_takeTwo 30 = .ok (.invokevirtual 172, 3) := by decide +kernel
theorem dX9_takeTwo_33 : decode cX9_takeTwo 33 = .ok (.istore_n 3, 1) := by decide +kernel
theorem dX9_takeTwo_34 : decode cX9_takeTwo 34 = .ok (.aload_n 1, 1) := by decide +kernel
theorem dX9_takeTwo_35 : decode cX9_takeTwo 35 = .ok (.iload_n 2, 1) := by decide +kernel
theorem dX9_takeTwo_36 : decode cX9_takeTwo 36 = .ok (.iconst 1, 1) := by decide +kernel
theorem dX9_takeTwo_37 : decode cX9_takeTwo 37 = .ok (.iadd, 1) := by decide +kernel
theorem dX9_takeTwo_38 : decode cX9_takeTwo 38 = .ok (.aload_n 0, 1) := by decide +kernel
theorem dX9_takeTwo_39 : decode cX9_takeTwo 39 = .ok (.getfield 162, 3) := by decide +kernel
theorem dX9_takeTwo_42 : decode cX9_takeTwo 42 = .ok (.bipush 50, 2) := by decide +kernel
theorem dX9_takeTwo_44 : decode cX9_takeTwo 44 = .ok (.isub, 1) := by decide +kernel
theorem dX9_takeTwo_45 : decode cX9_takeTwo 45 = .ok (.iastore, 1) := by decide +kernel
theorem dX9_takeTwo_46 : decode cX9_takeTwo 46 = .ok (.iload_n 3, 1) := by decide +kernel
theorem dX9_takeTwo_47 : decode cX9_takeTwo 47 = .ok (.ireturn, 1) := by decide +kernel
set_option maxRecDepth 20000 in
theorem ggX9_takeWordClause_X9_takeKind : GoodIn wsX9_takeWordClause wsX9_takeKind := goodIn_r _ [8, 9, 10, 11, 12, 13, 14, 7, 15, 16, 17, 18, 19, 20, 21, 22, 23, 24, 25, 26, 27, 28, 29, 30, 31, 32, 33, 34, 35, 36, 37, 38, 51, 52, 53, 54, 55, 56, 57, 58, 59, 60, 61, 62, 63, 64, 65, 66, 67, 68, 69, 70, 71, 72, 73, 74, 75, 76, 77, 78, 79, 80, 81, 82, 83, 84, 85, 86, 87, 88, 89, 90, 91, 92, 93, 94, 95, 96, 97, 98, 99, 100, 101, 102, 103, 104, 105] (by decide +kernel) (by decide +kernel)
set_option maxRecDepth 20000 in
theorem gX9_takeWordClause_X9_takeKind : GoodIn wsX9_takeWordClause (wsV RX9 178 RX9 yX9_takeKind wsX9_takeKind) := goodIn_app (goodIn_of _ (by decide +kernel)) ggX9_takeWordClause_X9_takeKind
set_option maxRecDepth 20000 in
theorem ggX9_takeWordClause_X9_takeTwo : GoodIn wsX9_takeWordClause wsX9_takeTwo := goodIn_r _ [42, 43, 44, 45, 46, 7, 47, 48, 49, 10, 50, 16, 17, 24, 25, 26, 27, 28, 29, 30, 34, 35, 36, 37, 38, 51, 52, 53, 54, 55, 56, 57, 58, 59, 60, 61, 62, 63, 64, 65, 66, 67, 68, 69, 70, 71, 72, 73, 74, 75, 76, 77, 78, 79, 80, 81, 82, 83, 84, 85, 86, 87, 88, 89, 90, 91, 92, 93, 94, 95, 96, 97, 98, 99, 100, 101, 102, 103, 104, 105] (by decide +kernel) (by decide +kernel)
set_option maxRecDepth 20000 in
theorem gX9_takeWordClause_X9_takeTwo : GoodIn wsX9_takeWordClause (wsV RX9 182 RX9 yX9_takeTwo wsX9_takeTwo) := goodIn_app (goodIn_of _ (by decide +kernel)) ggX9_takeWordClause_X9_takeTwo
theorem dX9_takeWordClause_0 : decode cX9_takeWordClause 0 = .ok (.aload_n 0, 1) := by decide +kernel
theorem dX9_takeWordClause_1 : decode cX9_takeWordClause 1 = .ok (.getfield 175, 3) := by decide +kernel
theorem dX9_takeWordClause_4 : decode cX9_takeWordClause 4 = .ok (.istore_n 1, 1) := by decide +kernel
theorem dX9_takeWordClause_5 : decode cX9_takeWordClause 5 = .ok (.aload_n 0, 1) := by decide +kernel
theorem dX9_takeWordClause_6 : decode cX9_takeWordClause 6 = .ok (.dup, 1) := by decide +kernel
theorem dX9_takeWordClause_7 : decode cX9_takeWordClause 7 = .ok (.getfield 175, 3) := by decide +kernel
theorem dX9_takeWordClause_10 : decode cX9_takeWordClause 10 = .ok (.iconst 1, 1) := by decide +kernel
theorem dX9_takeWordClause_11 : decode cX9_takeWordClause 11 = .ok (.iadd, 1) := by decide +kernel
theorem dX9_takeWordClause_12 : decode cX9_takeWordClause 12 = .ok (.putfield 175, 3) := by decide +kernel
theorem dX9_takeWordClause_15 : decode cX9_takeWordClause 15 = .ok (.aload_n 0, 1) := by decide +kernel
theorem dX9_takeWordClause_16 : decode cX9_takeWordClause 16 = .ok (.aload_n 0, 1) := by decide +kernel
theorem dX9_takeWordClause_17 : decode cX9_takeWordClause 17 = .ok (.getfield 48, 3) := by decide +kernel
theorem dX9_takeWordClause_20 : decode cX9_takeWordClause 20 = .ok (.iload_n 1, 1) := by decide +kernel
theorem dX9_takeWordClause_21 : decode cX9_takeWordClause 21 = .ok (.invokevirtual 178, 3) := by decide +kernel
theorem dX9_takeWordClause_24 : decode cX9_takeWordClause 24 = .ok (.istore_n 2, 1) := by decide +kernel
theorem dX9_takeWordClause_25 : decode cX9_takeWordClause 25 = .ok (.iload_n 2, 1) := by decide +kernel
theorem dX9_takeWordClause_26 : decode cX9_takeWordClause 26 = .ok (.ifCond .le 7, 3) := by decide +kernel
theorem dX9_takeWordClause_29 : decode cX9_takeWordClause 29 = .ok (.iload_n 2, 1) := by decide +kernel
theorem dX9_takeWordClause_30 : decode cX9_takeWordClause 30 = .ok (.goto 14, 3) := by decide +kernel
theorem dX9_takeWordClause_33 : decode cX9_takeWordClause 33 = .ok (.aload_n 0, 1) := by decide +kernel
theorem dX9_takeWordClause_34 : decode cX9_takeWordClause 34 = .ok (.aload_n 0, 1) := by decide +kernel
theorem dX9_takeWordClause_35 : decode cX9_takeWordClause 35 = .ok (.getfield 51, 3) := by decide +kernel
theorem dX9_takeWordClause_38 : decode cX9_takeWordClause 38 = .ok (.iconst 2, 1) := by decide +kernel
theorem dX9_takeWordClause_39 : decode cX9_takeWordClause 39 = .ok (.iload_n 1, 1) := by decide +kernel
theorem dX9_takeWordClause_40 : decode cX9_takeWordClause 40 = .ok (.imul, 1) := by decide +kernel
theorem dX9_takeWordClause_41 : decode cX9_takeWordClause 41 = .ok (.invokevirtual 182, 3) := by decide +kernel
theorem dX9_takeWordClause_44 : decode cX9_takeWordClause 44 = .ok (.ireturn, 1) := by decide +kernel
set_option maxRecDepth 20000 in
theorem ggX9_takeFrame_X9_here : GoodIn wsX9_takeFrame wsX9_here := goodIn_r _ [9, 3, 10, 11, 39, 40, 41, 42, 43, 44, 45, 46, 47, 48, 49, 50, 51, 52, 53, 54, 55, 56, 57, 58, 59, 60, 61, 62, 63, 64, 65, 66, 67, 68, 69, 70, 71, 72, 73, 74, 75, 76, 77, 78, 79, 80, 81, 82, 83, 84, 85, 86, 87, 88, 89, 90, 91, 92, 93] (by decide +kernel) (by decide +kernel)
set_option maxRecDepth 20000 in
theorem gX9_takeFrame_X9_here : GoodIn wsX9_takeFrame (wsV RX9 128 RX9 yX9_here wsX9_here) := goodIn_app (goodIn_of _ (by decide +kernel)) ggX9_takeFrame_X9_here
set_option maxRecDepth 20000 in
theorem ggX9_takeFrame_X9_fails : GoodIn wsX9_takeFrame wsX9_fails := goodIn_r _ [15, 16, 39, 40, 41, 42, 43, 44, 45, 46, 47, 48, 49, 50, 51, 52, 53, 54, 55, 56, 57, 58, 59, 60, 61, 62, 63, 64, 65, 66, 67, 68, 69, 70, 71, 72, 73, 74, 75, 76, 77, 78, 79, 80, 81, 82, 83, 84, 85, 86, 87, 88, 89, 90, 91, 92, 93] (by decide +kernel) (by decide +kernel)
set_option maxRecDepth 20000 in
theorem gX9_takeFrame_X9_fails : GoodIn wsX9_takeFrame (wsV RX9 155 RX9 yX9_fails wsX9_fails) := goodIn_app (goodIn_of _ (by decide +kernel)) ggX9_takeFrame_X9_fails
set_option maxRecDepth 20000 in
theorem ggX9_takeFrame_X9_takeKind : GoodIn wsX9_takeFrame wsX9_takeKind := goodIn_r _ [20, 21, 3, 22, 23, 24, 25, 8, 26, 10, 11, 27, 28, 29, 30, 31, 32, 5, 6, 7, 9, 33, 34, 35, 36, 37, 38, 12, 13, 14, 15, 16, 39, 40, 41, 42, 43, 44, 45, 46, 47, 48, 49, 50, 51, 52, 53, 54, 55, 56, 57, 58, 59, 60, 61, 62, 63, 64, 65, 66, 67, 68, 69, 70, 71, 72, 73, 74, 75, 76, 77, 78, 79, 80, 81, 82, 83, 84, 85, 86, 87, 88, 89, 90, 91, 92, 93] (by decide +kernel) (by decide +kernel)
set_option maxRecDepth 20000 in
theorem gX9_takeFrame_X9_takeKind : GoodIn wsX9_takeFrame (wsV RX9 178 RX9 yX9_takeKind wsX9_takeKind) := goodIn_app (goodIn_of _ (by decide +kernel)) ggX9_takeFrame_X9_takeKind
theorem dX9_takeFrame_0 : decode cX9_takeFrame 0 = .ok (.iconst 4, 1) := by decide +kernel
theorem dX9_takeFrame_1 : decode cX9_takeFrame 1 = .ok (.aload_n 0, 1) := by decide +kernel
theorem dX9_takeFrame_2 : decode cX9_takeFrame 2 = .ok (.getfield 185, 3) := by decide +kernel
theorem dX9_takeFrame_5 : decode cX9_takeFrame 5 = .ok (.imul, 1) := by decide +kernel
theorem dX9_takeFrame_6 : decode cX9_takeFrame 6 = .ok (.istore_n 1, 1) := by decide +kernel
theorem dX9_takeFrame_7 : decode cX9_takeFrame 7 = .ok (.aload_n 0, 1) := by decide +kernel
theorem dX9_takeFrame_8 : decode cX9_takeFrame 8 = .ok (.dup, 1) := by decide +kernel
theorem dX9_takeFrame_9 : decode cX9_takeFrame 9 = .ok (.getfield 185, 3) := by decide +kernel
theorem dX9_takeFrame_12 : decode cX9_takeFrame 12 = .ok (.iconst 1, 1) := by decide +kernel
theorem dX9_takeFrame_13 : decode cX9_takeFrame 13 = .ok (.iadd, 1) := by decide +kernel
theorem dX9_takeFrame_14 : decode cX9_takeFrame 14 = .ok (.putfield 185, 3) := by decide +kernel
theorem dX9_takeFrame_17 : decode cX9_takeFrame 17 = .ok (.iconst 0, 1) := by decide +kernel
theorem dX9_takeFrame_18 : decode cX9_takeFrame 18 = .ok (.istore_n 2, 1) := by decide +kernel
theorem dX9_takeFrame_19 : decode cX9_takeFrame 19 = .ok (.iconst 0, 1) := by decide +kernel
theorem dX9_takeFrame_20 : decode cX9_takeFrame 20 = .ok (.istore_n 3, 1) := by decide +kernel
theorem dX9_takeFrame_21 : decode cX9_takeFrame 21 = .ok (.iload_n 3, 1) := by decide +kernel
theorem dX9_takeFrame_22 : decode cX9_takeFrame 22 = .ok (.aload_n 0, 1) := by decide +kernel
theorem dX9_takeFrame_23 : decode cX9_takeFrame 23 = .ok (.getfield 188, 3) := by decide +kernel
theorem dX9_takeFrame_26 : decode cX9_takeFrame 26 = .ok (.if_icmp .ge 78, 3) := by decide +kernel
theorem dX9_takeFrame_29 : decode cX9_takeFrame 29 = .ok (.iload_n 2, 1) := by decide +kernel
theorem dX9_takeFrame_30 : decode cX9_takeFrame 30 = .ok (.ifCond .ne 74, 3) := by decide +kernel
theorem dX9_takeFrame_33 : decode cX9_takeFrame 33 = .ok (.iload_n 3, 1) := by decide +kernel
theorem dX9_takeFrame_34 : decode cX9_takeFrame 34 = .ok (.ifCond .le 44, 3) := by decide +kernel
theorem dX9_takeFrame_37 : decode cX9_takeFrame 37 = .ok (.aload_n 0, 1) := by decide +kernel
theorem dX9_takeFrame_38 : decode cX9_takeFrame 38 = .ok (.invokevirtual 128, 3) := by decide +kernel
theorem dX9_takeFrame_41 : decode cX9_takeFrame 41 = .ok (.bipush 44, 2) := by decide +kernel
theorem dX9_takeFrame_43 : decode cX9_takeFrame 43 = .ok (.if_icmp .ne 7, 3) := by decide +kernel
theorem dX9_takeFrame_46 : decode cX9_takeFrame 46 = .ok (.iconst 0, 1) := by decide +kernel
theorem dX9_takeFrame_47 : decode cX9_takeFrame 47 = .ok (.goto 12, 3) := by decide +kernel
theorem dX9_takeFrame_50 : decode cX9_takeFrame 50 = .ok (.aload_n 0, 1) := by decide +kernel
theorem dX9_takeFrame_51 : decode cX9_takeFrame 51 = .ok (.iconst 1, 1) := by decide +kernel
theorem dX9_takeFrame_52 : decode cX9_takeFrame 52 = .ok (.aload_n 0, 1) := by decide +kernel
theorem dX9_takeFrame_53 : decode cX9_takeFrame 53 = .ok (.getfield 125, 3) := by decide +kernel
theorem dX9_takeFrame_56 : decode cX9_takeFrame 56 = .ok (.invokevirtual 155, 3) := by decide +kernel
theorem dX9_takeFrame_59 : decode cX9_takeFrame 59 = .ok (.istore_n 2, 1) := by decide +kernel
theorem dX9_takeFrame_60 : decode cX9_takeFrame 60 = .ok (.aload_n 0, 1) := by decide +kernel
theorem dX9_takeFrame_61 : decode cX9_takeFrame 61 = .ok (.dup, 1) := by decide +kernel
theorem dX9_takeFrame_62 : decode cX9_takeFrame 62 = .ok (.getfield 125, 3) := by decide +kernel
theorem dX9_takeFrame_65 : decode cX9_takeFrame 65 = .ok (.iload_n 2, 1) := by decide +kernel
theorem dX9_takeFrame_66 : decode cX9_takeFrame 66 = .ok (.ifCond .ne 7, 3) := by decide +kernel
theorem dX9_takeFrame_69 : decode cX9_takeFrame 69 = .ok (.iconst 1, 1) := by decide +kernel
theorem dX9_takeFrame_70 : decode cX9_takeFrame 70 = .ok (.goto 4, 3) := by decide +kernel
theorem dX9_takeFrame_73 : decode cX9_takeFrame 73 = .ok (.iconst 0, 1) := by decide +kernel
theorem dX9_takeFrame_74 : decode cX9_takeFrame 74 = .ok (.iadd, 1) := by decide +kernel
theorem dX9_takeFrame_75 : decode cX9_takeFrame 75 = .ok (.putfield 125, 3) := by decide +kernel
theorem dX9_takeFrame_78 : decode cX9_takeFrame 78 = .ok (.iload_n 2, 1) := by decide +kernel
theorem dX9_takeFrame_79 : decode cX9_takeFrame 79 = .ok (.ifCond .le 7, 3) := by decide +kernel
theorem dX9_takeFrame_82 : decode cX9_takeFrame 82 = .ok (.iload_n 2, 1) := by decide +kernel
theorem dX9_takeFrame_83 : decode cX9_takeFrame 83 = .ok (.goto 14, 3) := by decide +kernel
theorem dX9_takeFrame_86 : decode cX9_takeFrame 86 = .ok (.aload_n 0, 1) := by decide +kernel
theorem dX9_takeFrame_87 : decode cX9_takeFrame 87 = .ok (.aload_n 0, 1) := by decide +kernel
theorem dX9_takeFrame_88 : decode cX9_takeFrame 88 = .ok (.getfield 54, 3) := by decide +kernel
theorem dX9_takeFrame_91 : decode cX9_takeFrame 91 = .ok (.iload_n 1, 1) := by decide +kernel
theorem dX9_takeFrame_92 : decode cX9_takeFrame 92 = .ok (.iload_n 3, 1) := by decide +kernel
theorem dX9_takeFrame_93 : decode cX9_takeFrame 93 = .ok (.iadd, 1) := by decide +kernel
theorem dX9_takeFrame_94 : decode cX9_takeFrame 94 = .ok (.invokevirtual 178, 3) := by decide +kernel
theorem dX9_takeFrame_97 : decode cX9_takeFrame 97 = .ok (.istore_n 2, 1) := by decide +kernel
theorem dX9_takeFrame_98 : decode cX9_takeFrame 98 = .ok (.iinc 3 1, 3) := by decide +kernel
theorem dX9_takeFrame_101 : decode cX9_takeFrame 101 = .ok (.goto (-80), 3) := by decide +kernel
theorem dX9_takeFrame_104 : decode cX9_takeFrame 104 = .ok (.iload_n 2, 1) := by decide +kernel
theorem dX9_takeFrame_105 : decode cX9_takeFrame 105 = .ok (.ireturn, 1) := by decide +kernel
set_option maxRecDepth 20000 in
theorem ggX9_takePair_X9_takeNumber : GoodIn wsX9_takePair wsX9_takeNumber := goodIn_r _ [10, 11, 12, 13, 5, 4, 14, 15, 16, 17, 18, 9, 19, 20, 21, 22, 23, 24, 25, 26, 27, 32, 33, 34, 35, 36, 37, 38, 39, 40, 41, 42, 43, 44, 45, 46, 47, 48, 49, 50, 51, 52, 53, 54, 55, 56, 57, 58, 59, 60, 61, 62, 63, 64, 65, 66, 67, 68, 69, 70, 71, 72, 73, 74, 75, 76, 77, 78, 79, 80, 81, 82, 83, 84, 85, 86] (by decide +kernel) (by decide +kernel)
set_option maxRecDepth 20000 in
theorem gX9_takePair_X9_takeNumber : GoodIn wsX9_takePair (wsV RX9 172 RX9 yX9_takeNumber wsX9_takeNumber) := goodIn_app (goodIn_of _ (by decide +kernel)) ggX9_takePair_X9_takeNumber
set_option maxRecDepth 20000 in
theorem ggX9_takePair_X9_fails : GoodIn wsX9_takePair wsX9_fails := goodIn_r _ [26, 27, 32, 33, 34, 35, 36, 37, 38, 39, 40, 41, 42, 43, 44, 45, 46, 47, 48, 49, 50, 51, 52, 53, 54, 55, 56, 57, 58, 59, 60, 61, 62, 63, 64, 65, 66, 67, 68, 69, 70, 71, 72, 73, 74, 75, 76, 77, 78, 79, 80, 81, 82, 83, 84, 85, 86] (by decide +kernel) (by decide +kernel)
set_option maxRecDepth 20000 in
theorem gX9_takePair_X9_fails : GoodIn wsX9_takePair (wsV RX9 155 RX9 yX9_fails wsX9_fails) := goodIn_app (goodIn_of _ (by decide +kernel)) ggX9_takePair_X9_fails
set_option maxRecDepth 20000 in
theorem ggX9_takePair_X9_takeTwo : GoodIn wsX9_takePair wsX9_takeTwo := goodIn_r _ [31, 4, 6, 7, 8, 9, 10, 11, 12, 13, 5, 14, 15, 16, 17, 18, 19, 20, 21, 22, 23, 24, 25, 26, 27, 32, 33, 34, 35, 36, 37, 38, 39, 40, 41, 42, 43, 44, 45, 46, 47, 48, 49, 50, 51, 52, 53, 54, 55, 56, 57, 58, 59, 60, 61, 62, 63, 64, 65, 66, 67, 68, 69, 70, 71, 72, 73, 74, 75, 76, 77, 78, 79, 80, 81, 82, 83, 84, 85, 86] (by decide +kernel) (by decide +kernel)
set_option maxRecDepth 20000 in
theorem gX9_takePair_X9_takeTwo : GoodIn wsX9_takePair (wsV RX9 182 RX9 yX9_takeTwo wsX9_takeTwo) := goodIn_app (goodIn_of _ (by decide +kernel)) ggX9_takePair_X9_takeTwo
theorem dX9_takePair_0 : decode cX9_takePair 0 = .ok (.iconst 4, 1) := by decide +kernel
theorem dX9_takePair_1 : decode cX9_takePair 1 = .ok (.aload_n 0, 1) := by decide +kernel
theorem dX9_takePair_2 : decode cX9_takePair 2 = .ok (.getfield 191, 3) := by decide +kernel
theorem dX9_takePair_5 : decode cX9_takePair 5 = .ok (.imul, 1) := by decide +kernel
theorem dX9_takePair_6 : decode cX9_takePair 6 = .ok (.istore_n 1, 1) := by decide +kernel
theorem dX9_takePair_7 : decode cX9_takePair 7 = .ok (.aload_n 0, 1) := by decide +kernel
theorem dX9_takePair_8 : decode cX9_takePair 8 = .ok (.iconst 0, 1) := by decide +kernel
theorem dX9_takePair_9 : decode cX9_takePair 9 = .ok (.aload_n 0, 1) := by decide +kernel
theorem dX9_takePair_10 : decode cX9_takePair 10 = .ok (.getfield 175, 3) := by decide +kernel
theorem dX9_takePair_13 : decode cX9_takePair 13 = .ok (.iconst 1, 1) := by decide +kernel
theorem dX9_takePair_14 : decode cX9_takePair 14 = .ok (.isub, 1) := by decide +kernel
theorem dX9_takePair_15 : decode cX9_takePair 15 = .ok (.invokevirtual 172, 3) := by decide +kernel
theorem dX9_takePair_18 : decode cX9_takePair 18 = .ok (.istore_n 2, 1) := by decide +kernel
theorem dX9_takePair_19 : decode cX9_takePair 19 = .ok (.aload_n 0, 1) := by decide +kernel
theorem dX9_takePair_20 : decode cX9_takePair 20 = .ok (.getfield 57, 3) := by decide +kernel
theorem dX9_takePair_23 : decode cX9_takePair 23 = .ok (.iload_n 1, 1) := by decide +kernel
theorem dX9_takePair_24 : decode cX9_takePair 24 = .ok (.aload_n 0, 1) := by decide +kernel
theorem dX9_takePair_25 : decode cX9_takePair 25 = .ok (.getfield 162, 3) := by decide +kernel
theorem dX9_takePair_28 : decode cX9_takePair 28 = .ok (.iastore, 1) := by decide +kernel
theorem dX9_takePair_29 : decode cX9_takePair 29 = .ok (.iload_n 2, 1) := by decide +kernel
theorem dX9_takePair_30 : decode cX9_takePair 30 = .ok (.ifCond .le 7, 3) := by decide +kernel
theorem dX9_takePair_33 : decode cX9_takePair 33 = .ok (.iload_n 2, 1) := by decide +kernel
theorem dX9_takePair_34 : decode cX9_takePair 34 = .ok (.goto 14, 3) := by decide +kernel
theorem dX9_takePair_37 : decode cX9_takePair 37 = .ok (.aload_n 0, 1) := by decide +kernel
theorem dX9_takePair_38 : decode cX9_takePair 38 = .ok (.iconst 0, 1) := by decide +kernel
theorem dX9_takePair_39 : decode cX9_takePair 39 = .ok (.aload_n 0, 1) := by decide +kernel
theorem dX9_takePair_40 : decode cX9_takePair 40 = .ok (.getfield 175, 3) := by decide +kernel
theorem dX9_takePair_43 : decode cX9_takePair 43 = .ok (.iconst 1, 1) := by decide +kernel
theorem dX9_takePair_44 : decode cX9_takePair 44 = .ok (.isub, 1) := by decide +kernel
theorem dX9_takePair_45 : decode cX9_takePair 45 = .ok (.invokevirtual 172, 3) := by decide +kernel
theorem dX9_takePair_48 : decode cX9_takePair 48 = .ok (.istore_n 2, 1) := by decide +kernel
theorem dX9_takePair_49 : decode cX9_takePair 49 = .ok (.iload_n 2, 1) := by decide +kernel
theorem dX9_takePair_50 : decode cX9_takePair 50 = .ok (.ifCond .le 5, 3) := by decide +kernel
theorem dX9_takePair_53 : decode cX9_takePair 53 = .ok (.iload_n 2, 1) := by decide +kernel
theorem dX9_takePair_54 : decode cX9_takePair 54 = .ok (.ireturn, 1) := by decide +kernel
theorem dX9_takePair_55 : decode cX9_takePair 55 = .ok (.aload_n 0, 1) := by decide +kernel
theorem dX9_takePair_56 : decode cX9_takePair 56 = .ok (.getfield 57, 3) := by decide +kernel
theorem dX9_takePair_59 : decode cX9_takePair 59 = .ok (.iload_n 1, 1) := by decide +kernel
theorem dX9_takePair_60 : decode cX9_takePair 60 = .ok (.iconst 1, 1) := by decide +kernel
theorem dX9_takePair_61 : decode cX9_takePair 61 = .ok (.iadd, 1) := by decide +kernel
theorem dX9_takePair_62 : decode cX9_takePair 62 = .ok (.aload_n 0, 1) := by decide +kernel
theorem dX9_takePair_63 : decode cX9_takePair 63 = .ok (.getfield 162, 3) := by decide +kernel
theorem dX9_takePair_66 : decode cX9_takePair 66 = .ok (.iastore, 1) := by decide +kernel
theorem dX9_takePair_67 : decode cX9_takePair 67 = .ok (.iconst 0, 1) := by decide +kernel
theorem dX9_takePair_68 : decode cX9_takePair 68 = .ok (.istore_n 3, 1) := by decide +kernel
theorem dX9_takePair_69 : decode cX9_takePair 69 = .ok (.iload_n 3, 1) := by decide +kernel
theorem dX9_takePair_70 : decode cX9_takePair 70 = .ok (.aload_n 0, 1) := by decide +kernel
theorem dX9_takePair_71 : decode cX9_takePair 71 = .ok (.getfield 191, 3) := by decide +kernel
theorem dX9_takePair_74 : decode cX9_takePair 74 = .ok (.if_icmp .ge 53, 3) := by decide +kernel
theorem dX9_takePair_77 : decode cX9_takePair 77 = .ok (.aload_n 0, 1) := by decide +kernel
theorem dX9_takePair_78 : decode cX9_takePair 78 = .ok (.getfield 57, 3) := by decide +kernel
theorem dX9_takePair_81 : decode cX9_takePair 81 = .ok (.iconst 4, 1) := by decide +kernel
theorem dX9_takePair_82 : decode cX9_takePair 82 = .ok (.iload_n 3, 1) := by decide +kernel
theorem dX9_takePair_83 : decode cX9_takePair 83 = .ok (.imul, 1) := by decide +kernel
theorem dX9_takePair_84 : decode cX9_takePair 84 = .ok (.iaload, 1) := by decide +kernel
theorem dX9_takePair_85 : decode cX9_takePair 85 = .ok (.aload_n 0, 1) := by decide +kernel
theorem dX9_takePair_86 : decode cX9_takePair 86 = .ok (.getfield 57, 3) := by decide +kernel
theorem dX9_takePair_89 : decode cX9_takePair 89 = .ok (.iload_n 1, 1) := by decide +kernel
theorem dX9_takePair_90 : decode cX9_takePair 90 = .ok (.iaload, 1) := by decide +kernel
theorem dX9_takePair_91 : decode cX9_takePair 91 = .ok (.if_icmp .ne 30, 3) := by decide +kernel
theorem dX9_takePair_94 : decode cX9_takePair 94 = .ok (.aload_n 0, 1) := by decide +kernel
theorem dX9_takePair_95 : decode cX9_takePair 95 = .ok (.getfield 57, 3) := by decide +kernel
theorem dX9_takePair_98 : decode cX9_takePair 98 = .ok (.iconst 4, 1) := by decide +kernel
theorem dX9_takePair_99 : decode cX9_takePair 99 = .ok (.iload_n 3, 1) := by decide +kernel
theorem dX9_takePair_100 : decode cX9_takePair 100 = .ok (.imul, 1) := by decide +kernel
theorem dX9_takePair_101 : decode cX9_takePair 101 = .ok (.iconst 1, 1) := by decide +kernel
theorem dX9_takePair_102 : decode cX9_takePair 102 = .ok (.iadd, 1) := by decide +kernel
theorem dX9_takePair_103 : decode cX9_takePair 103 = .ok (.iaload, 1) := by decide +kernel
theorem dX9_takePair_104 : decode cX9_takePair 104 = .ok (.aload_n 0, 1) := by decide +kernel
theorem dX9_takePair_105 : decode cX9_takePair 105 = .ok (.getfield 162, 3) := by decide +kernel
theorem dX9_takePair_108 : decode cX9_takePair 108 = .ok (.if_icmp .ne 13, 3) := by decide +kernel
theorem dX9_takePair_111 : decode cX9_takePair 111 = .ok (.aload_n 0, 1) := by decide +kernel
theorem dX9_takePair_112 : decode cX9_takePair 112 = .ok (.iconst 4, 1) := by decide +kernel
theorem dX9_takePair_113 : decode cX9_takePair 113 = .ok (.aload_n 0, 1) := by decide +kernel
theorem dX9_takePair_114 : decode cX9_takePair 114 = .ok (.getfield 159, 3) := by decide +kernel
theorem dX9_takePair_117 : decode cX9_takePair 117 = .ok (.invokevirtual 155, 3) := by decide +kernel
theorem dX9_takePair_120 : decode cX9_takePair 120 = .ok (.ireturn, 1) := by decide +kernel
theorem dX9_takePair_121 : decode cX9_takePair 121 = .ok (.iinc 3 1, 3) := by decide +kernel
theorem dX9_takePair_124 : decode cX9_takePair 124 = .ok (.goto (-55), 3) := by decide +kernel
theorem dX9_takePair_127 : decode cX9_takePair 127 = .ok (.aload_n 0, 1) := by decide +kernel
theorem dX9_takePair_128 : decode cX9_takePair 128 = .ok (.dup, 1) := by decide +kernel
theorem dX9_takePair_129 : decode cX9_takePair 129 = .ok (.getfield 191, 3) := by decide +kernel
theorem dX9_takePair_132 : decode cX9_takePair 132 = .ok (.iconst 1, 1) := by decide +kernel
theorem dX9_takePair_133 : decode cX9_takePair 133 = .ok (.iadd, 1) := by decide +kernel
theorem dX9_takePair_134 : decode cX9_takePair 134 = .ok (.putfield 191, 3) := by decide +kernel
theorem dX9_takePair_137 : decode cX9_takePair 137 = .ok (.aload_n 0, 1) := by decide +kernel
theorem dX9_takePair_138 : decode cX9_takePair 138 = .ok (.aload_n 0, 1) := by decide +kernel
theorem dX9_takePair_139 : decode cX9_takePair 139 = .ok (.getfield 57, 3) := by decide +kernel
theorem dX9_takePair_142 : decode cX9_takePair 142 = .ok (.iload_n 1, 1) := by decide +kernel
theorem dX9_takePair_143 : decode cX9_takePair 143 = .ok (.iconst 2, 1) := by decide +kernel
theorem dX9_takePair_144 : decode cX9_takePair 144 = .ok (.iadd, 1) := by decide +kernel
theorem dX9_takePair_145 : decode cX9_takePair 145 = .ok (.invokevirtual 182, 3) := by decide +kernel
theorem dX9_takePair_148 : decode cX9_takePair 148 = .ok (.ireturn, 1) := by decide +kernel
set_option maxRecDepth 20000 in
theorem ggX9_takeClause_X9_readWord : GoodIn wsX9_takeClause wsX9_readWord := goodIn_r _ [13, 1, 3, 7, 14, 15, 16, 17, 18, 19, 20, 21, 22, 23, 24, 12, 25, 26, 27, 28, 71, 72, 73, 74, 75, 76, 77, 78, 79, 80, 81, 82, 83, 84, 85, 86, 87, 88, 89, 90, 91, 92, 93, 94, 95, 96, 97, 98, 99, 100, 101, 102, 103, 104, 105, 106, 107, 108, 109, 110, 111, 112, 113, 114, 115, 116, 117, 118, 119, 120, 121, 122, 123, 124, 125] (by decide +kernel) (by decide +kernel)
set_option maxRecDepth 20000 in
theorem gX9_takeClause_X9_readWord : GoodIn wsX9_takeClause (wsV RX9 165 RX9 yX9_readWord wsX9_readWord) := goodIn_app (goodIn_of _ (by decide +kernel)) ggX9_takeClause_X9_readWord
set_option maxRecDepth 20000 in
theorem ggX9_takeClause_X9_code : GoodIn wsX9_takeClause wsX9_code := goodIn_r _ [31, 20, 21] (by decide +kernel) (by decide +kernel)
set_option maxRecDepth 20000 in
theorem gX9_takeClause_X9_code : GoodIn wsX9_takeClause (va_wsS RX9 168 yX9_code wsX9_code) := goodIn_app (goodIn_of _ (by decide +kernel)) ggX9_takeClause_X9_code
set_option maxRecDepth 20000 in
theorem ggX9_takeClause_X9_longer : GoodIn wsX9_takeClause wsX9_longer := goodIn_r _ [34, 20, 21] (by decide +kernel) (by decide +kernel)
set_option maxRecDepth 20000 in
theorem gX9_takeClause_X9_longer : GoodIn wsX9_takeClause (va_wsS RX9 194 yX9_longer wsX9_longer) := goodIn_app (goodIn_of _ (by decide +kernel)) ggX9_takeClause_X9_longer
set_option maxRecDepth 20000 in
theorem ggX9_takeClause_X9_fails : GoodIn wsX9_takeClause wsX9_fails := goodIn_r _ [38, 39, 71, 72, 73, 74, 75, 76, 77, 78, 79, 80, 81, 82, 83, 84, 85, 86, 87, 88, 89, 90, 91, 92, 93, 94, 95, 96, 97, 98, 99, 100, 101, 102, 103, 104, 105, 106, 107, 108, 109, 110, 111, 112, 113, 114, 115, 116, 117, 118, 119, 120, 121, 122, 123, 124, 125] (by decide +kernel) (by decide +kernel)
set_option maxRecDepth 20000 in
theorem gX9_takeClause_X9_fails : GoodIn wsX9_takeClause (wsV RX9 155 RX9 yX9_fails wsX9_fails) := goodIn_app (goodIn_of _ (by decide +kernel)) ggX9_takeClause_X9_fails
set_option maxRecDepth 20000 in
theorem ggX9_takeClause_X9_takeNumber : GoodIn wsX9_takeClause wsX9_takeNumber := goodIn_r _ [43, 44, 45, 3, 46, 8, 14, 15, 22, 23, 24, 12, 25, 26, 27, 28, 35, 36, 37, 38, 39, 71, 72, 73, 74, 75, 76, 77, 78, 79, 80, 81, 82, 83, 84, 85, 86, 87, 88, 89, 90, 91, 92, 93, 94, 95, 96, 97, 98, 99, 100, 101, 102, 103, 104, 105, 106, 107, 108, 109, 110, 111, 112, 113, 114, 115, 116, 117, 118, 119, 120, 121, 122, 123, 124, 125] (by decide +kernel) (by decide +kernel)
set_option maxRecDepth 20000 in
theorem gX9_takeClause_X9_takeNumber : GoodIn wsX9_takeClause (wsV RX9 172 RX9 yX9_takeNumber wsX9_takeNumber) := goodIn_app (goodIn_of _ (by decide +kernel)) ggX9_takeClause_X9_takeNumber
set_option maxRecDepth 20000 in
theorem ggX9_takeClause_X9_takeWordClause : GoodIn wsX9_takeClause wsX9_takeWordClause := goodIn_r _ [50, 4, 51, 52, 53, 54, 55, 12, 56, 1, 3, 7, 9, 10, 11, 13, 14, 15, 16, 17, 18, 19, 20, 21, 22, 23, 24, 25, 26, 27, 28, 29, 30, 31, 35, 36, 37, 38, 39, 57, 58, 59, 60, 8, 40, 41, 42, 43, 44, 45, 46, 71, 72, 73, 74, 75, 76, 77, 78, 79, 80, 81, 82, 83, 84, 85, 86, 87, 88, 89, 90, 91, 92, 93, 94, 95, 96, 97, 98, 99, 100, 101, 102, 103, 104, 105, 106, 107, 108, 109, 110, 111, 112, 113, 114, 115, 116, 117, 118, 119, 120, 121, 122, 123, 124, 125] (by decide +kernel) (by decide +kernel)
set_option maxRecDepth 20000 in
theorem gX9_takeClause_X9_takeWordClause : GoodIn wsX9_takeClause (wsV RX9 198 RX9 yX9_takeWordClause wsX9_takeWordClause) := goodIn_app (goodIn_of _ (by decide +kernel)) ggX9_takeClause_X9_takeWordClause
set_option maxRecDepth 20000 in
theorem ggX9_takeClause_X9_takeFrame : GoodIn wsX9_takeClause wsX9_takeFrame := goodIn_r _ [64, 5, 2, 3, 65, 22, 23, 24, 12, 25, 14, 15, 35, 36, 37, 38, 39, 53, 54, 55, 56, 1, 7, 9, 10, 11, 13, 16, 17, 18, 19, 20, 21, 26, 27, 28, 29, 30, 31, 71, 72, 73, 74, 75, 76, 77, 78, 79, 80, 81, 82, 83, 84, 85, 86, 87, 88, 89, 90, 91, 92, 93, 94, 95, 96, 97, 98, 99, 100, 101, 102, 103, 104, 105, 106, 107, 108, 109, 110, 111, 112, 113, 114, 115, 116, 117, 118, 119, 120, 121, 122, 123, 124, 125] (by decide +kernel) (by decide +kernel)
set_option maxRecDepth 20000 in
theorem gX9_takeClause_X9_takeFrame : GoodIn wsX9_takeClause (wsV RX9 201 RX9 yX9_takeFrame wsX9_takeFrame) := goodIn_app (goodIn_of _ (by decide +kernel)) ggX9_takeClause_X9_takeFrame
set_option maxRecDepth 20000 in
theorem ggX9_takeClause_X9_takePair : GoodIn wsX9_takeClause wsX9_takePair := goodIn_r _ [69, 6, 4, 70, 8, 46, 40, 41, 42, 12, 43, 44, 45, 3, 14, 15, 22, 23, 24, 25, 26, 27, 28, 35, 36, 37, 38, 39, 57, 58, 59, 60, 71, 72, 73, 74, 75, 76, 77, 78, 79, 80, 81, 82, 83, 84, 85, 86, 87, 88, 89, 90, 91, 92, 93, 94, 95, 96, 97, 98, 99, 100, 101, 102, 103, 104, 105, 106, 107, 108, 109, 110, 111, 112, 113, 114, 115, 116, 117, 118, 119, 120, 121, 122, 123, 124, 125] (by decide +kernel) (by decide +kernel)
set_option maxRecDepth 20000 in
theorem gX9_takeClause_X9_takePair : GoodIn wsX9_takeClause (wsV RX9 204 RX9 yX9_takePair wsX9_takePair) := goodIn_app (goodIn_of _ (by decide +kernel)) ggX9_takeClause_X9_takePair
set_option maxRecDepth 20000 in
theorem ggX9_takeClause_X9_here : GoodIn wsX9_takeClause wsX9_here := goodIn_r _ [25, 3, 14, 15, 71, 72, 73, 74, 75, 76, 77, 78, 79, 80, 81, 82, 83, 84, 85, 86, 87, 88, 89, 90, 91, 92, 93, 94, 95, 96, 97, 98, 99, 100, 101, 102, 103, 104, 105, 106, 107, 108, 109, 110, 111, 112, 113, 114, 115, 116, 117, 118, 119, 120, 121, 122, 123, 124, 125] (by decide +kernel) (by decide +kernel)
set_option maxRecDepth 20000 in
theorem gX9_takeClause_X9_here : GoodIn wsX9_takeClause (wsV RX9 128 RX9 yX9_here wsX9_here) := goodIn_app (goodIn_of _ (by decide +kernel)) ggX9_takeClause_X9_here
theorem dX9_takeClause_0 : decode cX9_takeClause 0 = .ok (.aload_n 0, 1) := by decide +kernel
theorem dX9_takeClause_1 : decode cX9_takeClause 1 = .ok (.invokevirtual 165, 3) := by decide +kernel
theorem dX9_takeClause_4 : decode cX9_takeClause 4 = .ok (.aload_n 0, 1) := by decide +kernel
theorem dX9_takeClause_5 : decode cX9_takeClause 5 = .ok (.getfield 132, 3) := by decide +kernel
theorem dX9_takeClause_8 : decode cX9_takeClause 8 = .ok (.bipush 108, 2) := by decide +kernel
theorem dX9_takeClause_10 : decode cX9_takeClause 10 = .ok (.bipush 101, 2) := by decide +kernel
theorem dX9_takeClause_12 : decode cX9_takeClause 12 = .ok (.bipush 116, 2) := by decide +kernel
theorem dX9_takeClause_14 : decode cX9_takeClause 14 = .ok (.bipush 116, 2) := by decide +kernel
theorem dX9_takeClause_16 : decode cX9_takeClause 16 = .ok (.invokestatic 168, 3) := by decide +kernel
theorem dX9_takeClause_19 : decode cX9_takeClause 19 = .ok (.bipush 101, 2) := by decide +kernel
theorem dX9_takeClause_21 : decode cX9_takeClause 21 = .ok (.invokestatic 194, 3) := by decide +kernel
theorem dX9_takeClause_24 : decode cX9_takeClause 24 = .ok (.bipush 114, 2) := by decide +kernel
theorem dX9_takeClause_26 : decode cX9_takeClause 26 = .ok (.invokestatic 194, 3) := by decide +kernel
theorem dX9_takeClause_29 : decode cX9_takeClause 29 = .ok (.lcmp, 1) := by decide +kernel
theorem dX9_takeClause_30 : decode cX9_takeClause 30 = .ok (.ifCond .ne 7, 3) := by decide +kernel
theorem dX9_takeClause_33 : decode cX9_takeClause 33 = .ok (.iconst 0, 1) := by decide +kernel
theorem dX9_takeClause_34 : decode cX9_takeClause 34 = .ok (.goto 27, 3) := by decide +kernel
theorem dX9_takeClause_37 : decode cX9_takeClause 37 = .ok (.aload_n 0, 1) := by decide +kernel
theorem dX9_takeClause_38 : decode cX9_takeClause 38 = .ok (.getfield 132, 3) := by decide +kernel
theorem dX9_takeClause_41 : decode cX9_takeClause 41 = .ok (.bipush 119, 2) := by decide +kernel
theorem dX9_takeClause_43 : decode cX9_takeClause 43 = .ok (.bipush 111, 2) := by decide +kernel
theorem dX9_takeClause_45 : decode cX9_takeClause 45 = .ok (.bipush 114, 2) := by decide +kernel
theorem dX9_takeClause_47 : decode cX9_takeClause 47 = .ok (.bipush 100, 2) := by decide +kernel
theorem dX9_takeClause_49 : decode cX9_takeClause 49 = .ok (.invokestatic 168, 3) := by decide +kernel
theorem dX9_takeClause_52 : decode cX9_takeClause 52 = .ok (.lcmp, 1) := by decide +kernel
theorem dX9_takeClause_53 : decode cX9_takeClause 53 = .ok (.ifCond .ne 7, 3) := by decide +kernel
theorem dX9_takeClause_56 : decode cX9_takeClause 56 = .ok (.iconst 1, 1) := by decide +kernel
theorem dX9_takeClause_57 : decode cX9_takeClause 57 = .ok (.goto 4, 3) := by decide +kernel
theorem dX9_takeClause_60 : decode cX9_takeClause 60 = .ok (.iconst (-1), 1) := by decide +kernel
theorem dX9_takeClause_61 : decode cX9_takeClause 61 = .ok (.istore_n 1, 1) := by decide +kernel
theorem dX9_takeClause_62 : decode cX9_takeClause 62 = .ok (.iload_n 1, 1) := by decide +kernel
theorem dX9_takeClause_63 : decode cX9_takeClause 63 = .ok (.ifCond .lt 7, 3) := by decide +kernel
theorem dX9_takeClause_66 : decode cX9_takeClause 66 = .ok (.iload_n 1, 1) := by decide +kernel
theorem dX9_takeClause_67 : decode cX9_takeClause 67 = .ok (.goto 55, 3) := by decide +kernel
theorem dX9_takeClause_70 : decode cX9_takeClause 70 = .ok (.aload_n 0, 1) := by decide +kernel
theorem dX9_takeClause_71 : decode cX9_takeClause 71 = .ok (.getfield 132, 3) := by decide +kernel
theorem dX9_takeClause_74 : decode cX9_takeClause 74 = .ok (.bipush 102, 2) := by decide +kernel
theorem dX9_takeClause_76 : decode cX9_takeClause 76 = .ok (.bipush 114, 2) := by decide +kernel
theorem dX9_takeClause_78 : decode cX9_takeClause 78 = .ok (.bipush 97, 2) := by decide +kernel
theorem dX9_takeClause_80 : decode cX9_takeClause 80 = .ok (.bipush 109, 2) := by decide +kernel
theorem dX9_takeClause_82 : decode cX9_takeClause 82 = .ok (.invokestatic 168, 3) := by decide +kernel
theorem dX9_takeClause_85 : decode cX9_takeClause 85 = .ok (.bipush 101, 2) := by decide +kernel
theorem dX9_takeClause_87 : decode cX9_takeClause 87 = .ok (.invokestatic 194, 3) := by decide +kernel
theorem dX9_takeClause_90 : decode cX9_takeClause 90 = .ok (.lcmp, 1) := by decide +kernel
theorem dX9_takeClause_91 : decode cX9_takeClause 91 = .ok (.ifCond .ne 7, 3) := by decide +kernel
theorem dX9_takeClause_94 : decode cX9_takeClause 94 = .ok (.iconst 2, 1) := by decide +kernel
theorem dX9_takeClause_95 : decode cX9_takeClause 95 = .ok (.goto 27, 3) := by decide +kernel
theorem dX9_takeClause_98 : decode cX9_takeClause 98 = .ok (.aload_n 0, 1) := by decide +kernel
theorem dX9_takeClause_99 : decode cX9_takeClause 99 = .ok (.getfield 132, 3) := by decide +kernel
theorem dX9_takeClause_102 : decode cX9_takeClause 102 = .ok (.bipush 112, 2) := by decide +kernel
theorem dX9_takeClause_104 : decode cX9_takeClause 104 = .ok (.bipush 97, 2) := by decide +kernel
theorem dX9_takeClause_106 : decode cX9_takeClause 106 = .ok (.bipush 105, 2) := by decide +kernel
theorem dX9_takeClause_108 : decode cX9_takeClause 108 = .ok (.bipush 114, 2) := by decide +kernel
theorem dX9_takeClause_110 : decode cX9_takeClause 110 = .ok (.invokestatic 168, 3) := by decide +kernel
theorem dX9_takeClause_113 : decode cX9_takeClause 113 = .ok (.lcmp, 1) := by decide +kernel
theorem dX9_takeClause_114 : decode cX9_takeClause 114 = .ok (.ifCond .ne 7, 3) := by decide +kernel
theorem dX9_takeClause_117 : decode cX9_takeClause 117 = .ok (.iconst 3, 1) := by decide +kernel
theorem dX9_takeClause_118 : decode cX9_takeClause 118 = .ok (.goto 4, 3) := by decide +kernel
theorem dX9_takeClause_121 : decode cX9_takeClause 121 = .ok (.iconst (-1), 1) := by decide +kernel
theorem dX9_takeClause_122 : decode cX9_takeClause 122 = .ok (.istore_n 2, 1) := by decide +kernel
theorem dX9_takeClause_123 : decode cX9_takeClause 123 = .ok (.iload_n 2, 1) := by decide +kernel
theorem dX9_takeClause_124 : decode cX9_takeClause 124 = .ok (.ifCond .lt 14, 3) := by decide +kernel
theorem dX9_takeClause_127 : decode cX9_takeClause 127 = .ok (.iload_n 2, 1) := by decide +kernel
theorem dX9_takeClause_128 : decode cX9_takeClause 128 = .ok (.ifCond .le 20, 3) := by decide +kernel
theorem dX9_takeClause_131 : decode cX9_takeClause 131 = .ok (.aload_n 0, 1) := by decide +kernel
theorem dX9_takeClause_132 : decode cX9_takeClause 132 = .ok (.getfield 188, 3) := by decide +kernel
theorem dX9_takeClause_135 : decode cX9_takeClause 135 = .ok (.ifCond .ne 13, 3) := by decide +kernel
theorem dX9_takeClause_138 : decode cX9_takeClause 138 = .ok (.aload_n 0, 1) := by decide +kernel
theorem dX9_takeClause_139 : decode cX9_takeClause 139 = .ok (.iconst 1, 1) := by decide +kernel
theorem dX9_takeClause_140 : decode cX9_takeClause 140 = .ok (.aload_n 0, 1) := by decide +kernel
theorem dX9_takeClause_141 : decode cX9_takeClause 141 = .ok (.getfield 125, 3) := by decide +kernel
theorem dX9_takeClause_144 : decode cX9_takeClause 144 = .ok (.invokevirtual 155, 3) := by decide +kernel
theorem dX9_takeClause_147 : decode cX9_takeClause 147 = .ok (.ireturn, 1) := by decide +kernel
theorem dX9_takeClause_148 : decode cX9_takeClause 148 = .ok (.iload_n 2, 1) := by decide +kernel
theorem dX9_takeClause_149 : decode cX9_takeClause 149 = .ok (.ifCond .ne 13, 3) := by decide +kernel
theorem dX9_takeClause_152 : decode cX9_takeClause 152 = .ok (.aload_n 0, 1) := by decide +kernel
theorem dX9_takeClause_153 : decode cX9_takeClause 153 = .ok (.getfield 188, 3) := by decide +kernel
theorem dX9_takeClause_156 : decode cX9_takeClause 156 = .ok (.ifCond .le 59, 3) := by decide +kernel
theorem dX9_takeClause_159 : decode cX9_takeClause 159 = .ok (.goto 46, 3) := by decide +kernel
theorem dX9_takeClause_162 : decode cX9_takeClause 162 = .ok (.iload_n 2, 1) := by decide +kernel
theorem dX9_takeClause_163 : decode cX9_takeClause 163 = .ok (.iconst 1, 1) := by decide +kernel
theorem dX9_takeClause_164 : decode cX9_takeClause 164 = .ok (.if_icmp .ne 15, 3) := by decide +kernel
theorem dX9_takeClause_167 : decode cX9_takeClause 167 = .ok (.aload_n 0, 1) := by decide +kernel
theorem dX9_takeClause_168 : decode cX9_takeClause 168 = .ok (.getfield 175, 3) := by decide +kernel
theorem dX9_takeClause_171 : decode cX9_takeClause 171 = .ok (.bipush 8, 2) := by decide +kernel
theorem dX9_takeClause_173 : decode cX9_takeClause 173 = .ok (.if_icmp .ne 42, 3) := by decide +kernel
theorem dX9_takeClause_176 : decode cX9_takeClause 176 = .ok (.goto 29, 3) := by decide +kernel
theorem dX9_takeClause_179 : decode cX9_takeClause 179 = .ok (.iload_n 2, 1) := by decide +kernel
theorem dX9_takeClause_180 : decode cX9_takeClause 180 = .ok (.iconst 2, 1) := by decide +kernel
theorem dX9_takeClause_181 : decode cX9_takeClause 181 = .ok (.if_icmp .ne 15, 3) := by decide +kernel
theorem dX9_takeClause_184 : decode cX9_takeClause 184 = .ok (.aload_n 0, 1) := by decide +kernel
theorem dX9_takeClause_185 : decode cX9_takeClause 185 = .ok (.getfield 185, 3) := by decide +kernel
theorem dX9_takeClause_188 : decode cX9_takeClause 188 = .ok (.bipush 8, 2) := by decide +kernel
theorem dX9_takeClause_190 : decode cX9_takeClause 190 = .ok (.if_icmp .ne 25, 3) := by decide +kernel
theorem dX9_takeClause_193 : decode cX9_takeClause 193 = .ok (.goto 12, 3) := by decide +kernel
theorem dX9_takeClause_196 : decode cX9_takeClause 196 = .ok (.aload_n 0, 1) := by decide +kernel
theorem dX9_takeClause_197 : decode cX9_takeClause 197 = .ok (.getfield 191, 3) := by decide +kernel
theorem dX9_takeClause_200 : decode cX9_takeClause 200 = .ok (.bipush 12, 2) := by decide +kernel
theorem dX9_takeClause_202 : decode cX9_takeClause 202 = .ok (.if_icmp .ne 13, 3) := by decide +kernel
theorem dX9_takeClause_205 : decode cX9_takeClause 205 = .ok (.aload_n 0, 1) := by decide +kernel
theorem dX9_takeClause_206 : decode cX9_takeClause 206 = .ok (.iconst 3, 1) := by decide +kernel
theorem dX9_takeClause_207 : decode cX9_takeClause 207 = .ok (.aload_n 0, 1) := by decide +kernel
theorem dX9_takeClause_208 : decode cX9_takeClause 208 = .ok (.getfield 125, 3) := by decide +kernel
theorem dX9_takeClause_211 : decode cX9_takeClause 211 = .ok (.invokevirtual 155, 3) := by decide +kernel
theorem dX9_takeClause_214 : decode cX9_takeClause 214 = .ok (.ireturn, 1) := by decide +kernel
theorem dX9_takeClause_215 : decode cX9_takeClause 215 = .ok (.aload_n 0, 1) := by decide +kernel
theorem dX9_takeClause_216 : decode cX9_takeClause 216 = .ok (.aload_n 0, 1) := by decide +kernel
theorem dX9_takeClause_217 : decode cX9_takeClause 217 = .ok (.getfield 136, 3) := by decide +kernel
theorem dX9_takeClause_220 : decode cX9_takeClause 220 = .ok (.putfield 125, 3) := by decide +kernel
theorem dX9_takeClause_223 : decode cX9_takeClause 223 = .ok (.iconst 0, 1) := by decide +kernel
theorem dX9_takeClause_224 : decode cX9_takeClause 224 = .ok (.istore_n 3, 1) := by decide +kernel
theorem dX9_takeClause_225 : decode cX9_takeClause 225 = .ok (.iload_n 2, 1) := by decide +kernel
theorem dX9_takeClause_226 : decode cX9_takeClause 226 = .ok (.ifCond .ne 21, 3) := by decide +kernel
theorem dX9_takeClause_229 : decode cX9_takeClause 229 = .ok (.aload_n 0, 1) := by decide +kernel
theorem dX9_takeClause_230 : decode cX9_takeClause 230 = .ok (.iconst 2, 1) := by decide +kernel
theorem dX9_takeClause_231 : decode cX9_takeClause 231 = .ok (.iconst 4, 1) := by decide +kernel
theorem dX9_takeClause_232 : decode cX9_takeClause 232 = .ok (.invokevirtual 172, 3) := by decide +kernel
theorem dX9_takeClause_235 : decode cX9_takeClause 235 = .ok (.istore_n 3, 1) := by decide +kernel
theorem dX9_takeClause_236 : decode cX9_takeClause 236 = .ok (.aload_n 0, 1) := by decide +kernel
theorem dX9_takeClause_237 : decode cX9_takeClause 237 = .ok (.aload_n 0, 1) := by decide +kernel
theorem dX9_takeClause_238 : decode cX9_takeClause 238 = .ok (.getfield 162, 3) := by decide +kernel
theorem dX9_takeClause_241 : decode cX9_takeClause 241 = .ok (.putfield 188, 3) := by decide +kernel
theorem dX9_takeClause_244 : decode cX9_takeClause 244 = .ok (.goto 32, 3) := by decide +kernel
theorem dX9_takeClause_247 : decode cX9_takeClause 247 = .ok (.iload_n 2, 1) := by decide +kernel
theorem dX9_takeClause_248 : decode cX9_takeClause 248 = .ok (.iconst 1, 1) := by decide +kernel
theorem dX9_takeClause_249 : decode cX9_takeClause 249 = .ok (.if_icmp .ne 10, 3) := by decide +kernel
theorem dX9_takeClause_252 : decode cX9_takeClause 252 = .ok (.aload_n 0, 1) := by decide +kernel
theorem dX9_takeClause_253 : decode cX9_takeClause 253 = .ok (.invokevirtual 198, 3) := by decide +kernel
theorem dX9_takeClause_256 : decode cX9_takeClause 256 = .ok (.goto 19, 3) := by decide +kernel
theorem dX9_takeClause_259 : decode cX9_takeClause 259 = .ok (.iload_n 2, 1) := by decide +kernel
theorem dX9_takeClause_260 : decode cX9_takeClause 260 = .ok (.iconst 2, 1) := by decide +kernel
theorem dX9_takeClause_261 : decode cX9_takeClause 261 = .ok (.if_icmp .ne 10, 3) := by decide +kernel
theorem dX9_takeClause_264 : decode cX9_takeClause 264 = .ok (.aload_n 0, 1) := by decide +kernel
theorem dX9_takeClause_265 : decode cX9_takeClause 265 = .ok (.invokevirtual 201, 3) := by decide +kernel
theorem dX9_takeClause_268 : decode cX9_takeClause 268 = .ok (.goto 7, 3) := by decide +kernel
theorem dX9_takeClause_271 : decode cX9_takeClause 271 = .ok (.aload_n 0, 1) := by decide +kernel
theorem dX9_takeClause_272 : decode cX9_takeClause 272 = .ok (.invokevirtual 204, 3) := by decide +kernel
theorem dX9_takeClause_275 : decode cX9_takeClause 275 = .ok (.istore_n 3, 1) := by decide +kernel
theorem dX9_takeClause_276 : decode cX9_takeClause 276 = .ok (.iload_n 3, 1) := by decide +kernel
theorem dX9_takeClause_277 : decode cX9_takeClause 277 = .ok (.ifCond .ne 22, 3) := by decide +kernel
theorem dX9_takeClause_280 : decode cX9_takeClause 280 = .ok (.aload_n 0, 1) := by decide +kernel
theorem dX9_takeClause_281 : decode cX9_takeClause 281 = .ok (.invokevirtual 128, 3) := by decide +kernel
theorem dX9_takeClause_284 : decode cX9_takeClause 284 = .ok (.bipush 59, 2) := by decide +kernel
theorem dX9_takeClause_286 : decode cX9_takeClause 286 = .ok (.if_icmp .eq 13, 3) := by decide +kernel
theorem dX9_takeClause_289 : decode cX9_takeClause 289 = .ok (.aload_n 0, 1) := by decide +kernel
theorem dX9_takeClause_290 : decode cX9_takeClause 290 = .ok (.iconst 1, 1) := by decide +kernel
theorem dX9_takeClause_291 : decode cX9_takeClause 291 = .ok (.aload_n 0, 1) := by decide +kernel
theorem dX9_takeClause_292 : decode cX9_takeClause 292 = .ok (.getfield 125, 3) := by decide +kernel
theorem dX9_takeClause_295 : decode cX9_takeClause 295 = .ok (.invokevirtual 155, 3) := by decide +kernel
theorem dX9_takeClause_298 : decode cX9_takeClause 298 = .ok (.ireturn, 1) := by decide +kernel
theorem dX9_takeClause_299 : decode cX9_takeClause 299 = .ok (.aload_n 0, 1) := by decide +kernel
theorem dX9_takeClause_300 : decode cX9_takeClause 300 = .ok (.dup, 1) := by decide +kernel
theorem dX9_takeClause_301 : decode cX9_takeClause 301 = .ok (.getfield 125, 3) := by decide +kernel
theorem dX9_takeClause_304 : decode cX9_takeClause 304 = .ok (.iconst 1, 1) := by decide +kernel
theorem dX9_takeClause_305 : decode cX9_takeClause 305 = .ok (.iadd, 1) := by decide +kernel
theorem dX9_takeClause_306 : decode cX9_takeClause 306 = .ok (.putfield 125, 3) := by decide +kernel
theorem dX9_takeClause_309 : decode cX9_takeClause 309 = .ok (.iload_n 3, 1) := by decide +kernel
theorem dX9_takeClause_310 : decode cX9_takeClause 310 = .ok (.ireturn, 1) := by decide +kernel
set_option maxRecDepth 20000 in
theorem ggX9_tongue_X9_here : GoodIn wsX9_tongue wsX9_here := goodIn_r _ [33, 2, 7, 34, 115, 116, 117, 118, 119, 120, 121, 122, 123, 124, 125, 126, 127, 128, 129, 130, 131, 132, 133, 134, 135, 136, 137, 138, 139, 140, 141, 142, 143, 144, 145, 146, 147, 148, 149, 150, 151, 152, 153, 154, 155, 156, 157, 158, 159, 160, 161, 162, 163, 164, 165, 166, 167, 168, 169] (by decide +kernel) (by decide +kernel)
set_option maxRecDepth 20000 in
theorem gX9_tongue_X9_here : GoodIn wsX9_tongue (wsV RX9 128 RX9 yX9_here wsX9_here) := goodIn_app (goodIn_of _ (by decide +kernel)) ggX9_tongue_X9_here
set_option maxRecDepth 20000 in
theorem ggX9_tongue_X9_takeClause : GoodIn wsX9_tongue wsX9_takeClause := goodIn_r _ [38, 39, 3, 2, 4, 5, 6, 40, 41, 42, 43, 44, 32, 45, 7, 34, 46, 47, 48, 49, 50, 51, 29, 30, 31, 33, 52, 53, 54, 55, 56, 57, 58, 59, 60, 61, 62, 63, 64, 1, 65, 66, 67, 68, 69, 70, 71, 72, 73, 74, 75, 13, 15, 76, 77, 78, 79, 80, 81, 82, 83, 84, 85, 86, 87, 17, 88, 89, 90, 91, 19, 115, 116, 117, 118, 119, 120, 121, 122, 123, 124, 125, 126, 127, 128, 129, 130, 131, 132, 133, 134, 135, 136, 137, 138, 139, 140, 141, 142, 143, 144, 145, 146, 147, 148, 149, 150, 151, 152, 153, 154, 155, 156, 157, 158, 159, 160, 161, 162, 163, 164, 165, 166, 167, 168, 169] (by decide +kernel) (by decide +kernel)
set_option maxRecDepth 20000 in
theorem gX9_tongue_X9_takeClause : GoodIn wsX9_tongue (wsV RX9 207 RX9 yX9_takeClause wsX9_takeClause) := goodIn_app (goodIn_of _ (by decide +kernel)) ggX9_tongue_X9_takeClause
set_option maxRecDepth 20000 in
theorem ggX9_tongue_X9_findLetters : GoodIn wsX9_tongue wsX9_findLetters := goodIn_r _ [95, 9, 8, 28, 96, 97, 98, 14, 99, 100, 101, 32, 102, 103, 104, 105, 106, 10, 16, 12, 107, 108, 109, 110, 111, 112, 113, 114, 11, 18, 115, 116, 117, 118, 119, 120, 121, 122, 123, 124, 125, 126, 127, 128, 129, 130, 131, 132, 133, 134, 135, 136, 137, 138, 139, 140, 141, 142, 143, 144, 145, 146, 147, 148, 149, 150, 151, 152, 153, 154, 155, 156, 157, 158, 159, 160, 161, 162, 163, 164, 165, 166, 167, 168, 169] (by decide +kernel) (by decide +kernel)
set_option maxRecDepth 20000 in
theorem gX9_tongue_X9_findLetters : GoodIn wsX9_tongue (wsV RX9 216 RX9 yX9_findLetters wsX9_findLetters) := goodIn_app (goodIn_of _ (by decide +kernel)) ggX9_tongue_X9_findLetters
theorem dX9_tongue_0 : decode cX9_tongue 0 = .ok (.aload_n 0, 1) := by decide +kernel
theorem dX9_tongue_1 : decode cX9_tongue 1 = .ok (.iconst (-1), 1) := by decide +kernel
theorem dX9_tongue_2 : decode cX9_tongue 2 = .ok (.putfield 44, 3) := by decide +kernel
theorem dX9_tongue_5 : decode cX9_tongue 5 = .ok (.aload_n 0, 1) := by decide +kernel
theorem dX9_tongue_6 : decode cX9_tongue 6 = .ok (.iconst 0, 1) := by decide +kernel
theorem dX9_tongue_7 : decode cX9_tongue 7 = .ok (.putfield 125, 3) := by decide +kernel
theorem dX9_tongue_10 : decode cX9_tongue 10 = .ok (.aload_n 0, 1) := by decide +kernel
theorem dX9_tongue_11 : decode cX9_tongue 11 = .ok (.iconst 0, 1) := by decide +kernel
theorem dX9_tongue_12 : decode cX9_tongue 12 = .ok (.putfield 188, 3) := by decide +kernel
theorem dX9_tongue_15 : decode cX9_tongue 15 = .ok (.aload_n 0, 1) := by decide +kernel
theorem dX9_tongue_16 : decode cX9_tongue 16 = .ok (.iconst 0, 1) := by decide +kernel
theorem dX9_tongue_17 : decode cX9_tongue 17 = .ok (.putfield 175, 3) := by decide +kernel
theorem dX9_tongue_20 : decode cX9_tongue 20 = .ok (.aload_n 0, 1) := by decide +kernel
theorem dX9_tongue_21 : decode cX9_tongue 21 = .ok (.iconst 0, 1) := by decide +kernel
theorem dX9_tongue_22 : decode cX9_tongue 22 = .ok (.putfield 185, 3) := by decide +kernel
theorem dX9_tongue_25 : decode cX9_tongue 25 = .ok (.aload_n 0, 1) := by decide +kernel
theorem dX9_tongue_26 : decode cX9_tongue 26 = .ok (.iconst 0, 1) := by decide +kernel
theorem dX9_tongue_27 : decode cX9_tongue 27 = .ok (.putfield 191, 3) := by decide +kernel
theorem dX9_tongue_30 : decode cX9_tongue 30 = .ok (.iconst 0, 1) := by decide +kernel
theorem dX9_tongue_31 : decode cX9_tongue 31 = .ok (.istore_n 1, 1) := by decide +kernel
theorem dX9_tongue_32 : decode cX9_tongue 32 = .ok (.iload_n 1, 1) := by decide +kernel
theorem dX9_tongue_33 : decode cX9_tongue 33 = .ok (.ifCond .ne 18, 3) := by decide +kernel
theorem dX9_tongue_36 : decode cX9_tongue 36 = .ok (.aload_n 0, 1) := by decide +kernel
theorem dX9_tongue_37 : decode cX9_tongue 37 = .ok (.invokevirtual 128, 3) := by decide +kernel
theorem dX9_tongue_40 : decode cX9_tongue 40 = .ok (.ifCond .lt 11, 3) := by decide +kernel
theorem dX9_tongue_43 : decode cX9_tongue 43 = .ok (.aload_n 0, 1) := by decide +kernel
theorem dX9_tongue_44 : decode cX9_tongue 44 = .ok (.invokevirtual 207, 3) := by decide +kernel
theorem dX9_tongue_47 : decode cX9_tongue 47 = .ok (.istore_n 1, 1) := by decide +kernel
theorem dX9_tongue_48 : decode cX9_tongue 48 = .ok (.goto (-16), 3) := by decide +kernel
theorem dX9_tongue_51 : decode cX9_tongue 51 = .ok (.aload_n 0, 1) := by decide +kernel
theorem dX9_tongue_52 : decode cX9_tongue 52 = .ok (.iconst 0, 1) := by decide +kernel
theorem dX9_tongue_53 : decode cX9_tongue 53 = .ok (.putfield 119, 3) := by decide +kernel
theorem dX9_tongue_56 : decode cX9_tongue 56 = .ok (.iload_n 1, 1) := by decide +kernel
theorem dX9_tongue_57 : decode cX9_tongue 57 = .ok (.ifCond .le 8, 3) := by decide +kernel
theorem dX9_tongue_60 : decode cX9_tongue 60 = .ok (.bipush (-10), 2) := by decide +kernel
theorem dX9_tongue_62 : decode cX9_tongue 62 = .ok (.iload_n 1, 1) := by decide +kernel
theorem dX9_tongue_63 : decode cX9_tongue 63 = .ok (.isub, 1) := by decide +kernel
theorem dX9_tongue_64 : decode cX9_tongue 64 = .ok (.ireturn, 1) := by decide +kernel
theorem dX9_tongue_65 : decode cX9_tongue 65 = .ok (.aload_n 0, 1) := by decide +kernel
theorem dX9_tongue_66 : decode cX9_tongue 66 = .ok (.aload_n 0, 1) := by decide +kernel
theorem dX9_tongue_67 : decode cX9_tongue 67 = .ok (.getfield 188, 3) := by decide +kernel
theorem dX9_tongue_70 : decode cX9_tongue 70 = .ok (.putfield 99, 3) := by decide +kernel
theorem dX9_tongue_73 : decode cX9_tongue 73 = .ok (.aload_n 0, 1) := by decide +kernel
theorem dX9_tongue_74 : decode cX9_tongue 74 = .ok (.aload_n 0, 1) := by decide +kernel
theorem dX9_tongue_75 : decode cX9_tongue 75 = .ok (.getfield 175, 3) := by decide +kernel
theorem dX9_tongue_78 : decode cX9_tongue 78 = .ok (.putfield 109, 3) := by decide +kernel
theorem dX9_tongue_81 : decode cX9_tongue 81 = .ok (.aload_n 0, 1) := by decide +kernel
theorem dX9_tongue_82 : decode cX9_tongue 82 = .ok (.aload_n 0, 1) := by decide +kernel
theorem dX9_tongue_83 : decode cX9_tongue 83 = .ok (.getfield 185, 3) := by decide +kernel
theorem dX9_tongue_86 : decode cX9_tongue 86 = .ok (.putfield 210, 3) := by decide +kernel
theorem dX9_tongue_89 : decode cX9_tongue 89 = .ok (.aload_n 0, 1) := by decide +kernel
theorem dX9_tongue_90 : decode cX9_tongue 90 = .ok (.aload_n 0, 1) := by decide +kernel
theorem dX9_tongue_91 : decode cX9_tongue 91 = .ok (.getfield 191, 3) := by decide +kernel
theorem dX9_tongue_94 : decode cX9_tongue 94 = .ok (.putfield 213, 3) := by decide +kernel
theorem dX9_tongue_97 : decode cX9_tongue 97 = .ok (.iconst 0, 1) := by decide +kernel
theorem dX9_tongue_98 : decode cX9_tongue 98 = .ok (.istore_n 2, 1) := by decide +kernel
theorem dX9_tongue_99 : decode cX9_tongue 99 = .ok (.iload_n 2, 1) := by decide +kernel
theorem dX9_tongue_100 : decode cX9_tongue 100 = .ok (.bipush 48, 2) := by decide +kernel
theorem dX9_tongue_102 : decode cX9_tongue 102 = .ok (.if_icmp .ge 75, 3) := by decide +kernel
theorem dX9_tongue_105 : decode cX9_tongue 105 = .ok (.aload_n 0, 1) := by decide +kernel
theorem dX9_tongue_106 : decode cX9_tongue 106 = .ok (.getfield 7, 3) := by decide +kernel
theorem dX9_tongue_109 : decode cX9_tongue 109 = .ok (.iload_n 2, 1) := by decide +kernel
theorem dX9_tongue_110 : decode cX9_tongue 110 = .ok (.bipush 8, 2) := by decide +kernel
theorem dX9_tongue_112 : decode cX9_tongue 112 = .ok (.irem, 1) := by decide +kernel
theorem dX9_tongue_113 : decode cX9_tongue 113 = .ok (.aload_n 0, 1) := by decide +kernel
theorem dX9_tongue_114 : decode cX9_tongue 114 = .ok (.getfield 48, 3) := by decide +kernel
theorem dX9_tongue_117 : decode cX9_tongue 117 = .ok (.iload_n 2, 1) := by decide +kernel
theorem dX9_tongue_118 : decode cX9_tongue 118 = .ok (.bipush 8, 2) := by decide +kernel
theorem dX9_tongue_120 : decode cX9_tongue 120 = .ok (.irem, 1) := by decide +kernel
theorem dX9_tongue_121 : decode cX9_tongue 121 = .ok (.iaload, 1) := by decide +kernel
theorem dX9_tongue_122 : decode cX9_tongue 122 = .ok (.iastore, 1) := by decide +kernel
theorem dX9_tongue_123 : decode cX9_tongue 123 = .ok (.aload_n 0, 1) := by decide +kernel
theorem dX9_tongue_124 : decode cX9_tongue 124 = .ok (.getfield 13, 3) := by decide +kernel
theorem dX9_tongue_127 : decode cX9_tongue 127 = .ok (.iload_n 2, 1) := by decide +kernel
theorem dX9_tongue_128 : decode cX9_tongue 128 = .ok (.bipush 16, 2) := by decide +kernel
theorem dX9_tongue_130 : decode cX9_tongue 130 = .ok (.irem, 1) := by decide +kernel
theorem dX9_tongue_131 : decode cX9_tongue 131 = .ok (.aload_n 0, 1) := by decide +kernel
theorem dX9_tongue_132 : decode cX9_tongue 132 = .ok (.getfield 51, 3) := by decide +kernel
theorem dX9_tongue_135 : decode cX9_tongue 135 = .ok (.iload_n 2, 1) := by decide +kernel
theorem dX9_tongue_136 : decode cX9_tongue 136 = .ok (.bipush 16, 2) := by decide +kernel
theorem dX9_tongue_138 : decode cX9_tongue 138 = .ok (.irem, 1) := by decide +kernel
theorem dX9_tongue_139 : decode cX9_tongue 139 = .ok (.iaload, 1) := by decide +kernel
theorem dX9_tongue_140 : decode cX9_tongue 140 = .ok (.iastore, 1) := by decide +kernel
theorem dX9_tongue_141 : decode cX9_tongue 141 = .ok (.aload_n 0, 1) := by decide +kernel
theorem dX9_tongue_142 : decode cX9_tongue 142 = .ok (.getfield 16, 3) := by decide +kernel
theorem dX9_tongue_145 : decode cX9_tongue 145 = .ok (.iload_n 2, 1) := by decide +kernel
theorem dX9_tongue_146 : decode cX9_tongue 146 = .ok (.bipush 32, 2) := by decide +kernel
theorem dX9_tongue_148 : decode cX9_tongue 148 = .ok (.irem, 1) := by decide +kernel
theorem dX9_tongue_149 : decode cX9_tongue 149 = .ok (.aload_n 0, 1) := by decide +kernel
theorem dX9_tongue_150 : decode cX9_tongue 150 = .ok (.getfield 54, 3) := by decide +kernel
theorem dX9_tongue_153 : decode cX9_tongue 153 = .ok (.iload_n 2, 1) := by decide +kernel
theorem dX9_tongue_154 : decode cX9_tongue 154 = .ok (.bipush 32, 2) := by decide +kernel
theorem dX9_tongue_156 : decode cX9_tongue 156 = .ok (.irem, 1) := by decide +kernel
theorem dX9_tongue_157 : decode cX9_tongue 157 = .ok (.iaload, 1) := by decide +kernel
theorem dX9_tongue_158 : decode cX9_tongue 158 = .ok (.iastore, 1) := by decide +kernel
theorem dX9_tongue_159 : decode cX9_tongue 159 = .ok (.aload_n 0, 1) := by decide +kernel
theorem dX9_tongue_160 : decode cX9_tongue 160 = .ok (.getfield 19, 3) := by decide +kernel
theorem dX9_tongue_163 : decode cX9_tongue 163 = .ok (.iload_n 2, 1) := by decide +kernel
theorem dX9_tongue_164 : decode cX9_tongue 164 = .ok (.aload_n 0, 1) := by decide +kernel
theorem dX9_tongue_165 : decode cX9_tongue 165 = .ok (.getfield 57, 3) := by decide +kernel
theorem dX9_tongue_168 : decode cX9_tongue 168 = .ok (.iload_n 2, 1) := by decide +kernel
theorem dX9_tongue_169 : decode cX9_tongue 169 = .ok (.iaload, 1) := by decide +kernel
theorem dX9_tongue_170 : decode cX9_tongue 170 = .ok (.iastore, 1) := by decide +kernel
theorem dX9_tongue_171 : decode cX9_tongue 171 = .ok (.iinc 2 1, 3) := by decide +kernel
theorem dX9_tongue_174 : decode cX9_tongue 174 = .ok (.goto (-75), 3) := by decide +kernel
theorem dX9_tongue_177 : decode cX9_tongue 177 = .ok (.aload_n 0, 1) := by decide +kernel
theorem dX9_tongue_178 : decode cX9_tongue 178 = .ok (.invokevirtual 216, 3) := by decide +kernel
theorem dX9_tongue_181 : decode cX9_tongue 181 = .ok (.aload_n 0, 1) := by decide +kernel
theorem dX9_tongue_182 : decode cX9_tongue 182 = .ok (.iconst 0, 1) := by decide +kernel
theorem dX9_tongue_183 : decode cX9_tongue 183 = .ok (.putfield 219, 3) := by decide +kernel
theorem dX9_tongue_186 : decode cX9_tongue 186 = .ok (.aload_n 0, 1) := by decide +kernel
theorem dX9_tongue_187 : decode cX9_tongue 187 = .ok (.iconst 0, 1) := by decide +kernel
theorem dX9_tongue_188 : decode cX9_tongue 188 = .ok (.putfield 222, 3) := by decide +kernel
theorem dX9_tongue_191 : decode cX9_tongue 191 = .ok (.aload_n 0, 1) := by decide +kernel
theorem dX9_tongue_192 : decode cX9_tongue 192 = .ok (.iconst 0, 1) := by decide +kernel
theorem dX9_tongue_193 : decode cX9_tongue 193 = .ok (.putfield 225, 3) := by decide +kernel
theorem dX9_tongue_196 : decode cX9_tongue 196 = .ok (.aload_n 0, 1) := by decide +kernel
theorem dX9_tongue_197 : decode cX9_tongue 197 = .ok (.getfield 29, 3) := by decide +kernel
theorem dX9_tongue_200 : decode cX9_tongue 200 = .ok (.iconst 0, 1) := by decide +kernel
theorem dX9_tongue_201 : decode cX9_tongue 201 = .ok (.iconst 0, 1) := by decide +kernel
theorem dX9_tongue_202 : decode cX9_tongue 202 = .ok (.iastore, 1) := by decide +kernel
theorem dX9_tongue_203 : decode cX9_tongue 203 = .ok (.aload_n 0, 1) := by decide +kernel
theorem dX9_tongue_204 : decode cX9_tongue 204 = .ok (.getfield 29, 3) := by decide +kernel
theorem dX9_tongue_207 : decode cX9_tongue 207 = .ok (.iconst 1, 1) := by decide +kernel
theorem dX9_tongue_208 : decode cX9_tongue 208 = .ok (.iconst 0, 1) := by decide +kernel
theorem dX9_tongue_209 : decode cX9_tongue 209 = .ok (.iastore, 1) := by decide +kernel
theorem dX9_tongue_210 : decode cX9_tongue 210 = .ok (.aload_n 0, 1) := by decide +kernel
theorem dX9_tongue_211 : decode cX9_tongue 211 = .ok (.iconst 0, 1) := by decide +kernel
theorem dX9_tongue_212 : decode cX9_tongue 212 = .ok (.putfield 229, 3) := by decide +kernel
theorem dX9_tongue_215 : decode cX9_tongue 215 = .ok (.aload_n 0, 1) := by decide +kernel
theorem dX9_tongue_216 : decode cX9_tongue 216 = .ok (.iconst 0, 1) := by decide +kernel
theorem dX9_tongue_217 : decode cX9_tongue 217 = .ok (.putfield 232, 3) := by decide +kernel
theorem dX9_tongue_220 : decode cX9_tongue 220 = .ok (.aload_n 0, 1) := by decide +kernel
theorem dX9_tongue_221 : decode cX9_tongue 221 = .ok (.iconst 0, 1) := by decide +kernel
theorem dX9_tongue_222 : decode cX9_tongue 222 = .ok (.putfield 235, 3) := by decide +kernel
theorem dX9_tongue_225 : decode cX9_tongue 225 = .ok (.aload_n 0, 1) := by decide +kernel
theorem dX9_tongue_226 : decode cX9_tongue 226 = .ok (.getfield 96, 3) := by decide +kernel
theorem dX9_tongue_229 : decode cX9_tongue 229 = .ok (.iconst 0, 1) := by decide +kernel
theorem dX9_tongue_230 : decode cX9_tongue 230 = .ok (.iconst 0, 1) := by decide +kernel
theorem dX9_tongue_231 : decode cX9_tongue 231 = .ok (.bastore, 1) := by decide +kernel
theorem dX9_tongue_232 : decode cX9_tongue 232 = .ok (.aload_n 0, 1) := by decide +kernel
theorem dX9_tongue_233 : decode cX9_tongue 233 = .ok (.getfield 96, 3) := by decide +kernel
theorem dX9_tongue_236 : decode cX9_tongue 236 = .ok (.iconst 1, 1) := by decide +kernel
theorem dX9_tongue_237 : decode cX9_tongue 237 = .ok (.iconst 0, 1) := by decide +kernel
theorem dX9_tongue_238 : decode cX9_tongue 238 = .ok (.bastore, 1) := by decide +kernel
theorem dX9_tongue_239 : decode cX9_tongue 239 = .ok (.aload_n 0, 1) := by decide +kernel
theorem dX9_tongue_240 : decode cX9_tongue 240 = .ok (.getfield 102, 3) := by decide +kernel
theorem dX9_tongue_243 : decode cX9_tongue 243 = .ok (.ireturn, 1) := by decide +kernel
theorem dX9_fault_0 : decode cX9_fault 0 = .ok (.aload_n 0, 1) := by decide +kernel
theorem dX9_fault_1 : decode cX9_fault 1 = .ok (.getfield 44, 3) := by decide +kernel
theorem dX9_fault_4 : decode cX9_fault 4 = .ok (.ireturn, 1) := by decide +kernel
set_option maxRecDepth 20000 in
theorem ggX9_isFramed_X9_wordAt : GoodIn wsX9_isFramed wsX9_wordAt := goodIn_r _ [9, 10, 11, 12, 13, 8, 14, 15, 16, 17, 18, 19, 20, 21, 22, 23, 24, 25, 26, 27, 28, 29, 30, 31, 32, 33, 34, 35, 36, 37, 38, 39, 40, 41, 42, 43, 44, 45, 46, 47, 48, 49, 50, 51, 52, 53, 54, 55, 56, 57, 58, 59, 60, 61, 62, 63, 64, 65, 66, 67, 68, 69] (by decide +kernel) (by decide +kernel)
set_option maxRecDepth 20000 in
theorem gX9_isFramed_X9_wordAt : GoodIn wsX9_isFramed (wsV RX9 238 RX9 yX9_wordAt wsX9_wordAt) := goodIn_app (goodIn_of _ (by decide +kernel)) ggX9_isFramed_X9_wordAt
theorem dX9_isFramed_0 : decode cX9_isFramed 0 = .ok (.iconst 0, 1) := by decide +kernel
theorem dX9_isFramed_1 : decode cX9_isFramed 1 = .ok (.istore_n 2, 1) := by decide +kernel
theorem dX9_isFramed_2 : decode cX9_isFramed 2 = .ok (.iload_n 2, 1) := by decide +kernel
theorem dX9_isFramed_3 : decode cX9_isFramed 3 = .ok (.aload_n 0, 1) := by decide +kernel
theorem dX9_isFramed_4 : decode cX9_isFramed 4 = .ok (.getfield 210, 3) := by decide +kernel
theorem dX9_isFramed_7 : decode cX9_isFramed 7 = .ok (.if_icmp .ge 71, 3) := by decide +kernel
theorem dX9_isFramed_10 : decode cX9_isFramed 10 = .ok (.iconst 1, 1) := by decide +kernel
theorem dX9_isFramed_11 : decode cX9_isFramed 11 = .ok (.istore_n 3, 1) := by decide +kernel
theorem dX9_isFramed_12 : decode cX9_isFramed 12 = .ok (.iconst 0, 1) := by decide +kernel
theorem dX9_isFramed_13 : decode cX9_isFramed 13 = .ok (.istore 4, 2) := by decide +kernel
theorem dX9_isFramed_15 : decode cX9_isFramed 15 = .ok (.iload 4, 2) := by decide +kernel
theorem dX9_isFramed_17 : decode cX9_isFramed 17 = .ok (.aload_n 0, 1) := by decide +kernel
theorem dX9_isFramed_18 : decode cX9_isFramed 18 = .ok (.getfield 99, 3) := by decide +kernel
theorem dX9_isFramed_21 : decode cX9_isFramed 21 = .ok (.if_icmp .ge 45, 3) := by decide +kernel
theorem dX9_isFramed_24 : decode cX9_isFramed 24 = .ok (.iload_n 3, 1) := by decide +kernel
theorem dX9_isFramed_25 : decode cX9_isFramed 25 = .ok (.ifCond .eq 33, 3) := by decide +kernel
theorem dX9_isFramed_28 : decode cX9_isFramed 28 = .ok (.aload_n 0, 1) := by decide +kernel
theorem dX9_isFramed_29 : decode cX9_isFramed 29 = .ok (.getfield 16, 3) := by decide +kernel
theorem dX9_isFramed_32 : decode cX9_isFramed 32 = .ok (.iconst 4, 1) := by decide +kernel
theorem dX9_isFramed_33 : decode cX9_isFramed 33 = .ok (.iload_n 2, 1) := by decide +kernel
theorem dX9_isFramed_34 : decode cX9_isFramed 34 = .ok (.imul, 1) := by decide +kernel
theorem dX9_isFramed_35 : decode cX9_isFramed 35 = .ok (.iload 4, 2) := by decide +kernel
theorem dX9_isFramed_37 : decode cX9_isFramed 37 = .ok (.iadd, 1) := by decide +kernel
theorem dX9_isFramed_38 : decode cX9_isFramed 38 = .ok (.iaload, 1) := by decide +kernel
theorem dX9_isFramed_39 : decode cX9_isFramed 39 = .ok (.aload_n 0, 1) := by decide +kernel
theorem dX9_isFramed_40 : decode cX9_isFramed 40 = .ok (.getfield 7, 3) := by decide +kernel
theorem dX9_isFramed_43 : decode cX9_isFramed 43 = .ok (.aload_n 0, 1) := by decide +kernel
theorem dX9_isFramed_44 : decode cX9_isFramed 44 = .ok (.iload_n 1, 1) := by decide +kernel
theorem dX9_isFramed_45 : decode cX9_isFramed 45 = .ok (.iload 4, 2) := by decide +kernel
theorem dX9_isFramed_47 : decode cX9_isFramed 47 = .ok (.invokevirtual 238, 3) := by decide +kernel
theorem dX9_isFramed_50 : decode cX9_isFramed 50 = .ok (.iaload, 1) := by decide +kernel
theorem dX9_isFramed_51 : decode cX9_isFramed 51 = .ok (.if_icmp .ne 7, 3) := by decide +kernel
theorem dX9_isFramed_54 : decode cX9_isFramed 54 = .ok (.iconst 1, 1) := by decide +kernel
theorem dX9_isFramed_55 : decode cX9_isFramed 55 = .ok (.goto 4, 3) := by decide +kernel
theorem dX9_isFramed_58 : decode cX9_isFramed 58 = .ok (.iconst 0, 1) := by decide +kernel
theorem dX9_isFramed_59 : decode cX9_isFramed 59 = .ok (.istore_n 3, 1) := by decide +kernel
theorem dX9_isFramed_60 : decode cX9_isFramed 60 = .ok (.iinc 4 1, 3) := by decide +kernel
theorem dX9_isFramed_63 : decode cX9_isFramed 63 = .ok (.goto (-48), 3) := by decide +kernel
theorem dX9_isFramed_66 : decode cX9_isFramed 66 = .ok (.iload_n 3, 1) := by decide +kernel
theorem dX9_isFramed_67 : decode cX9_isFramed 67 = .ok (.ifCond .eq 5, 3) := by decide +kernel
theorem dX9_isFramed_70 : decode cX9_isFramed 70 = .ok (.iconst 1, 1) := by decide +kernel
theorem dX9_isFramed_71 : decode cX9_isFramed 71 = .ok (.ireturn, 1) := by decide +kernel
theorem dX9_isFramed_72 : decode cX9_isFramed 72 = .ok (.iinc 2 1, 3) := by decide +kernel
theorem dX9_isFramed_75 : decode cX9_isFramed 75 = .ok (.goto (-73), 3) := by decide +kernel
theorem dX9_isFramed_78 : decode cX9_isFramed 78 = .ok (.iconst 0, 1) := by decide +kernel
theorem dX9_isFramed_79 : decode cX9_isFramed 79 = .ok (.ireturn, 1) := by decide +kernel
set_option maxRecDepth 20000 in
theorem ggX9_worthBy_X9_wordAt : GoodIn wsX9_worthBy wsX9_wordAt := goodIn_r _ [9, 10, 11, 12, 13, 8, 14, 15, 16, 17, 18, 19, 20, 21, 22, 23, 24, 25, 26, 27, 28, 29, 30, 31, 32, 33, 34, 35, 36, 37, 38, 39, 40, 41, 42, 43, 44, 45, 46, 47, 48, 49, 50, 51, 52, 53, 54, 55, 56, 57, 58, 59, 60, 61, 62, 63, 64, 65, 66, 67, 68, 69] (by decide +kernel) (by decide +kernel)
set_option maxRecDepth 20000 in
theorem gX9_worthBy_X9_wordAt : GoodIn wsX9_worthBy (wsV RX9 238 RX9 yX9_wordAt wsX9_wordAt) := goodIn_app (goodIn_of _ (by decide +kernel)) ggX9_worthBy_X9_wordAt
theorem dX9_worthBy_0 : decode cX9_worthBy 0 = .ok (.iconst 0, 1) := by decide +kernel
theorem dX9_worthBy_1 : decode cX9_worthBy 1 = .ok (.istore 6, 2) := by decide +kernel
theorem dX9_worthBy_3 : decode cX9_worthBy 3 = .ok (.iconst 0, 1) := by decide +kernel
theorem dX9_worthBy_4 : decode cX9_worthBy 4 = .ok (.istore 7, 2) := by decide +kernel
theorem dX9_worthBy_6 : decode cX9_worthBy 6 = .ok (.iload 7, 2) := by decide +kernel
theorem dX9_worthBy_8 : decode cX9_worthBy 8 = .ok (.aload_n 0, 1) := by decide +kernel
theorem dX9_worthBy_9 : decode cX9_worthBy 9 = .ok (.getfield 99, 3) := by decide +kernel
theorem dX9_worthBy_12 : decode cX9_worthBy 12 = .ok (.if_icmp .ge 154, 3) := by decide +kernel
theorem dX9_worthBy_15 : decode cX9_worthBy 15 = .ok (.aload_n 0, 1) := by decide +kernel
theorem dX9_worthBy_16 : decode cX9_worthBy 16 = .ok (.iload_n 1, 1) := by decide +kernel
theorem dX9_worthBy_17 : decode cX9_worthBy 17 = .ok (.iload 7, 2) := by decide +kernel
theorem dX9_worthBy_19 : decode cX9_worthBy 19 = .ok (.invokevirtual 238, 3) := by decide +kernel
theorem dX9_worthBy_22 : decode cX9_worthBy 22 = .ok (.istore 8, 2) := by decide +kernel
theorem dX9_worthBy_24 : decode cX9_worthBy 24 = .ok (.aload_n 2, 1) := by decide +kernel
theorem dX9_worthBy_25 : decode cX9_worthBy 25 = .ok (.iload_n 3, 1) := by decide +kernel
theorem dX9_worthBy_26 : decode cX9_worthBy 26 = .ok (.iload 8, 2) := by decide +kernel
theorem dX9_worthBy_28 : decode cX9_worthBy 28 = .ok (.imul, 1) := by decide +kernel
theorem dX9_worthBy_29 : decode cX9_worthBy 29 = .ok (.iload 4, 2) := by decide +kernel
theorem dX9_worthBy_31 : decode cX9_worthBy 31 = .ok (.iadd, 1) := by decide +kernel
theorem dX9_worthBy_32 : decode cX9_worthBy 32 = .ok (.iaload, 1) := by decide +kernel
theorem dX9_worthBy_33 : decode cX9_worthBy 33 = .ok (.istore 9, 2) := by decide +kernel
theorem dX9_worthBy_35 : decode cX9_worthBy 35 = .ok (.iload 7, 2) := by decide +kernel
theorem dX9_worthBy_37 : decode cX9_worthBy 37 = .ok (.ifCond .ne 7, 3) := by decide +kernel
theorem dX9_worthBy_40 : decode cX9_worthBy 40 = .ok (.iconst (-1), 1) := by decide +kernel
theorem dX9_worthBy_41 : decode cX9_worthBy 41 = .ok (.goto 12, 3) := by decide +kernel
theorem dX9_worthBy_44 : decode cX9_worthBy 44 = .ok (.aload_n 0, 1) := by decide +kernel
theorem dX9_worthBy_45 : decode cX9_worthBy 45 = .ok (.iload_n 1, 1) := by decide +kernel
theorem dX9_worthBy_46 : decode cX9_worthBy 46 = .ok (.iload 7, 2) := by decide +kernel
theorem dX9_worthBy_48 : decode cX9_worthBy 48 = .ok (.iconst 1, 1) := by decide +kernel
theorem dX9_worthBy_49 : decode cX9_worthBy 49 = .ok (.isub, 1) := by decide +kernel
theorem dX9_worthBy_50 : decode cX9_worthBy 50 = .ok (.invokevirtual 238, 3) := by decide +kernel
theorem dX9_worthBy_53 : decode cX9_worthBy 53 = .ok (.istore 10, 2) := by decide +kernel
theorem dX9_worthBy_55 : decode cX9_worthBy 55 = .ok (.iload 6, 2) := by decide +kernel
theorem dX9_worthBy_57 : decode cX9_worthBy 57 = .ok (.iload 10, 2) := by decide +kernel
theorem dX9_worthBy_59 : decode cX9_worthBy 59 = .ok (.ifCond .lt 20, 3) := by decide +kernel
theorem dX9_worthBy_62 : decode cX9_worthBy 62 = .ok (.aload_n 0, 1) := by decide +kernel
theorem dX9_worthBy_63 : decode cX9_worthBy 63 = .ok (.getfield 7, 3) := by decide +kernel
theorem dX9_worthBy_66 : decode cX9_worthBy 66 = .ok (.iload 10, 2) := by decide +kernel
theorem dX9_worthBy_68 : decode cX9_worthBy 68 = .ok (.iaload, 1) := by decide +kernel
theorem dX9_worthBy_69 : decode cX9_worthBy 69 = .ok (.iconst 3, 1) := by decide +kernel
theorem dX9_worthBy_70 : decode cX9_worthBy 70 = .ok (.if_icmp .ne 9, 3) := by decide +kernel
theorem dX9_worthBy_73 : decode cX9_worthBy 73 = .ok (.iload 9, 2) := by decide +kernel
theorem dX9_worthBy_75 : decode cX9_worthBy 75 = .ok (.ineg, 1) := by decide +kernel
theorem dX9_worthBy_76 : decode cX9_worthBy 76 = .ok (.goto 5, 3) := by decide +kernel
theorem dX9_worthBy_79 : decode cX9_worthBy 79 = .ok (.iload 9, 2) := by decide +kernel
theorem dX9_worthBy_81 : decode cX9_worthBy 81 = .ok (.iadd, 1) := by decide +kernel
theorem dX9_worthBy_82 : decode cX9_worthBy 82 = .ok (.istore 6, 2) := by decide +kernel
theorem dX9_worthBy_84 : decode cX9_worthBy 84 = .ok (.iconst 0, 1) := by decide +kernel
theorem dX9_worthBy_85 : decode cX9_worthBy 85 = .ok (.istore 11, 2) := by decide +kernel
theorem dX9_worthBy_87 : decode cX9_worthBy 87 = .ok (.iload 11, 2) := by decide +kernel
theorem dX9_worthBy_89 : decode cX9_worthBy 89 = .ok (.aload_n 0, 1) := by decide +kernel
theorem dX9_worthBy_90 : decode cX9_worthBy 90 = .ok (.getfield 213, 3) := by decide +kernel
theorem dX9_worthBy_93 : decode cX9_worthBy 93 = .ok (.if_icmp .ge 67, 3) := by decide +kernel
theorem dX9_worthBy_96 : decode cX9_worthBy 96 = .ok (.iload 7, 2) := by decide +kernel
theorem dX9_worthBy_98 : decode cX9_worthBy 98 = .ok (.ifCond .le 62, 3) := by decide +kernel
theorem dX9_worthBy_101 : decode cX9_worthBy 101 = .ok (.iload 6, 2) := by decide +kernel
theorem dX9_worthBy_103 : decode cX9_worthBy 103 = .ok (.aload_n 0, 1) := by decide +kernel
theorem dX9_worthBy_104 : decode cX9_worthBy 104 = .ok (.getfield 19, 3) := by decide +kernel
theorem dX9_worthBy_107 : decode cX9_worthBy 107 = .ok (.iconst 4, 1) := by decide +kernel
theorem dX9_worthBy_108 : decode cX9_worthBy 108 = .ok (.iload 11, 2) := by decide +kernel
theorem dX9_worthBy_110 : decode cX9_worthBy 110 = .ok (.imul, 1) := by decide +kernel
theorem dX9_worthBy_111 : decode cX9_worthBy 111 = .ok (.iaload, 1) := by decide +kernel
theorem dX9_worthBy_112 : decode cX9_worthBy 112 = .ok (.iload 10, 2) := by decide +kernel
theorem dX9_worthBy_114 : decode cX9_worthBy 114 = .ok (.if_icmp .ne 36, 3) := by decide +kernel
theorem dX9_worthBy_117 : decode cX9_worthBy 117 = .ok (.aload_n 0, 1) := by decide +kernel
theorem dX9_worthBy_118 : decode cX9_worthBy 118 = .ok (.getfield 19, 3) := by decide +kernel
theorem dX9_worthBy_121 : decode cX9_worthBy 121 = .ok (.iconst 4, 1) := by decide +kernel
theorem dX9_worthBy_122 : decode cX9_worthBy 122 = .ok (.iload 11, 2) := by decide +kernel
theorem dX9_worthBy_124 : decode cX9_worthBy 124 = .ok (.imul, 1) := by decide +kernel
theorem dX9_worthBy_125 : decode cX9_worthBy 125 = .ok (.iconst 1, 1) := by decide +kernel
theorem dX9_worthBy_126 : decode cX9_worthBy 126 = .ok (.iadd, 1) := by decide +kernel
theorem dX9_worthBy_127 : decode cX9_worthBy 127 = .ok (.iaload, 1) := by decide +kernel
theorem dX9_worthBy_128 : decode cX9_worthBy 128 = .ok (.iload 8, 2) := by decide +kernel
theorem dX9_worthBy_130 : decode cX9_worthBy 130 = .ok (.if_icmp .ne 20, 3) := by decide +kernel
theorem dX9_worthBy_133 : decode cX9_worthBy 133 = .ok (.aload_n 0, 1) := by decide +kernel
theorem dX9_worthBy_134 : decode cX9_worthBy 134 = .ok (.getfield 19, 3) := by decide +kernel
theorem dX9_worthBy_137 : decode cX9_worthBy 137 = .ok (.iconst 4, 1) := by decide +kernel
theorem dX9_worthBy_138 : decode cX9_worthBy 138 = .ok (.iload 11, 2) := by decide +kernel
theorem dX9_worthBy_140 : decode cX9_worthBy 140 = .ok (.imul, 1) := by decide +kernel
theorem dX9_worthBy_141 : decode cX9_worthBy 141 = .ok (.iconst 2, 1) := by decide +kernel
theorem dX9_worthBy_142 : decode cX9_worthBy 142 = .ok (.iadd, 1) := by decide +kernel
theorem dX9_worthBy_143 : decode cX9_worthBy 143 = .ok (.iload 5, 2) := by decide +kernel
theorem dX9_worthBy_145 : decode cX9_worthBy 145 = .ok (.iadd, 1) := by decide +kernel
theorem dX9_worthBy_146 : decode cX9_worthBy 146 = .ok (.iaload, 1) := by decide +kernel
theorem dX9_worthBy_147 : decode cX9_worthBy 147 = .ok (.goto 4, 3) := by decide +kernel
theorem dX9_worthBy_150 : decode cX9_worthBy 150 = .ok (.iconst 0, 1) := by decide +kernel
theorem dX9_worthBy_151 : decode cX9_worthBy 151 = .ok (.iadd, 1) := by decide +kernel
theorem dX9_worthBy_152 : decode cX9_worthBy 152 = .ok (.istore 6, 2) := by decide +kernel
theorem dX9_worthBy_154 : decode cX9_worthBy 154 = .ok (.iinc 11 1, 3) := by decide +kernel
theorem dX9_worthBy_157 : decode cX9_worthBy 157 = .ok (.goto (-70), 3) := by decide +kernel
theorem dX9_worthBy_160 : decode cX9_worthBy 160 = .ok (.iinc 7 1, 3) := by decide +kernel
theorem dX9_worthBy_163 : decode cX9_worthBy 163 = .ok (.goto (-157), 3) := by decide +kernel
theorem dX9_worthBy_166 : decode cX9_worthBy 166 = .ok (.iload 6, 2) := by decide +kernel
theorem dX9_worthBy_168 : decode cX9_worthBy 168 = .ok (.ireturn, 1) := by decide +kernel
set_option maxRecDepth 20000 in
theorem ggX9_findLetters_X9_unit : GoodIn wsX9_findLetters wsX9_unit := goodIn_r _ [12, 1, 30, 31, 32, 33, 34, 35, 36, 37, 38, 39, 40, 41, 42, 43, 44, 45, 46, 47, 48, 49, 50, 51, 52, 53, 54, 55, 56, 57, 58, 59, 60, 61, 62, 63, 64, 65, 66, 67, 68, 69, 70, 71, 72, 73, 74, 75, 76, 77, 78, 79, 80, 81, 82, 83, 84] (by decide +kernel) (by decide +kernel)
set_option maxRecDepth 20000 in
theorem gX9_findLetters_X9_unit : GoodIn wsX9_findLetters (wsV RX9 112 RX9 yX9_unit wsX9_unit) := goodIn_app (goodIn_of _ (by decide +kernel)) ggX9_findLetters_X9_unit
set_option maxRecDepth 20000 in
theorem ggX9_findLetters_X9_isFramed : GoodIn wsX9_findLetters wsX9_isFramed := goodIn_r _ [16, 17, 2, 18, 19, 20, 21, 22, 11, 23, 1, 8, 9, 10, 12, 30, 31, 32, 33, 34, 35, 36, 37, 38, 39, 40, 41, 42, 43, 44, 45, 46, 47, 48, 49, 50, 51, 52, 53, 54, 55, 56, 57, 58, 59, 60, 61, 62, 63, 64, 65, 66, 67, 68, 69, 70, 71, 72, 73, 74, 75, 76, 77, 78, 79, 80, 81, 82, 83, 84] (by decide +kernel) (by decide +kernel)
set_option maxRecDepth 20000 in
theorem gX9_findLetters_X9_isFramed : GoodIn wsX9_findLetters (wsV RX9 244 RX9 yX9_isFramed wsX9_isFramed) := goodIn_app (goodIn_of _ (by decide +kernel)) ggX9_findLetters_X9_isFramed
set_option maxRecDepth 20000 in
theorem ggX9_findLetters_X9_worthBy : GoodIn wsX9_findLetters wsX9_worthBy := goodIn_r _ [27, 2, 19, 28, 29, 20, 21, 22, 11, 23, 1, 8, 9, 10, 12, 30, 31, 32, 33, 34, 35, 36, 37, 38, 39, 40, 41, 42, 43, 44, 45, 46, 47, 48, 49, 50, 51, 52, 53, 54, 55, 56, 57, 58, 59, 60, 61, 62, 63, 64, 65, 66, 67, 68, 69, 70, 71, 72, 73, 74, 75, 76, 77, 78, 79, 80, 81, 82, 83, 84] (by decide +kernel) (by decide +kernel)
set_option maxRecDepth 20000 in
theorem gX9_findLetters_X9_worthBy : GoodIn wsX9_findLetters (wsV RX9 248 RX9 yX9_worthBy wsX9_worthBy) := goodIn_app (goodIn_of _ (by decide +kernel)) ggX9_findLetters_X9_worthBy
theorem dX9_findLetters_0 : decode cX9_findLetters 0 = .ok (.aload_n 0, 1) := by decide +kernel
theorem dX9_findLetters_1 : decode cX9_findLetters 1 = .ok (.aload_n 0, 1) := by decide +kernel
theorem dX9_findLetters_2 : decode cX9_findLetters 2 = .ok (.getfield 109, 3) := by decide +kernel
theorem dX9_findLetters_5 : decode cX9_findLetters 5 = .ok (.ifCond .ne 7, 3) := by decide +kernel
theorem dX9_findLetters_8 : decode cX9_findLetters 8 = .ok (.iconst 0, 1) := by decide +kernel
theorem dX9_findLetters_9 : decode cX9_findLetters 9 = .ok (.goto 11, 3) := by decide +kernel
theorem dX9_findLetters_12 : decode cX9_findLetters 12 = .ok (.aload_n 0, 1) := by decide +kernel
theorem dX9_findLetters_13 : decode cX9_findLetters 13 = .ok (.aload_n 0, 1) := by decide +kernel
theorem dX9_findLetters_14 : decode cX9_findLetters 14 = .ok (.getfield 99, 3) := by decide +kernel
theorem dX9_findLetters_17 : decode cX9_findLetters 17 = .ok (.invokevirtual 112, 3) := by decide +kernel
theorem dX9_findLetters_20 : decode cX9_findLetters 20 = .ok (.putfield 102, 3) := by decide +kernel
theorem dX9_findLetters_23 : decode cX9_findLetters 23 = .ok (.aload_n 0, 1) := by decide +kernel
theorem dX9_findLetters_24 : decode cX9_findLetters 24 = .ok (.iconst 0, 1) := by decide +kernel
theorem dX9_findLetters_25 : decode cX9_findLetters 25 = .ok (.putfield 241, 3) := by decide +kernel
theorem dX9_findLetters_28 : decode cX9_findLetters 28 = .ok (.iconst 0, 1) := by decide +kernel
theorem dX9_findLetters_29 : decode cX9_findLetters 29 = .ok (.istore_n 1, 1) := by decide +kernel
theorem dX9_findLetters_30 : decode cX9_findLetters 30 = .ok (.iload_n 1, 1) := by decide +kernel
theorem dX9_findLetters_31 : decode cX9_findLetters 31 = .ok (.aload_n 0, 1) := by decide +kernel
theorem dX9_findLetters_32 : decode cX9_findLetters 32 = .ok (.getfield 102, 3) := by decide +kernel
theorem dX9_findLetters_35 : decode cX9_findLetters 35 = .ok (.if_icmp .ge 111, 3) := by decide +kernel
theorem dX9_findLetters_38 : decode cX9_findLetters 38 = .ok (.aload_n 0, 1) := by decide +kernel
theorem dX9_findLetters_39 : decode cX9_findLetters 39 = .ok (.getfield 22, 3) := by decide +kernel
theorem dX9_findLetters_42 : decode cX9_findLetters 42 = .ok (.iload_n 1, 1) := by decide +kernel
theorem dX9_findLetters_43 : decode cX9_findLetters 43 = .ok (.aload_n 0, 1) := by decide +kernel
theorem dX9_findLetters_44 : decode cX9_findLetters 44 = .ok (.iload_n 1, 1) := by decide +kernel
theorem dX9_findLetters_45 : decode cX9_findLetters 45 = .ok (.invokevirtual 244, 3) := by decide +kernel
theorem dX9_findLetters_48 : decode cX9_findLetters 48 = .ok (.bastore, 1) := by decide +kernel
theorem dX9_findLetters_49 : decode cX9_findLetters 49 = .ok (.aload_n 0, 1) := by decide +kernel
theorem dX9_findLetters_50 : decode cX9_findLetters 50 = .ok (.dup, 1) := by decide +kernel
theorem dX9_findLetters_51 : decode cX9_findLetters 51 = .ok (.getfield 241, 3) := by decide +kernel
theorem dX9_findLetters_54 : decode cX9_findLetters 54 = .ok (.aload_n 0, 1) := by decide +kernel
theorem dX9_findLetters_55 : decode cX9_findLetters 55 = .ok (.getfield 22, 3) := by decide +kernel
theorem dX9_findLetters_58 : decode cX9_findLetters 58 = .ok (.iload_n 1, 1) := by decide +kernel
theorem dX9_findLetters_59 : decode cX9_findLetters 59 = .ok (.baload, 1) := by decide +kernel
theorem dX9_findLetters_60 : decode cX9_findLetters 60 = .ok (.ifCond .eq 7, 3) := by decide +kernel
theorem dX9_findLetters_63 : decode cX9_findLetters 63 = .ok (.iconst 1, 1) := by decide +kernel
theorem dX9_findLetters_64 : decode cX9_findLetters 64 = .ok (.goto 4, 3) := by decide +kernel
theorem dX9_findLetters_67 : decode cX9_findLetters 67 = .ok (.iconst 0, 1) := by decide +kernel
theorem dX9_findLetters_68 : decode cX9_findLetters 68 = .ok (.iadd, 1) := by decide +kernel
theorem dX9_findLetters_69 : decode cX9_findLetters 69 = .ok (.putfield 241, 3) := by decide +kernel
theorem dX9_findLetters_72 : decode cX9_findLetters 72 = .ok (.aload_n 0, 1) := by decide +kernel
theorem dX9_findLetters_73 : decode cX9_findLetters 73 = .ok (.getfield 26, 3) := by decide +kernel
theorem dX9_findLetters_76 : decode cX9_findLetters 76 = .ok (.iconst 2, 1) := by decide +kernel
theorem dX9_findLetters_77 : decode cX9_findLetters 77 = .ok (.iload_n 1, 1) := by decide +kernel
theorem dX9_findLetters_78 : decode cX9_findLetters 78 = .ok (.imul, 1) := by decide +kernel
theorem dX9_findLetters_79 : decode cX9_findLetters 79 = .ok (.aload_n 0, 1) := by decide +kernel
theorem dX9_findLetters_80 : decode cX9_findLetters 80 = .ok (.getfield 22, 3) := by decide +kernel
theorem dX9_findLetters_83 : decode cX9_findLetters 83 = .ok (.iload_n 1, 1) := by decide +kernel
theorem dX9_findLetters_84 : decode cX9_findLetters 84 = .ok (.baload, 1) := by decide +kernel
theorem dX9_findLetters_85 : decode cX9_findLetters 85 = .ok (.ifCond .eq 18, 3) := by decide +kernel
theorem dX9_findLetters_88 : decode cX9_findLetters 88 = .ok (.aload_n 0, 1) := by decide +kernel
theorem dX9_findLetters_89 : decode cX9_findLetters 89 = .ok (.iload_n 1, 1) := by decide +kernel
theorem dX9_findLetters_90 : decode cX9_findLetters 90 = .ok (.aload_n 0, 1) := by decide +kernel
theorem dX9_findLetters_91 : decode cX9_findLetters 91 = .ok (.getfield 13, 3) := by decide +kernel
theorem dX9_findLetters_94 : decode cX9_findLetters 94 = .ok (.iconst 2, 1) := by decide +kernel
theorem dX9_findLetters_95 : decode cX9_findLetters 95 = .ok (.iconst 0, 1) := by decide +kernel
theorem dX9_findLetters_96 : decode cX9_findLetters 96 = .ok (.iconst 0, 1) := by decide +kernel
theorem dX9_findLetters_97 : decode cX9_findLetters 97 = .ok (.invokevirtual 248, 3) := by decide +kernel
theorem dX9_findLetters_100 : decode cX9_findLetters 100 = .ok (.goto 4, 3) := by decide +kernel
theorem dX9_findLetters_103 : decode cX9_findLetters 103 = .ok (.iconst 0, 1) := by decide +kernel
theorem dX9_findLetters_104 : decode cX9_findLetters 104 = .ok (.iastore, 1) := by decide +kernel
theorem dX9_findLetters_105 : decode cX9_findLetters 105 = .ok (.aload_n 0, 1) := by decide +kernel
theorem dX9_findLetters_106 : decode cX9_findLetters 106 = .ok (.getfield 26, 3) := by decide +kernel
theorem dX9_findLetters_109 : decode cX9_findLetters 109 = .ok (.iconst 2, 1) := by decide +kernel
theorem dX9_findLetters_110 : decode cX9_findLetters 110 = .ok (.iload_n 1, 1) := by decide +kernel
theorem dX9_findLetters_111 : decode cX9_findLetters 111 = .ok (.imul, 1) := by decide +kernel
theorem dX9_findLetters_112 : decode cX9_findLetters 112 = .ok (.iconst 1, 1) := by decide +kernel
theorem dX9_findLetters_113 : decode cX9_findLetters 113 = .ok (.iadd, 1) := by decide +kernel
theorem dX9_findLetters_114 : decode cX9_findLetters 114 = .ok (.aload_n 0, 1) := by decide +kernel
theorem dX9_findLetters_115 : decode cX9_findLetters 115 = .ok (.getfield 22, 3) := by decide +kernel
theorem dX9_findLetters_118 : decode cX9_findLetters 118 = .ok (.iload_n 1, 1) := by decide +kernel
theorem dX9_findLetters_119 : decode cX9_findLetters 119 = .ok (.baload, 1) := by decide +kernel
theorem dX9_findLetters_120 : decode cX9_findLetters 120 = .ok (.ifCond .eq 18, 3) := by decide +kernel
theorem dX9_findLetters_123 : decode cX9_findLetters 123 = .ok (.aload_n 0, 1) := by decide +kernel
theorem dX9_findLetters_124 : decode cX9_findLetters 124 = .ok (.iload_n 1, 1) := by decide +kernel
theorem dX9_findLetters_125 : decode cX9_findLetters 125 = .ok (.aload_n 0, 1) := by decide +kernel
theorem dX9_findLetters_126 : decode cX9_findLetters 126 = .ok (.getfield 13, 3) := by decide +kernel
theorem dX9_findLetters_129 : decode cX9_findLetters 129 = .ok (.iconst 2, 1) := by decide +kernel
theorem dX9_findLetters_130 : decode cX9_findLetters 130 = .ok (.iconst 1, 1) := by decide +kernel
theorem dX9_findLetters_131 : decode cX9_findLetters 131 = .ok (.iconst 1, 1) := by decide +kernel
theorem dX9_findLetters_132 : decode cX9_findLetters 132 = .ok (.invokevirtual 248, 3) := by decide +kernel
theorem dX9_findLetters_135 : decode cX9_findLetters 135 = .ok (.goto 4, 3) := by decide +kernel
theorem dX9_findLetters_138 : decode cX9_findLetters 138 = .ok (.iconst 0, 1) := by decide +kernel
theorem dX9_findLetters_139 : decode cX9_findLetters 139 = .ok (.iastore, 1) := by decide +kernel
theorem dX9_findLetters_140 : decode cX9_findLetters 140 = .ok (.iinc 1 1, 3) := by decide +kernel
theorem dX9_findLetters_143 : decode cX9_findLetters 143 = .ok (.goto (-113), 3) := by decide +kernel
theorem dX9_findLetters_146 : decode cX9_findLetters 146 = .ok (.return_, 1) := by decide +kernel
theorem dX9_told_0 : decode cX9_told 0 = .ok (.iload_n 1, 1) := by decide +kernel
theorem dX9_told_1 : decode cX9_told 1 = .ok (.tableswitch 149 0 13 #[71, 76, 81, 86, 91, 96, 101, 106, 111, 116, 129, 134, 139, 144], 71) := by decide +kernel
theorem dX9_told_72 : decode cX9_told 72 = .ok (.aload_n 0, 1) := by decide +kernel
theorem dX9_told_73 : decode cX9_told 73 = .ok (.getfield 99, 3) := by decide +kernel
theorem dX9_told_76 : decode cX9_told 76 = .ok (.ireturn, 1) := by decide +kernel
theorem dX9_told_77 : decode cX9_told 77 = .ok (.aload_n 0, 1) := by decide +kernel
theorem dX9_told_78 : decode cX9_told 78 = .ok (.getfield 109, 3) := by decide +kernel
theorem dX9_told_81 : decode cX9_told 81 = .ok (.ireturn, 1) := by decide +kernel
theorem dX9_told_82 : decode cX9_told 82 = .ok (.aload_n 0, 1) := by decide +kernel
theorem dX9_told_83 : decode cX9_told 83 = .ok (.getfield 210, 3) := by decide +kernel
theorem dX9_told_86 : decode cX9_told 86 = .ok (.ireturn, 1) := by decide +kernel
theorem dX9_told_87 : decode cX9_told 87 = .ok (.aload_n 0, 1) := by decide +kernel
theorem dX9_told_88 : decode cX9_told 88 = .ok (.getfield 213, 3) := by decide +kernel
theorem dX9_told_91 : decode cX9_told 91 = .ok (.ireturn, 1) := by decide +kernel
theorem dX9_told_92 : decode cX9_told 92 = .ok (.aload_n 0, 1) := by decide +kernel
theorem dX9_told_93 : decode cX9_told 93 = .ok (.getfield 119, 3) := by decide +kernel
theorem dX9_told_96 : decode cX9_told 96 = .ok (.ireturn, 1) := by decide +kernel
theorem dX9_told_97 : decode cX9_told 97 = .ok (.aload_n 0, 1) := by decide +kernel
theorem dX9_told_98 : decode cX9_told 98 = .ok (.getfield 252, 3) := by decide +kernel
theorem dX9_told_101 : decode cX9_told 101 = .ok (.ireturn, 1) := by decide +kernel
theorem dX9_told_102 : decode cX9_told 102 = .ok (.aload_n 0, 1) := by decide +kernel
theorem dX9_told_103 : decode cX9_told 103 = .ok (.getfield 255, 3) := by decide +kernel
theorem dX9_told_106 : decode cX9_told 106 = .ok (.ireturn, 1) := by decide +kernel
theorem dX9_told_107 : decode cX9_told 107 = .ok (.aload_n 0, 1) := by decide +kernel
theorem dX9_told_108 : decode cX9_told 108 = .ok (.getfield 219, 3) := by decide +kernel
theorem dX9_told_111 : decode cX9_told 111 = .ok (.ireturn, 1) := by decide +kernel
theorem dX9_told_112 : decode cX9_told 112 = .ok (.aload_n 0, 1) := by decide +kernel
theorem dX9_told_113 : decode cX9_told 113 = .ok (.getfield 222, 3) := by decide +kernel
theorem dX9_told_116 : decode cX9_told 116 = .ok (.ireturn, 1) := by decide +kernel
theorem dX9_told_117 : decode cX9_told 117 = .ok (.aload_n 0, 1) := by decide +kernel
theorem dX9_told_118 : decode cX9_told 118 = .ok (.getfield 225, 3) := by decide +kernel
theorem dX9_told_121 : decode cX9_told 121 = .ok (.ifCond .eq 7, 3) := by decide +kernel
theorem dX9_told_124 : decode cX9_told 124 = .ok (.iconst 1, 1) := by decide +kernel
theorem dX9_told_125 : decode cX9_told 125 = .ok (.goto 4, 3) := by decide +kernel
theorem dX9_told_128 : decode cX9_told 128 = .ok (.iconst 0, 1) := by decide +kernel
theorem dX9_told_129 : decode cX9_told 129 = .ok (.ireturn, 1) := by decide +kernel
theorem dX9_told_130 : decode cX9_told 130 = .ok (.aload_n 0, 1) := by decide +kernel
theorem dX9_told_131 : decode cX9_told 131 = .ok (.getfield 229, 3) := by decide +kernel
theorem dX9_told_134 : decode cX9_told 134 = .ok (.ireturn, 1) := by decide +kernel
theorem dX9_told_135 : decode cX9_told 135 = .ok (.aload_n 0, 1) := by decide +kernel
theorem dX9_told_136 : decode cX9_told 136 = .ok (.getfield 232, 3) := by decide +kernel
theorem dX9_told_139 : decode cX9_told 139 = .ok (.ireturn, 1) := by decide +kernel
theorem dX9_told_140 : decode cX9_told 140 = .ok (.aload_n 0, 1) := by decide +kernel
theorem dX9_told_141 : decode cX9_told 141 = .ok (.getfield 235, 3) := by decide +kernel
theorem dX9_told_144 : decode cX9_told 144 = .ok (.ireturn, 1) := by decide +kernel
theorem dX9_told_145 : decode cX9_told 145 = .ok (.aload_n 0, 1) := by decide +kernel
theorem dX9_told_146 : decode cX9_told 146 = .ok (.getfield 241, 3) := by decide +kernel
theorem dX9_told_149 : decode cX9_told 149 = .ok (.ireturn, 1) := by decide +kernel
theorem dX9_told_150 : decode cX9_told 150 = .ok (.ldc 118, 2) := by decide +kernel
theorem dX9_told_152 : decode cX9_told 152 = .ok (.ireturn, 1) := by decide +kernel
set_option maxRecDepth 20000 in
theorem ggX9_word_X9_isWord : GoodIn wsX9_word wsX9_isWord := goodIn_r _ [9, 10, 11, 12, 8, 13, 14, 15, 16, 17, 18, 19, 20, 21, 22, 23, 24, 25, 26, 27, 28, 29, 30, 31, 32, 33, 34, 35, 36, 37, 38, 39, 40, 41, 42, 43, 44, 45, 46, 47, 48, 49, 50, 51, 52, 53, 54, 55, 56, 57, 58, 59, 60, 61, 62, 63, 64, 65, 66, 67, 68] (by decide +kernel) (by decide +kernel)
set_option maxRecDepth 20000 in
theorem gX9_word_X9_isWord : GoodIn wsX9_word (wsV RX9 258 RX9 yX9_isWord wsX9_isWord) := goodIn_app (goodIn_of _ (by decide +kernel)) ggX9_word_X9_isWord
theorem dX9_word_0 : decode cX9_word 0 = .ok (.aload_n 0, 1) := by decide +kernel
theorem dX9_word_1 : decode cX9_word 1 = .ok (.iload_n 1, 1) := by decide +kernel
theorem dX9_word_2 : decode cX9_word 2 = .ok (.invokevirtual 258, 3) := by decide +kernel
theorem dX9_word_5 : decode cX9_word 5 = .ok (.ifCond .ne 7, 3) := by decide +kernel
theorem dX9_word_8 : decode cX9_word 8 = .ok (.ldc_w 261, 3) := by decide +kernel
theorem dX9_word_11 : decode cX9_word 11 = .ok (.ireturn, 1) := by decide +kernel
theorem dX9_word_12 : decode cX9_word 12 = .ok (.iload_n 2, 1) := by decide +kernel
theorem dX9_word_13 : decode cX9_word 13 = .ok (.ifCond .ne 12, 3) := by decide +kernel
theorem dX9_word_16 : decode cX9_word 16 = .ok (.aload_n 0, 1) := by decide +kernel
theorem dX9_word_17 : decode cX9_word 17 = .ok (.getfield 7, 3) := by decide +kernel
theorem dX9_word_20 : decode cX9_word 20 = .ok (.iload_n 1, 1) := by decide +kernel
theorem dX9_word_21 : decode cX9_word 21 = .ok (.iaload, 1) := by decide +kernel
theorem dX9_word_22 : decode cX9_word 22 = .ok (.goto 39, 3) := by decide +kernel
theorem dX9_word_25 : decode cX9_word 25 = .ok (.iload_n 2, 1) := by decide +kernel
theorem dX9_word_26 : decode cX9_word 26 = .ok (.iconst 1, 1) := by decide +kernel
theorem dX9_word_27 : decode cX9_word 27 = .ok (.if_icmp .ne 14, 3) := by decide +kernel
theorem dX9_word_30 : decode cX9_word 30 = .ok (.aload_n 0, 1) := by decide +kernel
theorem dX9_word_31 : decode cX9_word 31 = .ok (.getfield 13, 3) := by decide +kernel
theorem dX9_word_34 : decode cX9_word 34 = .ok (.iconst 2, 1) := by decide +kernel
theorem dX9_word_35 : decode cX9_word 35 = .ok (.iload_n 1, 1) := by decide +kernel
theorem dX9_word_36 : decode cX9_word 36 = .ok (.imul, 1) := by decide +kernel
theorem dX9_word_37 : decode cX9_word 37 = .ok (.iaload, 1) := by decide +kernel
theorem dX9_word_38 : decode cX9_word 38 = .ok (.goto 23, 3) := by decide +kernel
theorem dX9_word_41 : decode cX9_word 41 = .ok (.iload_n 2, 1) := by decide +kernel
theorem dX9_word_42 : decode cX9_word 42 = .ok (.iconst 2, 1) := by decide +kernel
theorem dX9_word_43 : decode cX9_word 43 = .ok (.if_icmp .ne 16, 3) := by decide +kernel
theorem dX9_word_46 : decode cX9_word 46 = .ok (.aload_n 0, 1) := by decide +kernel
theorem dX9_word_47 : decode cX9_word 47 = .ok (.getfield 13, 3) := by decide +kernel
theorem dX9_word_50 : decode cX9_word 50 = .ok (.iconst 2, 1) := by decide +kernel
theorem dX9_word_51 : decode cX9_word 51 = .ok (.iload_n 1, 1) := by decide +kernel
theorem dX9_word_52 : decode cX9_word 52 = .ok (.imul, 1) := by decide +kernel
theorem dX9_word_53 : decode cX9_word 53 = .ok (.iconst 1, 1) := by decide +kernel
theorem dX9_word_54 : decode cX9_word 54 = .ok (.iadd, 1) := by decide +kernel
theorem dX9_word_55 : decode cX9_word 55 = .ok (.iaload, 1) := by decide +kernel
theorem dX9_word_56 : decode cX9_word 56 = .ok (.goto 5, 3) := by decide +kernel
theorem dX9_word_59 : decode cX9_word 59 = .ok (.ldc 118, 2) := by decide +kernel
theorem dX9_word_61 : decode cX9_word 61 = .ok (.ireturn, 1) := by decide +kernel
set_option maxRecDepth 20000 in
theorem ggX9_at_X9_isLetter : GoodIn wsX9_at wsX9_isLetter := goodIn_r _ [7, 8, 9, 10, 6, 11, 21, 22, 23, 24, 25, 26, 27, 28, 29, 30, 31, 32, 33, 34, 35, 36, 37, 38, 39, 40, 41, 42, 43, 44, 45, 46, 47, 48, 49, 50, 51, 52, 53, 54, 55, 56, 57, 58, 59, 60, 61, 62, 63, 64, 65, 66, 67, 68, 69, 70, 71, 72, 73, 74, 75] (by decide +kernel) (by decide +kernel)
set_option maxRecDepth 20000 in
theorem gX9_at_X9_isLetter : GoodIn wsX9_at (wsV RX9 262 RX9 yX9_isLetter wsX9_isLetter) := goodIn_app (goodIn_of _ (by decide +kernel)) ggX9_at_X9_isLetter
set_option maxRecDepth 20000 in
theorem ggX9_at_X9_in : GoodIn wsX9_at wsX9_in := goodIn_r _ [11] (by decide +kernel) (by decide +kernel)
set_option maxRecDepth 20000 in
theorem gX9_at_X9_in : GoodIn wsX9_at (va_wsS RX9 105 yX9_in wsX9_in) := goodIn_app (goodIn_of _ (by decide +kernel)) ggX9_at_X9_in
set_option maxRecDepth 20000 in
theorem ggX9_at_X9_wordAt : GoodIn wsX9_at wsX9_wordAt := goodIn_r _ [15, 16, 17, 18, 19, 6, 20, 21, 22, 23, 24, 25, 26, 27, 28, 29, 30, 31, 32, 33, 34, 35, 36, 37, 38, 39, 40, 41, 42, 43, 44, 45, 46, 47, 48, 49, 50, 51, 52, 53, 54, 55, 56, 57, 58, 59, 60, 61, 62, 63, 64, 65, 66, 67, 68, 69, 70, 71, 72, 73, 74, 75] (by decide +kernel) (by decide +kernel)
set_option maxRecDepth 20000 in
theorem gX9_at_X9_wordAt : GoodIn wsX9_at (wsV RX9 238 RX9 yX9_wordAt wsX9_wordAt) := goodIn_app (goodIn_of _ (by decide +kernel)) ggX9_at_X9_wordAt
theorem dX9_at_0 : decode cX9_at 0 = .ok (.aload_n 0, 1) := by decide +kernel
theorem dX9_at_1 : decode cX9_at 1 = .ok (.iload_n 1, 1) := by decide +kernel
theorem dX9_at_2 : decode cX9_at 2 = .ok (.invokevirtual 262, 3) := by decide +kernel
theorem dX9_at_5 : decode cX9_at 5 = .ok (.ifCond .eq 28, 3) := by decide +kernel
theorem dX9_at_8 : decode cX9_at 8 = .ok (.iload_n 2, 1) := by decide +kernel
theorem dX9_at_9 : decode cX9_at 9 = .ok (.i2l, 1) := by decide +kernel
theorem dX9_at_10 : decode cX9_at 10 = .ok (.lconst 0, 1) := by decide +kernel
theorem dX9_at_11 : decode cX9_at 11 = .ok (.aload_n 0, 1) := by decide +kernel
theorem dX9_at_12 : decode cX9_at 12 = .ok (.getfield 99, 3) := by decide +kernel
theorem dX9_at_15 : decode cX9_at 15 = .ok (.iconst 1, 1) := by decide +kernel
theorem dX9_at_16 : decode cX9_at 16 = .ok (.isub, 1) := by decide +kernel
theorem dX9_at_17 : decode cX9_at 17 = .ok (.i2l, 1) := by decide +kernel
theorem dX9_at_18 : decode cX9_at 18 = .ok (.invokestatic 105, 3) := by decide +kernel
theorem dX9_at_21 : decode cX9_at 21 = .ok (.ifCond .eq 12, 3) := by decide +kernel
theorem dX9_at_24 : decode cX9_at 24 = .ok (.aload_n 0, 1) := by decide +kernel
theorem dX9_at_25 : decode cX9_at 25 = .ok (.iload_n 1, 1) := by decide +kernel
theorem dX9_at_26 : decode cX9_at 26 = .ok (.iload_n 2, 1) := by decide +kernel
theorem dX9_at_27 : decode cX9_at 27 = .ok (.invokevirtual 238, 3) := by decide +kernel
theorem dX9_at_30 : decode cX9_at 30 = .ok (.goto 5, 3) := by decide +kernel
theorem dX9_at_33 : decode cX9_at 33 = .ok (.ldc 118, 2) := by decide +kernel
theorem dX9_at_35 : decode cX9_at 35 = .ok (.ireturn, 1) := by decide +kernel
set_option maxRecDepth 20000 in
theorem ggX9_stands_X9_isLetter : GoodIn wsX9_stands wsX9_isLetter := goodIn_r _ [7, 8, 9, 10, 6, 11, 12, 13, 14, 15, 16, 17, 18, 19, 20, 21, 22, 23, 24, 25, 26, 27, 28, 29, 30, 31, 32, 33, 34, 35, 36, 37, 38, 39, 40, 41, 42, 43, 44, 45, 46, 47, 48, 49, 50, 51, 52, 53, 54, 55, 56, 57, 58, 59, 60, 61, 62, 63, 64, 65, 66] (by decide +kernel) (by decide +kernel)
set_option maxRecDepth 20000 in
theorem gX9_stands_X9_isLetter : GoodIn wsX9_stands (wsV RX9 262 RX9 yX9_isLetter wsX9_isLetter) := goodIn_app (goodIn_of _ (by decide +kernel)) ggX9_stands_X9_isLetter
theorem dX9_stands_0 : decode cX9_stands 0 = .ok (.aload_n 0, 1) := by decide +kernel
theorem dX9_stands_1 : decode cX9_stands 1 = .ok (.iload_n 1, 1) := by decide +kernel
theorem dX9_stands_2 : decode cX9_stands 2 = .ok (.invokevirtual 262, 3) := by decide +kernel
theorem dX9_stands_5 : decode cX9_stands 5 = .ok (.ifCond .ne 8, 3) := by decide +kernel
theorem dX9_stands_8 : decode cX9_stands 8 = .ok (.ldc 118, 2) := by decide +kernel
theorem dX9_stands_10 : decode cX9_stands 10 = .ok (.goto 17, 3) := by decide +kernel
theorem dX9_stands_13 : decode cX9_stands 13 = .ok (.aload_n 0, 1) := by decide +kernel
theorem dX9_stands_14 : decode cX9_stands 14 = .ok (.getfield 22, 3) := by decide +kernel
theorem dX9_stands_17 : decode cX9_stands 17 = .ok (.iload_n 1, 1) := by decide +kernel
theorem dX9_stands_18 : decode cX9_stands 18 = .ok (.baload, 1) := by decide +kernel
theorem dX9_stands_19 : decode cX9_stands 19 = .ok (.ifCond .eq 7, 3) := by decide +kernel
theorem dX9_stands_22 : decode cX9_stands 22 = .ok (.iconst 1, 1) := by decide +kernel
theorem dX9_stands_23 : decode cX9_stands 23 = .ok (.goto 4, 3) := by decide +kernel
theorem dX9_stands_26 : decode cX9_stands 26 = .ok (.iconst 0, 1) := by decide +kernel
theorem dX9_stands_27 : decode cX9_stands 27 = .ok (.ireturn, 1) := by decide +kernel
set_option maxRecDepth 20000 in
theorem ggX9_worth_X9_isHouse : GoodIn wsX9_worth wsX9_isHouse := goodIn_r _ [7, 8, 9, 6, 10] (by decide +kernel) (by decide +kernel)
set_option maxRecDepth 20000 in
theorem gX9_worth_X9_isHouse : GoodIn wsX9_worth (va_wsS RX9 265 yX9_isHouse wsX9_isHouse) := goodIn_app (goodIn_of _ (by decide +kernel)) ggX9_worth_X9_isHouse
set_option maxRecDepth 20000 in
theorem ggX9_worth_X9_isLetter : GoodIn wsX9_worth wsX9_isLetter := goodIn_r _ [14, 15, 8, 9, 6, 10, 16, 17, 18, 19, 20, 21, 22, 23, 24, 25, 26, 27, 28, 29, 30, 31, 32, 33, 34, 35, 36, 37, 38, 39, 40, 41, 42, 43, 44, 45, 46, 47, 48, 49, 50, 51, 52, 53, 54, 55, 56, 57, 58, 59, 60, 61, 62, 63, 64, 65, 66, 67, 68, 69, 70] (by decide +kernel) (by decide +kernel)
set_option maxRecDepth 20000 in
theorem gX9_worth_X9_isLetter : GoodIn wsX9_worth (wsV RX9 262 RX9 yX9_isLetter wsX9_isLetter) := goodIn_app (goodIn_of _ (by decide +kernel)) ggX9_worth_X9_isLetter
theorem dX9_worth_0 : decode cX9_worth 0 = .ok (.iload_n 1, 1) := by decide +kernel
theorem dX9_worth_1 : decode cX9_worth 1 = .ok (.invokestatic 265, 3) := by decide +kernel
theorem dX9_worth_4 : decode cX9_worth 4 = .ok (.ifCond .ne 7, 3) := by decide +kernel
theorem dX9_worth_7 : decode cX9_worth 7 = .ok (.ldc_w 261, 3) := by decide +kernel
theorem dX9_worth_10 : decode cX9_worth 10 = .ok (.ireturn, 1) := by decide +kernel
theorem dX9_worth_11 : decode cX9_worth 11 = .ok (.aload_n 0, 1) := by decide +kernel
theorem dX9_worth_12 : decode cX9_worth 12 = .ok (.iload_n 2, 1) := by decide +kernel
theorem dX9_worth_13 : decode cX9_worth 13 = .ok (.invokevirtual 262, 3) := by decide +kernel
theorem dX9_worth_16 : decode cX9_worth 16 = .ok (.ifCond .eq 16, 3) := by decide +kernel
theorem dX9_worth_19 : decode cX9_worth 19 = .ok (.aload_n 0, 1) := by decide +kernel
theorem dX9_worth_20 : decode cX9_worth 20 = .ok (.getfield 26, 3) := by decide +kernel
theorem dX9_worth_23 : decode cX9_worth 23 = .ok (.iconst 2, 1) := by decide +kernel
theorem dX9_worth_24 : decode cX9_worth 24 = .ok (.iload_n 2, 1) := by decide +kernel
theorem dX9_worth_25 : decode cX9_worth 25 = .ok (.imul, 1) := by decide +kernel
theorem dX9_worth_26 : decode cX9_worth 26 = .ok (.iload_n 1, 1) := by decide +kernel
theorem dX9_worth_27 : decode cX9_worth 27 = .ok (.iadd, 1) := by decide +kernel
theorem dX9_worth_28 : decode cX9_worth 28 = .ok (.iaload, 1) := by decide +kernel
theorem dX9_worth_29 : decode cX9_worth 29 = .ok (.goto 5, 3) := by decide +kernel
theorem dX9_worth_32 : decode cX9_worth 32 = .ok (.ldc 118, 2) := by decide +kernel
theorem dX9_worth_34 : decode cX9_worth 34 = .ok (.ireturn, 1) := by decide +kernel
set_option maxRecDepth 20000 in
theorem ggX9_law_X9_in : GoodIn wsX9_law wsX9_in := goodIn_r _ [7] (by decide +kernel) (by decide +kernel)
set_option maxRecDepth 20000 in
theorem gX9_law_X9_in : GoodIn wsX9_law (va_wsS RX9 105 yX9_in wsX9_in) := goodIn_app (goodIn_of _ (by decide +kernel)) ggX9_law_X9_in
theorem dX9_law_0 : decode cX9_law 0 = .ok (.iload_n 1, 1) := by decide +kernel
theorem dX9_law_1 : decode cX9_law 1 = .ok (.i2l, 1) := by decide +kernel
theorem dX9_law_2 : decode cX9_law 2 = .ok (.lconst 0, 1) := by decide +kernel
theorem dX9_law_3 : decode cX9_law 3 = .ok (.ldc2_w 268, 3) := by decide +kernel
theorem dX9_law_6 : decode cX9_law 6 = .ok (.invokestatic 105, 3) := by decide +kernel
theorem dX9_law_9 : decode cX9_law 9 = .ok (.ifCond .ne 6, 3) := by decide +kernel
theorem dX9_law_12 : decode cX9_law 12 = .ok (.ldc 118, 2) := by decide +kernel
theorem dX9_law_14 : decode cX9_law 14 = .ok (.ireturn, 1) := by decide +kernel
theorem dX9_law_15 : decode cX9_law 15 = .ok (.aload_n 0, 1) := by decide +kernel
theorem dX9_law_16 : decode cX9_law 16 = .ok (.getfield 252, 3) := by decide +kernel
theorem dX9_law_19 : decode cX9_law 19 = .ok (.istore_n 2, 1) := by decide +kernel
theorem dX9_law_20 : decode cX9_law 20 = .ok (.aload_n 0, 1) := by decide +kernel
theorem dX9_law_21 : decode cX9_law 21 = .ok (.iload_n 1, 1) := by decide +kernel
theorem dX9_law_22 : decode cX9_law 22 = .ok (.putfield 252, 3) := by decide +kernel
theorem dX9_law_25 : decode cX9_law 25 = .ok (.iload_n 2, 1) := by decide +kernel
theorem dX9_law_26 : decode cX9_law 26 = .ok (.ireturn, 1) := by decide +kernel
set_option maxRecDepth 20000 in
theorem ggX9_way_X9_in : GoodIn wsX9_way wsX9_in := goodIn_r _ [6] (by decide +kernel) (by decide +kernel)
set_option maxRecDepth 20000 in
theorem gX9_way_X9_in : GoodIn wsX9_way (va_wsS RX9 105 yX9_in wsX9_in) := goodIn_app (goodIn_of _ (by decide +kernel)) ggX9_way_X9_in
theorem dX9_way_0 : decode cX9_way 0 = .ok (.iload_n 1, 1) := by decide +kernel
theorem dX9_way_1 : decode cX9_way 1 = .ok (.i2l, 1) := by decide +kernel
theorem dX9_way_2 : decode cX9_way 2 = .ok (.lconst 0, 1) := by decide +kernel
theorem dX9_way_3 : decode cX9_way 3 = .ok (.lconst 1, 1) := by decide +kernel
theorem dX9_way_4 : decode cX9_way 4 = .ok (.invokestatic 105, 3) := by decide +kernel
theorem dX9_way_7 : decode cX9_way 7 = .ok (.ifCond .ne 6, 3) := by decide +kernel
theorem dX9_way_10 : decode cX9_way 10 = .ok (.ldc 118, 2) := by decide +kernel
theorem dX9_way_12 : decode cX9_way 12 = .ok (.ireturn, 1) := by decide +kernel
theorem dX9_way_13 : decode cX9_way 13 = .ok (.aload_n 0, 1) := by decide +kernel
theorem dX9_way_14 : decode cX9_way 14 = .ok (.getfield 255, 3) := by decide +kernel
theorem dX9_way_17 : decode cX9_way 17 = .ok (.istore_n 2, 1) := by decide +kernel
theorem dX9_way_18 : decode cX9_way 18 = .ok (.aload_n 0, 1) := by decide +kernel
theorem dX9_way_19 : decode cX9_way 19 = .ok (.iload_n 1, 1) := by decide +kernel
theorem dX9_way_20 : decode cX9_way 20 = .ok (.putfield 255, 3) := by decide +kernel
theorem dX9_way_23 : decode cX9_way 23 = .ok (.iload_n 2, 1) := by decide +kernel
theorem dX9_way_24 : decode cX9_way 24 = .ok (.ireturn, 1) := by decide +kernel
theorem dX9_addChange_0 : decode cX9_addChange 0 = .ok (.iload_n 2, 1) := by decide +kernel
theorem dX9_addChange_1 : decode cX9_addChange 1 = .ok (.ifCond .ne 12, 3) := by decide +kernel
theorem dX9_addChange_4 : decode cX9_addChange 4 = .ok (.aload_n 0, 1) := by decide +kernel
theorem dX9_addChange_5 : decode cX9_addChange 5 = .ok (.getfield 22, 3) := by decide +kernel
theorem dX9_addChange_8 : decode cX9_addChange 8 = .ok (.iload_n 1, 1) := by decide +kernel
theorem dX9_addChange_9 : decode cX9_addChange 9 = .ok (.baload, 1) := by decide +kernel
theorem dX9_addChange_10 : decode cX9_addChange 10 = .ok (.ifCond .eq 23, 3) := by decide +kernel
theorem dX9_addChange_13 : decode cX9_addChange 13 = .ok (.aload_n 0, 1) := by decide +kernel
theorem dX9_addChange_14 : decode cX9_addChange 14 = .ok (.getfield 60, 3) := by decide +kernel
theorem dX9_addChange_17 : decode cX9_addChange 17 = .ok (.aload_n 0, 1) := by decide +kernel
theorem dX9_addChange_18 : decode cX9_addChange 18 = .ok (.getfield 270, 3) := by decide +kernel
theorem dX9_addChange_21 : decode cX9_addChange 21 = .ok (.iload_n 1, 1) := by decide +kernel
theorem dX9_addChange_22 : decode cX9_addChange 22 = .ok (.iastore, 1) := by decide +kernel
theorem dX9_addChange_23 : decode cX9_addChange 23 = .ok (.aload_n 0, 1) := by decide +kernel
theorem dX9_addChange_24 : decode cX9_addChange 24 = .ok (.dup, 1) := by decide +kernel
theorem dX9_addChange_25 : decode cX9_addChange 25 = .ok (.getfield 270, 3) := by decide +kernel
theorem dX9_addChange_28 : decode cX9_addChange 28 = .ok (.iconst 1, 1) := by decide +kernel
theorem dX9_addChange_29 : decode cX9_addChange 29 = .ok (.iadd, 1) := by decide +kernel
theorem dX9_addChange_30 : decode cX9_addChange 30 = .ok (.putfield 270, 3) := by decide +kernel
theorem dX9_addChange_33 : decode cX9_addChange 33 = .ok (.return_, 1) := by decide +kernel
set_option maxRecDepth 20000 in
theorem ggX9_findChanges_X9_wordAt : GoodIn wsX9_findChanges wsX9_wordAt := goodIn_r _ [9, 4, 10, 11, 12, 8, 13, 20, 21, 22, 23, 24, 25, 26, 27, 28, 29, 30, 31, 32, 33, 34, 35, 36, 37, 38, 39, 40, 41, 42, 43, 44, 45, 46, 47, 48, 49, 50, 51, 52, 53, 54, 55, 56, 57, 58, 59, 60, 61, 62, 63, 64, 65, 66, 67, 68, 69, 70, 71, 72, 73, 74] (by decide +kernel) (by decide +kernel)
set_option maxRecDepth 20000 in
theorem gX9_findChanges_X9_wordAt : GoodIn wsX9_findChanges (wsV RX9 238 RX9 yX9_wordAt wsX9_wordAt) := goodIn_app (goodIn_of _ (by decide +kernel)) ggX9_findChanges_X9_wordAt
set_option maxRecDepth 20000 in
theorem ggX9_findChanges_X9_unit : GoodIn wsX9_findChanges wsX9_unit := goodIn_r _ [13, 4, 20, 21, 22, 23, 24, 25, 26, 27, 28, 29, 30, 31, 32, 33, 34, 35, 36, 37, 38, 39, 40, 41, 42, 43, 44, 45, 46, 47, 48, 49, 50, 51, 52, 53, 54, 55, 56, 57, 58, 59, 60, 61, 62, 63, 64, 65, 66, 67, 68, 69, 70, 71, 72, 73, 74] (by decide +kernel) (by decide +kernel)
set_option maxRecDepth 20000 in
theorem gX9_findChanges_X9_unit : GoodIn wsX9_findChanges (wsV RX9 112 RX9 yX9_unit wsX9_unit) := goodIn_app (goodIn_of _ (by decide +kernel)) ggX9_findChanges_X9_unit
set_option maxRecDepth 20000 in
theorem ggX9_findChanges_X9_addChange : GoodIn wsX9_findChanges wsX9_addChange := goodIn_r _ [17, 18, 19, 1, 20, 21, 22, 23, 24, 25, 26, 27, 28, 29, 30, 31, 32, 33, 34, 35, 36, 37, 38, 39, 40, 41, 42, 43, 44, 45, 46, 47, 48, 49, 50, 51, 52, 53, 54, 55, 56, 57, 58, 59, 60, 61, 62, 63, 64, 65, 66, 67, 68, 69, 70, 71, 72, 73, 74] (by decide +kernel) (by decide +kernel)
set_option maxRecDepth 20000 in
theorem gX9_findChanges_X9_addChange : GoodIn wsX9_findChanges (wsV RX9 273 RX9 yX9_addChange wsX9_addChange) := goodIn_app (goodIn_of _ (by decide +kernel)) ggX9_findChanges_X9_addChange
theorem dX9_findChanges_0 : decode cX9_findChanges 0 = .ok (.aload_n 0, 1) := by decide +kernel
theorem dX9_findChanges_1 : decode cX9_findChanges 1 = .ok (.iconst 0, 1) := by decide +kernel
theorem dX9_findChanges_2 : decode cX9_findChanges 2 = .ok (.putfield 270, 3) := by decide +kernel
theorem dX9_findChanges_5 : decode cX9_findChanges 5 = .ok (.iconst 0, 1) := by decide +kernel
theorem dX9_findChanges_6 : decode cX9_findChanges 6 = .ok (.istore_n 3, 1) := by decide +kernel
theorem dX9_findChanges_7 : decode cX9_findChanges 7 = .ok (.iload_n 3, 1) := by decide +kernel
theorem dX9_findChanges_8 : decode cX9_findChanges 8 = .ok (.aload_n 0, 1) := by decide +kernel
theorem dX9_findChanges_9 : decode cX9_findChanges 9 = .ok (.getfield 99, 3) := by decide +kernel
theorem dX9_findChanges_12 : decode cX9_findChanges 12 = .ok (.if_icmp .ge 68, 3) := by decide +kernel
theorem dX9_findChanges_15 : decode cX9_findChanges 15 = .ok (.aload_n 0, 1) := by decide +kernel
theorem dX9_findChanges_16 : decode cX9_findChanges 16 = .ok (.getfield 252, 3) := by decide +kernel
theorem dX9_findChanges_19 : decode cX9_findChanges 19 = .ok (.iconst 1, 1) := by decide +kernel
theorem dX9_findChanges_20 : decode cX9_findChanges 20 = .ok (.if_icmp .eq 60, 3) := by decide +kernel
theorem dX9_findChanges_23 : decode cX9_findChanges 23 = .ok (.aload_n 0, 1) := by decide +kernel
theorem dX9_findChanges_24 : decode cX9_findChanges 24 = .ok (.iload_n 1, 1) := by decide +kernel
theorem dX9_findChanges_25 : decode cX9_findChanges 25 = .ok (.iload_n 3, 1) := by decide +kernel
theorem dX9_findChanges_26 : decode cX9_findChanges 26 = .ok (.invokevirtual 238, 3) := by decide +kernel
theorem dX9_findChanges_29 : decode cX9_findChanges 29 = .ok (.istore 4, 2) := by decide +kernel
theorem dX9_findChanges_31 : decode cX9_findChanges 31 = .ok (.iconst 0, 1) := by decide +kernel
theorem dX9_findChanges_32 : decode cX9_findChanges 32 = .ok (.istore 5, 2) := by decide +kernel
theorem dX9_findChanges_34 : decode cX9_findChanges 34 = .ok (.iload 5, 2) := by decide +kernel
theorem dX9_findChanges_36 : decode cX9_findChanges 36 = .ok (.aload_n 0, 1) := by decide +kernel
theorem dX9_findChanges_37 : decode cX9_findChanges 37 = .ok (.getfield 109, 3) := by decide +kernel
theorem dX9_findChanges_40 : decode cX9_findChanges 40 = .ok (.if_icmp .ge 34, 3) := by decide +kernel
theorem dX9_findChanges_43 : decode cX9_findChanges 43 = .ok (.iload 5, 2) := by decide +kernel
theorem dX9_findChanges_45 : decode cX9_findChanges 45 = .ok (.iload 4, 2) := by decide +kernel
theorem dX9_findChanges_47 : decode cX9_findChanges 47 = .ok (.if_icmp .eq 21, 3) := by decide +kernel
theorem dX9_findChanges_50 : decode cX9_findChanges 50 = .ok (.aload_n 0, 1) := by decide +kernel
theorem dX9_findChanges_51 : decode cX9_findChanges 51 = .ok (.iload_n 1, 1) := by decide +kernel
theorem dX9_findChanges_52 : decode cX9_findChanges 52 = .ok (.iload 5, 2) := by decide +kernel
theorem dX9_findChanges_54 : decode cX9_findChanges 54 = .ok (.iload 4, 2) := by decide +kernel
theorem dX9_findChanges_56 : decode cX9_findChanges 56 = .ok (.isub, 1) := by decide +kernel
theorem dX9_findChanges_57 : decode cX9_findChanges 57 = .ok (.aload_n 0, 1) := by decide +kernel
theorem dX9_findChanges_58 : decode cX9_findChanges 58 = .ok (.iload_n 3, 1) := by decide +kernel
theorem dX9_findChanges_59 : decode cX9_findChanges 59 = .ok (.invokevirtual 112, 3) := by decide +kernel
theorem dX9_findChanges_62 : decode cX9_findChanges 62 = .ok (.imul, 1) := by decide +kernel
theorem dX9_findChanges_63 : decode cX9_findChanges 63 = .ok (.iadd, 1) := by decide +kernel
theorem dX9_findChanges_64 : decode cX9_findChanges 64 = .ok (.iload_n 2, 1) := by decide +kernel
theorem dX9_findChanges_65 : decode cX9_findChanges 65 = .ok (.invokevirtual 273, 3) := by decide +kernel
theorem dX9_findChanges_68 : decode cX9_findChanges 68 = .ok (.iinc 5 1, 3) := by decide +kernel
theorem dX9_findChanges_71 : decode cX9_findChanges 71 = .ok (.goto (-37), 3) := by decide +kernel
theorem dX9_findChanges_74 : decode cX9_findChanges 74 = .ok (.iinc 3 1, 3) := by decide +kernel
theorem dX9_findChanges_77 : decode cX9_findChanges 77 = .ok (.goto (-70), 3) := by decide +kernel
theorem dX9_findChanges_80 : decode cX9_findChanges 80 = .ok (.iconst 0, 1) := by decide +kernel
theorem dX9_findChanges_81 : decode cX9_findChanges 81 = .ok (.istore_n 3, 1) := by decide +kernel
theorem dX9_findChanges_82 : decode cX9_findChanges 82 = .ok (.iload_n 3, 1) := by decide +kernel
theorem dX9_findChanges_83 : decode cX9_findChanges 83 = .ok (.aload_n 0, 1) := by decide +kernel
theorem dX9_findChanges_84 : decode cX9_findChanges 84 = .ok (.getfield 99, 3) := by decide +kernel
theorem dX9_findChanges_87 : decode cX9_findChanges 87 = .ok (.iconst 1, 1) := by decide +kernel
theorem dX9_findChanges_88 : decode cX9_findChanges 88 = .ok (.isub, 1) := by decide +kernel
theorem dX9_findChanges_89 : decode cX9_findChanges 89 = .ok (.if_icmp .ge 73, 3) := by decide +kernel
theorem dX9_findChanges_92 : decode cX9_findChanges 92 = .ok (.aload_n 0, 1) := by decide +kernel
theorem dX9_findChanges_93 : decode cX9_findChanges 93 = .ok (.getfield 252, 3) := by decide +kernel
theorem dX9_findChanges_96 : decode cX9_findChanges 96 = .ok (.ifCond .eq 66, 3) := by decide +kernel
theorem dX9_findChanges_99 : decode cX9_findChanges 99 = .ok (.aload_n 0, 1) := by decide +kernel
theorem dX9_findChanges_100 : decode cX9_findChanges 100 = .ok (.iload_n 1, 1) := by decide +kernel
theorem dX9_findChanges_101 : decode cX9_findChanges 101 = .ok (.iload_n 3, 1) := by decide +kernel
theorem dX9_findChanges_102 : decode cX9_findChanges 102 = .ok (.invokevirtual 238, 3) := by decide +kernel
theorem dX9_findChanges_105 : decode cX9_findChanges 105 = .ok (.istore 4, 2) := by decide +kernel
theorem dX9_findChanges_107 : decode cX9_findChanges 107 = .ok (.aload_n 0, 1) := by decide +kernel
theorem dX9_findChanges_108 : decode cX9_findChanges 108 = .ok (.iload_n 1, 1) := by decide +kernel
theorem dX9_findChanges_109 : decode cX9_findChanges 109 = .ok (.iload_n 3, 1) := by decide +kernel
theorem dX9_findChanges_110 : decode cX9_findChanges 110 = .ok (.iconst 1, 1) := by decide +kernel
theorem dX9_findChanges_111 : decode cX9_findChanges 111 = .ok (.iadd, 1) := by decide +kernel
theorem dX9_findChanges_112 : decode cX9_findChanges 112 = .ok (.invokevirtual 238, 3) := by decide +kernel
theorem dX9_findChanges_115 : decode cX9_findChanges 115 = .ok (.istore 5, 2) := by decide +kernel
theorem dX9_findChanges_117 : decode cX9_findChanges 117 = .ok (.iload 4, 2) := by decide +kernel
theorem dX9_findChanges_119 : decode cX9_findChanges 119 = .ok (.iload 5, 2) := by decide +kernel
theorem dX9_findChanges_121 : decode cX9_findChanges 121 = .ok (.if_icmp .eq 35, 3) := by decide +kernel
theorem dX9_findChanges_124 : decode cX9_findChanges 124 = .ok (.aload_n 0, 1) := by decide +kernel
theorem dX9_findChanges_125 : decode cX9_findChanges 125 = .ok (.iload_n 1, 1) := by decide +kernel
theorem dX9_findChanges_126 : decode cX9_findChanges 126 = .ok (.iload 5, 2) := by decide +kernel
theorem dX9_findChanges_128 : decode cX9_findChanges 128 = .ok (.iload 4, 2) := by decide +kernel
theorem dX9_findChanges_130 : decode cX9_findChanges 130 = .ok (.isub, 1) := by decide +kernel
theorem dX9_findChanges_131 : decode cX9_findChanges 131 = .ok (.aload_n 0, 1) := by decide +kernel
theorem dX9_findChanges_132 : decode cX9_findChanges 132 = .ok (.iload_n 3, 1) := by decide +kernel
theorem dX9_findChanges_133 : decode cX9_findChanges 133 = .ok (.invokevirtual 112, 3) := by decide +kernel
theorem dX9_findChanges_136 : decode cX9_findChanges 136 = .ok (.imul, 1) := by decide +kernel
theorem dX9_findChanges_137 : decode cX9_findChanges 137 = .ok (.iadd, 1) := by decide +kernel
theorem dX9_findChanges_138 : decode cX9_findChanges 138 = .ok (.iload 4, 2) := by decide +kernel
theorem dX9_findChanges_140 : decode cX9_findChanges 140 = .ok (.iload 5, 2) := by decide +kernel
theorem dX9_findChanges_142 : decode cX9_findChanges 142 = .ok (.isub, 1) := by decide +kernel
theorem dX9_findChanges_143 : decode cX9_findChanges 143 = .ok (.aload_n 0, 1) := by decide +kernel
theorem dX9_findChanges_144 : decode cX9_findChanges 144 = .ok (.iload_n 3, 1) := by decide +kernel
theorem dX9_findChanges_145 : decode cX9_findChanges 145 = .ok (.iconst 1, 1) := by decide +kernel
theorem dX9_findChanges_146 : decode cX9_findChanges 146 = .ok (.iadd, 1) := by decide +kernel
theorem dX9_findChanges_147 : decode cX9_findChanges 147 = .ok (.invokevirtual 112, 3) := by decide +kernel
theorem dX9_findChanges_150 : decode cX9_findChanges 150 = .ok (.imul, 1) := by decide +kernel
theorem dX9_findChanges_151 : decode cX9_findChanges 151 = .ok (.iadd, 1) := by decide +kernel
theorem dX9_findChanges_152 : decode cX9_findChanges 152 = .ok (.iload_n 2, 1) := by decide +kernel
theorem dX9_findChanges_153 : decode cX9_findChanges 153 = .ok (.invokevirtual 273, 3) := by decide +kernel
theorem dX9_findChanges_156 : decode cX9_findChanges 156 = .ok (.iinc 3 1, 3) := by decide +kernel
theorem dX9_findChanges_159 : decode cX9_findChanges 159 = .ok (.goto (-77), 3) := by decide +kernel
theorem dX9_findChanges_162 : decode cX9_findChanges 162 = .ok (.return_, 1) := by decide +kernel
theorem dX9_placeOf_0 : decode cX9_placeOf 0 = .ok (.iconst (-1), 1) := by decide +kernel
theorem dX9_placeOf_1 : decode cX9_placeOf 1 = .ok (.istore_n 2, 1) := by decide +kernel
theorem dX9_placeOf_2 : decode cX9_placeOf 2 = .ok (.iconst 0, 1) := by decide +kernel
theorem dX9_placeOf_3 : decode cX9_placeOf 3 = .ok (.istore_n 3, 1) := by decide +kernel
theorem dX9_placeOf_4 : decode cX9_placeOf 4 = .ok (.iload_n 3, 1) := by decide +kernel
theorem dX9_placeOf_5 : decode cX9_placeOf 5 = .ok (.aload_n 0, 1) := by decide +kernel
theorem dX9_placeOf_6 : decode cX9_placeOf 6 = .ok (.getfield 270, 3) := by decide +kernel
theorem dX9_placeOf_9 : decode cX9_placeOf 9 = .ok (.if_icmp .ge 29, 3) := by decide +kernel
theorem dX9_placeOf_12 : decode cX9_placeOf 12 = .ok (.aload_n 0, 1) := by decide +kernel
theorem dX9_placeOf_13 : decode cX9_placeOf 13 = .ok (.getfield 60, 3) := by decide +kernel
theorem dX9_placeOf_16 : decode cX9_placeOf 16 = .ok (.iload_n 3, 1) := by decide +kernel
theorem dX9_placeOf_17 : decode cX9_placeOf 17 = .ok (.iaload, 1) := by decide +kernel
theorem dX9_placeOf_18 : decode cX9_placeOf 18 = .ok (.iload_n 1, 1) := by decide +kernel
theorem dX9_placeOf_19 : decode cX9_placeOf 19 = .ok (.if_icmp .ne 11, 3) := by decide +kernel
theorem dX9_placeOf_22 : decode cX9_placeOf 22 = .ok (.iload_n 2, 1) := by decide +kernel
theorem dX9_placeOf_23 : decode cX9_placeOf 23 = .ok (.ifCond .ge 7, 3) := by decide +kernel
theorem dX9_placeOf_26 : decode cX9_placeOf 26 = .ok (.iload_n 3, 1) := by decide +kernel
theorem dX9_placeOf_27 : decode cX9_placeOf 27 = .ok (.goto 4, 3) := by decide +kernel
theorem dX9_placeOf_30 : decode cX9_placeOf 30 = .ok (.iload_n 2, 1) := by decide +kernel
theorem dX9_placeOf_31 : decode cX9_placeOf 31 = .ok (.istore_n 2, 1) := by decide +kernel
theorem dX9_placeOf_32 : decode cX9_placeOf 32 = .ok (.iinc 3 1, 3) := by decide +kernel
theorem dX9_placeOf_35 : decode cX9_placeOf 35 = .ok (.goto (-31), 3) := by decide +kernel
theorem dX9_placeOf_38 : decode cX9_placeOf 38 = .ok (.iload_n 2, 1) := by decide +kernel
theorem dX9_placeOf_39 : decode cX9_placeOf 39 = .ok (.ireturn, 1) := by decide +kernel
set_option maxRecDepth 20000 in
theorem ggX9_change_X9_isLetter : GoodIn wsX9_change wsX9_isLetter := goodIn_r _ [9, 10, 11, 12, 8, 13, 34, 35, 36, 37, 38, 39, 40, 41, 42, 43, 44, 45, 46, 47, 48, 49, 50, 51, 52, 53, 54, 55, 56, 57, 58, 59, 60, 61, 62, 63, 64, 65, 66, 67, 68, 69, 70, 71, 72, 73, 74, 75, 76, 77, 78, 79, 80, 81, 82, 83, 84, 85, 86, 87, 88] (by decide +kernel) (by decide +kernel)
set_option maxRecDepth 20000 in
theorem gX9_change_X9_isLetter : GoodIn wsX9_change (wsV RX9 262 RX9 yX9_isLetter wsX9_isLetter) := goodIn_app (goodIn_of _ (by decide +kernel)) ggX9_change_X9_isLetter
set_option maxRecDepth 20000 in
theorem ggX9_change_X9_findChanges : GoodIn wsX9_change wsX9_findChanges := goodIn_r _ [17, 3, 18, 19, 20, 21, 22, 23, 8, 24, 25, 26, 27, 28, 29, 30, 31, 32, 33, 4, 34, 35, 36, 37, 38, 39, 40, 41, 42, 43, 44, 45, 46, 47, 48, 49, 50, 51, 52, 53, 54, 55, 56, 57, 58, 59, 60, 61, 62, 63, 64, 65, 66, 67, 68, 69, 70, 71, 72, 73, 74, 75, 76, 77, 78, 79, 80, 81, 82, 83, 84, 85, 86, 87, 88] (by decide +kernel) (by decide +kernel)
set_option maxRecDepth 20000 in
theorem gX9_change_X9_findChanges : GoodIn wsX9_change (wsV RX9 277 RX9 yX9_findChanges wsX9_findChanges) := goodIn_app (goodIn_of _ (by decide +kernel)) ggX9_change_X9_findChanges
set_option maxRecDepth 20000 in
theorem ggX9_change_X9_in : GoodIn wsX9_change wsX9_in := goodIn_r _ [13] (by decide +kernel) (by decide +kernel)
set_option maxRecDepth 20000 in
theorem gX9_change_X9_in : GoodIn wsX9_change (va_wsS RX9 105 yX9_in wsX9_in) := goodIn_app (goodIn_of _ (by decide +kernel)) ggX9_change_X9_in
theorem dX9_change_0 : decode cX9_change 0 = .ok (.aload_n 0, 1) := by decide +kernel
theorem dX9_change_1 : decode cX9_change 1 = .ok (.iload_n 1, 1) := by decide +kernel
theorem dX9_change_2 : decode cX9_change 2 = .ok (.invokevirtual 262, 3) := by decide +kernel
theorem dX9_change_5 : decode cX9_change 5 = .ok (.ifCond .ne 6, 3) := by decide +kernel
theorem dX9_change_8 : decode cX9_change 8 = .ok (.ldc 118, 2) := by decide +kernel
theorem dX9_change_10 : decode cX9_change 10 = .ok (.ireturn, 1) := by decide +kernel
theorem dX9_change_11 : decode cX9_change 11 = .ok (.aload_n 0, 1) := by decide +kernel
theorem dX9_change_12 : decode cX9_change 12 = .ok (.iload_n 1, 1) := by decide +kernel
theorem dX9_change_13 : decode cX9_change 13 = .ok (.aload_n 0, 1) := by decide +kernel
theorem dX9_change_14 : decode cX9_change 14 = .ok (.getfield 255, 3) := by decide +kernel
theorem dX9_change_17 : decode cX9_change 17 = .ok (.iconst 1, 1) := by decide +kernel
theorem dX9_change_18 : decode cX9_change 18 = .ok (.if_icmp .ne 7, 3) := by decide +kernel
theorem dX9_change_21 : decode cX9_change 21 = .ok (.iconst 1, 1) := by decide +kernel
theorem dX9_change_22 : decode cX9_change 22 = .ok (.goto 4, 3) := by decide +kernel
theorem dX9_change_25 : decode cX9_change 25 = .ok (.iconst 0, 1) := by decide +kernel
theorem dX9_change_26 : decode cX9_change 26 = .ok (.invokevirtual 277, 3) := by decide +kernel
theorem dX9_change_29 : decode cX9_change 29 = .ok (.iload_n 2, 1) := by decide +kernel
theorem dX9_change_30 : decode cX9_change 30 = .ok (.iconst (-1), 1) := by decide +kernel
theorem dX9_change_31 : decode cX9_change 31 = .ok (.if_icmp .ne 10, 3) := by decide +kernel
theorem dX9_change_34 : decode cX9_change 34 = .ok (.aload_n 0, 1) := by decide +kernel
theorem dX9_change_35 : decode cX9_change 35 = .ok (.getfield 270, 3) := by decide +kernel
theorem dX9_change_38 : decode cX9_change 38 = .ok (.goto 29, 3) := by decide +kernel
theorem dX9_change_41 : decode cX9_change 41 = .ok (.iload_n 2, 1) := by decide +kernel
theorem dX9_change_42 : decode cX9_change 42 = .ok (.i2l, 1) := by decide +kernel
theorem dX9_change_43 : decode cX9_change 43 = .ok (.lconst 0, 1) := by decide +kernel
theorem dX9_change_44 : decode cX9_change 44 = .ok (.aload_n 0, 1) := by decide +kernel
theorem dX9_change_45 : decode cX9_change 45 = .ok (.getfield 270, 3) := by decide +kernel
theorem dX9_change_48 : decode cX9_change 48 = .ok (.iconst 1, 1) := by decide +kernel
theorem dX9_change_49 : decode cX9_change 49 = .ok (.isub, 1) := by decide +kernel
theorem dX9_change_50 : decode cX9_change 50 = .ok (.i2l, 1) := by decide +kernel
theorem dX9_change_51 : decode cX9_change 51 = .ok (.invokestatic 105, 3) := by decide +kernel
theorem dX9_change_54 : decode cX9_change 54 = .ok (.ifCond .eq 12, 3) := by decide +kernel
theorem dX9_change_57 : decode cX9_change 57 = .ok (.aload_n 0, 1) := by decide +kernel
theorem dX9_change_58 : decode cX9_change 58 = .ok (.getfield 60, 3) := by decide +kernel
theorem dX9_change_61 : decode cX9_change 61 = .ok (.iload_n 2, 1) := by decide +kernel
theorem dX9_change_62 : decode cX9_change 62 = .ok (.iaload, 1) := by decide +kernel
theorem dX9_change_63 : decode cX9_change 63 = .ok (.goto 4, 3) := by decide +kernel
theorem dX9_change_66 : decode cX9_change 66 = .ok (.iconst (-1), 1) := by decide +kernel
theorem dX9_change_67 : decode cX9_change 67 = .ok (.ireturn, 1) := by decide +kernel
set_option maxRecDepth 20000 in
theorem ggX9_begin_X9_isHouse : GoodIn wsX9_begin wsX9_isHouse := goodIn_r _ [9, 10, 11, 8, 12] (by decide +kernel) (by decide +kernel)
set_option maxRecDepth 20000 in
theorem gX9_begin_X9_isHouse : GoodIn wsX9_begin (va_wsS RX9 265 yX9_isHouse wsX9_isHouse) := goodIn_app (goodIn_of _ (by decide +kernel)) ggX9_begin_X9_isHouse
set_option maxRecDepth 20000 in
theorem ggX9_begin_X9_isLetter : GoodIn wsX9_begin wsX9_isLetter := goodIn_r _ [16, 17, 10, 11, 8, 12, 18, 19, 20, 21, 22, 23, 24, 25, 26, 27, 28, 29, 30, 31, 32, 33, 34, 35, 36, 37, 38, 39, 40, 41, 42, 43, 44, 45, 46, 47, 48, 49, 50, 51, 52, 53, 54, 55, 56, 57, 58, 59, 60, 61, 62, 63, 64, 65, 66, 67, 68, 69, 70, 71, 72] (by decide +kernel) (by decide +kernel)
set_option maxRecDepth 20000 in
theorem gX9_begin_X9_isLetter : GoodIn wsX9_begin (wsV RX9 262 RX9 yX9_isLetter wsX9_isLetter) := goodIn_app (goodIn_of _ (by decide +kernel)) ggX9_begin_X9_isLetter
theorem dX9_begin_0 : decode cX9_begin 0 = .ok (.iload_n 2, 1) := by decide +kernel
theorem dX9_begin_1 : decode cX9_begin 1 = .ok (.invokestatic 265, 3) := by decide +kernel
theorem dX9_begin_4 : decode cX9_begin 4 = .ok (.ifCond .ne 7, 3) := by decide +kernel
theorem dX9_begin_7 : decode cX9_begin 7 = .ok (.ldc_w 261, 3) := by decide +kernel
theorem dX9_begin_10 : decode cX9_begin 10 = .ok (.ireturn, 1) := by decide +kernel
theorem dX9_begin_11 : decode cX9_begin 11 = .ok (.aload_n 0, 1) := by decide +kernel
theorem dX9_begin_12 : decode cX9_begin 12 = .ok (.iload_n 1, 1) := by decide +kernel
theorem dX9_begin_13 : decode cX9_begin 13 = .ok (.invokevirtual 262, 3) := by decide +kernel
theorem dX9_begin_16 : decode cX9_begin 16 = .ok (.ifCond .ne 6, 3) := by decide +kernel
theorem dX9_begin_19 : decode cX9_begin 19 = .ok (.ldc 118, 2) := by decide +kernel
theorem dX9_begin_21 : decode cX9_begin 21 = .ok (.ireturn, 1) := by decide +kernel
theorem dX9_begin_22 : decode cX9_begin 22 = .ok (.aload_n 0, 1) := by decide +kernel
theorem dX9_begin_23 : decode cX9_begin 23 = .ok (.getfield 219, 3) := by decide +kernel
theorem dX9_begin_26 : decode cX9_begin 26 = .ok (.istore_n 3, 1) := by decide +kernel
theorem dX9_begin_27 : decode cX9_begin 27 = .ok (.aload_n 0, 1) := by decide +kernel
theorem dX9_begin_28 : decode cX9_begin 28 = .ok (.iload_n 1, 1) := by decide +kernel
theorem dX9_begin_29 : decode cX9_begin 29 = .ok (.putfield 219, 3) := by decide +kernel
theorem dX9_begin_32 : decode cX9_begin 32 = .ok (.aload_n 0, 1) := by decide +kernel
theorem dX9_begin_33 : decode cX9_begin 33 = .ok (.iload_n 2, 1) := by decide +kernel
theorem dX9_begin_34 : decode cX9_begin 34 = .ok (.putfield 222, 3) := by decide +kernel
theorem dX9_begin_37 : decode cX9_begin 37 = .ok (.aload_n 0, 1) := by decide +kernel
theorem dX9_begin_38 : decode cX9_begin 38 = .ok (.iconst 0, 1) := by decide +kernel
theorem dX9_begin_39 : decode cX9_begin 39 = .ok (.putfield 225, 3) := by decide +kernel
theorem dX9_begin_42 : decode cX9_begin 42 = .ok (.iload_n 3, 1) := by decide +kernel
theorem dX9_begin_43 : decode cX9_begin 43 = .ok (.ireturn, 1) := by decide +kernel
theorem dX9_sendNow_0 : decode cX9_sendNow 0 = .ok (.aload_n 0, 1) := by decide +kernel
theorem dX9_sendNow_1 : decode cX9_sendNow 1 = .ok (.getfield 229, 3) := by decide +kernel
theorem dX9_sendNow_4 : decode cX9_sendNow 4 = .ok (.bipush 60, 2) := by decide +kernel
theorem dX9_sendNow_6 : decode cX9_sendNow 6 = .ok (.if_icmp .ge 49, 3) := by decide +kernel
theorem dX9_sendNow_9 : decode cX9_sendNow 9 = .ok (.aload_n 0, 1) := by decide +kernel
theorem dX9_sendNow_10 : decode cX9_sendNow 10 = .ok (.getfield 32, 3) := by decide +kernel
theorem dX9_sendNow_13 : decode cX9_sendNow 13 = .ok (.aload_n 0, 1) := by decide +kernel
theorem dX9_sendNow_14 : decode cX9_sendNow 14 = .ok (.getfield 229, 3) := by decide +kernel
theorem dX9_sendNow_17 : decode cX9_sendNow 17 = .ok (.aload_n 0, 1) := by decide +kernel
theorem dX9_sendNow_18 : decode cX9_sendNow 18 = .ok (.getfield 222, 3) := by decide +kernel
theorem dX9_sendNow_21 : decode cX9_sendNow 21 = .ok (.iastore, 1) := by decide +kernel
theorem dX9_sendNow_22 : decode cX9_sendNow 22 = .ok (.aload_n 0, 1) := by decide +kernel
theorem dX9_sendNow_23 : decode cX9_sendNow 23 = .ok (.getfield 35, 3) := by decide +kernel
theorem dX9_sendNow_26 : decode cX9_sendNow 26 = .ok (.aload_n 0, 1) := by decide +kernel
theorem dX9_sendNow_27 : decode cX9_sendNow 27 = .ok (.getfield 229, 3) := by decide +kernel
theorem dX9_sendNow_30 : decode cX9_sendNow 30 = .ok (.aload_n 0, 1) := by decide +kernel
theorem dX9_sendNow_31 : decode cX9_sendNow 31 = .ok (.getfield 219, 3) := by decide +kernel
theorem dX9_sendNow_34 : decode cX9_sendNow 34 = .ok (.iastore, 1) := by decide +kernel
theorem dX9_sendNow_35 : decode cX9_sendNow 35 = .ok (.aload_n 0, 1) := by decide +kernel
theorem dX9_sendNow_36 : decode cX9_sendNow 36 = .ok (.getfield 38, 3) := by decide +kernel
theorem dX9_sendNow_39 : decode cX9_sendNow 39 = .ok (.aload_n 0, 1) := by decide +kernel
theorem dX9_sendNow_40 : decode cX9_sendNow 40 = .ok (.getfield 229, 3) := by decide +kernel
theorem dX9_sendNow_43 : decode cX9_sendNow 43 = .ok (.iload_n 1, 1) := by decide +kernel
theorem dX9_sendNow_44 : decode cX9_sendNow 44 = .ok (.iastore, 1) := by decide +kernel
theorem dX9_sendNow_45 : decode cX9_sendNow 45 = .ok (.aload_n 0, 1) := by decide +kernel
theorem dX9_sendNow_46 : decode cX9_sendNow 46 = .ok (.dup, 1) := by decide +kernel
theorem dX9_sendNow_47 : decode cX9_sendNow 47 = .ok (.getfield 229, 3) := by decide +kernel
theorem dX9_sendNow_50 : decode cX9_sendNow 50 = .ok (.iconst 1, 1) := by decide +kernel
theorem dX9_sendNow_51 : decode cX9_sendNow 51 = .ok (.iadd, 1) := by decide +kernel
theorem dX9_sendNow_52 : decode cX9_sendNow 52 = .ok (.putfield 229, 3) := by decide +kernel
theorem dX9_sendNow_55 : decode cX9_sendNow 55 = .ok (.aload_n 0, 1) := by decide +kernel
theorem dX9_sendNow_56 : decode cX9_sendNow 56 = .ok (.iload_n 1, 1) := by decide +kernel
theorem dX9_sendNow_57 : decode cX9_sendNow 57 = .ok (.putfield 219, 3) := by decide +kernel
theorem dX9_sendNow_60 : decode cX9_sendNow 60 = .ok (.aload_n 0, 1) := by decide +kernel
theorem dX9_sendNow_61 : decode cX9_sendNow 61 = .ok (.iconst 1, 1) := by decide +kernel
theorem dX9_sendNow_62 : decode cX9_sendNow 62 = .ok (.aload_n 0, 1) := by decide +kernel
theorem dX9_sendNow_63 : decode cX9_sendNow 63 = .ok (.getfield 222, 3) := by decide +kernel
theorem dX9_sendNow_66 : decode cX9_sendNow 66 = .ok (.isub, 1) := by decide +kernel
theorem dX9_sendNow_67 : decode cX9_sendNow 67 = .ok (.putfield 222, 3) := by decide +kernel
theorem dX9_sendNow_70 : decode cX9_sendNow 70 = .ok (.return_, 1) := by decide +kernel
set_option maxRecDepth 20000 in
theorem ggX9_send_X9_isLetter : GoodIn wsX9_send wsX9_isLetter := goodIn_r _ [13, 14, 15, 16, 12, 17, 51, 52, 53, 54, 55, 56, 57, 58, 59, 60, 61, 62, 63, 64, 65, 66, 67, 68, 69, 70, 71, 72, 73, 74, 75, 76, 77, 78, 79, 80, 81, 82, 83, 84, 85, 86, 87, 88, 89, 90, 91, 92, 93, 94, 95, 96, 97, 98, 99, 100, 101, 102, 103, 104, 105] (by decide +kernel) (by decide +kernel)
set_option maxRecDepth 20000 in
theorem gX9_send_X9_isLetter : GoodIn wsX9_send (wsV RX9 262 RX9 yX9_isLetter wsX9_isLetter) := goodIn_app (goodIn_of _ (by decide +kernel)) ggX9_send_X9_isLetter
set_option maxRecDepth 20000 in
theorem ggX9_send_X9_findChanges : GoodIn wsX9_send wsX9_findChanges := goodIn_r _ [21, 22, 23, 24, 25, 26, 27, 28, 12, 29, 30, 31, 32, 33, 34, 35, 36, 37, 38, 39, 51, 52, 53, 54, 55, 56, 57, 58, 59, 60, 61, 62, 63, 64, 65, 66, 67, 68, 69, 70, 71, 72, 73, 74, 75, 76, 77, 78, 79, 80, 81, 82, 83, 84, 85, 86, 87, 88, 89, 90, 91, 92, 93, 94, 95, 96, 97, 98, 99, 100, 101, 102, 103, 104, 105] (by decide +kernel) (by decide +kernel)
set_option maxRecDepth 20000 in
theorem gX9_send_X9_findChanges : GoodIn wsX9_send (wsV RX9 277 RX9 yX9_findChanges wsX9_findChanges) := goodIn_app (goodIn_of _ (by decide +kernel)) ggX9_send_X9_findChanges
set_option maxRecDepth 20000 in
theorem ggX9_send_X9_placeOf : GoodIn wsX9_send wsX9_placeOf := goodIn_r _ [43, 22, 39, 51, 52, 53, 54, 55, 56, 57, 58, 59, 60, 61, 62, 63, 64, 65, 66, 67, 68, 69, 70, 71, 72, 73, 74, 75, 76, 77, 78, 79, 80, 81, 82, 83, 84, 85, 86, 87, 88, 89, 90, 91, 92, 93, 94, 95, 96, 97, 98, 99, 100, 101, 102, 103, 104, 105] (by decide +kernel) (by decide +kernel)
set_option maxRecDepth 20000 in
theorem gX9_send_X9_placeOf : GoodIn wsX9_send (wsV RX9 280 RX9 yX9_placeOf wsX9_placeOf) := goodIn_app (goodIn_of _ (by decide +kernel)) ggX9_send_X9_placeOf
set_option maxRecDepth 20000 in
theorem ggX9_send_X9_sendNow : GoodIn wsX9_send wsX9_sendNow := goodIn_r _ [47, 6, 48, 8, 49, 2, 50, 51, 52, 53, 54, 55, 56, 57, 58, 59, 60, 61, 62, 63, 64, 65, 66, 67, 68, 69, 70, 71, 72, 73, 74, 75, 76, 77, 78, 79, 80, 81, 82, 83, 84, 85, 86, 87, 88, 89, 90, 91, 92, 93, 94, 95, 96, 97, 98, 99, 100, 101, 102, 103, 104, 105] (by decide +kernel) (by decide +kernel)
set_option maxRecDepth 20000 in
theorem gX9_send_X9_sendNow : GoodIn wsX9_send (wsV RX9 284 RX9 yX9_sendNow wsX9_sendNow) := goodIn_app (goodIn_of _ (by decide +kernel)) ggX9_send_X9_sendNow
theorem dX9_send_0 : decode cX9_send 0 = .ok (.aload_n 0, 1) := by decide +kernel
theorem dX9_send_1 : decode cX9_send 1 = .ok (.iload_n 1, 1) := by decide +kernel
theorem dX9_send_2 : decode cX9_send 2 = .ok (.invokevirtual 262, 3) := by decide +kernel
theorem dX9_send_5 : decode cX9_send 5 = .ok (.ifCond .ne 6, 3) := by decide +kernel
theorem dX9_send_8 : decode cX9_send 8 = .ok (.ldc 118, 2) := by decide +kernel
theorem dX9_send_10 : decode cX9_send 10 = .ok (.ireturn, 1) := by decide +kernel
theorem dX9_send_11 : decode cX9_send 11 = .ok (.aload_n 0, 1) := by decide +kernel
theorem dX9_send_12 : decode cX9_send 12 = .ok (.aload_n 0, 1) := by decide +kernel
theorem dX9_send_13 : decode cX9_send 13 = .ok (.getfield 219, 3) := by decide +kernel
theorem dX9_send_16 : decode cX9_send 16 = .ok (.aload_n 0, 1) := by decide +kernel
theorem dX9_send_17 : decode cX9_send 17 = .ok (.getfield 255, 3) := by decide +kernel
theorem dX9_send_20 : decode cX9_send 20 = .ok (.iconst 1, 1) := by decide +kernel
theorem dX9_send_21 : decode cX9_send 21 = .ok (.if_icmp .ne 7, 3) := by decide +kernel
theorem dX9_send_24 : decode cX9_send 24 = .ok (.iconst 1, 1) := by decide +kernel
theorem dX9_send_25 : decode cX9_send 25 = .ok (.goto 4, 3) := by decide +kernel
theorem dX9_send_28 : decode cX9_send 28 = .ok (.iconst 0, 1) := by decide +kernel
theorem dX9_send_29 : decode cX9_send 29 = .ok (.invokevirtual 277, 3) := by decide +kernel
theorem dX9_send_32 : decode cX9_send 32 = .ok (.aload_n 0, 1) := by decide +kernel
theorem dX9_send_33 : decode cX9_send 33 = .ok (.getfield 225, 3) := by decide +kernel
theorem dX9_send_36 : decode cX9_send 36 = .ok (.ifCond .ne 11, 3) := by decide +kernel
theorem dX9_send_39 : decode cX9_send 39 = .ok (.aload_n 0, 1) := by decide +kernel
theorem dX9_send_40 : decode cX9_send 40 = .ok (.iload_n 1, 1) := by decide +kernel
theorem dX9_send_41 : decode cX9_send 41 = .ok (.invokevirtual 280, 3) := by decide +kernel
theorem dX9_send_44 : decode cX9_send 44 = .ok (.ifCond .ge 7, 3) := by decide +kernel
theorem dX9_send_47 : decode cX9_send 47 = .ok (.ldc_w 283, 3) := by decide +kernel
theorem dX9_send_50 : decode cX9_send 50 = .ok (.ireturn, 1) := by decide +kernel
theorem dX9_send_51 : decode cX9_send 51 = .ok (.aload_n 0, 1) := by decide +kernel
theorem dX9_send_52 : decode cX9_send 52 = .ok (.getfield 229, 3) := by decide +kernel
theorem dX9_send_55 : decode cX9_send 55 = .ok (.bipush 60, 2) := by decide +kernel
theorem dX9_send_57 : decode cX9_send 57 = .ok (.if_icmp .ne 6, 3) := by decide +kernel
theorem dX9_send_60 : decode cX9_send 60 = .ok (.ldc 122, 2) := by decide +kernel
theorem dX9_send_62 : decode cX9_send 62 = .ok (.ireturn, 1) := by decide +kernel
theorem dX9_send_63 : decode cX9_send 63 = .ok (.aload_n 0, 1) := by decide +kernel
theorem dX9_send_64 : decode cX9_send 64 = .ok (.iload_n 1, 1) := by decide +kernel
theorem dX9_send_65 : decode cX9_send 65 = .ok (.invokevirtual 284, 3) := by decide +kernel
theorem dX9_send_68 : decode cX9_send 68 = .ok (.aload_n 0, 1) := by decide +kernel
theorem dX9_send_69 : decode cX9_send 69 = .ok (.getfield 222, 3) := by decide +kernel
theorem dX9_send_72 : decode cX9_send 72 = .ok (.ireturn, 1) := by decide +kernel
theorem dX9_haveBoth_0 : decode cX9_haveBoth 0 = .ok (.aload_n 0, 1) := by decide +kernel
theorem dX9_haveBoth_1 : decode cX9_haveBoth 1 = .ok (.getfield 29, 3) := by decide +kernel
theorem dX9_haveBoth_4 : decode cX9_haveBoth 4 = .ok (.iconst 0, 1) := by decide +kernel
theorem dX9_haveBoth_5 : decode cX9_haveBoth 5 = .ok (.dup2, 1) := by decide +kernel
theorem dX9_haveBoth_6 : decode cX9_haveBoth 6 = .ok (.iaload, 1) := by decide +kernel
theorem dX9_haveBoth_7 : decode cX9_haveBoth 7 = .ok (.aload_n 0, 1) := by decide +kernel
theorem dX9_haveBoth_8 : decode cX9_haveBoth 8 = .ok (.getfield 26, 3) := by decide +kernel
theorem dX9_haveBoth_11 : decode cX9_haveBoth 11 = .ok (.iconst 2, 1) := by decide +kernel
theorem dX9_haveBoth_12 : decode cX9_haveBoth 12 = .ok (.aload_n 0, 1) := by decide +kernel
theorem dX9_haveBoth_13 : decode cX9_haveBoth 13 = .ok (.getfield 219, 3) := by decide +kernel
theorem dX9_haveBoth_16 : decode cX9_haveBoth 16 = .ok (.imul, 1) := by decide +kernel
theorem dX9_haveBoth_17 : decode cX9_haveBoth 17 = .ok (.iaload, 1) := by decide +kernel
theorem dX9_haveBoth_18 : decode cX9_haveBoth 18 = .ok (.iadd, 1) := by decide +kernel
theorem dX9_haveBoth_19 : decode cX9_haveBoth 19 = .ok (.iastore, 1) := by decide +kernel
theorem dX9_haveBoth_20 : decode cX9_haveBoth 20 = .ok (.aload_n 0, 1) := by decide +kernel
theorem dX9_haveBoth_21 : decode cX9_haveBoth 21 = .ok (.getfield 29, 3) := by decide +kernel
theorem dX9_haveBoth_24 : decode cX9_haveBoth 24 = .ok (.iconst 1, 1) := by decide +kernel
theorem dX9_haveBoth_25 : decode cX9_haveBoth 25 = .ok (.dup2, 1) := by decide +kernel
theorem dX9_haveBoth_26 : decode cX9_haveBoth 26 = .ok (.iaload, 1) := by decide +kernel
theorem dX9_haveBoth_27 : decode cX9_haveBoth 27 = .ok (.aload_n 0, 1) := by decide +kernel
theorem dX9_haveBoth_28 : decode cX9_haveBoth 28 = .ok (.getfield 26, 3) := by decide +kernel
theorem dX9_haveBoth_31 : decode cX9_haveBoth 31 = .ok (.iconst 2, 1) := by decide +kernel
theorem dX9_haveBoth_32 : decode cX9_haveBoth 32 = .ok (.aload_n 0, 1) := by decide +kernel
theorem dX9_haveBoth_33 : decode cX9_haveBoth 33 = .ok (.getfield 219, 3) := by decide +kernel
theorem dX9_haveBoth_36 : decode cX9_haveBoth 36 = .ok (.imul, 1) := by decide +kernel
theorem dX9_haveBoth_37 : decode cX9_haveBoth 37 = .ok (.iconst 1, 1) := by decide +kernel
theorem dX9_haveBoth_38 : decode cX9_haveBoth 38 = .ok (.iadd, 1) := by decide +kernel
theorem dX9_haveBoth_39 : decode cX9_haveBoth 39 = .ok (.iaload, 1) := by decide +kernel
theorem dX9_haveBoth_40 : decode cX9_haveBoth 40 = .ok (.iadd, 1) := by decide +kernel
theorem dX9_haveBoth_41 : decode cX9_haveBoth 41 = .ok (.iastore, 1) := by decide +kernel
theorem dX9_haveBoth_42 : decode cX9_haveBoth 42 = .ok (.return_, 1) := by decide +kernel
set_option maxRecDepth 20000 in
theorem ggX9_settle_X9_haveBoth : GoodIn wsX9_settle wsX9_haveBoth := goodIn_r _ [11, 12, 4, 5, 13, 14, 15, 16, 17, 18, 19, 20, 21, 22, 23, 24, 25, 26, 27, 28, 29, 30, 31, 32, 33, 34, 35, 36, 37, 38, 39, 40, 41, 42, 43, 44, 45, 46, 47, 48, 49, 50, 51, 52, 53, 54, 55, 56, 57, 58, 59, 60, 61, 62, 63, 64, 65, 66, 67] (by decide +kernel) (by decide +kernel)
set_option maxRecDepth 20000 in
theorem gX9_settle_X9_haveBoth : GoodIn wsX9_settle (wsV RX9 288 RX9 yX9_haveBoth wsX9_haveBoth) := goodIn_app (goodIn_of _ (by decide +kernel)) ggX9_settle_X9_haveBoth
theorem dX9_settle_0 : decode cX9_settle 0 = .ok (.aload_n 0, 1) := by decide +kernel
theorem dX9_settle_1 : decode cX9_settle 1 = .ok (.getfield 225, 3) := by decide +kernel
theorem dX9_settle_4 : decode cX9_settle 4 = .ok (.ifCond .ne 10, 3) := by decide +kernel
theorem dX9_settle_7 : decode cX9_settle 7 = .ok (.aload_n 0, 1) := by decide +kernel
theorem dX9_settle_8 : decode cX9_settle 8 = .ok (.getfield 102, 3) := by decide +kernel
theorem dX9_settle_11 : decode cX9_settle 11 = .ok (.ifCond .ne 7, 3) := by decide +kernel
theorem dX9_settle_14 : decode cX9_settle 14 = .ok (.ldc_w 283, 3) := by decide +kernel
theorem dX9_settle_17 : decode cX9_settle 17 = .ok (.ireturn, 1) := by decide +kernel
theorem dX9_settle_18 : decode cX9_settle 18 = .ok (.aload_n 0, 1) := by decide +kernel
theorem dX9_settle_19 : decode cX9_settle 19 = .ok (.invokevirtual 288, 3) := by decide +kernel
theorem dX9_settle_22 : decode cX9_settle 22 = .ok (.aload_n 0, 1) := by decide +kernel
theorem dX9_settle_23 : decode cX9_settle 23 = .ok (.iconst 1, 1) := by decide +kernel
theorem dX9_settle_24 : decode cX9_settle 24 = .ok (.putfield 225, 3) := by decide +kernel
theorem dX9_settle_27 : decode cX9_settle 27 = .ok (.aload_n 0, 1) := by decide +kernel
theorem dX9_settle_28 : decode cX9_settle 28 = .ok (.getfield 26, 3) := by decide +kernel
theorem dX9_settle_31 : decode cX9_settle 31 = .ok (.iconst 2, 1) := by decide +kernel
theorem dX9_settle_32 : decode cX9_settle 32 = .ok (.aload_n 0, 1) := by decide +kernel
theorem dX9_settle_33 : decode cX9_settle 33 = .ok (.getfield 219, 3) := by decide +kernel
theorem dX9_settle_36 : decode cX9_settle 36 = .ok (.imul, 1) := by decide +kernel
theorem dX9_settle_37 : decode cX9_settle 37 = .ok (.aload_n 0, 1) := by decide +kernel
theorem dX9_settle_38 : decode cX9_settle 38 = .ok (.getfield 222, 3) := by decide +kernel
theorem dX9_settle_41 : decode cX9_settle 41 = .ok (.iadd, 1) := by decide +kernel
theorem dX9_settle_42 : decode cX9_settle 42 = .ok (.iaload, 1) := by decide +kernel
theorem dX9_settle_43 : decode cX9_settle 43 = .ok (.ireturn, 1) := by decide +kernel
set_option maxRecDepth 20000 in
theorem ggX9_had_X9_isHouse : GoodIn wsX9_had wsX9_isHouse := goodIn_r _ [6, 7, 8, 5, 9] (by decide +kernel) (by decide +kernel)
set_option maxRecDepth 20000 in
theorem gX9_had_X9_isHouse : GoodIn wsX9_had (va_wsS RX9 265 yX9_isHouse wsX9_isHouse) := goodIn_app (goodIn_of _ (by decide +kernel)) ggX9_had_X9_isHouse
theorem dX9_had_0 : decode cX9_had 0 = .ok (.iload_n 1, 1) := by decide +kernel
theorem dX9_had_1 : decode cX9_had 1 = .ok (.invokestatic 265, 3) := by decide +kernel
theorem dX9_had_4 : decode cX9_had 4 = .ok (.ifCond .eq 12, 3) := by decide +kernel
theorem dX9_had_7 : decode cX9_had 7 = .ok (.aload_n 0, 1) := by decide +kernel
theorem dX9_had_8 : decode cX9_had 8 = .ok (.getfield 29, 3) := by decide +kernel
theorem dX9_had_11 : decode cX9_had 11 = .ok (.iload_n 1, 1) := by decide +kernel
theorem dX9_had_12 : decode cX9_had 12 = .ok (.iaload, 1) := by decide +kernel
theorem dX9_had_13 : decode cX9_had 13 = .ok (.goto 6, 3) := by decide +kernel
theorem dX9_had_16 : decode cX9_had 16 = .ok (.ldc_w 261, 3) := by decide +kernel
theorem dX9_had_19 : decode cX9_had 19 = .ok (.ireturn, 1) := by decide +kernel
set_option maxRecDepth 20000 in
theorem ggX9_log_X9_in : GoodIn wsX9_log wsX9_in := goodIn_r _ [10] (by decide +kernel) (by decide +kernel)
set_option maxRecDepth 20000 in
theorem gX9_log_X9_in : GoodIn wsX9_log (va_wsS RX9 105 yX9_in wsX9_in) := goodIn_app (goodIn_of _ (by decide +kernel)) ggX9_log_X9_in
theorem dX9_log_0 : decode cX9_log 0 = .ok (.iload_n 2, 1) := by decide +kernel
theorem dX9_log_1 : decode cX9_log 1 = .ok (.i2l, 1) := by decide +kernel
theorem dX9_log_2 : decode cX9_log 2 = .ok (.lconst 0, 1) := by decide +kernel
theorem dX9_log_3 : decode cX9_log 3 = .ok (.ldc2_w 268, 3) := by decide +kernel
theorem dX9_log_6 : decode cX9_log 6 = .ok (.invokestatic 105, 3) := by decide +kernel
theorem dX9_log_9 : decode cX9_log 9 = .ok (.ifCond .ne 6, 3) := by decide +kernel
theorem dX9_log_12 : decode cX9_log 12 = .ok (.ldc 118, 2) := by decide +kernel
theorem dX9_log_14 : decode cX9_log 14 = .ok (.ireturn, 1) := by decide +kernel
theorem dX9_log_15 : decode cX9_log 15 = .ok (.iload_n 1, 1) := by decide +kernel
theorem dX9_log_16 : decode cX9_log 16 = .ok (.i2l, 1) := by decide +kernel
theorem dX9_log_17 : decode cX9_log 17 = .ok (.lconst 0, 1) := by decide +kernel
theorem dX9_log_18 : decode cX9_log 18 = .ok (.aload_n 0, 1) := by decide +kernel
theorem dX9_log_19 : decode cX9_log 19 = .ok (.getfield 229, 3) := by decide +kernel
theorem dX9_log_22 : decode cX9_log 22 = .ok (.iconst 1, 1) := by decide +kernel
theorem dX9_log_23 : decode cX9_log 23 = .ok (.isub, 1) := by decide +kernel
theorem dX9_log_24 : decode cX9_log 24 = .ok (.i2l, 1) := by decide +kernel
theorem dX9_log_25 : decode cX9_log 25 = .ok (.invokestatic 105, 3) := by decide +kernel
theorem dX9_log_28 : decode cX9_log 28 = .ok (.ifCond .ne 7, 3) := by decide +kernel
theorem dX9_log_31 : decode cX9_log 31 = .ok (.iconst (-1), 1) := by decide +kernel
theorem dX9_log_32 : decode cX9_log 32 = .ok (.goto 36, 3) := by decide +kernel
theorem dX9_log_35 : decode cX9_log 35 = .ok (.iload_n 2, 1) := by decide +kernel
theorem dX9_log_36 : decode cX9_log 36 = .ok (.ifCond .ne 12, 3) := by decide +kernel
theorem dX9_log_39 : decode cX9_log 39 = .ok (.aload_n 0, 1) := by decide +kernel
theorem dX9_log_40 : decode cX9_log 40 = .ok (.getfield 32, 3) := by decide +kernel
theorem dX9_log_43 : decode cX9_log 43 = .ok (.iload_n 1, 1) := by decide +kernel
theorem dX9_log_44 : decode cX9_log 44 = .ok (.iaload, 1) := by decide +kernel
theorem dX9_log_45 : decode cX9_log 45 = .ok (.goto 23, 3) := by decide +kernel
theorem dX9_log_48 : decode cX9_log 48 = .ok (.iload_n 2, 1) := by decide +kernel
theorem dX9_log_49 : decode cX9_log 49 = .ok (.iconst 1, 1) := by decide +kernel
theorem dX9_log_50 : decode cX9_log 50 = .ok (.if_icmp .ne 12, 3) := by decide +kernel
theorem dX9_log_53 : decode cX9_log 53 = .ok (.aload_n 0, 1) := by decide +kernel
theorem dX9_log_54 : decode cX9_log 54 = .ok (.getfield 35, 3) := by decide +kernel
theorem dX9_log_57 : decode cX9_log 57 = .ok (.iload_n 1, 1) := by decide +kernel
theorem dX9_log_58 : decode cX9_log 58 = .ok (.iaload, 1) := by decide +kernel
theorem dX9_log_59 : decode cX9_log 59 = .ok (.goto 9, 3) := by decide +kernel
theorem dX9_log_62 : decode cX9_log 62 = .ok (.aload_n 0, 1) := by decide +kernel
theorem dX9_log_63 : decode cX9_log 63 = .ok (.getfield 38, 3) := by decide +kernel
theorem dX9_log_66 : decode cX9_log 66 = .ok (.iload_n 1, 1) := by decide +kernel
theorem dX9_log_67 : decode cX9_log 67 = .ok (.iaload, 1) := by decide +kernel
theorem dX9_log_68 : decode cX9_log 68 = .ok (.ireturn, 1) := by decide +kernel
set_option maxRecDepth 20000 in
theorem ggX9_fewest_X9_isLetter : GoodIn wsX9_fewest wsX9_isLetter := goodIn_r _ [12, 2, 13, 14, 11, 15, 35, 36, 37, 38, 39, 40, 41, 42, 43, 44, 45, 46, 47, 48, 49, 50, 51, 52, 53, 54, 55, 56, 57, 58, 59, 60, 61, 62, 63, 64, 65, 66, 67, 68, 69, 70, 71, 72, 73, 74, 75, 76, 77, 78, 79, 80, 81, 82, 83, 84, 85, 86, 87, 88, 89] (by decide +kernel) (by decide +kernel)
set_option maxRecDepth 20000 in
theorem gX9_fewest_X9_isLetter : GoodIn wsX9_fewest (wsV RX9 262 RX9 yX9_isLetter wsX9_isLetter) := goodIn_app (goodIn_of _ (by decide +kernel)) ggX9_fewest_X9_isLetter
set_option maxRecDepth 20000 in
theorem ggX9_fewest_X9_findChanges : GoodIn wsX9_fewest wsX9_findChanges := goodIn_r _ [19, 6, 20, 21, 22, 23, 24, 25, 11, 26, 27, 28, 29, 30, 31, 32, 33, 34, 5, 7, 35, 36, 37, 38, 39, 40, 41, 42, 43, 44, 45, 46, 47, 48, 49, 50, 51, 52, 53, 54, 55, 56, 57, 58, 59, 60, 61, 62, 63, 64, 65, 66, 67, 68, 69, 70, 71, 72, 73, 74, 75, 76, 77, 78, 79, 80, 81, 82, 83, 84, 85, 86, 87, 88, 89] (by decide +kernel) (by decide +kernel)
set_option maxRecDepth 20000 in
theorem gX9_fewest_X9_findChanges : GoodIn wsX9_fewest (wsV RX9 277 RX9 yX9_findChanges wsX9_findChanges) := goodIn_app (goodIn_of _ (by decide +kernel)) ggX9_fewest_X9_findChanges
theorem dX9_fewest_0 : decode cX9_fewest 0 = .ok (.aload_n 0, 1) := by decide +kernel
theorem dX9_fewest_1 : decode cX9_fewest 1 = .ok (.iload_n 1, 1) := by decide +kernel
theorem dX9_fewest_2 : decode cX9_fewest 2 = .ok (.invokevirtual 262, 3) := by decide +kernel
theorem dX9_fewest_5 : decode cX9_fewest 5 = .ok (.ifCond .eq 11, 3) := by decide +kernel
theorem dX9_fewest_8 : decode cX9_fewest 8 = .ok (.aload_n 0, 1) := by decide +kernel
theorem dX9_fewest_9 : decode cX9_fewest 9 = .ok (.iload_n 2, 1) := by decide +kernel
theorem dX9_fewest_10 : decode cX9_fewest 10 = .ok (.invokevirtual 262, 3) := by decide +kernel
theorem dX9_fewest_13 : decode cX9_fewest 13 = .ok (.ifCond .ne 6, 3) := by decide +kernel
theorem dX9_fewest_16 : decode cX9_fewest 16 = .ok (.ldc 118, 2) := by decide +kernel
theorem dX9_fewest_18 : decode cX9_fewest 18 = .ok (.ireturn, 1) := by decide +kernel
theorem dX9_fewest_19 : decode cX9_fewest 19 = .ok (.iconst 0, 1) := by decide +kernel
theorem dX9_fewest_20 : decode cX9_fewest 20 = .ok (.istore 4, 2) := by decide +kernel
theorem dX9_fewest_22 : decode cX9_fewest 22 = .ok (.iload 4, 2) := by decide +kernel
theorem dX9_fewest_24 : decode cX9_fewest 24 = .ok (.aload_n 0, 1) := by decide +kernel
theorem dX9_fewest_25 : decode cX9_fewest 25 = .ok (.getfield 102, 3) := by decide +kernel
theorem dX9_fewest_28 : decode cX9_fewest 28 = .ok (.if_icmp .ge 17, 3) := by decide +kernel
theorem dX9_fewest_31 : decode cX9_fewest 31 = .ok (.aload_n 0, 1) := by decide +kernel
theorem dX9_fewest_32 : decode cX9_fewest 32 = .ok (.getfield 66, 3) := by decide +kernel
theorem dX9_fewest_35 : decode cX9_fewest 35 = .ok (.iload 4, 2) := by decide +kernel
theorem dX9_fewest_37 : decode cX9_fewest 37 = .ok (.iconst (-1), 1) := by decide +kernel
theorem dX9_fewest_38 : decode cX9_fewest 38 = .ok (.iastore, 1) := by decide +kernel
theorem dX9_fewest_39 : decode cX9_fewest 39 = .ok (.iinc 4 1, 3) := by decide +kernel
theorem dX9_fewest_42 : decode cX9_fewest 42 = .ok (.goto (-20), 3) := by decide +kernel
theorem dX9_fewest_45 : decode cX9_fewest 45 = .ok (.aload_n 0, 1) := by decide +kernel
theorem dX9_fewest_46 : decode cX9_fewest 46 = .ok (.getfield 66, 3) := by decide +kernel
theorem dX9_fewest_49 : decode cX9_fewest 49 = .ok (.iload_n 1, 1) := by decide +kernel
theorem dX9_fewest_50 : decode cX9_fewest 50 = .ok (.iconst 0, 1) := by decide +kernel
theorem dX9_fewest_51 : decode cX9_fewest 51 = .ok (.iastore, 1) := by decide +kernel
theorem dX9_fewest_52 : decode cX9_fewest 52 = .ok (.aload_n 0, 1) := by decide +kernel
theorem dX9_fewest_53 : decode cX9_fewest 53 = .ok (.getfield 63, 3) := by decide +kernel
theorem dX9_fewest_56 : decode cX9_fewest 56 = .ok (.iconst 0, 1) := by decide +kernel
theorem dX9_fewest_57 : decode cX9_fewest 57 = .ok (.iload_n 1, 1) := by decide +kernel
theorem dX9_fewest_58 : decode cX9_fewest 58 = .ok (.iastore, 1) := by decide +kernel
theorem dX9_fewest_59 : decode cX9_fewest 59 = .ok (.iconst 0, 1) := by decide +kernel
theorem dX9_fewest_60 : decode cX9_fewest 60 = .ok (.istore 4, 2) := by decide +kernel
theorem dX9_fewest_62 : decode cX9_fewest 62 = .ok (.iconst 1, 1) := by decide +kernel
theorem dX9_fewest_63 : decode cX9_fewest 63 = .ok (.istore 5, 2) := by decide +kernel
theorem dX9_fewest_65 : decode cX9_fewest 65 = .ok (.iload 4, 2) := by decide +kernel
theorem dX9_fewest_67 : decode cX9_fewest 67 = .ok (.iload 5, 2) := by decide +kernel
theorem dX9_fewest_69 : decode cX9_fewest 69 = .ok (.if_icmp .ge 142, 3) := by decide +kernel
theorem dX9_fewest_72 : decode cX9_fewest 72 = .ok (.aload_n 0, 1) := by decide +kernel
theorem dX9_fewest_73 : decode cX9_fewest 73 = .ok (.getfield 63, 3) := by decide +kernel
theorem dX9_fewest_76 : decode cX9_fewest 76 = .ok (.iload 4, 2) := by decide +kernel
theorem dX9_fewest_78 : decode cX9_fewest 78 = .ok (.iaload, 1) := by decide +kernel
theorem dX9_fewest_79 : decode cX9_fewest 79 = .ok (.istore 6, 2) := by decide +kernel
theorem dX9_fewest_81 : decode cX9_fewest 81 = .ok (.iinc 4 1, 3) := by decide +kernel
theorem dX9_fewest_84 : decode cX9_fewest 84 = .ok (.iload 6, 2) := by decide +kernel
theorem dX9_fewest_86 : decode cX9_fewest 86 = .ok (.iload_n 1, 1) := by decide +kernel
theorem dX9_fewest_87 : decode cX9_fewest 87 = .ok (.if_icmp .eq 17, 3) := by decide +kernel
theorem dX9_fewest_90 : decode cX9_fewest 90 = .ok (.iload_n 3, 1) := by decide +kernel
theorem dX9_fewest_91 : decode cX9_fewest 91 = .ok (.ifCond .ne 13, 3) := by decide +kernel
theorem dX9_fewest_94 : decode cX9_fewest 94 = .ok (.aload_n 0, 1) := by decide +kernel
theorem dX9_fewest_95 : decode cX9_fewest 95 = .ok (.getfield 22, 3) := by decide +kernel
theorem dX9_fewest_98 : decode cX9_fewest 98 = .ok (.iload 6, 2) := by decide +kernel
theorem dX9_fewest_100 : decode cX9_fewest 100 = .ok (.baload, 1) := by decide +kernel
theorem dX9_fewest_101 : decode cX9_fewest 101 = .ok (.ifCond .eq 7, 3) := by decide +kernel
theorem dX9_fewest_104 : decode cX9_fewest 104 = .ok (.iconst 1, 1) := by decide +kernel
theorem dX9_fewest_105 : decode cX9_fewest 105 = .ok (.goto 4, 3) := by decide +kernel
theorem dX9_fewest_108 : decode cX9_fewest 108 = .ok (.iconst 0, 1) := by decide +kernel
theorem dX9_fewest_109 : decode cX9_fewest 109 = .ok (.istore 7, 2) := by decide +kernel
theorem dX9_fewest_111 : decode cX9_fewest 111 = .ok (.iload 6, 2) := by decide +kernel
theorem dX9_fewest_113 : decode cX9_fewest 113 = .ok (.iload_n 2, 1) := by decide +kernel
theorem dX9_fewest_114 : decode cX9_fewest 114 = .ok (.if_icmp .ne 11, 3) := by decide +kernel
theorem dX9_fewest_117 : decode cX9_fewest 117 = .ok (.aload_n 0, 1) := by decide +kernel
theorem dX9_fewest_118 : decode cX9_fewest 118 = .ok (.getfield 66, 3) := by decide +kernel
theorem dX9_fewest_121 : decode cX9_fewest 121 = .ok (.iload 6, 2) := by decide +kernel
theorem dX9_fewest_123 : decode cX9_fewest 123 = .ok (.iaload, 1) := by decide +kernel
theorem dX9_fewest_124 : decode cX9_fewest 124 = .ok (.ireturn, 1) := by decide +kernel
theorem dX9_fewest_125 : decode cX9_fewest 125 = .ok (.aload_n 0, 1) := by decide +kernel
theorem dX9_fewest_126 : decode cX9_fewest 126 = .ok (.iload 6, 2) := by decide +kernel
theorem dX9_fewest_128 : decode cX9_fewest 128 = .ok (.iconst 1, 1) := by decide +kernel
theorem dX9_fewest_129 : decode cX9_fewest 129 = .ok (.invokevirtual 277, 3) := by decide +kernel
theorem dX9_fewest_132 : decode cX9_fewest 132 = .ok (.iconst 0, 1) := by decide +kernel
theorem dX9_fewest_133 : decode cX9_fewest 133 = .ok (.istore 8, 2) := by decide +kernel
theorem dX9_fewest_135 : decode cX9_fewest 135 = .ok (.iload 8, 2) := by decide +kernel
theorem dX9_fewest_137 : decode cX9_fewest 137 = .ok (.aload_n 0, 1) := by decide +kernel
theorem dX9_fewest_138 : decode cX9_fewest 138 = .ok (.getfield 270, 3) := by decide +kernel
theorem dX9_fewest_141 : decode cX9_fewest 141 = .ok (.if_icmp .ge 67, 3) := by decide +kernel
theorem dX9_fewest_144 : decode cX9_fewest 144 = .ok (.iload 7, 2) := by decide +kernel
theorem dX9_fewest_146 : decode cX9_fewest 146 = .ok (.ifCond .eq 62, 3) := by decide +kernel
theorem dX9_fewest_149 : decode cX9_fewest 149 = .ok (.aload_n 0, 1) := by decide +kernel
theorem dX9_fewest_150 : decode cX9_fewest 150 = .ok (.getfield 66, 3) := by decide +kernel
theorem dX9_fewest_153 : decode cX9_fewest 153 = .ok (.aload_n 0, 1) := by decide +kernel
theorem dX9_fewest_154 : decode cX9_fewest 154 = .ok (.getfield 60, 3) := by decide +kernel
theorem dX9_fewest_157 : decode cX9_fewest 157 = .ok (.iload 8, 2) := by decide +kernel
theorem dX9_fewest_159 : decode cX9_fewest 159 = .ok (.iaload, 1) := by decide +kernel
theorem dX9_fewest_160 : decode cX9_fewest 160 = .ok (.iaload, 1) := by decide +kernel
theorem dX9_fewest_161 : decode cX9_fewest 161 = .ok (.ifCond .ge 41, 3) := by decide +kernel
theorem dX9_fewest_164 : decode cX9_fewest 164 = .ok (.aload_n 0, 1) := by decide +kernel
theorem dX9_fewest_165 : decode cX9_fewest 165 = .ok (.getfield 66, 3) := by decide +kernel
theorem dX9_fewest_168 : decode cX9_fewest 168 = .ok (.aload_n 0, 1) := by decide +kernel
theorem dX9_fewest_169 : decode cX9_fewest 169 = .ok (.getfield 60, 3) := by decide +kernel
theorem dX9_fewest_172 : decode cX9_fewest 172 = .ok (.iload 8, 2) := by decide +kernel
theorem dX9_fewest_174 : decode cX9_fewest 174 = .ok (.iaload, 1) := by decide +kernel
theorem dX9_fewest_175 : decode cX9_fewest 175 = .ok (.aload_n 0, 1) := by decide +kernel
theorem dX9_fewest_176 : decode cX9_fewest 176 = .ok (.getfield 66, 3) := by decide +kernel
theorem dX9_fewest_179 : decode cX9_fewest 179 = .ok (.iload 6, 2) := by decide +kernel
theorem dX9_fewest_181 : decode cX9_fewest 181 = .ok (.iaload, 1) := by decide +kernel
theorem dX9_fewest_182 : decode cX9_fewest 182 = .ok (.iconst 1, 1) := by decide +kernel
theorem dX9_fewest_183 : decode cX9_fewest 183 = .ok (.iadd, 1) := by decide +kernel
theorem dX9_fewest_184 : decode cX9_fewest 184 = .ok (.iastore, 1) := by decide +kernel
theorem dX9_fewest_185 : decode cX9_fewest 185 = .ok (.aload_n 0, 1) := by decide +kernel
theorem dX9_fewest_186 : decode cX9_fewest 186 = .ok (.getfield 63, 3) := by decide +kernel
theorem dX9_fewest_189 : decode cX9_fewest 189 = .ok (.iload 5, 2) := by decide +kernel
theorem dX9_fewest_191 : decode cX9_fewest 191 = .ok (.aload_n 0, 1) := by decide +kernel
theorem dX9_fewest_192 : decode cX9_fewest 192 = .ok (.getfield 60, 3) := by decide +kernel
theorem dX9_fewest_195 : decode cX9_fewest 195 = .ok (.iload 8, 2) := by decide +kernel
theorem dX9_fewest_197 : decode cX9_fewest 197 = .ok (.iaload, 1) := by decide +kernel
theorem dX9_fewest_198 : decode cX9_fewest 198 = .ok (.iastore, 1) := by decide +kernel
theorem dX9_fewest_199 : decode cX9_fewest 199 = .ok (.iinc 5 1, 3) := by decide +kernel
theorem dX9_fewest_202 : decode cX9_fewest 202 = .ok (.iinc 8 1, 3) := by decide +kernel
theorem dX9_fewest_205 : decode cX9_fewest 205 = .ok (.goto (-70), 3) := by decide +kernel
theorem dX9_fewest_208 : decode cX9_fewest 208 = .ok (.goto (-143), 3) := by decide +kernel
theorem dX9_fewest_211 : decode cX9_fewest 211 = .ok (.iconst (-1), 1) := by decide +kernel
theorem dX9_fewest_212 : decode cX9_fewest 212 = .ok (.ireturn, 1) := by decide +kernel
set_option maxRecDepth 20000 in
theorem ggX9_isStill_X9_findChanges : GoodIn wsX9_isStill wsX9_findChanges := goodIn_r _ [10, 3, 11, 12, 13, 14, 15, 16, 9, 17, 18, 19, 20, 21, 22, 23, 24, 25, 2, 5, 26, 27, 28, 29, 30, 31, 32, 33, 34, 35, 36, 37, 38, 39, 40, 41, 42, 43, 44, 45, 46, 47, 48, 49, 50, 51, 52, 53, 54, 55, 56, 57, 58, 59, 60, 61, 62, 63, 64, 65, 66, 67, 68, 69, 70, 71, 72, 73, 74, 75, 76, 77, 78, 79, 80] (by decide +kernel) (by decide +kernel)
set_option maxRecDepth 20000 in
theorem gX9_isStill_X9_findChanges : GoodIn wsX9_isStill (wsV RX9 277 RX9 yX9_findChanges wsX9_findChanges) := goodIn_app (goodIn_of _ (by decide +kernel)) ggX9_isStill_X9_findChanges
theorem dX9_isStill_0 : decode cX9_isStill 0 = .ok (.aload_n 0, 1) := by decide +kernel
theorem dX9_isStill_1 : decode cX9_isStill 1 = .ok (.iload_n 1, 1) := by decide +kernel
theorem dX9_isStill_2 : decode cX9_isStill 2 = .ok (.aload_n 0, 1) := by decide +kernel
theorem dX9_isStill_3 : decode cX9_isStill 3 = .ok (.getfield 255, 3) := by decide +kernel
theorem dX9_isStill_6 : decode cX9_isStill 6 = .ok (.iconst 1, 1) := by decide +kernel
theorem dX9_isStill_7 : decode cX9_isStill 7 = .ok (.if_icmp .ne 7, 3) := by decide +kernel
theorem dX9_isStill_10 : decode cX9_isStill 10 = .ok (.iconst 1, 1) := by decide +kernel
theorem dX9_isStill_11 : decode cX9_isStill 11 = .ok (.goto 4, 3) := by decide +kernel
theorem dX9_isStill_14 : decode cX9_isStill 14 = .ok (.iconst 0, 1) := by decide +kernel
theorem dX9_isStill_15 : decode cX9_isStill 15 = .ok (.invokevirtual 277, 3) := by decide +kernel
theorem dX9_isStill_18 : decode cX9_isStill 18 = .ok (.aload_n 0, 1) := by decide +kernel
theorem dX9_isStill_19 : decode cX9_isStill 19 = .ok (.getfield 22, 3) := by decide +kernel
theorem dX9_isStill_22 : decode cX9_isStill 22 = .ok (.iload_n 1, 1) := by decide +kernel
theorem dX9_isStill_23 : decode cX9_isStill 23 = .ok (.baload, 1) := by decide +kernel
theorem dX9_isStill_24 : decode cX9_isStill 24 = .ok (.istore_n 2, 1) := by decide +kernel
theorem dX9_isStill_25 : decode cX9_isStill 25 = .ok (.iconst 0, 1) := by decide +kernel
theorem dX9_isStill_26 : decode cX9_isStill 26 = .ok (.istore_n 3, 1) := by decide +kernel
theorem dX9_isStill_27 : decode cX9_isStill 27 = .ok (.iload_n 3, 1) := by decide +kernel
theorem dX9_isStill_28 : decode cX9_isStill 28 = .ok (.aload_n 0, 1) := by decide +kernel
theorem dX9_isStill_29 : decode cX9_isStill 29 = .ok (.getfield 270, 3) := by decide +kernel
theorem dX9_isStill_32 : decode cX9_isStill 32 = .ok (.if_icmp .ge 71, 3) := by decide +kernel
theorem dX9_isStill_35 : decode cX9_isStill 35 = .ok (.iload_n 2, 1) := by decide +kernel
theorem dX9_isStill_36 : decode cX9_isStill 36 = .ok (.ifCond .eq 59, 3) := by decide +kernel
theorem dX9_isStill_39 : decode cX9_isStill 39 = .ok (.aload_n 0, 1) := by decide +kernel
theorem dX9_isStill_40 : decode cX9_isStill 40 = .ok (.getfield 26, 3) := by decide +kernel
theorem dX9_isStill_43 : decode cX9_isStill 43 = .ok (.iconst 2, 1) := by decide +kernel
theorem dX9_isStill_44 : decode cX9_isStill 44 = .ok (.aload_n 0, 1) := by decide +kernel
theorem dX9_isStill_45 : decode cX9_isStill 45 = .ok (.getfield 60, 3) := by decide +kernel
theorem dX9_isStill_48 : decode cX9_isStill 48 = .ok (.iload_n 3, 1) := by decide +kernel
theorem dX9_isStill_49 : decode cX9_isStill 49 = .ok (.iaload, 1) := by decide +kernel
theorem dX9_isStill_50 : decode cX9_isStill 50 = .ok (.imul, 1) := by decide +kernel
theorem dX9_isStill_51 : decode cX9_isStill 51 = .ok (.iaload, 1) := by decide +kernel
theorem dX9_isStill_52 : decode cX9_isStill 52 = .ok (.aload_n 0, 1) := by decide +kernel
theorem dX9_isStill_53 : decode cX9_isStill 53 = .ok (.getfield 26, 3) := by decide +kernel
theorem dX9_isStill_56 : decode cX9_isStill 56 = .ok (.iconst 2, 1) := by decide +kernel
theorem dX9_isStill_57 : decode cX9_isStill 57 = .ok (.iload_n 1, 1) := by decide +kernel
theorem dX9_isStill_58 : decode cX9_isStill 58 = .ok (.imul, 1) := by decide +kernel
theorem dX9_isStill_59 : decode cX9_isStill 59 = .ok (.iaload, 1) := by decide +kernel
theorem dX9_isStill_60 : decode cX9_isStill 60 = .ok (.if_icmp .gt 35, 3) := by decide +kernel
theorem dX9_isStill_63 : decode cX9_isStill 63 = .ok (.aload_n 0, 1) := by decide +kernel
theorem dX9_isStill_64 : decode cX9_isStill 64 = .ok (.getfield 26, 3) := by decide +kernel
theorem dX9_isStill_67 : decode cX9_isStill 67 = .ok (.iconst 2, 1) := by decide +kernel
theorem dX9_isStill_68 : decode cX9_isStill 68 = .ok (.aload_n 0, 1) := by decide +kernel
theorem dX9_isStill_69 : decode cX9_isStill 69 = .ok (.getfield 60, 3) := by decide +kernel
theorem dX9_isStill_72 : decode cX9_isStill 72 = .ok (.iload_n 3, 1) := by decide +kernel
theorem dX9_isStill_73 : decode cX9_isStill 73 = .ok (.iaload, 1) := by decide +kernel
theorem dX9_isStill_74 : decode cX9_isStill 74 = .ok (.imul, 1) := by decide +kernel
theorem dX9_isStill_75 : decode cX9_isStill 75 = .ok (.iconst 1, 1) := by decide +kernel
theorem dX9_isStill_76 : decode cX9_isStill 76 = .ok (.iadd, 1) := by decide +kernel
theorem dX9_isStill_77 : decode cX9_isStill 77 = .ok (.iaload, 1) := by decide +kernel
theorem dX9_isStill_78 : decode cX9_isStill 78 = .ok (.aload_n 0, 1) := by decide +kernel
theorem dX9_isStill_79 : decode cX9_isStill 79 = .ok (.getfield 26, 3) := by decide +kernel
theorem dX9_isStill_82 : decode cX9_isStill 82 = .ok (.iconst 2, 1) := by decide +kernel
theorem dX9_isStill_83 : decode cX9_isStill 83 = .ok (.iload_n 1, 1) := by decide +kernel
theorem dX9_isStill_84 : decode cX9_isStill 84 = .ok (.imul, 1) := by decide +kernel
theorem dX9_isStill_85 : decode cX9_isStill 85 = .ok (.iconst 1, 1) := by decide +kernel
theorem dX9_isStill_86 : decode cX9_isStill 86 = .ok (.iadd, 1) := by decide +kernel
theorem dX9_isStill_87 : decode cX9_isStill 87 = .ok (.iaload, 1) := by decide +kernel
theorem dX9_isStill_88 : decode cX9_isStill 88 = .ok (.if_icmp .gt 7, 3) := by decide +kernel
theorem dX9_isStill_91 : decode cX9_isStill 91 = .ok (.iconst 1, 1) := by decide +kernel
theorem dX9_isStill_92 : decode cX9_isStill 92 = .ok (.goto 4, 3) := by decide +kernel
theorem dX9_isStill_95 : decode cX9_isStill 95 = .ok (.iconst 0, 1) := by decide +kernel
theorem dX9_isStill_96 : decode cX9_isStill 96 = .ok (.istore_n 2, 1) := by decide +kernel
theorem dX9_isStill_97 : decode cX9_isStill 97 = .ok (.iinc 3 1, 3) := by decide +kernel
theorem dX9_isStill_100 : decode cX9_isStill 100 = .ok (.goto (-73), 3) := by decide +kernel
theorem dX9_isStill_103 : decode cX9_isStill 103 = .ok (.iload_n 2, 1) := by decide +kernel
theorem dX9_isStill_104 : decode cX9_isStill 104 = .ok (.ireturn, 1) := by decide +kernel
set_option maxRecDepth 20000 in
theorem ggX9_still_X9_isStill : GoodIn wsX9_still wsX9_isStill := goodIn_r _ [6, 7, 8, 9, 10, 11, 12, 13, 14, 5, 15, 16, 17, 18, 19, 20, 21, 22, 23, 24, 25, 26, 27, 28, 29, 30, 31, 32, 33, 34, 35, 36, 37, 38, 39, 40, 41, 42, 43, 44, 45, 46, 47, 48, 49, 50, 51, 52, 53, 54, 55, 56, 57, 58, 59, 60, 61, 62, 63, 64, 65, 66, 67, 68, 69, 70, 71, 72, 73, 74, 75, 76, 77, 78, 79, 80, 81, 82, 83, 84, 85] (by decide +kernel) (by decide +kernel)
set_option maxRecDepth 20000 in
theorem gX9_still_X9_isStill : GoodIn wsX9_still (wsV RX9 291 RX9 yX9_isStill wsX9_isStill) := goodIn_app (goodIn_of _ (by decide +kernel)) ggX9_still_X9_isStill
theorem dX9_still_0 : decode cX9_still 0 = .ok (.iconst 0, 1) := by decide +kernel
theorem dX9_still_1 : decode cX9_still 1 = .ok (.istore_n 2, 1) := by decide +kernel
theorem dX9_still_2 : decode cX9_still 2 = .ok (.iconst 0, 1) := by decide +kernel
theorem dX9_still_3 : decode cX9_still 3 = .ok (.istore_n 3, 1) := by decide +kernel
theorem dX9_still_4 : decode cX9_still 4 = .ok (.iload_n 3, 1) := by decide +kernel
theorem dX9_still_5 : decode cX9_still 5 = .ok (.aload_n 0, 1) := by decide +kernel
theorem dX9_still_6 : decode cX9_still 6 = .ok (.getfield 102, 3) := by decide +kernel
theorem dX9_still_9 : decode cX9_still 9 = .ok (.if_icmp .ge 27, 3) := by decide +kernel
theorem dX9_still_12 : decode cX9_still 12 = .ok (.aload_n 0, 1) := by decide +kernel
theorem dX9_still_13 : decode cX9_still 13 = .ok (.iload_n 3, 1) := by decide +kernel
theorem dX9_still_14 : decode cX9_still 14 = .ok (.invokevirtual 291, 3) := by decide +kernel
theorem dX9_still_17 : decode cX9_still 17 = .ok (.ifCond .eq 13, 3) := by decide +kernel
theorem dX9_still_20 : decode cX9_still 20 = .ok (.iload_n 2, 1) := by decide +kernel
theorem dX9_still_21 : decode cX9_still 21 = .ok (.iload_n 1, 1) := by decide +kernel
theorem dX9_still_22 : decode cX9_still 22 = .ok (.if_icmp .ne 5, 3) := by decide +kernel
theorem dX9_still_25 : decode cX9_still 25 = .ok (.iload_n 3, 1) := by decide +kernel
theorem dX9_still_26 : decode cX9_still 26 = .ok (.ireturn, 1) := by decide +kernel
theorem dX9_still_27 : decode cX9_still 27 = .ok (.iinc 2 1, 3) := by decide +kernel
theorem dX9_still_30 : decode cX9_still 30 = .ok (.iinc 3 1, 3) := by decide +kernel
theorem dX9_still_33 : decode cX9_still 33 = .ok (.goto (-29), 3) := by decide +kernel
theorem dX9_still_36 : decode cX9_still 36 = .ok (.iload_n 1, 1) := by decide +kernel
theorem dX9_still_37 : decode cX9_still 37 = .ok (.iconst (-1), 1) := by decide +kernel
theorem dX9_still_38 : decode cX9_still 38 = .ok (.if_icmp .ne 7, 3) := by decide +kernel
theorem dX9_still_41 : decode cX9_still 41 = .ok (.iload_n 2, 1) := by decide +kernel
theorem dX9_still_42 : decode cX9_still 42 = .ok (.goto 4, 3) := by decide +kernel
theorem dX9_still_45 : decode cX9_still 45 = .ok (.iconst (-1), 1) := by decide +kernel
theorem dX9_still_46 : decode cX9_still 46 = .ok (.ireturn, 1) := by decide +kernel
theorem dX9_lookAt_0 : decode cX9_lookAt 0 = .ok (.iconst 2, 1) := by decide +kernel
theorem dX9_lookAt_1 : decode cX9_lookAt 1 = .ok (.iload_n 1, 1) := by decide +kernel
theorem dX9_lookAt_2 : decode cX9_lookAt 2 = .ok (.imul, 1) := by decide +kernel
theorem dX9_lookAt_3 : decode cX9_lookAt 3 = .ok (.iload_n 2, 1) := by decide +kernel
theorem dX9_lookAt_4 : decode cX9_lookAt 4 = .ok (.iadd, 1) := by decide +kernel
theorem dX9_lookAt_5 : decode cX9_lookAt 5 = .ok (.istore_n 3, 1) := by decide +kernel
theorem dX9_lookAt_6 : decode cX9_lookAt 6 = .ok (.aload_n 0, 1) := by decide +kernel
theorem dX9_lookAt_7 : decode cX9_lookAt 7 = .ok (.getfield 69, 3) := by decide +kernel
theorem dX9_lookAt_10 : decode cX9_lookAt 10 = .ok (.iload_n 3, 1) := by decide +kernel
theorem dX9_lookAt_11 : decode cX9_lookAt 11 = .ok (.iload_n 1, 1) := by decide +kernel
theorem dX9_lookAt_12 : decode cX9_lookAt 12 = .ok (.iastore, 1) := by decide +kernel
theorem dX9_lookAt_13 : decode cX9_lookAt 13 = .ok (.aload_n 0, 1) := by decide +kernel
theorem dX9_lookAt_14 : decode cX9_lookAt 14 = .ok (.getfield 72, 3) := by decide +kernel
theorem dX9_lookAt_17 : decode cX9_lookAt 17 = .ok (.iload_n 3, 1) := by decide +kernel
theorem dX9_lookAt_18 : decode cX9_lookAt 18 = .ok (.iconst 0, 1) := by decide +kernel
theorem dX9_lookAt_19 : decode cX9_lookAt 19 = .ok (.iastore, 1) := by decide +kernel
theorem dX9_lookAt_20 : decode cX9_lookAt 20 = .ok (.aload_n 0, 1) := by decide +kernel
theorem dX9_lookAt_21 : decode cX9_lookAt 21 = .ok (.getfield 75, 3) := by decide +kernel
theorem dX9_lookAt_24 : decode cX9_lookAt 24 = .ok (.iload_n 3, 1) := by decide +kernel
theorem dX9_lookAt_25 : decode cX9_lookAt 25 = .ok (.iconst (-1), 1) := by decide +kernel
theorem dX9_lookAt_26 : decode cX9_lookAt 26 = .ok (.iastore, 1) := by decide +kernel
theorem dX9_lookAt_27 : decode cX9_lookAt 27 = .ok (.aload_n 0, 1) := by decide +kernel
theorem dX9_lookAt_28 : decode cX9_lookAt 28 = .ok (.getfield 26, 3) := by decide +kernel
theorem dX9_lookAt_31 : decode cX9_lookAt 31 = .ok (.iload_n 3, 1) := by decide +kernel
theorem dX9_lookAt_32 : decode cX9_lookAt 32 = .ok (.iaload, 1) := by decide +kernel
theorem dX9_lookAt_33 : decode cX9_lookAt 33 = .ok (.istore 4, 2) := by decide +kernel
theorem dX9_lookAt_35 : decode cX9_lookAt 35 = .ok (.iconst 0, 1) := by decide +kernel
theorem dX9_lookAt_36 : decode cX9_lookAt 36 = .ok (.istore 5, 2) := by decide +kernel
theorem dX9_lookAt_38 : decode cX9_lookAt 38 = .ok (.iload 5, 2) := by decide +kernel
theorem dX9_lookAt_40 : decode cX9_lookAt 40 = .ok (.aload_n 0, 1) := by decide +kernel
theorem dX9_lookAt_41 : decode cX9_lookAt 41 = .ok (.getfield 270, 3) := by decide +kernel
theorem dX9_lookAt_44 : decode cX9_lookAt 44 = .ok (.if_icmp .ge 94, 3) := by decide +kernel
theorem dX9_lookAt_47 : decode cX9_lookAt 47 = .ok (.iconst 2, 1) := by decide +kernel
theorem dX9_lookAt_48 : decode cX9_lookAt 48 = .ok (.aload_n 0, 1) := by decide +kernel
theorem dX9_lookAt_49 : decode cX9_lookAt 49 = .ok (.getfield 60, 3) := by decide +kernel
theorem dX9_lookAt_52 : decode cX9_lookAt 52 = .ok (.iload 5, 2) := by decide +kernel
theorem dX9_lookAt_54 : decode cX9_lookAt 54 = .ok (.iaload, 1) := by decide +kernel
theorem dX9_lookAt_55 : decode cX9_lookAt 55 = .ok (.imul, 1) := by decide +kernel
theorem dX9_lookAt_56 : decode cX9_lookAt 56 = .ok (.iconst 1, 1) := by decide +kernel
theorem dX9_lookAt_57 : decode cX9_lookAt 57 = .ok (.iadd, 1) := by decide +kernel
theorem dX9_lookAt_58 : decode cX9_lookAt 58 = .ok (.iload_n 2, 1) := by decide +kernel
theorem dX9_lookAt_59 : decode cX9_lookAt 59 = .ok (.isub, 1) := by decide +kernel
theorem dX9_lookAt_60 : decode cX9_lookAt 60 = .ok (.istore 6, 2) := by decide +kernel
theorem dX9_lookAt_62 : decode cX9_lookAt 62 = .ok (.aload_n 0, 1) := by decide +kernel
theorem dX9_lookAt_63 : decode cX9_lookAt 63 = .ok (.getfield 26, 3) := by decide +kernel
theorem dX9_lookAt_66 : decode cX9_lookAt 66 = .ok (.iconst 2, 1) := by decide +kernel
theorem dX9_lookAt_67 : decode cX9_lookAt 67 = .ok (.aload_n 0, 1) := by decide +kernel
theorem dX9_lookAt_68 : decode cX9_lookAt 68 = .ok (.getfield 78, 3) := by decide +kernel
theorem dX9_lookAt_71 : decode cX9_lookAt 71 = .ok (.iload 6, 2) := by decide +kernel
theorem dX9_lookAt_73 : decode cX9_lookAt 73 = .ok (.iaload, 1) := by decide +kernel
theorem dX9_lookAt_74 : decode cX9_lookAt 74 = .ok (.imul, 1) := by decide +kernel
theorem dX9_lookAt_75 : decode cX9_lookAt 75 = .ok (.iload_n 2, 1) := by decide +kernel
theorem dX9_lookAt_76 : decode cX9_lookAt 76 = .ok (.iadd, 1) := by decide +kernel
theorem dX9_lookAt_77 : decode cX9_lookAt 77 = .ok (.iaload, 1) := by decide +kernel
theorem dX9_lookAt_78 : decode cX9_lookAt 78 = .ok (.istore 7, 2) := by decide +kernel
theorem dX9_lookAt_80 : decode cX9_lookAt 80 = .ok (.iload 7, 2) := by decide +kernel
theorem dX9_lookAt_82 : decode cX9_lookAt 82 = .ok (.iload 4, 2) := by decide +kernel
theorem dX9_lookAt_84 : decode cX9_lookAt 84 = .ok (.if_icmp .le 48, 3) := by decide +kernel
theorem dX9_lookAt_87 : decode cX9_lookAt 87 = .ok (.iload 7, 2) := by decide +kernel
theorem dX9_lookAt_89 : decode cX9_lookAt 89 = .ok (.istore 4, 2) := by decide +kernel
theorem dX9_lookAt_91 : decode cX9_lookAt 91 = .ok (.aload_n 0, 1) := by decide +kernel
theorem dX9_lookAt_92 : decode cX9_lookAt 92 = .ok (.getfield 69, 3) := by decide +kernel
theorem dX9_lookAt_95 : decode cX9_lookAt 95 = .ok (.iload_n 3, 1) := by decide +kernel
theorem dX9_lookAt_96 : decode cX9_lookAt 96 = .ok (.aload_n 0, 1) := by decide +kernel
theorem dX9_lookAt_97 : decode cX9_lookAt 97 = .ok (.getfield 78, 3) := by decide +kernel
theorem dX9_lookAt_100 : decode cX9_lookAt 100 = .ok (.iload 6, 2) := by decide +kernel
theorem dX9_lookAt_102 : decode cX9_lookAt 102 = .ok (.iaload, 1) := by decide +kernel
theorem dX9_lookAt_103 : decode cX9_lookAt 103 = .ok (.iastore, 1) := by decide +kernel
theorem dX9_lookAt_104 : decode cX9_lookAt 104 = .ok (.aload_n 0, 1) := by decide +kernel
theorem dX9_lookAt_105 : decode cX9_lookAt 105 = .ok (.getfield 72, 3) := by decide +kernel
theorem dX9_lookAt_108 : decode cX9_lookAt 108 = .ok (.iload_n 3, 1) := by decide +kernel
theorem dX9_lookAt_109 : decode cX9_lookAt 109 = .ok (.aload_n 0, 1) := by decide +kernel
theorem dX9_lookAt_110 : decode cX9_lookAt 110 = .ok (.getfield 81, 3) := by decide +kernel
theorem dX9_lookAt_113 : decode cX9_lookAt 113 = .ok (.iload 6, 2) := by decide +kernel
theorem dX9_lookAt_115 : decode cX9_lookAt 115 = .ok (.iaload, 1) := by decide +kernel
theorem dX9_lookAt_116 : decode cX9_lookAt 116 = .ok (.iconst 1, 1) := by decide +kernel
theorem dX9_lookAt_117 : decode cX9_lookAt 117 = .ok (.iadd, 1) := by decide +kernel
theorem dX9_lookAt_118 : decode cX9_lookAt 118 = .ok (.iastore, 1) := by decide +kernel
theorem dX9_lookAt_119 : decode cX9_lookAt 119 = .ok (.aload_n 0, 1) := by decide +kernel
theorem dX9_lookAt_120 : decode cX9_lookAt 120 = .ok (.getfield 75, 3) := by decide +kernel
theorem dX9_lookAt_123 : decode cX9_lookAt 123 = .ok (.iload_n 3, 1) := by decide +kernel
theorem dX9_lookAt_124 : decode cX9_lookAt 124 = .ok (.aload_n 0, 1) := by decide +kernel
theorem dX9_lookAt_125 : decode cX9_lookAt 125 = .ok (.getfield 60, 3) := by decide +kernel
theorem dX9_lookAt_128 : decode cX9_lookAt 128 = .ok (.iload 5, 2) := by decide +kernel
theorem dX9_lookAt_130 : decode cX9_lookAt 130 = .ok (.iaload, 1) := by decide +kernel
theorem dX9_lookAt_131 : decode cX9_lookAt 131 = .ok (.iastore, 1) := by decide +kernel
theorem dX9_lookAt_132 : decode cX9_lookAt 132 = .ok (.iinc 5 1, 3) := by decide +kernel
theorem dX9_lookAt_135 : decode cX9_lookAt 135 = .ok (.goto (-97), 3) := by decide +kernel
theorem dX9_lookAt_138 : decode cX9_lookAt 138 = .ok (.return_, 1) := by decide +kernel
set_option maxRecDepth 20000 in
theorem ggX9_lookAhead_X9_findChanges : GoodIn wsX9_lookAhead wsX9_findChanges := goodIn_r _ [12, 13, 14, 15, 16, 17, 18, 19, 11, 20, 21, 22, 23, 24, 25, 26, 27, 28, 29, 30, 36, 37, 38, 39, 40, 41, 42, 43, 44, 45, 46, 47, 48, 49, 50, 51, 52, 53, 54, 55, 56, 57, 58, 59, 60, 61, 62, 63, 64, 65, 66, 67, 68, 69, 70, 71, 72, 73, 74, 75, 76, 77, 78, 79, 80, 81, 82, 83, 84, 85, 86, 87, 88, 89, 90] (by decide +kernel) (by decide +kernel)
set_option maxRecDepth 20000 in
theorem gX9_lookAhead_X9_findChanges : GoodIn wsX9_lookAhead (wsV RX9 277 RX9 yX9_findChanges wsX9_findChanges) := goodIn_app (goodIn_of _ (by decide +kernel)) ggX9_lookAhead_X9_findChanges
set_option maxRecDepth 20000 in
theorem ggX9_lookAhead_X9_lookAt : GoodIn wsX9_lookAhead wsX9_lookAt := goodIn_r _ [34, 2, 3, 4, 35, 13, 30, 5, 6, 36, 37, 38, 39, 40, 41, 42, 43, 44, 45, 46, 47, 48, 49, 50, 51, 52, 53, 54, 55, 56, 57, 58, 59, 60, 61, 62, 63, 64, 65, 66, 67, 68, 69, 70, 71, 72, 73, 74, 75, 76, 77, 78, 79, 80, 81, 82, 83, 84, 85, 86, 87, 88, 89, 90] (by decide +kernel) (by decide +kernel)
set_option maxRecDepth 20000 in
theorem gX9_lookAhead_X9_lookAt : GoodIn wsX9_lookAhead (wsV RX9 294 RX9 yX9_lookAt wsX9_lookAt) := goodIn_app (goodIn_of _ (by decide +kernel)) ggX9_lookAhead_X9_lookAt
theorem dX9_lookAhead_0 : decode cX9_lookAhead 0 = .ok (.iconst 0, 1) := by decide +kernel
theorem dX9_lookAhead_1 : decode cX9_lookAhead 1 = .ok (.istore_n 2, 1) := by decide +kernel
theorem dX9_lookAhead_2 : decode cX9_lookAhead 2 = .ok (.iload_n 2, 1) := by decide +kernel
theorem dX9_lookAhead_3 : decode cX9_lookAhead 3 = .ok (.iconst 2, 1) := by decide +kernel
theorem dX9_lookAhead_4 : decode cX9_lookAhead 4 = .ok (.aload_n 0, 1) := by decide +kernel
theorem dX9_lookAhead_5 : decode cX9_lookAhead 5 = .ok (.getfield 102, 3) := by decide +kernel
theorem dX9_lookAhead_8 : decode cX9_lookAhead 8 = .ok (.imul, 1) := by decide +kernel
theorem dX9_lookAhead_9 : decode cX9_lookAhead 9 = .ok (.if_icmp .ge 32, 3) := by decide +kernel
theorem dX9_lookAhead_12 : decode cX9_lookAhead 12 = .ok (.aload_n 0, 1) := by decide +kernel
theorem dX9_lookAhead_13 : decode cX9_lookAhead 13 = .ok (.getfield 69, 3) := by decide +kernel
theorem dX9_lookAhead_16 : decode cX9_lookAhead 16 = .ok (.iload_n 2, 1) := by decide +kernel
theorem dX9_lookAhead_17 : decode cX9_lookAhead 17 = .ok (.iload_n 2, 1) := by decide +kernel
theorem dX9_lookAhead_18 : decode cX9_lookAhead 18 = .ok (.iconst 2, 1) := by decide +kernel
theorem dX9_lookAhead_19 : decode cX9_lookAhead 19 = .ok (.idiv, 1) := by decide +kernel
theorem dX9_lookAhead_20 : decode cX9_lookAhead 20 = .ok (.iastore, 1) := by decide +kernel
theorem dX9_lookAhead_21 : decode cX9_lookAhead 21 = .ok (.aload_n 0, 1) := by decide +kernel
theorem dX9_lookAhead_22 : decode cX9_lookAhead 22 = .ok (.getfield 72, 3) := by decide +kernel
theorem dX9_lookAhead_25 : decode cX9_lookAhead 25 = .ok (.iload_n 2, 1) := by decide +kernel
theorem dX9_lookAhead_26 : decode cX9_lookAhead 26 = .ok (.iconst 0, 1) := by decide +kernel
theorem dX9_lookAhead_27 : decode cX9_lookAhead 27 = .ok (.iastore, 1) := by decide +kernel
theorem dX9_lookAhead_28 : decode cX9_lookAhead 28 = .ok (.aload_n 0, 1) := by decide +kernel
theorem dX9_lookAhead_29 : decode cX9_lookAhead 29 = .ok (.getfield 75, 3) := by decide +kernel
theorem dX9_lookAhead_32 : decode cX9_lookAhead 32 = .ok (.iload_n 2, 1) := by decide +kernel
theorem dX9_lookAhead_33 : decode cX9_lookAhead 33 = .ok (.iconst (-1), 1) := by decide +kernel
theorem dX9_lookAhead_34 : decode cX9_lookAhead 34 = .ok (.iastore, 1) := by decide +kernel
theorem dX9_lookAhead_35 : decode cX9_lookAhead 35 = .ok (.iinc 2 1, 3) := by decide +kernel
theorem dX9_lookAhead_38 : decode cX9_lookAhead 38 = .ok (.goto (-36), 3) := by decide +kernel
theorem dX9_lookAhead_41 : decode cX9_lookAhead 41 = .ok (.iconst 0, 1) := by decide +kernel
theorem dX9_lookAhead_42 : decode cX9_lookAhead 42 = .ok (.istore_n 2, 1) := by decide +kernel
theorem dX9_lookAhead_43 : decode cX9_lookAhead 43 = .ok (.iload_n 2, 1) := by decide +kernel
theorem dX9_lookAhead_44 : decode cX9_lookAhead 44 = .ok (.iload_n 1, 1) := by decide +kernel
theorem dX9_lookAhead_45 : decode cX9_lookAhead 45 = .ok (.if_icmp .ge 97, 3) := by decide +kernel
theorem dX9_lookAhead_48 : decode cX9_lookAhead 48 = .ok (.iconst 0, 1) := by decide +kernel
theorem dX9_lookAhead_49 : decode cX9_lookAhead 49 = .ok (.istore_n 3, 1) := by decide +kernel
theorem dX9_lookAhead_50 : decode cX9_lookAhead 50 = .ok (.iload_n 3, 1) := by decide +kernel
theorem dX9_lookAhead_51 : decode cX9_lookAhead 51 = .ok (.iconst 2, 1) := by decide +kernel
theorem dX9_lookAhead_52 : decode cX9_lookAhead 52 = .ok (.aload_n 0, 1) := by decide +kernel
theorem dX9_lookAhead_53 : decode cX9_lookAhead 53 = .ok (.getfield 102, 3) := by decide +kernel
theorem dX9_lookAhead_56 : decode cX9_lookAhead 56 = .ok (.imul, 1) := by decide +kernel
theorem dX9_lookAhead_57 : decode cX9_lookAhead 57 = .ok (.if_icmp .ge 33, 3) := by decide +kernel
theorem dX9_lookAhead_60 : decode cX9_lookAhead 60 = .ok (.aload_n 0, 1) := by decide +kernel
theorem dX9_lookAhead_61 : decode cX9_lookAhead 61 = .ok (.getfield 78, 3) := by decide +kernel
theorem dX9_lookAhead_64 : decode cX9_lookAhead 64 = .ok (.iload_n 3, 1) := by decide +kernel
theorem dX9_lookAhead_65 : decode cX9_lookAhead 65 = .ok (.aload_n 0, 1) := by decide +kernel
theorem dX9_lookAhead_66 : decode cX9_lookAhead 66 = .ok (.getfield 69, 3) := by decide +kernel
theorem dX9_lookAhead_69 : decode cX9_lookAhead 69 = .ok (.iload_n 3, 1) := by decide +kernel
theorem dX9_lookAhead_70 : decode cX9_lookAhead 70 = .ok (.iaload, 1) := by decide +kernel
theorem dX9_lookAhead_71 : decode cX9_lookAhead 71 = .ok (.iastore, 1) := by decide +kernel
theorem dX9_lookAhead_72 : decode cX9_lookAhead 72 = .ok (.aload_n 0, 1) := by decide +kernel
theorem dX9_lookAhead_73 : decode cX9_lookAhead 73 = .ok (.getfield 81, 3) := by decide +kernel
theorem dX9_lookAhead_76 : decode cX9_lookAhead 76 = .ok (.iload_n 3, 1) := by decide +kernel
theorem dX9_lookAhead_77 : decode cX9_lookAhead 77 = .ok (.aload_n 0, 1) := by decide +kernel
theorem dX9_lookAhead_78 : decode cX9_lookAhead 78 = .ok (.getfield 72, 3) := by decide +kernel
theorem dX9_lookAhead_81 : decode cX9_lookAhead 81 = .ok (.iload_n 3, 1) := by decide +kernel
theorem dX9_lookAhead_82 : decode cX9_lookAhead 82 = .ok (.iaload, 1) := by decide +kernel
theorem dX9_lookAhead_83 : decode cX9_lookAhead 83 = .ok (.iastore, 1) := by decide +kernel
theorem dX9_lookAhead_84 : decode cX9_lookAhead 84 = .ok (.iinc 3 1, 3) := by decide +kernel
theorem dX9_lookAhead_87 : decode cX9_lookAhead 87 = .ok (.goto (-37), 3) := by decide +kernel
theorem dX9_lookAhead_90 : decode cX9_lookAhead 90 = .ok (.iconst 0, 1) := by decide +kernel
theorem dX9_lookAhead_91 : decode cX9_lookAhead 91 = .ok (.istore_n 3, 1) := by decide +kernel
theorem dX9_lookAhead_92 : decode cX9_lookAhead 92 = .ok (.iload_n 3, 1) := by decide +kernel
theorem dX9_lookAhead_93 : decode cX9_lookAhead 93 = .ok (.aload_n 0, 1) := by decide +kernel
theorem dX9_lookAhead_94 : decode cX9_lookAhead 94 = .ok (.getfield 102, 3) := by decide +kernel
theorem dX9_lookAhead_97 : decode cX9_lookAhead 97 = .ok (.if_icmp .ge 39, 3) := by decide +kernel
theorem dX9_lookAhead_100 : decode cX9_lookAhead 100 = .ok (.aload_n 0, 1) := by decide +kernel
theorem dX9_lookAhead_101 : decode cX9_lookAhead 101 = .ok (.iload_n 3, 1) := by decide +kernel
theorem dX9_lookAhead_102 : decode cX9_lookAhead 102 = .ok (.aload_n 0, 1) := by decide +kernel
theorem dX9_lookAhead_103 : decode cX9_lookAhead 103 = .ok (.getfield 255, 3) := by decide +kernel
theorem dX9_lookAhead_106 : decode cX9_lookAhead 106 = .ok (.iconst 1, 1) := by decide +kernel
theorem dX9_lookAhead_107 : decode cX9_lookAhead 107 = .ok (.if_icmp .ne 7, 3) := by decide +kernel
theorem dX9_lookAhead_110 : decode cX9_lookAhead 110 = .ok (.iconst 1, 1) := by decide +kernel
theorem dX9_lookAhead_111 : decode cX9_lookAhead 111 = .ok (.goto 4, 3) := by decide +kernel
theorem dX9_lookAhead_114 : decode cX9_lookAhead 114 = .ok (.iconst 0, 1) := by decide +kernel
theorem dX9_lookAhead_115 : decode cX9_lookAhead 115 = .ok (.invokevirtual 277, 3) := by decide +kernel
theorem dX9_lookAhead_118 : decode cX9_lookAhead 118 = .ok (.aload_n 0, 1) := by decide +kernel
theorem dX9_lookAhead_119 : decode cX9_lookAhead 119 = .ok (.iload_n 3, 1) := by decide +kernel
theorem dX9_lookAhead_120 : decode cX9_lookAhead 120 = .ok (.iconst 0, 1) := by decide +kernel
theorem dX9_lookAhead_121 : decode cX9_lookAhead 121 = .ok (.invokevirtual 294, 3) := by decide +kernel
theorem dX9_lookAhead_124 : decode cX9_lookAhead 124 = .ok (.aload_n 0, 1) := by decide +kernel
theorem dX9_lookAhead_125 : decode cX9_lookAhead 125 = .ok (.iload_n 3, 1) := by decide +kernel
theorem dX9_lookAhead_126 : decode cX9_lookAhead 126 = .ok (.iconst 1, 1) := by decide +kernel
theorem dX9_lookAhead_127 : decode cX9_lookAhead 127 = .ok (.invokevirtual 294, 3) := by decide +kernel
theorem dX9_lookAhead_130 : decode cX9_lookAhead 130 = .ok (.iinc 3 1, 3) := by decide +kernel
theorem dX9_lookAhead_133 : decode cX9_lookAhead 133 = .ok (.goto (-41), 3) := by decide +kernel
theorem dX9_lookAhead_136 : decode cX9_lookAhead 136 = .ok (.iinc 2 1, 3) := by decide +kernel
theorem dX9_lookAhead_139 : decode cX9_lookAhead 139 = .ok (.goto (-96), 3) := by decide +kernel
theorem dX9_lookAhead_142 : decode cX9_lookAhead 142 = .ok (.return_, 1) := by decide +kernel
set_option maxRecDepth 20000 in
theorem ggX9_ahead_X9_isHouse : GoodIn wsX9_ahead wsX9_isHouse := goodIn_r _ [12, 13, 14, 11, 15] (by decide +kernel) (by decide +kernel)
set_option maxRecDepth 20000 in
theorem gX9_ahead_X9_isHouse : GoodIn wsX9_ahead (va_wsS RX9 265 yX9_isHouse wsX9_isHouse) := goodIn_app (goodIn_of _ (by decide +kernel)) ggX9_ahead_X9_isHouse
set_option maxRecDepth 20000 in
theorem ggX9_ahead_X9_isLetter : GoodIn wsX9_ahead wsX9_isLetter := goodIn_r _ [19, 20, 13, 14, 11, 15, 54, 55, 56, 57, 58, 59, 60, 61, 62, 63, 64, 65, 66, 67, 68, 69, 70, 71, 72, 73, 74, 75, 76, 77, 78, 79, 80, 81, 82, 83, 84, 85, 86, 87, 88, 89, 90, 91, 92, 93, 94, 95, 96, 97, 98, 99, 100, 101, 102, 103, 104, 105, 106, 107, 108] (by decide +kernel) (by decide +kernel)
set_option maxRecDepth 20000 in
theorem gX9_ahead_X9_isLetter : GoodIn wsX9_ahead (wsV RX9 262 RX9 yX9_isLetter wsX9_isLetter) := goodIn_app (goodIn_of _ (by decide +kernel)) ggX9_ahead_X9_isLetter
set_option maxRecDepth 20000 in
theorem ggX9_ahead_X9_in : GoodIn wsX9_ahead wsX9_in := goodIn_r _ [15] (by decide +kernel) (by decide +kernel)
set_option maxRecDepth 20000 in
theorem gX9_ahead_X9_in : GoodIn wsX9_ahead (va_wsS RX9 105 yX9_in wsX9_in) := goodIn_app (goodIn_of _ (by decide +kernel)) ggX9_ahead_X9_in
set_option maxRecDepth 20000 in
theorem ggX9_ahead_X9_lookAhead : GoodIn wsX9_ahead wsX9_lookAhead := goodIn_r _ [24, 20, 6, 7, 8, 25, 26, 27, 28, 29, 30, 11, 31, 32, 33, 34, 35, 36, 37, 38, 39, 40, 41, 42, 43, 44, 45, 46, 47, 48, 49, 50, 51, 52, 53, 5, 54, 55, 56, 57, 58, 59, 60, 61, 62, 63, 64, 65, 66, 67, 68, 69, 70, 71, 72, 73, 74, 75, 76, 77, 78, 79, 80, 81, 82, 83, 84, 85, 86, 87, 88, 89, 90, 91, 92, 93, 94, 95, 96, 97, 98, 99, 100, 101, 102, 103, 104, 105, 106, 107, 108] (by decide +kernel) (by decide +kernel)
set_option maxRecDepth 20000 in
theorem gX9_ahead_X9_lookAhead : GoodIn wsX9_ahead (wsV RX9 300 RX9 yX9_lookAhead wsX9_lookAhead) := goodIn_app (goodIn_of _ (by decide +kernel)) ggX9_ahead_X9_lookAhead
theorem dX9_ahead_0 : decode cX9_ahead 0 = .ok (.iload_n 2, 1) := by decide +kernel
theorem dX9_ahead_1 : decode cX9_ahead 1 = .ok (.invokestatic 265, 3) := by decide +kernel
theorem dX9_ahead_4 : decode cX9_ahead 4 = .ok (.ifCond .ne 7, 3) := by decide +kernel
theorem dX9_ahead_7 : decode cX9_ahead 7 = .ok (.ldc_w 261, 3) := by decide +kernel
theorem dX9_ahead_10 : decode cX9_ahead 10 = .ok (.ireturn, 1) := by decide +kernel
theorem dX9_ahead_11 : decode cX9_ahead 11 = .ok (.aload_n 0, 1) := by decide +kernel
theorem dX9_ahead_12 : decode cX9_ahead 12 = .ok (.iload_n 1, 1) := by decide +kernel
theorem dX9_ahead_13 : decode cX9_ahead 13 = .ok (.invokevirtual 262, 3) := by decide +kernel
theorem dX9_ahead_16 : decode cX9_ahead 16 = .ok (.ifCond .eq 28, 3) := by decide +kernel
theorem dX9_ahead_19 : decode cX9_ahead 19 = .ok (.iload_n 3, 1) := by decide +kernel
theorem dX9_ahead_20 : decode cX9_ahead 20 = .ok (.i2l, 1) := by decide +kernel
theorem dX9_ahead_21 : decode cX9_ahead 21 = .ok (.lconst 0, 1) := by decide +kernel
theorem dX9_ahead_22 : decode cX9_ahead 22 = .ok (.ldc2_w 116, 3) := by decide +kernel
theorem dX9_ahead_25 : decode cX9_ahead 25 = .ok (.invokestatic 105, 3) := by decide +kernel
theorem dX9_ahead_28 : decode cX9_ahead 28 = .ok (.ifCond .eq 16, 3) := by decide +kernel
theorem dX9_ahead_31 : decode cX9_ahead 31 = .ok (.iload 4, 2) := by decide +kernel
theorem dX9_ahead_33 : decode cX9_ahead 33 = .ok (.i2l, 1) := by decide +kernel
theorem dX9_ahead_34 : decode cX9_ahead 34 = .ok (.lconst 0, 1) := by decide +kernel
theorem dX9_ahead_35 : decode cX9_ahead 35 = .ok (.ldc2_w 298, 3) := by decide +kernel
theorem dX9_ahead_38 : decode cX9_ahead 38 = .ok (.invokestatic 105, 3) := by decide +kernel
theorem dX9_ahead_41 : decode cX9_ahead 41 = .ok (.ifCond .ne 6, 3) := by decide +kernel
theorem dX9_ahead_44 : decode cX9_ahead 44 = .ok (.ldc 118, 2) := by decide +kernel
theorem dX9_ahead_46 : decode cX9_ahead 46 = .ok (.ireturn, 1) := by decide +kernel
theorem dX9_ahead_47 : decode cX9_ahead 47 = .ok (.aload_n 0, 1) := by decide +kernel
theorem dX9_ahead_48 : decode cX9_ahead 48 = .ok (.iload_n 3, 1) := by decide +kernel
theorem dX9_ahead_49 : decode cX9_ahead 49 = .ok (.invokevirtual 300, 3) := by decide +kernel
theorem dX9_ahead_52 : decode cX9_ahead 52 = .ok (.iconst 2, 1) := by decide +kernel
theorem dX9_ahead_53 : decode cX9_ahead 53 = .ok (.iload_n 1, 1) := by decide +kernel
theorem dX9_ahead_54 : decode cX9_ahead 54 = .ok (.imul, 1) := by decide +kernel
theorem dX9_ahead_55 : decode cX9_ahead 55 = .ok (.iload_n 2, 1) := by decide +kernel
theorem dX9_ahead_56 : decode cX9_ahead 56 = .ok (.iadd, 1) := by decide +kernel
theorem dX9_ahead_57 : decode cX9_ahead 57 = .ok (.istore 5, 2) := by decide +kernel
theorem dX9_ahead_59 : decode cX9_ahead 59 = .ok (.iload 4, 2) := by decide +kernel
theorem dX9_ahead_61 : decode cX9_ahead 61 = .ok (.iconst 2, 1) := by decide +kernel
theorem dX9_ahead_62 : decode cX9_ahead 62 = .ok (.if_icmp .ge 23, 3) := by decide +kernel
theorem dX9_ahead_65 : decode cX9_ahead 65 = .ok (.aload_n 0, 1) := by decide +kernel
theorem dX9_ahead_66 : decode cX9_ahead 66 = .ok (.getfield 26, 3) := by decide +kernel
theorem dX9_ahead_69 : decode cX9_ahead 69 = .ok (.iconst 2, 1) := by decide +kernel
theorem dX9_ahead_70 : decode cX9_ahead 70 = .ok (.aload_n 0, 1) := by decide +kernel
theorem dX9_ahead_71 : decode cX9_ahead 71 = .ok (.getfield 69, 3) := by decide +kernel
theorem dX9_ahead_74 : decode cX9_ahead 74 = .ok (.iload 5, 2) := by decide +kernel
theorem dX9_ahead_76 : decode cX9_ahead 76 = .ok (.iaload, 1) := by decide +kernel
theorem dX9_ahead_77 : decode cX9_ahead 77 = .ok (.imul, 1) := by decide +kernel
theorem dX9_ahead_78 : decode cX9_ahead 78 = .ok (.iload 4, 2) := by decide +kernel
theorem dX9_ahead_80 : decode cX9_ahead 80 = .ok (.iadd, 1) := by decide +kernel
theorem dX9_ahead_81 : decode cX9_ahead 81 = .ok (.iaload, 1) := by decide +kernel
theorem dX9_ahead_82 : decode cX9_ahead 82 = .ok (.goto 42, 3) := by decide +kernel
theorem dX9_ahead_85 : decode cX9_ahead 85 = .ok (.iload 4, 2) := by decide +kernel
theorem dX9_ahead_87 : decode cX9_ahead 87 = .ok (.iconst 2, 1) := by decide +kernel
theorem dX9_ahead_88 : decode cX9_ahead 88 = .ok (.if_icmp .ne 13, 3) := by decide +kernel
theorem dX9_ahead_91 : decode cX9_ahead 91 = .ok (.aload_n 0, 1) := by decide +kernel
theorem dX9_ahead_92 : decode cX9_ahead 92 = .ok (.getfield 69, 3) := by decide +kernel
theorem dX9_ahead_95 : decode cX9_ahead 95 = .ok (.iload 5, 2) := by decide +kernel
theorem dX9_ahead_97 : decode cX9_ahead 97 = .ok (.iaload, 1) := by decide +kernel
theorem dX9_ahead_98 : decode cX9_ahead 98 = .ok (.goto 26, 3) := by decide +kernel
theorem dX9_ahead_101 : decode cX9_ahead 101 = .ok (.iload 4, 2) := by decide +kernel
theorem dX9_ahead_103 : decode cX9_ahead 103 = .ok (.iconst 3, 1) := by decide +kernel
theorem dX9_ahead_104 : decode cX9_ahead 104 = .ok (.if_icmp .ne 13, 3) := by decide +kernel
theorem dX9_ahead_107 : decode cX9_ahead 107 = .ok (.aload_n 0, 1) := by decide +kernel
theorem dX9_ahead_108 : decode cX9_ahead 108 = .ok (.getfield 72, 3) := by decide +kernel
theorem dX9_ahead_111 : decode cX9_ahead 111 = .ok (.iload 5, 2) := by decide +kernel
theorem dX9_ahead_113 : decode cX9_ahead 113 = .ok (.iaload, 1) := by decide +kernel
theorem dX9_ahead_114 : decode cX9_ahead 114 = .ok (.goto 10, 3) := by decide +kernel
theorem dX9_ahead_117 : decode cX9_ahead 117 = .ok (.aload_n 0, 1) := by decide +kernel
theorem dX9_ahead_118 : decode cX9_ahead 118 = .ok (.getfield 75, 3) := by decide +kernel
theorem dX9_ahead_121 : decode cX9_ahead 121 = .ok (.iload 5, 2) := by decide +kernel
theorem dX9_ahead_123 : decode cX9_ahead 123 = .ok (.iaload, 1) := by decide +kernel
theorem dX9_ahead_124 : decode cX9_ahead 124 = .ok (.ireturn, 1) := by decide +kernel
set_option maxRecDepth 20000 in
theorem ggX9_first_X9_isLetter : GoodIn wsX9_first wsX9_isLetter := goodIn_r _ [9, 10, 11, 12, 8, 13, 49, 50, 51, 52, 53, 54, 55, 56, 57, 58, 59, 60, 61, 62, 63, 64, 65, 66, 67, 68, 69, 70, 71, 72, 73, 74, 75, 76, 77, 78, 79, 80, 81, 82, 83, 84, 85, 86, 87, 88, 89, 90, 91, 92, 93, 94, 95, 96, 97, 98, 99, 100, 101, 102, 103] (by decide +kernel) (by decide +kernel)
set_option maxRecDepth 20000 in
theorem gX9_first_X9_isLetter : GoodIn wsX9_first (wsV RX9 262 RX9 yX9_isLetter wsX9_isLetter) := goodIn_app (goodIn_of _ (by decide +kernel)) ggX9_first_X9_isLetter
set_option maxRecDepth 20000 in
theorem ggX9_first_X9_in : GoodIn wsX9_first wsX9_in := goodIn_r _ [13] (by decide +kernel) (by decide +kernel)
set_option maxRecDepth 20000 in
theorem gX9_first_X9_in : GoodIn wsX9_first (va_wsS RX9 105 yX9_in wsX9_in) := goodIn_app (goodIn_of _ (by decide +kernel)) ggX9_first_X9_in
set_option maxRecDepth 20000 in
theorem ggX9_first_X9_lookAhead : GoodIn wsX9_first wsX9_lookAhead := goodIn_r _ [17, 10, 4, 18, 19, 20, 21, 22, 23, 24, 25, 8, 26, 27, 28, 29, 30, 31, 32, 33, 34, 35, 36, 37, 38, 39, 40, 41, 42, 43, 44, 45, 46, 47, 48, 3, 49, 50, 51, 52, 53, 54, 55, 56, 57, 58, 59, 60, 61, 62, 63, 64, 65, 66, 67, 68, 69, 70, 71, 72, 73, 74, 75, 76, 77, 78, 79, 80, 81, 82, 83, 84, 85, 86, 87, 88, 89, 90, 91, 92, 93, 94, 95, 96, 97, 98, 99, 100, 101, 102, 103] (by decide +kernel) (by decide +kernel)
set_option maxRecDepth 20000 in
theorem gX9_first_X9_lookAhead : GoodIn wsX9_first (wsV RX9 300 RX9 yX9_lookAhead wsX9_lookAhead) := goodIn_app (goodIn_of _ (by decide +kernel)) ggX9_first_X9_lookAhead
theorem dX9_first_0 : decode cX9_first 0 = .ok (.aload_n 0, 1) := by decide +kernel
theorem dX9_first_1 : decode cX9_first 1 = .ok (.iload_n 1, 1) := by decide +kernel
theorem dX9_first_2 : decode cX9_first 2 = .ok (.invokevirtual 262, 3) := by decide +kernel
theorem dX9_first_5 : decode cX9_first 5 = .ok (.ifCond .eq 15, 3) := by decide +kernel
theorem dX9_first_8 : decode cX9_first 8 = .ok (.iload_n 2, 1) := by decide +kernel
theorem dX9_first_9 : decode cX9_first 9 = .ok (.i2l, 1) := by decide +kernel
theorem dX9_first_10 : decode cX9_first 10 = .ok (.lconst 0, 1) := by decide +kernel
theorem dX9_first_11 : decode cX9_first 11 = .ok (.ldc2_w 116, 3) := by decide +kernel
theorem dX9_first_14 : decode cX9_first 14 = .ok (.invokestatic 105, 3) := by decide +kernel
theorem dX9_first_17 : decode cX9_first 17 = .ok (.ifCond .ne 6, 3) := by decide +kernel
theorem dX9_first_20 : decode cX9_first 20 = .ok (.ldc 118, 2) := by decide +kernel
theorem dX9_first_22 : decode cX9_first 22 = .ok (.ireturn, 1) := by decide +kernel
theorem dX9_first_23 : decode cX9_first 23 = .ok (.aload_n 0, 1) := by decide +kernel
theorem dX9_first_24 : decode cX9_first 24 = .ok (.iload_n 2, 1) := by decide +kernel
theorem dX9_first_25 : decode cX9_first 25 = .ok (.invokevirtual 300, 3) := by decide +kernel
theorem dX9_first_28 : decode cX9_first 28 = .ok (.aload_n 0, 1) := by decide +kernel
theorem dX9_first_29 : decode cX9_first 29 = .ok (.getfield 26, 3) := by decide +kernel
theorem dX9_first_32 : decode cX9_first 32 = .ok (.iconst 2, 1) := by decide +kernel
theorem dX9_first_33 : decode cX9_first 33 = .ok (.aload_n 0, 1) := by decide +kernel
theorem dX9_first_34 : decode cX9_first 34 = .ok (.getfield 69, 3) := by decide +kernel
theorem dX9_first_37 : decode cX9_first 37 = .ok (.iconst 2, 1) := by decide +kernel
theorem dX9_first_38 : decode cX9_first 38 = .ok (.iload_n 1, 1) := by decide +kernel
theorem dX9_first_39 : decode cX9_first 39 = .ok (.imul, 1) := by decide +kernel
theorem dX9_first_40 : decode cX9_first 40 = .ok (.iaload, 1) := by decide +kernel
theorem dX9_first_41 : decode cX9_first 41 = .ok (.imul, 1) := by decide +kernel
theorem dX9_first_42 : decode cX9_first 42 = .ok (.iaload, 1) := by decide +kernel
theorem dX9_first_43 : decode cX9_first 43 = .ok (.aload_n 0, 1) := by decide +kernel
theorem dX9_first_44 : decode cX9_first 44 = .ok (.getfield 26, 3) := by decide +kernel
theorem dX9_first_47 : decode cX9_first 47 = .ok (.iconst 2, 1) := by decide +kernel
theorem dX9_first_48 : decode cX9_first 48 = .ok (.aload_n 0, 1) := by decide +kernel
theorem dX9_first_49 : decode cX9_first 49 = .ok (.getfield 69, 3) := by decide +kernel
theorem dX9_first_52 : decode cX9_first 52 = .ok (.iconst 2, 1) := by decide +kernel
theorem dX9_first_53 : decode cX9_first 53 = .ok (.iload_n 1, 1) := by decide +kernel
theorem dX9_first_54 : decode cX9_first 54 = .ok (.imul, 1) := by decide +kernel
theorem dX9_first_55 : decode cX9_first 55 = .ok (.iconst 1, 1) := by decide +kernel
theorem dX9_first_56 : decode cX9_first 56 = .ok (.iadd, 1) := by decide +kernel
theorem dX9_first_57 : decode cX9_first 57 = .ok (.iaload, 1) := by decide +kernel
theorem dX9_first_58 : decode cX9_first 58 = .ok (.imul, 1) := by decide +kernel
theorem dX9_first_59 : decode cX9_first 59 = .ok (.iaload, 1) := by decide +kernel
theorem dX9_first_60 : decode cX9_first 60 = .ok (.isub, 1) := by decide +kernel
theorem dX9_first_61 : decode cX9_first 61 = .ok (.ireturn, 1) := by decide +kernel
set_option maxRecDepth 20000 in
theorem ggX9_unlike_X9_wordAt : GoodIn wsX9_unlike wsX9_wordAt := goodIn_r _ [6, 7, 8, 9, 10, 5, 11, 12, 13, 14, 15, 16, 17, 18, 19, 20, 21, 22, 23, 24, 25, 26, 27, 28, 29, 30, 31, 32, 33, 34, 35, 36, 37, 38, 39, 40, 41, 42, 43, 44, 45, 46, 47, 48, 49, 50, 51, 52, 53, 54, 55, 56, 57, 58, 59, 60, 61, 62, 63, 64, 65, 66] (by decide +kernel) (by decide +kernel)
set_option maxRecDepth 20000 in
theorem gX9_unlike_X9_wordAt : GoodIn wsX9_unlike (wsV RX9 238 RX9 yX9_wordAt wsX9_wordAt) := goodIn_app (goodIn_of _ (by decide +kernel)) ggX9_unlike_X9_wordAt
theorem dX9_unlike_0 : decode cX9_unlike 0 = .ok (.iconst 0, 1) := by decide +kernel
theorem dX9_unlike_1 : decode cX9_unlike 1 = .ok (.istore_n 3, 1) := by decide +kernel
theorem dX9_unlike_2 : decode cX9_unlike 2 = .ok (.iconst 0, 1) := by decide +kernel
theorem dX9_unlike_3 : decode cX9_unlike 3 = .ok (.istore 4, 2) := by decide +kernel
theorem dX9_unlike_5 : decode cX9_unlike 5 = .ok (.iload 4, 2) := by decide +kernel
theorem dX9_unlike_7 : decode cX9_unlike 7 = .ok (.aload_n 0, 1) := by decide +kernel
theorem dX9_unlike_8 : decode cX9_unlike 8 = .ok (.getfield 99, 3) := by decide +kernel
theorem dX9_unlike_11 : decode cX9_unlike 11 = .ok (.if_icmp .ge 34, 3) := by decide +kernel
theorem dX9_unlike_14 : decode cX9_unlike 14 = .ok (.iload_n 3, 1) := by decide +kernel
theorem dX9_unlike_15 : decode cX9_unlike 15 = .ok (.aload_n 0, 1) := by decide +kernel
theorem dX9_unlike_16 : decode cX9_unlike 16 = .ok (.iload_n 1, 1) := by decide +kernel
theorem dX9_unlike_17 : decode cX9_unlike 17 = .ok (.iload 4, 2) := by decide +kernel
theorem dX9_unlike_19 : decode cX9_unlike 19 = .ok (.invokevirtual 238, 3) := by decide +kernel
theorem dX9_unlike_22 : decode cX9_unlike 22 = .ok (.aload_n 0, 1) := by decide +kernel
theorem dX9_unlike_23 : decode cX9_unlike 23 = .ok (.iload_n 2, 1) := by decide +kernel
theorem dX9_unlike_24 : decode cX9_unlike 24 = .ok (.iload 4, 2) := by decide +kernel
theorem dX9_unlike_26 : decode cX9_unlike 26 = .ok (.invokevirtual 238, 3) := by decide +kernel
theorem dX9_unlike_29 : decode cX9_unlike 29 = .ok (.if_icmp .ne 7, 3) := by decide +kernel
theorem dX9_unlike_32 : decode cX9_unlike 32 = .ok (.iconst 0, 1) := by decide +kernel
theorem dX9_unlike_33 : decode cX9_unlike 33 = .ok (.goto 4, 3) := by decide +kernel
theorem dX9_unlike_36 : decode cX9_unlike 36 = .ok (.iconst 1, 1) := by decide +kernel
theorem dX9_unlike_37 : decode cX9_unlike 37 = .ok (.iadd, 1) := by decide +kernel
theorem dX9_unlike_38 : decode cX9_unlike 38 = .ok (.istore_n 3, 1) := by decide +kernel
theorem dX9_unlike_39 : decode cX9_unlike 39 = .ok (.iinc 4 1, 3) := by decide +kernel
theorem dX9_unlike_42 : decode cX9_unlike 42 = .ok (.goto (-37), 3) := by decide +kernel
theorem dX9_unlike_45 : decode cX9_unlike 45 = .ok (.iload_n 3, 1) := by decide +kernel
theorem dX9_unlike_46 : decode cX9_unlike 46 = .ok (.ireturn, 1) := by decide +kernel
set_option maxRecDepth 20000 in
theorem ggX9_carrier_X9_isLetter : GoodIn wsX9_carrier wsX9_isLetter := goodIn_r _ [9, 10, 11, 12, 8, 13, 38, 39, 40, 41, 42, 43, 44, 45, 46, 47, 48, 49, 50, 51, 52, 53, 54, 55, 56, 57, 58, 59, 60, 61, 62, 63, 64, 65, 66, 67, 68, 69, 70, 71, 72, 73, 74, 75, 76, 77, 78, 79, 80, 81, 82, 83, 84, 85, 86, 87, 88, 89, 90, 91, 92] (by decide +kernel) (by decide +kernel)
set_option maxRecDepth 20000 in
theorem gX9_carrier_X9_isLetter : GoodIn wsX9_carrier (wsV RX9 262 RX9 yX9_isLetter wsX9_isLetter) := goodIn_app (goodIn_of _ (by decide +kernel)) ggX9_carrier_X9_isLetter
set_option maxRecDepth 20000 in
theorem ggX9_carrier_X9_findChanges : GoodIn wsX9_carrier wsX9_findChanges := goodIn_r _ [17, 3, 18, 19, 20, 21, 22, 23, 8, 24, 25, 26, 27, 28, 29, 30, 31, 32, 33, 4, 38, 39, 40, 41, 42, 43, 44, 45, 46, 47, 48, 49, 50, 51, 52, 53, 54, 55, 56, 57, 58, 59, 60, 61, 62, 63, 64, 65, 66, 67, 68, 69, 70, 71, 72, 73, 74, 75, 76, 77, 78, 79, 80, 81, 82, 83, 84, 85, 86, 87, 88, 89, 90, 91, 92] (by decide +kernel) (by decide +kernel)
set_option maxRecDepth 20000 in
theorem gX9_carrier_X9_findChanges : GoodIn wsX9_carrier (wsV RX9 277 RX9 yX9_findChanges wsX9_findChanges) := goodIn_app (goodIn_of _ (by decide +kernel)) ggX9_carrier_X9_findChanges
set_option maxRecDepth 20000 in
theorem ggX9_carrier_X9_unlike : GoodIn wsX9_carrier wsX9_unlike := goodIn_r _ [37, 18, 21, 22, 23, 8, 24, 20, 25, 26, 27, 28, 38, 39, 40, 41, 42, 43, 44, 45, 46, 47, 48, 49, 50, 51, 52, 53, 54, 55, 56, 57, 58, 59, 60, 61, 62, 63, 64, 65, 66, 67, 68, 69, 70, 71, 72, 73, 74, 75, 76, 77, 78, 79, 80, 81, 82, 83, 84, 85, 86, 87, 88, 89, 90, 91, 92] (by decide +kernel) (by decide +kernel)
set_option maxRecDepth 20000 in
theorem gX9_carrier_X9_unlike : GoodIn wsX9_carrier (wsV RX9 303 RX9 yX9_unlike wsX9_unlike) := goodIn_app (goodIn_of _ (by decide +kernel)) ggX9_carrier_X9_unlike
theorem dX9_carrier_0 : decode cX9_carrier 0 = .ok (.aload_n 0, 1) := by decide +kernel
theorem dX9_carrier_1 : decode cX9_carrier 1 = .ok (.iload_n 1, 1) := by decide +kernel
theorem dX9_carrier_2 : decode cX9_carrier 2 = .ok (.invokevirtual 262, 3) := by decide +kernel
theorem dX9_carrier_5 : decode cX9_carrier 5 = .ok (.ifCond .eq 11, 3) := by decide +kernel
theorem dX9_carrier_8 : decode cX9_carrier 8 = .ok (.aload_n 0, 1) := by decide +kernel
theorem dX9_carrier_9 : decode cX9_carrier 9 = .ok (.iload_n 2, 1) := by decide +kernel
theorem dX9_carrier_10 : decode cX9_carrier 10 = .ok (.invokevirtual 262, 3) := by decide +kernel
theorem dX9_carrier_13 : decode cX9_carrier 13 = .ok (.ifCond .ne 6, 3) := by decide +kernel
theorem dX9_carrier_16 : decode cX9_carrier 16 = .ok (.ldc 118, 2) := by decide +kernel
theorem dX9_carrier_18 : decode cX9_carrier 18 = .ok (.ireturn, 1) := by decide +kernel
theorem dX9_carrier_19 : decode cX9_carrier 19 = .ok (.aload_n 0, 1) := by decide +kernel
theorem dX9_carrier_20 : decode cX9_carrier 20 = .ok (.iload_n 1, 1) := by decide +kernel
theorem dX9_carrier_21 : decode cX9_carrier 21 = .ok (.aload_n 0, 1) := by decide +kernel
theorem dX9_carrier_22 : decode cX9_carrier 22 = .ok (.getfield 255, 3) := by decide +kernel
theorem dX9_carrier_25 : decode cX9_carrier 25 = .ok (.iconst 1, 1) := by decide +kernel
theorem dX9_carrier_26 : decode cX9_carrier 26 = .ok (.if_icmp .ne 7, 3) := by decide +kernel
theorem dX9_carrier_29 : decode cX9_carrier 29 = .ok (.iconst 1, 1) := by decide +kernel
theorem dX9_carrier_30 : decode cX9_carrier 30 = .ok (.goto 4, 3) := by decide +kernel
theorem dX9_carrier_33 : decode cX9_carrier 33 = .ok (.iconst 0, 1) := by decide +kernel
theorem dX9_carrier_34 : decode cX9_carrier 34 = .ok (.invokevirtual 277, 3) := by decide +kernel
theorem dX9_carrier_37 : decode cX9_carrier 37 = .ok (.iconst 0, 1) := by decide +kernel
theorem dX9_carrier_38 : decode cX9_carrier 38 = .ok (.istore 4, 2) := by decide +kernel
theorem dX9_carrier_40 : decode cX9_carrier 40 = .ok (.iconst 0, 1) := by decide +kernel
theorem dX9_carrier_41 : decode cX9_carrier 41 = .ok (.istore 5, 2) := by decide +kernel
theorem dX9_carrier_43 : decode cX9_carrier 43 = .ok (.iload 5, 2) := by decide +kernel
theorem dX9_carrier_45 : decode cX9_carrier 45 = .ok (.aload_n 0, 1) := by decide +kernel
theorem dX9_carrier_46 : decode cX9_carrier 46 = .ok (.getfield 270, 3) := by decide +kernel
theorem dX9_carrier_49 : decode cX9_carrier 49 = .ok (.if_icmp .ge 42, 3) := by decide +kernel
theorem dX9_carrier_52 : decode cX9_carrier 52 = .ok (.aload_n 0, 1) := by decide +kernel
theorem dX9_carrier_53 : decode cX9_carrier 53 = .ok (.aload_n 0, 1) := by decide +kernel
theorem dX9_carrier_54 : decode cX9_carrier 54 = .ok (.getfield 60, 3) := by decide +kernel
theorem dX9_carrier_57 : decode cX9_carrier 57 = .ok (.iload 5, 2) := by decide +kernel
theorem dX9_carrier_59 : decode cX9_carrier 59 = .ok (.iaload, 1) := by decide +kernel
theorem dX9_carrier_60 : decode cX9_carrier 60 = .ok (.iload_n 2, 1) := by decide +kernel
theorem dX9_carrier_61 : decode cX9_carrier 61 = .ok (.invokevirtual 303, 3) := by decide +kernel
theorem dX9_carrier_64 : decode cX9_carrier 64 = .ok (.iconst 2, 1) := by decide +kernel
theorem dX9_carrier_65 : decode cX9_carrier 65 = .ok (.if_icmp .ge 20, 3) := by decide +kernel
theorem dX9_carrier_68 : decode cX9_carrier 68 = .ok (.iload 4, 2) := by decide +kernel
theorem dX9_carrier_70 : decode cX9_carrier 70 = .ok (.iload_n 3, 1) := by decide +kernel
theorem dX9_carrier_71 : decode cX9_carrier 71 = .ok (.if_icmp .ne 11, 3) := by decide +kernel
theorem dX9_carrier_74 : decode cX9_carrier 74 = .ok (.aload_n 0, 1) := by decide +kernel
theorem dX9_carrier_75 : decode cX9_carrier 75 = .ok (.getfield 60, 3) := by decide +kernel
theorem dX9_carrier_78 : decode cX9_carrier 78 = .ok (.iload 5, 2) := by decide +kernel
theorem dX9_carrier_80 : decode cX9_carrier 80 = .ok (.iaload, 1) := by decide +kernel
theorem dX9_carrier_81 : decode cX9_carrier 81 = .ok (.ireturn, 1) := by decide +kernel
theorem dX9_carrier_82 : decode cX9_carrier 82 = .ok (.iinc 4 1, 3) := by decide +kernel
theorem dX9_carrier_85 : decode cX9_carrier 85 = .ok (.iinc 5 1, 3) := by decide +kernel
theorem dX9_carrier_88 : decode cX9_carrier 88 = .ok (.goto (-45), 3) := by decide +kernel
theorem dX9_carrier_91 : decode cX9_carrier 91 = .ok (.iload_n 3, 1) := by decide +kernel
theorem dX9_carrier_92 : decode cX9_carrier 92 = .ok (.iconst (-1), 1) := by decide +kernel
theorem dX9_carrier_93 : decode cX9_carrier 93 = .ok (.if_icmp .ne 8, 3) := by decide +kernel
theorem dX9_carrier_96 : decode cX9_carrier 96 = .ok (.iload 4, 2) := by decide +kernel
theorem dX9_carrier_98 : decode cX9_carrier 98 = .ok (.goto 4, 3) := by decide +kernel
theorem dX9_carrier_101 : decode cX9_carrier 101 = .ok (.iconst (-1), 1) := by decide +kernel
theorem dX9_carrier_102 : decode cX9_carrier 102 = .ok (.ireturn, 1) := by decide +kernel
set_option maxRecDepth 20000 in
theorem ggX9_guess_X9_isHouse : GoodIn wsX9_guess wsX9_isHouse := goodIn_r _ [9, 10, 11, 8, 12] (by decide +kernel) (by decide +kernel)
set_option maxRecDepth 20000 in
theorem gX9_guess_X9_isHouse : GoodIn wsX9_guess (va_wsS RX9 265 yX9_isHouse wsX9_isHouse) := goodIn_app (goodIn_of _ (by decide +kernel)) ggX9_guess_X9_isHouse
theorem dX9_guess_0 : decode cX9_guess 0 = .ok (.iload_n 1, 1) := by decide +kernel
theorem dX9_guess_1 : decode cX9_guess 1 = .ok (.invokestatic 265, 3) := by decide +kernel
theorem dX9_guess_4 : decode cX9_guess 4 = .ok (.ifCond .ne 7, 3) := by decide +kernel
theorem dX9_guess_7 : decode cX9_guess 7 = .ok (.ldc_w 261, 3) := by decide +kernel
theorem dX9_guess_10 : decode cX9_guess 10 = .ok (.ireturn, 1) := by decide +kernel
theorem dX9_guess_11 : decode cX9_guess 11 = .ok (.aload_n 0, 1) := by decide +kernel
theorem dX9_guess_12 : decode cX9_guess 12 = .ok (.getfield 232, 3) := by decide +kernel
theorem dX9_guess_15 : decode cX9_guess 15 = .ok (.bipush 6, 2) := by decide +kernel
theorem dX9_guess_17 : decode cX9_guess 17 = .ok (.if_icmp .ne 6, 3) := by decide +kernel
theorem dX9_guess_20 : decode cX9_guess 20 = .ok (.ldc 122, 2) := by decide +kernel
theorem dX9_guess_22 : decode cX9_guess 22 = .ok (.ireturn, 1) := by decide +kernel
theorem dX9_guess_23 : decode cX9_guess 23 = .ok (.aload_n 0, 1) := by decide +kernel
theorem dX9_guess_24 : decode cX9_guess 24 = .ok (.getfield 84, 3) := by decide +kernel
theorem dX9_guess_27 : decode cX9_guess 27 = .ok (.aload_n 0, 1) := by decide +kernel
theorem dX9_guess_28 : decode cX9_guess 28 = .ok (.getfield 232, 3) := by decide +kernel
theorem dX9_guess_31 : decode cX9_guess 31 = .ok (.iload_n 1, 1) := by decide +kernel
theorem dX9_guess_32 : decode cX9_guess 32 = .ok (.iastore, 1) := by decide +kernel
theorem dX9_guess_33 : decode cX9_guess 33 = .ok (.iconst 0, 1) := by decide +kernel
theorem dX9_guess_34 : decode cX9_guess 34 = .ok (.istore_n 2, 1) := by decide +kernel
theorem dX9_guess_35 : decode cX9_guess 35 = .ok (.iload_n 2, 1) := by decide +kernel
theorem dX9_guess_36 : decode cX9_guess 36 = .ok (.bipush 8, 2) := by decide +kernel
theorem dX9_guess_38 : decode cX9_guess 38 = .ok (.if_icmp .ge 24, 3) := by decide +kernel
theorem dX9_guess_41 : decode cX9_guess 41 = .ok (.aload_n 0, 1) := by decide +kernel
theorem dX9_guess_42 : decode cX9_guess 42 = .ok (.getfield 87, 3) := by decide +kernel
theorem dX9_guess_45 : decode cX9_guess 45 = .ok (.bipush 8, 2) := by decide +kernel
theorem dX9_guess_47 : decode cX9_guess 47 = .ok (.aload_n 0, 1) := by decide +kernel
