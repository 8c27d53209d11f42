theorem dX0_init_20 : decode cX0_init 20 = .ok (.return_, 1) := by decide +kernel
set_option maxRecDepth 20000 in
theorem ggX0_restart_J7_fill_53178 : GoodIn wsX0_restart wsJ7_fill_53178 := goodIn_r _ [9] (by decide +kernel) (by decide +kernel)
set_option maxRecDepth 20000 in
theorem gX0_restart_J7_fill_53178 : GoodIn wsX0_restart (va_wsS RX0 29 yJ7_fill_53178 wsJ7_fill_53178) := goodIn_app (goodIn_of _ (by decide +kernel)) ggX0_restart_J7_fill_53178
theorem dX0_restart_0 : decode cX0_restart 0 = .ok (.aload_n 0, 1) := by decide +kernel
theorem dX0_restart_1 : decode cX0_restart 1 = .ok (.iconst 0, 1) := by decide +kernel
theorem dX0_restart_2 : decode cX0_restart 2 = .ok (.putfield 18, 3) := by decide +kernel
theorem dX0_restart_5 : decode cX0_restart 5 = .ok (.aload_n 0, 1) := by decide +kernel
theorem dX0_restart_6 : decode cX0_restart 6 = .ok (.iconst 0, 1) := by decide +kernel
theorem dX0_restart_7 : decode cX0_restart 7 = .ok (.putfield 22, 3) := by decide +kernel
theorem dX0_restart_10 : decode cX0_restart 10 = .ok (.aload_n 0, 1) := by decide +kernel
theorem dX0_restart_11 : decode cX0_restart 11 = .ok (.iconst 0, 1) := by decide +kernel
theorem dX0_restart_12 : decode cX0_restart 12 = .ok (.putfield 25, 3) := by decide +kernel
theorem dX0_restart_15 : decode cX0_restart 15 = .ok (.aload_n 0, 1) := by decide +kernel
theorem dX0_restart_16 : decode cX0_restart 16 = .ok (.getfield 9, 3) := by decide +kernel
theorem dX0_restart_19 : decode cX0_restart 19 = .ok (.iconst 0, 1) := by decide +kernel
theorem dX0_restart_20 : decode cX0_restart 20 = .ok (.invokestatic 29, 3) := by decide +kernel
theorem dX0_restart_23 : decode cX0_restart 23 = .ok (.aload_n 0, 1) := by decide +kernel
theorem dX0_restart_24 : decode cX0_restart 24 = .ok (.iconst 0, 1) := by decide +kernel
theorem dX0_restart_25 : decode cX0_restart 25 = .ok (.putfield 35, 3) := by decide +kernel
theorem dX0_restart_28 : decode cX0_restart 28 = .ok (.return_, 1) := by decide +kernel
theorem dX0_become_0 : decode cX0_become 0 = .ok (.aload_n 0, 1) := by decide +kernel
theorem dX0_become_1 : decode cX0_become 1 = .ok (.aload_n 1, 1) := by decide +kernel
theorem dX0_become_2 : decode cX0_become 2 = .ok (.getfield 18, 3) := by decide +kernel
theorem dX0_become_5 : decode cX0_become 5 = .ok (.putfield 18, 3) := by decide +kernel
theorem dX0_become_8 : decode cX0_become 8 = .ok (.aload_n 0, 1) := by decide +kernel
theorem dX0_become_9 : decode cX0_become 9 = .ok (.aload_n 1, 1) := by decide +kernel
theorem dX0_become_10 : decode cX0_become 10 = .ok (.getfield 22, 3) := by decide +kernel
theorem dX0_become_13 : decode cX0_become 13 = .ok (.putfield 22, 3) := by decide +kernel
theorem dX0_become_16 : decode cX0_become 16 = .ok (.aload_n 0, 1) := by decide +kernel
theorem dX0_become_17 : decode cX0_become 17 = .ok (.aload_n 1, 1) := by decide +kernel
theorem dX0_become_18 : decode cX0_become 18 = .ok (.getfield 25, 3) := by decide +kernel
theorem dX0_become_21 : decode cX0_become 21 = .ok (.putfield 25, 3) := by decide +kernel
theorem dX0_become_24 : decode cX0_become 24 = .ok (.aload_n 1, 1) := by decide +kernel
theorem dX0_become_25 : decode cX0_become 25 = .ok (.getfield 9, 3) := by decide +kernel
theorem dX0_become_28 : decode cX0_become 28 = .ok (.iconst 0, 1) := by decide +kernel
theorem dX0_become_29 : decode cX0_become 29 = .ok (.aload_n 0, 1) := by decide +kernel
theorem dX0_become_30 : decode cX0_become 30 = .ok (.getfield 9, 3) := by decide +kernel
theorem dX0_become_33 : decode cX0_become 33 = .ok (.iconst 0, 1) := by decide +kernel
theorem dX0_become_34 : decode cX0_become 34 = .ok (.iconst 2, 1) := by decide +kernel
theorem dX0_become_35 : decode cX0_become 35 = .ok (.invokestatic 38, 3) := by decide +kernel
theorem dX0_become_38 : decode cX0_become 38 = .ok (.aload_n 1, 1) := by decide +kernel
theorem dX0_become_39 : decode cX0_become 39 = .ok (.getfield 15, 3) := by decide +kernel
theorem dX0_become_42 : decode cX0_become 42 = .ok (.iconst 0, 1) := by decide +kernel
theorem dX0_become_43 : decode cX0_become 43 = .ok (.aload_n 0, 1) := by decide +kernel
theorem dX0_become_44 : decode cX0_become 44 = .ok (.getfield 15, 3) := by decide +kernel
theorem dX0_become_47 : decode cX0_become 47 = .ok (.iconst 0, 1) := by decide +kernel
theorem dX0_become_48 : decode cX0_become 48 = .ok (.sipush 180, 3) := by decide +kernel
theorem dX0_become_51 : decode cX0_become 51 = .ok (.invokestatic 38, 3) := by decide +kernel
theorem dX0_become_54 : decode cX0_become 54 = .ok (.aload_n 0, 1) := by decide +kernel
theorem dX0_become_55 : decode cX0_become 55 = .ok (.aload_n 1, 1) := by decide +kernel
theorem dX0_become_56 : decode cX0_become 56 = .ok (.getfield 35, 3) := by decide +kernel
theorem dX0_become_59 : decode cX0_become 59 = .ok (.putfield 35, 3) := by decide +kernel
theorem dX0_become_62 : decode cX0_become 62 = .ok (.aload_n 0, 1) := by decide +kernel
theorem dX0_become_63 : decode cX0_become 63 = .ok (.aload_n 1, 1) := by decide +kernel
theorem dX0_become_64 : decode cX0_become 64 = .ok (.getfield 44, 3) := by decide +kernel
theorem dX0_become_67 : decode cX0_become 67 = .ok (.putfield 44, 3) := by decide +kernel
theorem dX0_become_70 : decode cX0_become 70 = .ok (.aload_n 0, 1) := by decide +kernel
theorem dX0_become_71 : decode cX0_become 71 = .ok (.aload_n 1, 1) := by decide +kernel
theorem dX0_become_72 : decode cX0_become 72 = .ok (.getfield 47, 3) := by decide +kernel
theorem dX0_become_75 : decode cX0_become 75 = .ok (.putfield 47, 3) := by decide +kernel
theorem dX0_become_78 : decode cX0_become 78 = .ok (.aload_n 0, 1) := by decide +kernel
theorem dX0_become_79 : decode cX0_become 79 = .ok (.aload_n 1, 1) := by decide +kernel
theorem dX0_become_80 : decode cX0_become 80 = .ok (.getfield 50, 3) := by decide +kernel
theorem dX0_become_83 : decode cX0_become 83 = .ok (.putfield 50, 3) := by decide +kernel
theorem dX0_become_86 : decode cX0_become 86 = .ok (.return_, 1) := by decide +kernel
theorem dX0_pass_0 : decode cX0_pass 0 = .ok (.aload_n 0, 1) := by decide +kernel
theorem dX0_pass_1 : decode cX0_pass 1 = .ok (.getfield 35, 3) := by decide +kernel
theorem dX0_pass_4 : decode cX0_pass 4 = .ok (.bipush 60, 2) := by decide +kernel
theorem dX0_pass_6 : decode cX0_pass 6 = .ok (.if_icmp .ge 59, 3) := by decide +kernel
theorem dX0_pass_9 : decode cX0_pass 9 = .ok (.aload_n 0, 1) := by decide +kernel
theorem dX0_pass_10 : decode cX0_pass 10 = .ok (.getfield 15, 3) := by decide +kernel
theorem dX0_pass_13 : decode cX0_pass 13 = .ok (.aload_n 0, 1) := by decide +kernel
theorem dX0_pass_14 : decode cX0_pass 14 = .ok (.getfield 35, 3) := by decide +kernel
theorem dX0_pass_17 : decode cX0_pass 17 = .ok (.iconst 3, 1) := by decide +kernel
theorem dX0_pass_18 : decode cX0_pass 18 = .ok (.imul, 1) := by decide +kernel
theorem dX0_pass_19 : decode cX0_pass 19 = .ok (.aload_n 0, 1) := by decide +kernel
theorem dX0_pass_20 : decode cX0_pass 20 = .ok (.getfield 22, 3) := by decide +kernel
theorem dX0_pass_23 : decode cX0_pass 23 = .ok (.iastore, 1) := by decide +kernel
theorem dX0_pass_24 : decode cX0_pass 24 = .ok (.aload_n 0, 1) := by decide +kernel
theorem dX0_pass_25 : decode cX0_pass 25 = .ok (.getfield 15, 3) := by decide +kernel
theorem dX0_pass_28 : decode cX0_pass 28 = .ok (.aload_n 0, 1) := by decide +kernel
theorem dX0_pass_29 : decode cX0_pass 29 = .ok (.getfield 35, 3) := by decide +kernel
theorem dX0_pass_32 : decode cX0_pass 32 = .ok (.iconst 3, 1) := by decide +kernel
theorem dX0_pass_33 : decode cX0_pass 33 = .ok (.imul, 1) := by decide +kernel
theorem dX0_pass_34 : decode cX0_pass 34 = .ok (.iconst 1, 1) := by decide +kernel
theorem dX0_pass_35 : decode cX0_pass 35 = .ok (.iadd, 1) := by decide +kernel
theorem dX0_pass_36 : decode cX0_pass 36 = .ok (.aload_n 0, 1) := by decide +kernel
theorem dX0_pass_37 : decode cX0_pass 37 = .ok (.getfield 18, 3) := by decide +kernel
theorem dX0_pass_40 : decode cX0_pass 40 = .ok (.iastore, 1) := by decide +kernel
theorem dX0_pass_41 : decode cX0_pass 41 = .ok (.aload_n 0, 1) := by decide +kernel
theorem dX0_pass_42 : decode cX0_pass 42 = .ok (.getfield 15, 3) := by decide +kernel
theorem dX0_pass_45 : decode cX0_pass 45 = .ok (.aload_n 0, 1) := by decide +kernel
theorem dX0_pass_46 : decode cX0_pass 46 = .ok (.getfield 35, 3) := by decide +kernel
theorem dX0_pass_49 : decode cX0_pass 49 = .ok (.iconst 3, 1) := by decide +kernel
theorem dX0_pass_50 : decode cX0_pass 50 = .ok (.imul, 1) := by decide +kernel
theorem dX0_pass_51 : decode cX0_pass 51 = .ok (.iconst 2, 1) := by decide +kernel
theorem dX0_pass_52 : decode cX0_pass 52 = .ok (.iadd, 1) := by decide +kernel
theorem dX0_pass_53 : decode cX0_pass 53 = .ok (.iload_n 1, 1) := by decide +kernel
theorem dX0_pass_54 : decode cX0_pass 54 = .ok (.iastore, 1) := by decide +kernel
theorem dX0_pass_55 : decode cX0_pass 55 = .ok (.aload_n 0, 1) := by decide +kernel
theorem dX0_pass_56 : decode cX0_pass 56 = .ok (.dup, 1) := by decide +kernel
theorem dX0_pass_57 : decode cX0_pass 57 = .ok (.getfield 35, 3) := by decide +kernel
theorem dX0_pass_60 : decode cX0_pass 60 = .ok (.iconst 1, 1) := by decide +kernel
theorem dX0_pass_61 : decode cX0_pass 61 = .ok (.iadd, 1) := by decide +kernel
theorem dX0_pass_62 : decode cX0_pass 62 = .ok (.putfield 35, 3) := by decide +kernel
theorem dX0_pass_65 : decode cX0_pass 65 = .ok (.aload_n 0, 1) := by decide +kernel
theorem dX0_pass_66 : decode cX0_pass 66 = .ok (.iload_n 1, 1) := by decide +kernel
theorem dX0_pass_67 : decode cX0_pass 67 = .ok (.putfield 18, 3) := by decide +kernel
theorem dX0_pass_70 : decode cX0_pass 70 = .ok (.aload_n 0, 1) := by decide +kernel
theorem dX0_pass_71 : decode cX0_pass 71 = .ok (.iconst 1, 1) := by decide +kernel
theorem dX0_pass_72 : decode cX0_pass 72 = .ok (.aload_n 0, 1) := by decide +kernel
theorem dX0_pass_73 : decode cX0_pass 73 = .ok (.getfield 22, 3) := by decide +kernel
theorem dX0_pass_76 : decode cX0_pass 76 = .ok (.isub, 1) := by decide +kernel
theorem dX0_pass_77 : decode cX0_pass 77 = .ok (.putfield 22, 3) := by decide +kernel
theorem dX0_pass_80 : decode cX0_pass 80 = .ok (.return_, 1) := by decide +kernel
theorem dX0_entry_0 : decode cX0_entry 0 = .ok (.iload_n 1, 1) := by decide +kernel
theorem dX0_entry_1 : decode cX0_entry 1 = .ok (.ifCond .lt 20, 3) := by decide +kernel
theorem dX0_entry_4 : decode cX0_entry 4 = .ok (.iload_n 1, 1) := by decide +kernel
theorem dX0_entry_5 : decode cX0_entry 5 = .ok (.aload_n 0, 1) := by decide +kernel
theorem dX0_entry_6 : decode cX0_entry 6 = .ok (.getfield 35, 3) := by decide +kernel
theorem dX0_entry_9 : decode cX0_entry 9 = .ok (.if_icmp .ge 12, 3) := by decide +kernel
theorem dX0_entry_12 : decode cX0_entry 12 = .ok (.iload_n 2, 1) := by decide +kernel
theorem dX0_entry_13 : decode cX0_entry 13 = .ok (.ifCond .lt 8, 3) := by decide +kernel
theorem dX0_entry_16 : decode cX0_entry 16 = .ok (.iload_n 2, 1) := by decide +kernel
theorem dX0_entry_17 : decode cX0_entry 17 = .ok (.iconst 3, 1) := by decide +kernel
theorem dX0_entry_18 : decode cX0_entry 18 = .ok (.if_icmp .lt 5, 3) := by decide +kernel
theorem dX0_entry_21 : decode cX0_entry 21 = .ok (.iconst (-1), 1) := by decide +kernel
theorem dX0_entry_22 : decode cX0_entry 22 = .ok (.ireturn, 1) := by decide +kernel
theorem dX0_entry_23 : decode cX0_entry 23 = .ok (.aload_n 0, 1) := by decide +kernel
theorem dX0_entry_24 : decode cX0_entry 24 = .ok (.getfield 15, 3) := by decide +kernel
theorem dX0_entry_27 : decode cX0_entry 27 = .ok (.iload_n 1, 1) := by decide +kernel
theorem dX0_entry_28 : decode cX0_entry 28 = .ok (.iconst 3, 1) := by decide +kernel
theorem dX0_entry_29 : decode cX0_entry 29 = .ok (.imul, 1) := by decide +kernel
theorem dX0_entry_30 : decode cX0_entry 30 = .ok (.iload_n 2, 1) := by decide +kernel
theorem dX0_entry_31 : decode cX0_entry 31 = .ok (.iadd, 1) := by decide +kernel
theorem dX0_entry_32 : decode cX0_entry 32 = .ok (.iaload, 1) := by decide +kernel
theorem dX0_entry_33 : decode cX0_entry 33 = .ok (.ireturn, 1) := by decide +kernel
theorem dX0_draw_0 : decode cX0_draw 0 = .ok (.aload_n 0, 1) := by decide +kernel
theorem dX0_draw_1 : decode cX0_draw 1 = .ok (.aload_n 0, 1) := by decide +kernel
theorem dX0_draw_2 : decode cX0_draw 2 = .ok (.getfield 50, 3) := by decide +kernel
theorem dX0_draw_5 : decode cX0_draw 5 = .ok (.ldc 53, 2) := by decide +kernel
theorem dX0_draw_7 : decode cX0_draw 7 = .ok (.imul, 1) := by decide +kernel
theorem dX0_draw_8 : decode cX0_draw 8 = .ok (.sipush 12345, 3) := by decide +kernel
theorem dX0_draw_11 : decode cX0_draw 11 = .ok (.iadd, 1) := by decide +kernel
theorem dX0_draw_12 : decode cX0_draw 12 = .ok (.ldc 54, 2) := by decide +kernel
theorem dX0_draw_14 : decode cX0_draw 14 = .ok (.iand, 1) := by decide +kernel
theorem dX0_draw_15 : decode cX0_draw 15 = .ok (.putfield 50, 3) := by decide +kernel
theorem dX0_draw_18 : decode cX0_draw 18 = .ok (.iload_n 1, 1) := by decide +kernel
theorem dX0_draw_19 : decode cX0_draw 19 = .ok (.ifCond .le 15, 3) := by decide +kernel
theorem dX0_draw_22 : decode cX0_draw 22 = .ok (.aload_n 0, 1) := by decide +kernel
theorem dX0_draw_23 : decode cX0_draw 23 = .ok (.getfield 50, 3) := by decide +kernel
theorem dX0_draw_26 : decode cX0_draw 26 = .ok (.ldc 55, 2) := by decide +kernel
theorem dX0_draw_28 : decode cX0_draw 28 = .ok (.idiv, 1) := by decide +kernel
theorem dX0_draw_29 : decode cX0_draw 29 = .ok (.iload_n 1, 1) := by decide +kernel
theorem dX0_draw_30 : decode cX0_draw 30 = .ok (.irem, 1) := by decide +kernel
theorem dX0_draw_31 : decode cX0_draw 31 = .ok (.goto 4, 3) := by decide +kernel
theorem dX0_draw_34 : decode cX0_draw 34 = .ok (.iconst 0, 1) := by decide +kernel
theorem dX0_draw_35 : decode cX0_draw 35 = .ok (.ireturn, 1) := by decide +kernel
set_option maxRecDepth 20000 in
theorem ggX1_init_X6_init : GoodIn wsX1_init wsX6_init := goodIn_r _ [13, 14, 2, 3, 15, 16, 17, 18, 4, 19, 26, 27] (by decide +kernel) (by decide +kernel)
set_option maxRecDepth 20000 in
theorem gX1_init_X6_init : GoodIn wsX1_init (wsX6_init) := ggX1_init_X6_init
theorem dX1_init_0 : decode cX1_init 0 = .ok (.aload_n 0, 1) := by decide +kernel
theorem dX1_init_1 : decode cX1_init 1 = .ok (.invokespecial 3, 3) := by decide +kernel
theorem dX1_init_4 : decode cX1_init 4 = .ok (.aload_n 0, 1) := by decide +kernel
theorem dX1_init_5 : decode cX1_init 5 = .ok (.iconst 0, 1) := by decide +kernel
theorem dX1_init_6 : decode cX1_init 6 = .ok (.newarray .int, 2) := by decide +kernel
theorem dX1_init_8 : decode cX1_init 8 = .ok (.putfield 9, 3) := by decide +kernel
theorem dX1_init_11 : decode cX1_init 11 = .ok (.aload_n 0, 1) := by decide +kernel
theorem dX1_init_12 : decode cX1_init 12 = .ok (.bipush 9, 2) := by decide +kernel
theorem dX1_init_14 : decode cX1_init 14 = .ok (.anewarray 15, 3) := by decide +kernel
theorem dX1_init_17 : decode cX1_init 17 = .ok (.putfield 17, 3) := by decide +kernel
theorem dX1_init_20 : decode cX1_init 20 = .ok (.aload_n 0, 1) := by decide +kernel
theorem dX1_init_21 : decode cX1_init 21 = .ok (.aload_n 1, 1) := by decide +kernel
theorem dX1_init_22 : decode cX1_init 22 = .ok (.putfield 21, 3) := by decide +kernel
theorem dX1_init_25 : decode cX1_init 25 = .ok (.iconst 0, 1) := by decide +kernel
theorem dX1_init_26 : decode cX1_init 26 = .ok (.istore_n 2, 1) := by decide +kernel
theorem dX1_init_27 : decode cX1_init 27 = .ok (.iload_n 2, 1) := by decide +kernel
theorem dX1_init_28 : decode cX1_init 28 = .ok (.bipush 8, 2) := by decide +kernel
theorem dX1_init_30 : decode cX1_init 30 = .ok (.if_icmp .gt 24, 3) := by decide +kernel
theorem dX1_init_33 : decode cX1_init 33 = .ok (.aload_n 0, 1) := by decide +kernel
theorem dX1_init_34 : decode cX1_init 34 = .ok (.getfield 17, 3) := by decide +kernel
theorem dX1_init_37 : decode cX1_init 37 = .ok (.iload_n 2, 1) := by decide +kernel
theorem dX1_init_38 : decode cX1_init 38 = .ok (.new 15, 3) := by decide +kernel
theorem dX1_init_41 : decode cX1_init 41 = .ok (.dup, 1) := by decide +kernel
theorem dX1_init_42 : decode cX1_init 42 = .ok (.bipush 31, 2) := by decide +kernel
theorem dX1_init_44 : decode cX1_init 44 = .ok (.invokespecial 25, 3) := by decide +kernel
theorem dX1_init_47 : decode cX1_init 47 = .ok (.aastore, 1) := by decide +kernel
theorem dX1_init_48 : decode cX1_init 48 = .ok (.iinc 2 1, 3) := by decide +kernel
theorem dX1_init_51 : decode cX1_init 51 = .ok (.goto (-24), 3) := by decide +kernel
theorem dX1_init_54 : decode cX1_init 54 = .ok (.return_, 1) := by decide +kernel
theorem dX1_makeRoom_0 : decode cX1_makeRoom 0 = .ok (.iload_n 1, 1) := by decide +kernel
theorem dX1_makeRoom_1 : decode cX1_makeRoom 1 = .ok (.iconst 2, 1) := by decide +kernel
theorem dX1_makeRoom_2 : decode cX1_makeRoom 2 = .ok (.imul, 1) := by decide +kernel
theorem dX1_makeRoom_3 : decode cX1_makeRoom 3 = .ok (.bipush 8, 2) := by decide +kernel
theorem dX1_makeRoom_5 : decode cX1_makeRoom 5 = .ok (.imul, 1) := by decide +kernel
theorem dX1_makeRoom_6 : decode cX1_makeRoom 6 = .ok (.aload_n 0, 1) := by decide +kernel
theorem dX1_makeRoom_7 : decode cX1_makeRoom 7 = .ok (.getfield 9, 3) := by decide +kernel
theorem dX1_makeRoom_10 : decode cX1_makeRoom 10 = .ok (.arraylength, 1) := by decide +kernel
theorem dX1_makeRoom_11 : decode cX1_makeRoom 11 = .ok (.if_icmp .le 15, 3) := by decide +kernel
theorem dX1_makeRoom_14 : decode cX1_makeRoom 14 = .ok (.aload_n 0, 1) := by decide +kernel
theorem dX1_makeRoom_15 : decode cX1_makeRoom 15 = .ok (.iload_n 1, 1) := by decide +kernel
theorem dX1_makeRoom_16 : decode cX1_makeRoom 16 = .ok (.iconst 2, 1) := by decide +kernel
theorem dX1_makeRoom_17 : decode cX1_makeRoom 17 = .ok (.imul, 1) := by decide +kernel
theorem dX1_makeRoom_18 : decode cX1_makeRoom 18 = .ok (.bipush 8, 2) := by decide +kernel
theorem dX1_makeRoom_20 : decode cX1_makeRoom 20 = .ok (.imul, 1) := by decide +kernel
theorem dX1_makeRoom_21 : decode cX1_makeRoom 21 = .ok (.newarray .int, 2) := by decide +kernel
theorem dX1_makeRoom_23 : decode cX1_makeRoom 23 = .ok (.putfield 9, 3) := by decide +kernel
theorem dX1_makeRoom_26 : decode cX1_makeRoom 26 = .ok (.return_, 1) := by decide +kernel
theorem dX1_useRules_0 : decode cX1_useRules 0 = .ok (.aload_n 0, 1) := by decide +kernel
theorem dX1_useRules_1 : decode cX1_useRules 1 = .ok (.iload_n 1, 1) := by decide +kernel
theorem dX1_useRules_2 : decode cX1_useRules 2 = .ok (.putfield 28, 3) := by decide +kernel
theorem dX1_useRules_5 : decode cX1_useRules 5 = .ok (.aload_n 0, 1) := by decide +kernel
theorem dX1_useRules_6 : decode cX1_useRules 6 = .ok (.iload_n 2, 1) := by decide +kernel
theorem dX1_useRules_7 : decode cX1_useRules 7 = .ok (.putfield 32, 3) := by decide +kernel
theorem dX1_useRules_10 : decode cX1_useRules 10 = .ok (.aload_n 0, 1) := by decide +kernel
theorem dX1_useRules_11 : decode cX1_useRules 11 = .ok (.iload_n 3, 1) := by decide +kernel
theorem dX1_useRules_12 : decode cX1_useRules 12 = .ok (.ldc 36, 2) := by decide +kernel
theorem dX1_useRules_14 : decode cX1_useRules 14 = .ok (.iand, 1) := by decide +kernel
theorem dX1_useRules_15 : decode cX1_useRules 15 = .ok (.putfield 37, 3) := by decide +kernel
theorem dX1_useRules_18 : decode cX1_useRules 18 = .ok (.return_, 1) := by decide +kernel
set_option maxRecDepth 20000 in
theorem ggX1_look_X3_worthTo : GoodIn wsX1_look wsX3_worthTo := goodIn_r _ [12, 13, 14, 15, 67, 68, 69, 70, 71, 72, 73] (by decide +kernel) (by decide +kernel)
set_option maxRecDepth 20000 in
theorem gX1_look_X3_worthTo : GoodIn wsX1_look (wsV RX1 45 RX3 yX3_worthTo wsX3_worthTo) := goodIn_app (goodIn_of _ (by decide +kernel)) ggX1_look_X3_worthTo
set_option maxRecDepth 20000 in
theorem ggX1_look_X3_listChanges : GoodIn wsX1_look wsX3_listChanges := goodIn_r _ [19, 20, 21, 22, 23, 24, 25, 26, 27, 28, 11, 29, 30, 31, 32, 33, 34, 35, 36, 37, 38, 39, 40, 41, 42, 13, 43, 44, 45, 46, 47, 48, 49, 50, 51, 52, 74, 75, 67, 68, 69, 70, 71, 72, 73, 76, 77, 78, 79, 80, 81, 82, 83, 84, 85] (by decide +kernel) (by decide +kernel)
set_option maxRecDepth 20000 in
theorem gX1_look_X3_listChanges : GoodIn wsX1_look (wsV RX1 49 RX3 yX3_listChanges wsX3_listChanges) := goodIn_app (goodIn_of _ (by decide +kernel)) ggX1_look_X3_listChanges
set_option maxRecDepth 20000 in
theorem ggX1_look_X6_get : GoodIn wsX1_look wsX6_get := goodIn_r _ [56, 25, 48, 74, 75] (by decide +kernel) (by decide +kernel)
set_option maxRecDepth 20000 in
theorem gX1_look_X6_get : GoodIn wsX1_look (wsV RX1 56 RX6 yX6_get wsX6_get) := goodIn_app (goodIn_of _ (by decide +kernel)) ggX1_look_X6_get
set_option maxRecDepth 20000 in
theorem ggX1_look_X1_look : GoodIn wsX1_look wsX1_look := goodIn_r _ [0, 1, 2, 3, 4, 5, 6, 7, 8, 9, 10, 11, 12, 13, 14, 15, 16, 17, 18, 19, 20, 21, 22, 23, 24, 25, 26, 27, 28, 29, 30, 31, 32, 33, 34, 35, 36, 37, 38, 39, 40, 41, 42, 43, 44, 45, 46, 47, 48, 49, 50, 51, 52, 53, 54, 55, 56, 57, 58, 59, 60, 61, 62, 63, 64, 65, 66, 67, 68, 69, 70, 71, 72, 73, 74, 75, 76, 77, 78, 79, 80, 81, 82, 83, 84, 85] (by decide +kernel) (by decide +kernel)
set_option maxRecDepth 20000 in
theorem gX1_look_X1_look : GoodIn wsX1_look (wsV RX1 60 RX1 yX1_look wsX1_look) := goodIn_app (goodIn_of _ (by decide +kernel)) ggX1_look_X1_look
theorem dX1_look_0 : decode cX1_look 0 = .ok (.iload_n 3, 1) := by decide +kernel
theorem dX1_look_1 : decode cX1_look 1 = .ok (.ifCond .le 9, 3) := by decide +kernel
theorem dX1_look_4 : decode cX1_look 4 = .ok (.iload_n 3, 1) := by decide +kernel
theorem dX1_look_5 : decode cX1_look 5 = .ok (.bipush 8, 2) := by decide +kernel
theorem dX1_look_7 : decode cX1_look 7 = .ok (.if_icmp .le 5, 3) := by decide +kernel
theorem dX1_look_10 : decode cX1_look 10 = .ok (.iload_n 1, 1) := by decide +kernel
theorem dX1_look_11 : decode cX1_look 11 = .ok (.ireturn, 1) := by decide +kernel
theorem dX1_look_12 : decode cX1_look 12 = .ok (.iload_n 3, 1) := by decide +kernel
theorem dX1_look_13 : decode cX1_look 13 = .ok (.iconst 1, 1) := by decide +kernel
theorem dX1_look_14 : decode cX1_look 14 = .ok (.isub, 1) := by decide +kernel
theorem dX1_look_15 : decode cX1_look 15 = .ok (.iconst 2, 1) := by decide +kernel
theorem dX1_look_16 : decode cX1_look 16 = .ok (.imul, 1) := by decide +kernel
theorem dX1_look_17 : decode cX1_look 17 = .ok (.iload_n 2, 1) := by decide +kernel
theorem dX1_look_18 : decode cX1_look 18 = .ok (.iadd, 1) := by decide +kernel
theorem dX1_look_19 : decode cX1_look 19 = .ok (.aload_n 0, 1) := by decide +kernel
theorem dX1_look_20 : decode cX1_look 20 = .ok (.getfield 21, 3) := by decide +kernel
theorem dX1_look_23 : decode cX1_look 23 = .ok (.getfield 40, 3) := by decide +kernel
theorem dX1_look_26 : decode cX1_look 26 = .ok (.imul, 1) := by decide +kernel
theorem dX1_look_27 : decode cX1_look 27 = .ok (.iload_n 1, 1) := by decide +kernel
theorem dX1_look_28 : decode cX1_look 28 = .ok (.iadd, 1) := by decide +kernel
theorem dX1_look_29 : decode cX1_look 29 = .ok (.istore 4, 2) := by decide +kernel
theorem dX1_look_31 : decode cX1_look 31 = .ok (.iload 4, 2) := by decide +kernel
theorem dX1_look_33 : decode cX1_look 33 = .ok (.ifCond .lt 13, 3) := by decide +kernel
theorem dX1_look_36 : decode cX1_look 36 = .ok (.iload 4, 2) := by decide +kernel
theorem dX1_look_38 : decode cX1_look 38 = .ok (.aload_n 0, 1) := by decide +kernel
theorem dX1_look_39 : decode cX1_look 39 = .ok (.getfield 9, 3) := by decide +kernel
theorem dX1_look_42 : decode cX1_look 42 = .ok (.arraylength, 1) := by decide +kernel
theorem dX1_look_43 : decode cX1_look 43 = .ok (.if_icmp .lt 5, 3) := by decide +kernel
theorem dX1_look_46 : decode cX1_look 46 = .ok (.iload_n 1, 1) := by decide +kernel
theorem dX1_look_47 : decode cX1_look 47 = .ok (.ireturn, 1) := by decide +kernel
theorem dX1_look_48 : decode cX1_look 48 = .ok (.aload_n 0, 1) := by decide +kernel
theorem dX1_look_49 : decode cX1_look 49 = .ok (.getfield 9, 3) := by decide +kernel
theorem dX1_look_52 : decode cX1_look 52 = .ok (.iload 4, 2) := by decide +kernel
theorem dX1_look_54 : decode cX1_look 54 = .ok (.iaload, 1) := by decide +kernel
theorem dX1_look_55 : decode cX1_look 55 = .ok (.bipush 16, 2) := by decide +kernel
theorem dX1_look_57 : decode cX1_look 57 = .ok (.iushr, 1) := by decide +kernel
theorem dX1_look_58 : decode cX1_look 58 = .ok (.aload_n 0, 1) := by decide +kernel
theorem dX1_look_59 : decode cX1_look 59 = .ok (.getfield 37, 3) := by decide +kernel
theorem dX1_look_62 : decode cX1_look 62 = .ok (.if_icmp .ne 14, 3) := by decide +kernel
theorem dX1_look_65 : decode cX1_look 65 = .ok (.aload_n 0, 1) := by decide +kernel
theorem dX1_look_66 : decode cX1_look 66 = .ok (.getfield 9, 3) := by decide +kernel
theorem dX1_look_69 : decode cX1_look 69 = .ok (.iload 4, 2) := by decide +kernel
theorem dX1_look_71 : decode cX1_look 71 = .ok (.iaload, 1) := by decide +kernel
theorem dX1_look_72 : decode cX1_look 72 = .ok (.ldc 36, 2) := by decide +kernel
theorem dX1_look_74 : decode cX1_look 74 = .ok (.iand, 1) := by decide +kernel
theorem dX1_look_75 : decode cX1_look 75 = .ok (.ireturn, 1) := by decide +kernel
theorem dX1_look_76 : decode cX1_look 76 = .ok (.iload_n 1, 1) := by decide +kernel
theorem dX1_look_77 : decode cX1_look 77 = .ok (.istore 5, 2) := by decide +kernel
theorem dX1_look_79 : decode cX1_look 79 = .ok (.aload_n 0, 1) := by decide +kernel
theorem dX1_look_80 : decode cX1_look 80 = .ok (.getfield 21, 3) := by decide +kernel
theorem dX1_look_83 : decode cX1_look 83 = .ok (.iload_n 2, 1) := by decide +kernel
theorem dX1_look_84 : decode cX1_look 84 = .ok (.iload_n 1, 1) := by decide +kernel
theorem dX1_look_85 : decode cX1_look 85 = .ok (.invokevirtual 45, 3) := by decide +kernel
theorem dX1_look_88 : decode cX1_look 88 = .ok (.istore 6, 2) := by decide +kernel
theorem dX1_look_90 : decode cX1_look 90 = .ok (.aload_n 0, 1) := by decide +kernel
theorem dX1_look_91 : decode cX1_look 91 = .ok (.getfield 17, 3) := by decide +kernel
theorem dX1_look_94 : decode cX1_look 94 = .ok (.iload_n 3, 1) := by decide +kernel
theorem dX1_look_95 : decode cX1_look 95 = .ok (.aaload, 1) := by decide +kernel
theorem dX1_look_96 : decode cX1_look 96 = .ok (.astore 7, 2) := by decide +kernel
theorem dX1_look_98 : decode cX1_look 98 = .ok (.aload_n 0, 1) := by decide +kernel
theorem dX1_look_99 : decode cX1_look 99 = .ok (.getfield 21, 3) := by decide +kernel
theorem dX1_look_102 : decode cX1_look 102 = .ok (.iload_n 1, 1) := by decide +kernel
theorem dX1_look_103 : decode cX1_look 103 = .ok (.aload_n 0, 1) := by decide +kernel
theorem dX1_look_104 : decode cX1_look 104 = .ok (.getfield 28, 3) := by decide +kernel
theorem dX1_look_107 : decode cX1_look 107 = .ok (.aload_n 0, 1) := by decide +kernel
theorem dX1_look_108 : decode cX1_look 108 = .ok (.getfield 32, 3) := by decide +kernel
theorem dX1_look_111 : decode cX1_look 111 = .ok (.aload 7, 2) := by decide +kernel
theorem dX1_look_113 : decode cX1_look 113 = .ok (.invokevirtual 49, 3) := by decide +kernel
theorem dX1_look_116 : decode cX1_look 116 = .ok (.iconst 0, 1) := by decide +kernel
theorem dX1_look_117 : decode cX1_look 117 = .ok (.istore 8, 2) := by decide +kernel
theorem dX1_look_119 : decode cX1_look 119 = .ok (.iload 8, 2) := by decide +kernel
theorem dX1_look_121 : decode cX1_look 121 = .ok (.aload 7, 2) := by decide +kernel
theorem dX1_look_123 : decode cX1_look 123 = .ok (.getfield 53, 3) := by decide +kernel
theorem dX1_look_126 : decode cX1_look 126 = .ok (.if_icmp .ge 63, 3) := by decide +kernel
theorem dX1_look_129 : decode cX1_look 129 = .ok (.aload_n 0, 1) := by decide +kernel
theorem dX1_look_130 : decode cX1_look 130 = .ok (.aload 7, 2) := by decide +kernel
theorem dX1_look_132 : decode cX1_look 132 = .ok (.iload 8, 2) := by decide +kernel
theorem dX1_look_134 : decode cX1_look 134 = .ok (.invokevirtual 56, 3) := by decide +kernel
theorem dX1_look_137 : decode cX1_look 137 = .ok (.iconst 1, 1) := by decide +kernel
theorem dX1_look_138 : decode cX1_look 138 = .ok (.iload_n 2, 1) := by decide +kernel
theorem dX1_look_139 : decode cX1_look 139 = .ok (.isub, 1) := by decide +kernel
theorem dX1_look_140 : decode cX1_look 140 = .ok (.iload_n 3, 1) := by decide +kernel
theorem dX1_look_141 : decode cX1_look 141 = .ok (.iconst 1, 1) := by decide +kernel
theorem dX1_look_142 : decode cX1_look 142 = .ok (.isub, 1) := by decide +kernel
theorem dX1_look_143 : decode cX1_look 143 = .ok (.invokevirtual 60, 3) := by decide +kernel
theorem dX1_look_146 : decode cX1_look 146 = .ok (.istore 9, 2) := by decide +kernel
theorem dX1_look_148 : decode cX1_look 148 = .ok (.aload_n 0, 1) := by decide +kernel
theorem dX1_look_149 : decode cX1_look 149 = .ok (.getfield 21, 3) := by decide +kernel
theorem dX1_look_152 : decode cX1_look 152 = .ok (.iload_n 2, 1) := by decide +kernel
theorem dX1_look_153 : decode cX1_look 153 = .ok (.iload 9, 2) := by decide +kernel
theorem dX1_look_155 : decode cX1_look 155 = .ok (.sipush 4096, 3) := by decide +kernel
theorem dX1_look_158 : decode cX1_look 158 = .ok (.irem, 1) := by decide +kernel
theorem dX1_look_159 : decode cX1_look 159 = .ok (.invokevirtual 45, 3) := by decide +kernel
theorem dX1_look_162 : decode cX1_look 162 = .ok (.istore 10, 2) := by decide +kernel
theorem dX1_look_164 : decode cX1_look 164 = .ok (.iload 10, 2) := by decide +kernel
theorem dX1_look_166 : decode cX1_look 166 = .ok (.iload 6, 2) := by decide +kernel
theorem dX1_look_168 : decode cX1_look 168 = .ok (.if_icmp .le 15, 3) := by decide +kernel
theorem dX1_look_171 : decode cX1_look 171 = .ok (.iload 10, 2) := by decide +kernel
theorem dX1_look_173 : decode cX1_look 173 = .ok (.istore 6, 2) := by decide +kernel
theorem dX1_look_175 : decode cX1_look 175 = .ok (.iload 9, 2) := by decide +kernel
theorem dX1_look_177 : decode cX1_look 177 = .ok (.sipush 4096, 3) := by decide +kernel
theorem dX1_look_180 : decode cX1_look 180 = .ok (.iadd, 1) := by decide +kernel
theorem dX1_look_181 : decode cX1_look 181 = .ok (.istore 5, 2) := by decide +kernel
theorem dX1_look_183 : decode cX1_look 183 = .ok (.iinc 8 1, 3) := by decide +kernel
theorem dX1_look_186 : decode cX1_look 186 = .ok (.goto (-67), 3) := by decide +kernel
theorem dX1_look_189 : decode cX1_look 189 = .ok (.aload_n 0, 1) := by decide +kernel
theorem dX1_look_190 : decode cX1_look 190 = .ok (.getfield 9, 3) := by decide +kernel
theorem dX1_look_193 : decode cX1_look 193 = .ok (.iload 4, 2) := by decide +kernel
theorem dX1_look_195 : decode cX1_look 195 = .ok (.aload_n 0, 1) := by decide +kernel
theorem dX1_look_196 : decode cX1_look 196 = .ok (.getfield 37, 3) := by decide +kernel
theorem dX1_look_199 : decode cX1_look 199 = .ok (.bipush 16, 2) := by decide +kernel
theorem dX1_look_201 : decode cX1_look 201 = .ok (.ishl, 1) := by decide +kernel
theorem dX1_look_202 : decode cX1_look 202 = .ok (.iload 5, 2) := by decide +kernel
theorem dX1_look_204 : decode cX1_look 204 = .ok (.ior, 1) := by decide +kernel
theorem dX1_look_205 : decode cX1_look 205 = .ok (.iastore, 1) := by decide +kernel
theorem dX1_look_206 : decode cX1_look 206 = .ok (.iload 5, 2) := by decide +kernel
theorem dX1_look_208 : decode cX1_look 208 = .ok (.ireturn, 1) := by decide +kernel
set_option maxRecDepth 20000 in
theorem ggX1_firstSent_X1_look : GoodIn wsX1_firstSent wsX1_look := goodIn_r _ [9, 1, 10, 11, 12, 2, 3, 4, 13, 14, 15, 16, 17, 18, 19, 20, 21, 22, 23, 24, 25, 26, 27, 28, 29, 30, 31, 32, 33, 34, 35, 36, 37, 38, 39, 40, 41, 42, 43, 44, 45, 46, 47, 48, 49, 50, 51, 52, 53, 54, 55, 56, 57, 58, 59, 60, 61, 5, 6, 7, 8, 62, 63, 64, 65, 66, 67, 70, 71, 72, 73, 74, 75, 76, 68, 69, 77, 78, 79, 80, 81, 82, 83, 84, 85, 86] (by decide +kernel) (by decide +kernel)
set_option maxRecDepth 20000 in
theorem gX1_firstSent_X1_look : GoodIn wsX1_firstSent (wsV RX1 60 RX1 yX1_look wsX1_look) := goodIn_app (goodIn_of _ (by decide +kernel)) ggX1_firstSent_X1_look
set_option maxRecDepth 20000 in
theorem ggX1_firstSent_X3_worthTo : GoodIn wsX1_firstSent wsX3_worthTo := goodIn_r _ [17, 18, 19, 20, 70, 71, 72, 73, 74, 75, 76] (by decide +kernel) (by decide +kernel)
set_option maxRecDepth 20000 in
theorem gX1_firstSent_X3_worthTo : GoodIn wsX1_firstSent (wsV RX1 45 RX3 yX3_worthTo wsX3_worthTo) := goodIn_app (goodIn_of _ (by decide +kernel)) ggX1_firstSent_X3_worthTo
set_option maxRecDepth 20000 in
theorem ggX1_firstSent_X3_listChanges : GoodIn wsX1_firstSent wsX3_listChanges := goodIn_r _ [24, 25, 26, 27, 28, 29, 30, 31, 32, 33, 16, 34, 35, 36, 37, 38, 39, 40, 41, 42, 43, 44, 45, 46, 47, 18, 48, 49, 50, 51, 52, 53, 54, 55, 56, 57, 68, 69, 70, 71, 72, 73, 74, 75, 76, 77, 78, 79, 80, 81, 82, 83, 84, 85, 86] (by decide +kernel) (by decide +kernel)
set_option maxRecDepth 20000 in
theorem gX1_firstSent_X3_listChanges : GoodIn wsX1_firstSent (wsV RX1 49 RX3 yX3_listChanges wsX3_listChanges) := goodIn_app (goodIn_of _ (by decide +kernel)) ggX1_firstSent_X3_listChanges
set_option maxRecDepth 20000 in
theorem ggX1_firstSent_X6_get : GoodIn wsX1_firstSent wsX6_get := goodIn_r _ [61, 30, 53, 68, 69] (by decide +kernel) (by decide +kernel)
set_option maxRecDepth 20000 in
theorem gX1_firstSent_X6_get : GoodIn wsX1_firstSent (wsV RX1 56 RX6 yX6_get wsX6_get) := goodIn_app (goodIn_of _ (by decide +kernel)) ggX1_firstSent_X6_get
theorem dX1_firstSent_0 : decode cX1_firstSent 0 = .ok (.aload_n 0, 1) := by decide +kernel
theorem dX1_firstSent_1 : decode cX1_firstSent 1 = .ok (.iload_n 1, 1) := by decide +kernel
theorem dX1_firstSent_2 : decode cX1_firstSent 2 = .ok (.iload_n 2, 1) := by decide +kernel
theorem dX1_firstSent_3 : decode cX1_firstSent 3 = .ok (.iload_n 3, 1) := by decide +kernel
theorem dX1_firstSent_4 : decode cX1_firstSent 4 = .ok (.invokevirtual 60, 3) := by decide +kernel
theorem dX1_firstSent_7 : decode cX1_firstSent 7 = .ok (.istore 4, 2) := by decide +kernel
theorem dX1_firstSent_9 : decode cX1_firstSent 9 = .ok (.iload_n 3, 1) := by decide +kernel
theorem dX1_firstSent_10 : decode cX1_firstSent 10 = .ok (.ifCond .lt 17, 3) := by decide +kernel
theorem dX1_firstSent_13 : decode cX1_firstSent 13 = .ok (.iload_n 3, 1) := by decide +kernel
theorem dX1_firstSent_14 : decode cX1_firstSent 14 = .ok (.bipush 8, 2) := by decide +kernel
theorem dX1_firstSent_16 : decode cX1_firstSent 16 = .ok (.if_icmp .gt 11, 3) := by decide +kernel
theorem dX1_firstSent_19 : decode cX1_firstSent 19 = .ok (.iload 4, 2) := by decide +kernel
theorem dX1_firstSent_21 : decode cX1_firstSent 21 = .ok (.sipush 4096, 3) := by decide +kernel
theorem dX1_firstSent_24 : decode cX1_firstSent 24 = .ok (.if_icmp .ge 5, 3) := by decide +kernel
theorem dX1_firstSent_27 : decode cX1_firstSent 27 = .ok (.iconst (-1), 1) := by decide +kernel
theorem dX1_firstSent_28 : decode cX1_firstSent 28 = .ok (.ireturn, 1) := by decide +kernel
theorem dX1_firstSent_29 : decode cX1_firstSent 29 = .ok (.aload_n 0, 1) := by decide +kernel
theorem dX1_firstSent_30 : decode cX1_firstSent 30 = .ok (.getfield 21, 3) := by decide +kernel
theorem dX1_firstSent_33 : decode cX1_firstSent 33 = .ok (.iload_n 2, 1) := by decide +kernel
theorem dX1_firstSent_34 : decode cX1_firstSent 34 = .ok (.iload 4, 2) := by decide +kernel
theorem dX1_firstSent_36 : decode cX1_firstSent 36 = .ok (.sipush 4096, 3) := by decide +kernel
theorem dX1_firstSent_39 : decode cX1_firstSent 39 = .ok (.irem, 1) := by decide +kernel
theorem dX1_firstSent_40 : decode cX1_firstSent 40 = .ok (.invokevirtual 45, 3) := by decide +kernel
theorem dX1_firstSent_43 : decode cX1_firstSent 43 = .ok (.istore 5, 2) := by decide +kernel
theorem dX1_firstSent_45 : decode cX1_firstSent 45 = .ok (.aload_n 0, 1) := by decide +kernel
theorem dX1_firstSent_46 : decode cX1_firstSent 46 = .ok (.getfield 17, 3) := by decide +kernel
theorem dX1_firstSent_49 : decode cX1_firstSent 49 = .ok (.iload_n 3, 1) := by decide +kernel
theorem dX1_firstSent_50 : decode cX1_firstSent 50 = .ok (.aaload, 1) := by decide +kernel
theorem dX1_firstSent_51 : decode cX1_firstSent 51 = .ok (.astore 6, 2) := by decide +kernel
theorem dX1_firstSent_53 : decode cX1_firstSent 53 = .ok (.aload_n 0, 1) := by decide +kernel
theorem dX1_firstSent_54 : decode cX1_firstSent 54 = .ok (.getfield 21, 3) := by decide +kernel
theorem dX1_firstSent_57 : decode cX1_firstSent 57 = .ok (.iload_n 1, 1) := by decide +kernel
theorem dX1_firstSent_58 : decode cX1_firstSent 58 = .ok (.aload_n 0, 1) := by decide +kernel
theorem dX1_firstSent_59 : decode cX1_firstSent 59 = .ok (.getfield 28, 3) := by decide +kernel
theorem dX1_firstSent_62 : decode cX1_firstSent 62 = .ok (.aload_n 0, 1) := by decide +kernel
theorem dX1_firstSent_63 : decode cX1_firstSent 63 = .ok (.getfield 32, 3) := by decide +kernel
theorem dX1_firstSent_66 : decode cX1_firstSent 66 = .ok (.aload 6, 2) := by decide +kernel
theorem dX1_firstSent_68 : decode cX1_firstSent 68 = .ok (.invokevirtual 49, 3) := by decide +kernel
theorem dX1_firstSent_71 : decode cX1_firstSent 71 = .ok (.iconst 0, 1) := by decide +kernel
theorem dX1_firstSent_72 : decode cX1_firstSent 72 = .ok (.istore 7, 2) := by decide +kernel
theorem dX1_firstSent_74 : decode cX1_firstSent 74 = .ok (.iload 7, 2) := by decide +kernel
theorem dX1_firstSent_76 : decode cX1_firstSent 76 = .ok (.aload 6, 2) := by decide +kernel
theorem dX1_firstSent_78 : decode cX1_firstSent 78 = .ok (.getfield 53, 3) := by decide +kernel
theorem dX1_firstSent_81 : decode cX1_firstSent 81 = .ok (.if_icmp .ge 55, 3) := by decide +kernel
theorem dX1_firstSent_84 : decode cX1_firstSent 84 = .ok (.aload_n 0, 1) := by decide +kernel
theorem dX1_firstSent_85 : decode cX1_firstSent 85 = .ok (.aload 6, 2) := by decide +kernel
theorem dX1_firstSent_87 : decode cX1_firstSent 87 = .ok (.iload 7, 2) := by decide +kernel
theorem dX1_firstSent_89 : decode cX1_firstSent 89 = .ok (.invokevirtual 56, 3) := by decide +kernel
theorem dX1_firstSent_92 : decode cX1_firstSent 92 = .ok (.iconst 1, 1) := by decide +kernel
theorem dX1_firstSent_93 : decode cX1_firstSent 93 = .ok (.iload_n 2, 1) := by decide +kernel
theorem dX1_firstSent_94 : decode cX1_firstSent 94 = .ok (.isub, 1) := by decide +kernel
theorem dX1_firstSent_95 : decode cX1_firstSent 95 = .ok (.iload_n 3, 1) := by decide +kernel
theorem dX1_firstSent_96 : decode cX1_firstSent 96 = .ok (.iconst 1, 1) := by decide +kernel
theorem dX1_firstSent_97 : decode cX1_firstSent 97 = .ok (.isub, 1) := by decide +kernel
theorem dX1_firstSent_98 : decode cX1_firstSent 98 = .ok (.invokevirtual 60, 3) := by decide +kernel
theorem dX1_firstSent_101 : decode cX1_firstSent 101 = .ok (.istore 8, 2) := by decide +kernel
theorem dX1_firstSent_103 : decode cX1_firstSent 103 = .ok (.aload_n 0, 1) := by decide +kernel
theorem dX1_firstSent_104 : decode cX1_firstSent 104 = .ok (.getfield 21, 3) := by decide +kernel
theorem dX1_firstSent_107 : decode cX1_firstSent 107 = .ok (.iload_n 2, 1) := by decide +kernel
theorem dX1_firstSent_108 : decode cX1_firstSent 108 = .ok (.iload 8, 2) := by decide +kernel
theorem dX1_firstSent_110 : decode cX1_firstSent 110 = .ok (.sipush 4096, 3) := by decide +kernel
theorem dX1_firstSent_113 : decode cX1_firstSent 113 = .ok (.irem, 1) := by decide +kernel
theorem dX1_firstSent_114 : decode cX1_firstSent 114 = .ok (.invokevirtual 45, 3) := by decide +kernel
theorem dX1_firstSent_117 : decode cX1_firstSent 117 = .ok (.iload 5, 2) := by decide +kernel
theorem dX1_firstSent_119 : decode cX1_firstSent 119 = .ok (.if_icmp .ne 11, 3) := by decide +kernel
theorem dX1_firstSent_122 : decode cX1_firstSent 122 = .ok (.aload 6, 2) := by decide +kernel
theorem dX1_firstSent_124 : decode cX1_firstSent 124 = .ok (.iload 7, 2) := by decide +kernel
theorem dX1_firstSent_126 : decode cX1_firstSent 126 = .ok (.invokevirtual 56, 3) := by decide +kernel
theorem dX1_firstSent_129 : decode cX1_firstSent 129 = .ok (.ireturn, 1) := by decide +kernel
theorem dX1_firstSent_130 : decode cX1_firstSent 130 = .ok (.iinc 7 1, 3) := by decide +kernel
theorem dX1_firstSent_133 : decode cX1_firstSent 133 = .ok (.goto (-59), 3) := by decide +kernel
theorem dX1_firstSent_136 : decode cX1_firstSent 136 = .ok (.iconst (-1), 1) := by decide +kernel
theorem dX1_firstSent_137 : decode cX1_firstSent 137 = .ok (.ireturn, 1) := by decide +kernel
theorem dX2_init_0 : decode cX2_init 0 = .ok (.aload_n 0, 1) := by decide +kernel
theorem dX2_init_1 : decode cX2_init 1 = .ok (.invokespecial 3, 3) := by decide +kernel
theorem dX2_init_4 : decode cX2_init 4 = .ok (.aload_n 0, 1) := by decide +kernel
theorem dX2_init_5 : decode cX2_init 5 = .ok (.bipush 8, 2) := by decide +kernel
theorem dX2_init_7 : decode cX2_init 7 = .ok (.newarray .int, 2) := by decide +kernel
theorem dX2_init_9 : decode cX2_init 9 = .ok (.putfield 9, 3) := by decide +kernel
theorem dX2_init_12 : decode cX2_init 12 = .ok (.return_, 1) := by decide +kernel
set_option maxRecDepth 20000 in
theorem ggX2_restart_J7_fill_53178 : GoodIn wsX2_restart wsJ7_fill_53178 := goodIn_r _ [6] (by decide +kernel) (by decide +kernel)
set_option maxRecDepth 20000 in
theorem gX2_restart_J7_fill_53178 : GoodIn wsX2_restart (va_wsS RX2 19 yJ7_fill_53178 wsJ7_fill_53178) := goodIn_app (goodIn_of _ (by decide +kernel)) ggX2_restart_J7_fill_53178
theorem dX2_restart_0 : decode cX2_restart 0 = .ok (.aload_n 0, 1) := by decide +kernel
theorem dX2_restart_1 : decode cX2_restart 1 = .ok (.iload_n 1, 1) := by decide +kernel
theorem dX2_restart_2 : decode cX2_restart 2 = .ok (.putfield 15, 3) := by decide +kernel
theorem dX2_restart_5 : decode cX2_restart 5 = .ok (.aload_n 0, 1) := by decide +kernel
theorem dX2_restart_6 : decode cX2_restart 6 = .ok (.getfield 9, 3) := by decide +kernel
theorem dX2_restart_9 : decode cX2_restart 9 = .ok (.iconst 0, 1) := by decide +kernel
theorem dX2_restart_10 : decode cX2_restart 10 = .ok (.invokestatic 19, 3) := by decide +kernel
theorem dX2_restart_13 : decode cX2_restart 13 = .ok (.return_, 1) := by decide +kernel
theorem dX3_init_0 : decode cX3_init 0 = .ok (.aload_n 0, 1) := by decide +kernel
theorem dX3_init_1 : decode cX3_init 1 = .ok (.invokespecial 3, 3) := by decide +kernel
theorem dX3_init_4 : decode cX3_init 4 = .ok (.aload_n 0, 1) := by decide +kernel
theorem dX3_init_5 : decode cX3_init 5 = .ok (.iconst 0, 1) := by decide +kernel
theorem dX3_init_6 : decode cX3_init 6 = .ok (.newarray .byte, 2) := by decide +kernel
theorem dX3_init_8 : decode cX3_init 8 = .ok (.putfield 9, 3) := by decide +kernel
theorem dX3_init_11 : decode cX3_init 11 = .ok (.aload_n 0, 1) := by decide +kernel
theorem dX3_init_12 : decode cX3_init 12 = .ok (.iconst 0, 1) := by decide +kernel
theorem dX3_init_13 : decode cX3_init 13 = .ok (.newarray .int, 2) := by decide +kernel
theorem dX3_init_15 : decode cX3_init 15 = .ok (.putfield 15, 3) := by decide +kernel
theorem dX3_init_18 : decode cX3_init 18 = .ok (.aload_n 0, 1) := by decide +kernel
theorem dX3_init_19 : decode cX3_init 19 = .ok (.iconst 0, 1) := by decide +kernel
theorem dX3_init_20 : decode cX3_init 20 = .ok (.newarray .int, 2) := by decide +kernel
theorem dX3_init_22 : decode cX3_init 22 = .ok (.putfield 19, 3) := by decide +kernel
theorem dX3_init_25 : decode cX3_init 25 = .ok (.aload_n 0, 1) := by decide +kernel
theorem dX3_init_26 : decode cX3_init 26 = .ok (.aload_n 1, 1) := by decide +kernel
theorem dX3_init_27 : decode cX3_init 27 = .ok (.putfield 22, 3) := by decide +kernel
theorem dX3_init_30 : decode cX3_init 30 = .ok (.return_, 1) := by decide +kernel
set_option maxRecDepth 20000 in
theorem ggX3_lay_X7_countLetters : GoodIn wsX3_lay wsX7_countLetters := goodIn_r _ [12, 13, 14, 15, 47, 48, 49, 50, 51, 52, 53, 54, 55, 56] (by decide +kernel) (by decide +kernel)
set_option maxRecDepth 20000 in
theorem gX3_lay_X7_countLetters : GoodIn wsX3_lay (wsV RX3 30 RX7 yX7_countLetters wsX7_countLetters) := goodIn_app (goodIn_of _ (by decide +kernel)) ggX3_lay_X7_countLetters
set_option maxRecDepth 20000 in
theorem ggX3_lay_X3_makeRoom : GoodIn wsX3_lay wsX3_makeRoom := goodIn_r _ [20, 3, 5, 21, 22, 6, 7, 40, 41, 42, 43, 44, 45, 46] (by decide +kernel) (by decide +kernel)
set_option maxRecDepth 20000 in
theorem gX3_lay_X3_makeRoom : GoodIn wsX3_lay (wsV RX3 42 RX3 yX3_makeRoom wsX3_makeRoom) := goodIn_app (goodIn_of _ (by decide +kernel)) ggX3_lay_X3_makeRoom
set_option maxRecDepth 20000 in
theorem ggX3_lay_X7_isFramed : GoodIn wsX3_lay wsX7_isFramed := goodIn_r _ [26, 15, 27, 28, 29, 30, 31, 11, 32, 14, 13, 47, 48, 49, 50, 51, 52, 53, 54, 55, 56] (by decide +kernel) (by decide +kernel)
set_option maxRecDepth 20000 in
theorem gX3_lay_X7_isFramed : GoodIn wsX3_lay (wsV RX3 45 RX7 yX7_isFramed wsX7_isFramed) := goodIn_app (goodIn_of _ (by decide +kernel)) ggX3_lay_X7_isFramed
set_option maxRecDepth 20000 in
theorem ggX3_lay_X7_weigh : GoodIn wsX3_lay wsX7_weigh := goodIn_r _ [36, 15, 27, 29, 30, 31, 11, 32, 14, 13, 37, 38, 39, 47, 48, 49, 50, 51, 52, 53, 54, 55, 56] (by decide +kernel) (by decide +kernel)
set_option maxRecDepth 20000 in
theorem gX3_lay_X7_weigh : GoodIn wsX3_lay (wsV RX3 56 RX7 yX7_weigh wsX7_weigh) := goodIn_app (goodIn_of _ (by decide +kernel)) ggX3_lay_X7_weigh
theorem dX3_lay_0 : decode cX3_lay 0 = .ok (.aload_n 0, 1) := by decide +kernel
theorem dX3_lay_1 : decode cX3_lay 1 = .ok (.aload_n 1, 1) := by decide +kernel
theorem dX3_lay_2 : decode cX3_lay 2 = .ok (.putfield 22, 3) := by decide +kernel
theorem dX3_lay_5 : decode cX3_lay 5 = .ok (.aload_n 0, 1) := by decide +kernel
theorem dX3_lay_6 : decode cX3_lay 6 = .ok (.dup, 1) := by decide +kernel
theorem dX3_lay_7 : decode cX3_lay 7 = .ok (.getfield 26, 3) := by decide +kernel
theorem dX3_lay_10 : decode cX3_lay 10 = .ok (.iconst 1, 1) := by decide +kernel
theorem dX3_lay_11 : decode cX3_lay 11 = .ok (.iadd, 1) := by decide +kernel
theorem dX3_lay_12 : decode cX3_lay 12 = .ok (.putfield 26, 3) := by decide +kernel
theorem dX3_lay_15 : decode cX3_lay 15 = .ok (.aload_n 0, 1) := by decide +kernel
theorem dX3_lay_16 : decode cX3_lay 16 = .ok (.aload_n 1, 1) := by decide +kernel
theorem dX3_lay_17 : decode cX3_lay 17 = .ok (.invokevirtual 30, 3) := by decide +kernel
theorem dX3_lay_20 : decode cX3_lay 20 = .ok (.putfield 36, 3) := by decide +kernel
theorem dX3_lay_23 : decode cX3_lay 23 = .ok (.aload_n 0, 1) := by decide +kernel
theorem dX3_lay_24 : decode cX3_lay 24 = .ok (.iconst 0, 1) := by decide +kernel
theorem dX3_lay_25 : decode cX3_lay 25 = .ok (.putfield 39, 3) := by decide +kernel
theorem dX3_lay_28 : decode cX3_lay 28 = .ok (.aload_n 0, 1) := by decide +kernel
theorem dX3_lay_29 : decode cX3_lay 29 = .ok (.invokevirtual 42, 3) := by decide +kernel
theorem dX3_lay_32 : decode cX3_lay 32 = .ok (.iconst 0, 1) := by decide +kernel
theorem dX3_lay_33 : decode cX3_lay 33 = .ok (.istore_n 2, 1) := by decide +kernel
theorem dX3_lay_34 : decode cX3_lay 34 = .ok (.iload_n 2, 1) := by decide +kernel
theorem dX3_lay_35 : decode cX3_lay 35 = .ok (.aload_n 0, 1) := by decide +kernel
theorem dX3_lay_36 : decode cX3_lay 36 = .ok (.getfield 36, 3) := by decide +kernel
theorem dX3_lay_39 : decode cX3_lay 39 = .ok (.if_icmp .ge 108, 3) := by decide +kernel
theorem dX3_lay_42 : decode cX3_lay 42 = .ok (.aload_n 1, 1) := by decide +kernel
theorem dX3_lay_43 : decode cX3_lay 43 = .ok (.iload_n 2, 1) := by decide +kernel
theorem dX3_lay_44 : decode cX3_lay 44 = .ok (.invokevirtual 45, 3) := by decide +kernel
theorem dX3_lay_47 : decode cX3_lay 47 = .ok (.istore_n 3, 1) := by decide +kernel
theorem dX3_lay_48 : decode cX3_lay 48 = .ok (.aload_n 0, 1) := by decide +kernel
theorem dX3_lay_49 : decode cX3_lay 49 = .ok (.getfield 9, 3) := by decide +kernel
theorem dX3_lay_52 : decode cX3_lay 52 = .ok (.iload_n 2, 1) := by decide +kernel
theorem dX3_lay_53 : decode cX3_lay 53 = .ok (.iload_n 3, 1) := by decide +kernel
theorem dX3_lay_54 : decode cX3_lay 54 = .ok (.ifCond .eq 7, 3) := by decide +kernel
theorem dX3_lay_57 : decode cX3_lay 57 = .ok (.iconst 1, 1) := by decide +kernel
theorem dX3_lay_58 : decode cX3_lay 58 = .ok (.goto 4, 3) := by decide +kernel
theorem dX3_lay_61 : decode cX3_lay 61 = .ok (.iconst 0, 1) := by decide +kernel
theorem dX3_lay_62 : decode cX3_lay 62 = .ok (.i2b, 1) := by decide +kernel
theorem dX3_lay_63 : decode cX3_lay 63 = .ok (.bastore, 1) := by decide +kernel
theorem dX3_lay_64 : decode cX3_lay 64 = .ok (.aload_n 0, 1) := by decide +kernel
theorem dX3_lay_65 : decode cX3_lay 65 = .ok (.getfield 15, 3) := by decide +kernel
theorem dX3_lay_68 : decode cX3_lay 68 = .ok (.iload_n 2, 1) := by decide +kernel
theorem dX3_lay_69 : decode cX3_lay 69 = .ok (.iload_n 3, 1) := by decide +kernel
theorem dX3_lay_70 : decode cX3_lay 70 = .ok (.ifCond .eq 23, 3) := by decide +kernel
theorem dX3_lay_73 : decode cX3_lay 73 = .ok (.aload_n 1, 1) := by decide +kernel
theorem dX3_lay_74 : decode cX3_lay 74 = .ok (.iload_n 2, 1) := by decide +kernel
theorem dX3_lay_75 : decode cX3_lay 75 = .ok (.aload_n 1, 1) := by decide +kernel
theorem dX3_lay_76 : decode cX3_lay 76 = .ok (.getfield 49, 3) := by decide +kernel
theorem dX3_lay_79 : decode cX3_lay 79 = .ok (.iconst 0, 1) := by decide +kernel
theorem dX3_lay_80 : decode cX3_lay 80 = .ok (.aaload, 1) := by decide +kernel
theorem dX3_lay_81 : decode cX3_lay 81 = .ok (.aload_n 1, 1) := by decide +kernel
theorem dX3_lay_82 : decode cX3_lay 82 = .ok (.getfield 53, 3) := by decide +kernel
theorem dX3_lay_85 : decode cX3_lay 85 = .ok (.iconst 0, 1) := by decide +kernel
theorem dX3_lay_86 : decode cX3_lay 86 = .ok (.aaload, 1) := by decide +kernel
theorem dX3_lay_87 : decode cX3_lay 87 = .ok (.invokevirtual 56, 3) := by decide +kernel
theorem dX3_lay_90 : decode cX3_lay 90 = .ok (.goto 4, 3) := by decide +kernel
theorem dX3_lay_93 : decode cX3_lay 93 = .ok (.iconst 0, 1) := by decide +kernel
theorem dX3_lay_94 : decode cX3_lay 94 = .ok (.iastore, 1) := by decide +kernel
theorem dX3_lay_95 : decode cX3_lay 95 = .ok (.aload_n 0, 1) := by decide +kernel
theorem dX3_lay_96 : decode cX3_lay 96 = .ok (.getfield 19, 3) := by decide +kernel
theorem dX3_lay_99 : decode cX3_lay 99 = .ok (.iload_n 2, 1) := by decide +kernel
theorem dX3_lay_100 : decode cX3_lay 100 = .ok (.iload_n 3, 1) := by decide +kernel
theorem dX3_lay_101 : decode cX3_lay 101 = .ok (.ifCond .eq 23, 3) := by decide +kernel
theorem dX3_lay_104 : decode cX3_lay 104 = .ok (.aload_n 1, 1) := by decide +kernel
theorem dX3_lay_105 : decode cX3_lay 105 = .ok (.iload_n 2, 1) := by decide +kernel
theorem dX3_lay_106 : decode cX3_lay 106 = .ok (.aload_n 1, 1) := by decide +kernel
theorem dX3_lay_107 : decode cX3_lay 107 = .ok (.getfield 49, 3) := by decide +kernel
theorem dX3_lay_110 : decode cX3_lay 110 = .ok (.iconst 1, 1) := by decide +kernel
theorem dX3_lay_111 : decode cX3_lay 111 = .ok (.aaload, 1) := by decide +kernel
theorem dX3_lay_112 : decode cX3_lay 112 = .ok (.aload_n 1, 1) := by decide +kernel
theorem dX3_lay_113 : decode cX3_lay 113 = .ok (.getfield 53, 3) := by decide +kernel
theorem dX3_lay_116 : decode cX3_lay 116 = .ok (.iconst 1, 1) := by decide +kernel
theorem dX3_lay_117 : decode cX3_lay 117 = .ok (.aaload, 1) := by decide +kernel
theorem dX3_lay_118 : decode cX3_lay 118 = .ok (.invokevirtual 56, 3) := by decide +kernel
theorem dX3_lay_121 : decode cX3_lay 121 = .ok (.goto 4, 3) := by decide +kernel
theorem dX3_lay_124 : decode cX3_lay 124 = .ok (.iconst 0, 1) := by decide +kernel
theorem dX3_lay_125 : decode cX3_lay 125 = .ok (.iastore, 1) := by decide +kernel
theorem dX3_lay_126 : decode cX3_lay 126 = .ok (.aload_n 0, 1) := by decide +kernel
theorem dX3_lay_127 : decode cX3_lay 127 = .ok (.dup, 1) := by decide +kernel
theorem dX3_lay_128 : decode cX3_lay 128 = .ok (.getfield 39, 3) := by decide +kernel
theorem dX3_lay_131 : decode cX3_lay 131 = .ok (.aload_n 0, 1) := by decide +kernel
theorem dX3_lay_132 : decode cX3_lay 132 = .ok (.getfield 9, 3) := by decide +kernel
theorem dX3_lay_135 : decode cX3_lay 135 = .ok (.iload_n 2, 1) := by decide +kernel
theorem dX3_lay_136 : decode cX3_lay 136 = .ok (.baload, 1) := by decide +kernel
theorem dX3_lay_137 : decode cX3_lay 137 = .ok (.iadd, 1) := by decide +kernel
theorem dX3_lay_138 : decode cX3_lay 138 = .ok (.putfield 39, 3) := by decide +kernel
theorem dX3_lay_141 : decode cX3_lay 141 = .ok (.iinc 2 1, 3) := by decide +kernel
theorem dX3_lay_144 : decode cX3_lay 144 = .ok (.goto (-110), 3) := by decide +kernel
theorem dX3_lay_147 : decode cX3_lay 147 = .ok (.return_, 1) := by decide +kernel
theorem dX3_makeRoom_0 : decode cX3_makeRoom 0 = .ok (.aload_n 0, 1) := by decide +kernel
theorem dX3_makeRoom_1 : decode cX3_makeRoom 1 = .ok (.getfield 36, 3) := by decide +kernel
theorem dX3_makeRoom_4 : decode cX3_makeRoom 4 = .ok (.aload_n 0, 1) := by decide +kernel
theorem dX3_makeRoom_5 : decode cX3_makeRoom 5 = .ok (.getfield 9, 3) := by decide +kernel
theorem dX3_makeRoom_8 : decode cX3_makeRoom 8 = .ok (.arraylength, 1) := by decide +kernel
theorem dX3_makeRoom_9 : decode cX3_makeRoom 9 = .ok (.if_icmp .le 33, 3) := by decide +kernel
theorem dX3_makeRoom_12 : decode cX3_makeRoom 12 = .ok (.aload_n 0, 1) := by decide +kernel
theorem dX3_makeRoom_13 : decode cX3_makeRoom 13 = .ok (.aload_n 0, 1) := by decide +kernel
theorem dX3_makeRoom_14 : decode cX3_makeRoom 14 = .ok (.getfield 36, 3) := by decide +kernel
theorem dX3_makeRoom_17 : decode cX3_makeRoom 17 = .ok (.newarray .byte, 2) := by decide +kernel
theorem dX3_makeRoom_19 : decode cX3_makeRoom 19 = .ok (.putfield 9, 3) := by decide +kernel
theorem dX3_makeRoom_22 : decode cX3_makeRoom 22 = .ok (.aload_n 0, 1) := by decide +kernel
theorem dX3_makeRoom_23 : decode cX3_makeRoom 23 = .ok (.aload_n 0, 1) := by decide +kernel
theorem dX3_makeRoom_24 : decode cX3_makeRoom 24 = .ok (.getfield 36, 3) := by decide +kernel
theorem dX3_makeRoom_27 : decode cX3_makeRoom 27 = .ok (.newarray .int, 2) := by decide +kernel
theorem dX3_makeRoom_29 : decode cX3_makeRoom 29 = .ok (.putfield 15, 3) := by decide +kernel
theorem dX3_makeRoom_32 : decode cX3_makeRoom 32 = .ok (.aload_n 0, 1) := by decide +kernel
theorem dX3_makeRoom_33 : decode cX3_makeRoom 33 = .ok (.aload_n 0, 1) := by decide +kernel
theorem dX3_makeRoom_34 : decode cX3_makeRoom 34 = .ok (.getfield 36, 3) := by decide +kernel
theorem dX3_makeRoom_37 : decode cX3_makeRoom 37 = .ok (.newarray .int, 2) := by decide +kernel
theorem dX3_makeRoom_39 : decode cX3_makeRoom 39 = .ok (.putfield 19, 3) := by decide +kernel
theorem dX3_makeRoom_42 : decode cX3_makeRoom 42 = .ok (.return_, 1) := by decide +kernel
theorem dX3_isSense_0 : decode cX3_isSense 0 = .ok (.iload_n 1, 1) := by decide +kernel
theorem dX3_isSense_1 : decode cX3_isSense 1 = .ok (.ifCond .lt 25, 3) := by decide +kernel
theorem dX3_isSense_4 : decode cX3_isSense 4 = .ok (.iload_n 1, 1) := by decide +kernel
theorem dX3_isSense_5 : decode cX3_isSense 5 = .ok (.aload_n 0, 1) := by decide +kernel
theorem dX3_isSense_6 : decode cX3_isSense 6 = .ok (.getfield 36, 3) := by decide +kernel
theorem dX3_isSense_9 : decode cX3_isSense 9 = .ok (.if_icmp .ge 17, 3) := by decide +kernel
theorem dX3_isSense_12 : decode cX3_isSense 12 = .ok (.aload_n 0, 1) := by decide +kernel
theorem dX3_isSense_13 : decode cX3_isSense 13 = .ok (.getfield 9, 3) := by decide +kernel
theorem dX3_isSense_16 : decode cX3_isSense 16 = .ok (.iload_n 1, 1) := by decide +kernel
theorem dX3_isSense_17 : decode cX3_isSense 17 = .ok (.baload, 1) := by decide +kernel
theorem dX3_isSense_18 : decode cX3_isSense 18 = .ok (.iconst 1, 1) := by decide +kernel
theorem dX3_isSense_19 : decode cX3_isSense 19 = .ok (.if_icmp .ne 7, 3) := by decide +kernel
theorem dX3_isSense_22 : decode cX3_isSense 22 = .ok (.iconst 1, 1) := by decide +kernel
theorem dX3_isSense_23 : decode cX3_isSense 23 = .ok (.goto 4, 3) := by decide +kernel
theorem dX3_isSense_26 : decode cX3_isSense 26 = .ok (.iconst 0, 1) := by decide +kernel
theorem dX3_isSense_27 : decode cX3_isSense 27 = .ok (.ireturn, 1) := by decide +kernel
theorem dX3_worthTo_0 : decode cX3_worthTo 0 = .ok (.iload_n 2, 1) := by decide +kernel
theorem dX3_worthTo_1 : decode cX3_worthTo 1 = .ok (.ifCond .lt 11, 3) := by decide +kernel
theorem dX3_worthTo_4 : decode cX3_worthTo 4 = .ok (.iload_n 2, 1) := by decide +kernel
theorem dX3_worthTo_5 : decode cX3_worthTo 5 = .ok (.aload_n 0, 1) := by decide +kernel
theorem dX3_worthTo_6 : decode cX3_worthTo 6 = .ok (.getfield 36, 3) := by decide +kernel
theorem dX3_worthTo_9 : decode cX3_worthTo 9 = .ok (.if_icmp .lt 5, 3) := by decide +kernel
theorem dX3_worthTo_12 : decode cX3_worthTo 12 = .ok (.iconst 0, 1) := by decide +kernel
theorem dX3_worthTo_13 : decode cX3_worthTo 13 = .ok (.ireturn, 1) := by decide +kernel
theorem dX3_worthTo_14 : decode cX3_worthTo 14 = .ok (.iload_n 1, 1) := by decide +kernel
theorem dX3_worthTo_15 : decode cX3_worthTo 15 = .ok (.ifCond .ne 12, 3) := by decide +kernel
theorem dX3_worthTo_18 : decode cX3_worthTo 18 = .ok (.aload_n 0, 1) := by decide +kernel
theorem dX3_worthTo_19 : decode cX3_worthTo 19 = .ok (.getfield 15, 3) := by decide +kernel
theorem dX3_worthTo_22 : decode cX3_worthTo 22 = .ok (.iload_n 2, 1) := by decide +kernel
theorem dX3_worthTo_23 : decode cX3_worthTo 23 = .ok (.iaload, 1) := by decide +kernel
theorem dX3_worthTo_24 : decode cX3_worthTo 24 = .ok (.goto 9, 3) := by decide +kernel
theorem dX3_worthTo_27 : decode cX3_worthTo 27 = .ok (.aload_n 0, 1) := by decide +kernel
theorem dX3_worthTo_28 : decode cX3_worthTo 28 = .ok (.getfield 19, 3) := by decide +kernel
theorem dX3_worthTo_31 : decode cX3_worthTo 31 = .ok (.iload_n 2, 1) := by decide +kernel
theorem dX3_worthTo_32 : decode cX3_worthTo 32 = .ok (.iaload, 1) := by decide +kernel
theorem dX3_worthTo_33 : decode cX3_worthTo 33 = .ok (.ireturn, 1) := by decide +kernel
set_option maxRecDepth 20000 in
theorem ggX3_listChanges_X6_empty : GoodIn wsX3_listChanges wsX6_empty := goodIn_r _ [5, 6, 36, 37] (by decide +kernel) (by decide +kernel)
set_option maxRecDepth 20000 in
theorem gX3_listChanges_X6_empty : GoodIn wsX3_listChanges (wsV RX3 60 RX6 yX6_empty wsX6_empty) := goodIn_app (goodIn_of _ (by decide +kernel)) ggX3_listChanges_X6_empty
set_option maxRecDepth 20000 in
theorem ggX3_listChanges_X3_listOtherWords : GoodIn wsX3_listChanges wsX3_listOtherWords := goodIn_r _ [11, 12, 13, 14, 15, 16, 17, 18, 19, 20, 21, 22, 23, 10, 24, 25, 26, 27, 28, 29, 4, 30, 6, 31, 38, 39, 40, 41, 42, 43, 44, 45, 46, 47, 48, 49, 50, 51, 52, 53, 54, 36, 37] (by decide +kernel) (by decide +kernel)
set_option maxRecDepth 20000 in
theorem gX3_listChanges_X3_listOtherWords : GoodIn wsX3_listChanges (wsV RX3 65 RX3 yX3_listOtherWords wsX3_listOtherWords) := goodIn_app (goodIn_of _ (by decide +kernel)) ggX3_listChanges_X3_listOtherWords
set_option maxRecDepth 20000 in
theorem ggX3_listChanges_X3_listTurnsAbout : GoodIn wsX3_listChanges wsX3_listTurnsAbout := goodIn_r _ [35, 12, 13, 14, 15, 16, 17, 18, 19, 20, 21, 22, 23, 10, 24, 25, 26, 27, 28, 29, 4, 30, 6, 31, 38, 39, 40, 41, 42, 43, 44, 45, 46, 47, 48, 49, 50, 51, 52, 53, 54, 36, 37] (by decide +kernel) (by decide +kernel)
set_option maxRecDepth 20000 in
theorem gX3_listChanges_X3_listTurnsAbout : GoodIn wsX3_listChanges (wsV RX3 69 RX3 yX3_listTurnsAbout wsX3_listTurnsAbout) := goodIn_app (goodIn_of _ (by decide +kernel)) ggX3_listChanges_X3_listTurnsAbout
theorem dX3_listChanges_0 : decode cX3_listChanges 0 = .ok (.aload 4, 2) := by decide +kernel
theorem dX3_listChanges_2 : decode cX3_listChanges 2 = .ok (.invokevirtual 60, 3) := by decide +kernel
theorem dX3_listChanges_5 : decode cX3_listChanges 5 = .ok (.iload_n 2, 1) := by decide +kernel
theorem dX3_listChanges_6 : decode cX3_listChanges 6 = .ok (.iconst 1, 1) := by decide +kernel
theorem dX3_listChanges_7 : decode cX3_listChanges 7 = .ok (.if_icmp .eq 11, 3) := by decide +kernel
theorem dX3_listChanges_10 : decode cX3_listChanges 10 = .ok (.aload_n 0, 1) := by decide +kernel
theorem dX3_listChanges_11 : decode cX3_listChanges 11 = .ok (.iload_n 1, 1) := by decide +kernel
theorem dX3_listChanges_12 : decode cX3_listChanges 12 = .ok (.iload_n 3, 1) := by decide +kernel
theorem dX3_listChanges_13 : decode cX3_listChanges 13 = .ok (.aload 4, 2) := by decide +kernel
theorem dX3_listChanges_15 : decode cX3_listChanges 15 = .ok (.invokevirtual 65, 3) := by decide +kernel
theorem dX3_listChanges_18 : decode cX3_listChanges 18 = .ok (.iload_n 2, 1) := by decide +kernel
theorem dX3_listChanges_19 : decode cX3_listChanges 19 = .ok (.ifCond .eq 11, 3) := by decide +kernel
theorem dX3_listChanges_22 : decode cX3_listChanges 22 = .ok (.aload_n 0, 1) := by decide +kernel
theorem dX3_listChanges_23 : decode cX3_listChanges 23 = .ok (.iload_n 1, 1) := by decide +kernel
theorem dX3_listChanges_24 : decode cX3_listChanges 24 = .ok (.iload_n 3, 1) := by decide +kernel
theorem dX3_listChanges_25 : decode cX3_listChanges 25 = .ok (.aload 4, 2) := by decide +kernel
theorem dX3_listChanges_27 : decode cX3_listChanges 27 = .ok (.invokevirtual 69, 3) := by decide +kernel
theorem dX3_listChanges_30 : decode cX3_listChanges 30 = .ok (.return_, 1) := by decide +kernel
set_option maxRecDepth 20000 in
theorem ggX3_listOtherWords_X7_wordAt : GoodIn wsX3_listOtherWords wsX7_wordAt := goodIn_r _ [6, 7, 8, 9, 31, 32, 33, 34, 35, 36, 37, 38, 39, 40] (by decide +kernel) (by decide +kernel)
set_option maxRecDepth 20000 in
theorem gX3_listOtherWords_X7_wordAt : GoodIn wsX3_listOtherWords (wsV RX3 78 RX7 yX7_wordAt wsX7_wordAt) := goodIn_app (goodIn_of _ (by decide +kernel)) ggX3_listOtherWords_X7_wordAt
set_option maxRecDepth 20000 in
theorem ggX3_listOtherWords_X3_isSense : GoodIn wsX3_listOtherWords wsX3_isSense := goodIn_r _ [14, 15, 16, 24, 25, 26, 27, 28, 29, 30] (by decide +kernel) (by decide +kernel)
set_option maxRecDepth 20000 in
theorem gX3_listOtherWords_X3_isSense : GoodIn wsX3_listOtherWords (wsV RX3 85 RX3 yX3_isSense wsX3_isSense) := goodIn_app (goodIn_of _ (by decide +kernel)) ggX3_listOtherWords_X3_isSense
set_option maxRecDepth 20000 in
theorem ggX3_listOtherWords_X6_add : GoodIn wsX3_listOtherWords wsX6_add := goodIn_r _ [21, 22, 23, 41, 42] (by decide +kernel) (by decide +kernel)
set_option maxRecDepth 20000 in
theorem gX3_listOtherWords_X6_add : GoodIn wsX3_listOtherWords (wsV RX3 88 RX6 yX6_add wsX6_add) := goodIn_app (goodIn_of _ (by decide +kernel)) ggX3_listOtherWords_X6_add
theorem dX3_listOtherWords_0 : decode cX3_listOtherWords 0 = .ok (.iconst 0, 1) := by decide +kernel
theorem dX3_listOtherWords_1 : decode cX3_listOtherWords 1 = .ok (.istore 4, 2) := by decide +kernel
theorem dX3_listOtherWords_3 : decode cX3_listOtherWords 3 = .ok (.iload 4, 2) := by decide +kernel
theorem dX3_listOtherWords_5 : decode cX3_listOtherWords 5 = .ok (.aload_n 0, 1) := by decide +kernel
theorem dX3_listOtherWords_6 : decode cX3_listOtherWords 6 = .ok (.getfield 22, 3) := by decide +kernel
theorem dX3_listOtherWords_9 : decode cX3_listOtherWords 9 = .ok (.getfield 72, 3) := by decide +kernel
theorem dX3_listOtherWords_12 : decode cX3_listOtherWords 12 = .ok (.if_icmp .ge 92, 3) := by decide +kernel
theorem dX3_listOtherWords_15 : decode cX3_listOtherWords 15 = .ok (.aload_n 0, 1) := by decide +kernel
theorem dX3_listOtherWords_16 : decode cX3_listOtherWords 16 = .ok (.getfield 22, 3) := by decide +kernel
theorem dX3_listOtherWords_19 : decode cX3_listOtherWords 19 = .ok (.getfield 75, 3) := by decide +kernel
theorem dX3_listOtherWords_22 : decode cX3_listOtherWords 22 = .ok (.iload 4, 2) := by decide +kernel
theorem dX3_listOtherWords_24 : decode cX3_listOtherWords 24 = .ok (.iaload, 1) := by decide +kernel
theorem dX3_listOtherWords_25 : decode cX3_listOtherWords 25 = .ok (.istore 5, 2) := by decide +kernel
theorem dX3_listOtherWords_27 : decode cX3_listOtherWords 27 = .ok (.aload_n 0, 1) := by decide +kernel
theorem dX3_listOtherWords_28 : decode cX3_listOtherWords 28 = .ok (.getfield 22, 3) := by decide +kernel
theorem dX3_listOtherWords_31 : decode cX3_listOtherWords 31 = .ok (.iload_n 1, 1) := by decide +kernel
theorem dX3_listOtherWords_32 : decode cX3_listOtherWords 32 = .ok (.iload 4, 2) := by decide +kernel
theorem dX3_listOtherWords_34 : decode cX3_listOtherWords 34 = .ok (.invokevirtual 78, 3) := by decide +kernel
theorem dX3_listOtherWords_37 : decode cX3_listOtherWords 37 = .ok (.istore 6, 2) := by decide +kernel
theorem dX3_listOtherWords_39 : decode cX3_listOtherWords 39 = .ok (.iconst 0, 1) := by decide +kernel
theorem dX3_listOtherWords_40 : decode cX3_listOtherWords 40 = .ok (.istore 7, 2) := by decide +kernel
theorem dX3_listOtherWords_42 : decode cX3_listOtherWords 42 = .ok (.iload 7, 2) := by decide +kernel
theorem dX3_listOtherWords_44 : decode cX3_listOtherWords 44 = .ok (.aload_n 0, 1) := by decide +kernel
theorem dX3_listOtherWords_45 : decode cX3_listOtherWords 45 = .ok (.getfield 22, 3) := by decide +kernel
theorem dX3_listOtherWords_48 : decode cX3_listOtherWords 48 = .ok (.getfield 82, 3) := by decide +kernel
theorem dX3_listOtherWords_51 : decode cX3_listOtherWords 51 = .ok (.if_icmp .ge 47, 3) := by decide +kernel
theorem dX3_listOtherWords_54 : decode cX3_listOtherWords 54 = .ok (.iload_n 1, 1) := by decide +kernel
theorem dX3_listOtherWords_55 : decode cX3_listOtherWords 55 = .ok (.iload 7, 2) := by decide +kernel
theorem dX3_listOtherWords_57 : decode cX3_listOtherWords 57 = .ok (.iload 6, 2) := by decide +kernel
theorem dX3_listOtherWords_59 : decode cX3_listOtherWords 59 = .ok (.isub, 1) := by decide +kernel
theorem dX3_listOtherWords_60 : decode cX3_listOtherWords 60 = .ok (.iload 5, 2) := by decide +kernel
theorem dX3_listOtherWords_62 : decode cX3_listOtherWords 62 = .ok (.imul, 1) := by decide +kernel
theorem dX3_listOtherWords_63 : decode cX3_listOtherWords 63 = .ok (.iadd, 1) := by decide +kernel
theorem dX3_listOtherWords_64 : decode cX3_listOtherWords 64 = .ok (.istore 8, 2) := by decide +kernel
theorem dX3_listOtherWords_66 : decode cX3_listOtherWords 66 = .ok (.iload 7, 2) := by decide +kernel
theorem dX3_listOtherWords_68 : decode cX3_listOtherWords 68 = .ok (.iload 6, 2) := by decide +kernel
theorem dX3_listOtherWords_70 : decode cX3_listOtherWords 70 = .ok (.if_icmp .eq 22, 3) := by decide +kernel
theorem dX3_listOtherWords_73 : decode cX3_listOtherWords 73 = .ok (.iload_n 2, 1) := by decide +kernel
theorem dX3_listOtherWords_74 : decode cX3_listOtherWords 74 = .ok (.ifCond .ne 12, 3) := by decide +kernel
theorem dX3_listOtherWords_77 : decode cX3_listOtherWords 77 = .ok (.aload_n 0, 1) := by decide +kernel
theorem dX3_listOtherWords_78 : decode cX3_listOtherWords 78 = .ok (.iload 8, 2) := by decide +kernel
theorem dX3_listOtherWords_80 : decode cX3_listOtherWords 80 = .ok (.invokevirtual 85, 3) := by decide +kernel
theorem dX3_listOtherWords_83 : decode cX3_listOtherWords 83 = .ok (.ifCond .eq 9, 3) := by decide +kernel
theorem dX3_listOtherWords_86 : decode cX3_listOtherWords 86 = .ok (.aload_n 3, 1) := by decide +kernel
theorem dX3_listOtherWords_87 : decode cX3_listOtherWords 87 = .ok (.iload 8, 2) := by decide +kernel
theorem dX3_listOtherWords_89 : decode cX3_listOtherWords 89 = .ok (.invokevirtual 88, 3) := by decide +kernel
theorem dX3_listOtherWords_92 : decode cX3_listOtherWords 92 = .ok (.iinc 7 1, 3) := by decide +kernel
theorem dX3_listOtherWords_95 : decode cX3_listOtherWords 95 = .ok (.goto (-53), 3) := by decide +kernel
theorem dX3_listOtherWords_98 : decode cX3_listOtherWords 98 = .ok (.iinc 4 1, 3) := by decide +kernel
theorem dX3_listOtherWords_101 : decode cX3_listOtherWords 101 = .ok (.goto (-98), 3) := by decide +kernel
theorem dX3_listOtherWords_104 : decode cX3_listOtherWords 104 = .ok (.return_, 1) := by decide +kernel
set_option maxRecDepth 20000 in
theorem ggX3_listTurnsAbout_X7_wordAt : GoodIn wsX3_listTurnsAbout wsX7_wordAt := goodIn_r _ [6, 7, 8, 9, 31, 32, 33, 34, 35, 36, 37, 38, 39, 40] (by decide +kernel) (by decide +kernel)
set_option maxRecDepth 20000 in
theorem gX3_listTurnsAbout_X7_wordAt : GoodIn wsX3_listTurnsAbout (wsV RX3 78 RX7 yX7_wordAt wsX7_wordAt) := goodIn_app (goodIn_of _ (by decide +kernel)) ggX3_listTurnsAbout_X7_wordAt
set_option maxRecDepth 20000 in
theorem ggX3_listTurnsAbout_X3_isSense : GoodIn wsX3_listTurnsAbout wsX3_isSense := goodIn_r _ [14, 15, 16, 24, 25, 26, 27, 28, 29, 30] (by decide +kernel) (by decide +kernel)
set_option maxRecDepth 20000 in
theorem gX3_listTurnsAbout_X3_isSense : GoodIn wsX3_listTurnsAbout (wsV RX3 85 RX3 yX3_isSense wsX3_isSense) := goodIn_app (goodIn_of _ (by decide +kernel)) ggX3_listTurnsAbout_X3_isSense
set_option maxRecDepth 20000 in
theorem ggX3_listTurnsAbout_X6_add : GoodIn wsX3_listTurnsAbout wsX6_add := goodIn_r _ [21, 22, 23, 41, 42] (by decide +kernel) (by decide +kernel)
set_option maxRecDepth 20000 in
theorem gX3_listTurnsAbout_X6_add : GoodIn wsX3_listTurnsAbout (wsV RX3 88 RX6 yX6_add wsX6_add) := goodIn_app (goodIn_of _ (by decide +kernel)) ggX3_listTurnsAbout_X6_add
theorem dX3_listTurnsAbout_0 : decode cX3_listTurnsAbout 0 = .ok (.iconst 0, 1) := by decide +kernel
theorem dX3_listTurnsAbout_1 : decode cX3_listTurnsAbout 1 = .ok (.istore 4, 2) := by decide +kernel
theorem dX3_listTurnsAbout_3 : decode cX3_listTurnsAbout 3 = .ok (.iload 4, 2) := by decide +kernel
theorem dX3_listTurnsAbout_5 : decode cX3_listTurnsAbout 5 = .ok (.iconst 1, 1) := by decide +kernel
theorem dX3_listTurnsAbout_6 : decode cX3_listTurnsAbout 6 = .ok (.iadd, 1) := by decide +kernel
theorem dX3_listTurnsAbout_7 : decode cX3_listTurnsAbout 7 = .ok (.aload_n 0, 1) := by decide +kernel
theorem dX3_listTurnsAbout_8 : decode cX3_listTurnsAbout 8 = .ok (.getfield 22, 3) := by decide +kernel
theorem dX3_listTurnsAbout_11 : decode cX3_listTurnsAbout 11 = .ok (.getfield 72, 3) := by decide +kernel
theorem dX3_listTurnsAbout_14 : decode cX3_listTurnsAbout 14 = .ok (.if_icmp .ge 88, 3) := by decide +kernel
theorem dX3_listTurnsAbout_17 : decode cX3_listTurnsAbout 17 = .ok (.aload_n 0, 1) := by decide +kernel
theorem dX3_listTurnsAbout_18 : decode cX3_listTurnsAbout 18 = .ok (.getfield 22, 3) := by decide +kernel
theorem dX3_listTurnsAbout_21 : decode cX3_listTurnsAbout 21 = .ok (.iload_n 1, 1) := by decide +kernel
theorem dX3_listTurnsAbout_22 : decode cX3_listTurnsAbout 22 = .ok (.iload 4, 2) := by decide +kernel
theorem dX3_listTurnsAbout_24 : decode cX3_listTurnsAbout 24 = .ok (.iconst 1, 1) := by decide +kernel
theorem dX3_listTurnsAbout_25 : decode cX3_listTurnsAbout 25 = .ok (.iadd, 1) := by decide +kernel
theorem dX3_listTurnsAbout_26 : decode cX3_listTurnsAbout 26 = .ok (.invokevirtual 78, 3) := by decide +kernel
theorem dX3_listTurnsAbout_29 : decode cX3_listTurnsAbout 29 = .ok (.aload_n 0, 1) := by decide +kernel
theorem dX3_listTurnsAbout_30 : decode cX3_listTurnsAbout 30 = .ok (.getfield 22, 3) := by decide +kernel
theorem dX3_listTurnsAbout_33 : decode cX3_listTurnsAbout 33 = .ok (.iload_n 1, 1) := by decide +kernel
theorem dX3_listTurnsAbout_34 : decode cX3_listTurnsAbout 34 = .ok (.iload 4, 2) := by decide +kernel
theorem dX3_listTurnsAbout_36 : decode cX3_listTurnsAbout 36 = .ok (.invokevirtual 78, 3) := by decide +kernel
theorem dX3_listTurnsAbout_39 : decode cX3_listTurnsAbout 39 = .ok (.isub, 1) := by decide +kernel
theorem dX3_listTurnsAbout_40 : decode cX3_listTurnsAbout 40 = .ok (.istore 5, 2) := by decide +kernel
theorem dX3_listTurnsAbout_42 : decode cX3_listTurnsAbout 42 = .ok (.iload_n 1, 1) := by decide +kernel
theorem dX3_listTurnsAbout_43 : decode cX3_listTurnsAbout 43 = .ok (.iload 5, 2) := by decide +kernel
theorem dX3_listTurnsAbout_45 : decode cX3_listTurnsAbout 45 = .ok (.aload_n 0, 1) := by decide +kernel
theorem dX3_listTurnsAbout_46 : decode cX3_listTurnsAbout 46 = .ok (.getfield 22, 3) := by decide +kernel
theorem dX3_listTurnsAbout_49 : decode cX3_listTurnsAbout 49 = .ok (.getfield 75, 3) := by decide +kernel
theorem dX3_listTurnsAbout_52 : decode cX3_listTurnsAbout 52 = .ok (.iload 4, 2) := by decide +kernel
theorem dX3_listTurnsAbout_54 : decode cX3_listTurnsAbout 54 = .ok (.iaload, 1) := by decide +kernel
theorem dX3_listTurnsAbout_55 : decode cX3_listTurnsAbout 55 = .ok (.aload_n 0, 1) := by decide +kernel
theorem dX3_listTurnsAbout_56 : decode cX3_listTurnsAbout 56 = .ok (.getfield 22, 3) := by decide +kernel
theorem dX3_listTurnsAbout_59 : decode cX3_listTurnsAbout 59 = .ok (.getfield 75, 3) := by decide +kernel
theorem dX3_listTurnsAbout_62 : decode cX3_listTurnsAbout 62 = .ok (.iload 4, 2) := by decide +kernel
theorem dX3_listTurnsAbout_64 : decode cX3_listTurnsAbout 64 = .ok (.iconst 1, 1) := by decide +kernel
theorem dX3_listTurnsAbout_65 : decode cX3_listTurnsAbout 65 = .ok (.iadd, 1) := by decide +kernel
theorem dX3_listTurnsAbout_66 : decode cX3_listTurnsAbout 66 = .ok (.iaload, 1) := by decide +kernel
theorem dX3_listTurnsAbout_67 : decode cX3_listTurnsAbout 67 = .ok (.isub, 1) := by decide +kernel
theorem dX3_listTurnsAbout_68 : decode cX3_listTurnsAbout 68 = .ok (.imul, 1) := by decide +kernel
theorem dX3_listTurnsAbout_69 : decode cX3_listTurnsAbout 69 = .ok (.iadd, 1) := by decide +kernel
theorem dX3_listTurnsAbout_70 : decode cX3_listTurnsAbout 70 = .ok (.istore 6, 2) := by decide +kernel
theorem dX3_listTurnsAbout_72 : decode cX3_listTurnsAbout 72 = .ok (.iload 5, 2) := by decide +kernel
theorem dX3_listTurnsAbout_74 : decode cX3_listTurnsAbout 74 = .ok (.ifCond .eq 22, 3) := by decide +kernel
theorem dX3_listTurnsAbout_77 : decode cX3_listTurnsAbout 77 = .ok (.iload_n 2, 1) := by decide +kernel
theorem dX3_listTurnsAbout_78 : decode cX3_listTurnsAbout 78 = .ok (.ifCond .ne 12, 3) := by decide +kernel
theorem dX3_listTurnsAbout_81 : decode cX3_listTurnsAbout 81 = .ok (.aload_n 0, 1) := by decide +kernel
theorem dX3_listTurnsAbout_82 : decode cX3_listTurnsAbout 82 = .ok (.iload 6, 2) := by decide +kernel
theorem dX3_listTurnsAbout_84 : decode cX3_listTurnsAbout 84 = .ok (.invokevirtual 85, 3) := by decide +kernel
theorem dX3_listTurnsAbout_87 : decode cX3_listTurnsAbout 87 = .ok (.ifCond .eq 9, 3) := by decide +kernel
theorem dX3_listTurnsAbout_90 : decode cX3_listTurnsAbout 90 = .ok (.aload_n 3, 1) := by decide +kernel
theorem dX3_listTurnsAbout_91 : decode cX3_listTurnsAbout 91 = .ok (.iload 6, 2) := by decide +kernel
theorem dX3_listTurnsAbout_93 : decode cX3_listTurnsAbout 93 = .ok (.invokevirtual 88, 3) := by decide +kernel
theorem dX3_listTurnsAbout_96 : decode cX3_listTurnsAbout 96 = .ok (.iinc 4 1, 3) := by decide +kernel
theorem dX3_listTurnsAbout_99 : decode cX3_listTurnsAbout 99 = .ok (.goto (-96), 3) := by decide +kernel
theorem dX3_listTurnsAbout_102 : decode cX3_listTurnsAbout 102 = .ok (.return_, 1) := by decide +kernel
set_option maxRecDepth 20000 in
theorem ggX4_init_X6_init : GoodIn wsX4_init wsX6_init := goodIn_r _ [14, 15, 2, 3, 16, 17, 18, 19, 4, 20, 25, 26] (by decide +kernel) (by decide +kernel)
set_option maxRecDepth 20000 in
theorem gX4_init_X6_init : GoodIn wsX4_init (wsX6_init) := ggX4_init_X6_init
theorem dX4_init_0 : decode cX4_init 0 = .ok (.aload_n 0, 1) := by decide +kernel
theorem dX4_init_1 : decode cX4_init 1 = .ok (.invokespecial 3, 3) := by decide +kernel
theorem dX4_init_4 : decode cX4_init 4 = .ok (.aload_n 0, 1) := by decide +kernel
theorem dX4_init_5 : decode cX4_init 5 = .ok (.iconst 0, 1) := by decide +kernel
theorem dX4_init_6 : decode cX4_init 6 = .ok (.newarray .int, 2) := by decide +kernel
theorem dX4_init_8 : decode cX4_init 8 = .ok (.putfield 9, 3) := by decide +kernel
theorem dX4_init_11 : decode cX4_init 11 = .ok (.aload_n 0, 1) := by decide +kernel
theorem dX4_init_12 : decode cX4_init 12 = .ok (.new 15, 3) := by decide +kernel
theorem dX4_init_15 : decode cX4_init 15 = .ok (.dup, 1) := by decide +kernel
theorem dX4_init_16 : decode cX4_init 16 = .ok (.iconst 0, 1) := by decide +kernel
theorem dX4_init_17 : decode cX4_init 17 = .ok (.invokespecial 17, 3) := by decide +kernel
theorem dX4_init_20 : decode cX4_init 20 = .ok (.putfield 20, 3) := by decide +kernel
theorem dX4_init_23 : decode cX4_init 23 = .ok (.aload_n 0, 1) := by decide +kernel
theorem dX4_init_24 : decode cX4_init 24 = .ok (.new 15, 3) := by decide +kernel
theorem dX4_init_27 : decode cX4_init 27 = .ok (.dup, 1) := by decide +kernel
theorem dX4_init_28 : decode cX4_init 28 = .ok (.bipush 31, 2) := by decide +kernel
theorem dX4_init_30 : decode cX4_init 30 = .ok (.invokespecial 17, 3) := by decide +kernel
theorem dX4_init_33 : decode cX4_init 33 = .ok (.putfield 24, 3) := by decide +kernel
theorem dX4_init_36 : decode cX4_init 36 = .ok (.aload_n 0, 1) := by decide +kernel
theorem dX4_init_37 : decode cX4_init 37 = .ok (.aload_n 1, 1) := by decide +kernel
theorem dX4_init_38 : decode cX4_init 38 = .ok (.putfield 27, 3) := by decide +kernel
theorem dX4_init_41 : decode cX4_init 41 = .ok (.return_, 1) := by decide +kernel
set_option maxRecDepth 20000 in
theorem ggX4_makeRoom_X6_init : GoodIn wsX4_makeRoom wsX6_init := goodIn_r _ [9, 10, 11, 12, 13, 14, 15, 16, 2, 17, 22, 23] (by decide +kernel) (by decide +kernel)
set_option maxRecDepth 20000 in
theorem gX4_makeRoom_X6_init : GoodIn wsX4_makeRoom (wsX6_init) := ggX4_makeRoom_X6_init
theorem dX4_makeRoom_0 : decode cX4_makeRoom 0 = .ok (.iload_n 1, 1) := by decide +kernel
theorem dX4_makeRoom_1 : decode cX4_makeRoom 1 = .ok (.aload_n 0, 1) := by decide +kernel
theorem dX4_makeRoom_2 : decode cX4_makeRoom 2 = .ok (.getfield 9, 3) := by decide +kernel
theorem dX4_makeRoom_5 : decode cX4_makeRoom 5 = .ok (.arraylength, 1) := by decide +kernel
theorem dX4_makeRoom_6 : decode cX4_makeRoom 6 = .ok (.if_icmp .le 22, 3) := by decide +kernel
theorem dX4_makeRoom_9 : decode cX4_makeRoom 9 = .ok (.aload_n 0, 1) := by decide +kernel
theorem dX4_makeRoom_10 : decode cX4_makeRoom 10 = .ok (.iload_n 1, 1) := by decide +kernel
theorem dX4_makeRoom_11 : decode cX4_makeRoom 11 = .ok (.newarray .int, 2) := by decide +kernel
theorem dX4_makeRoom_13 : decode cX4_makeRoom 13 = .ok (.putfield 9, 3) := by decide +kernel
theorem dX4_makeRoom_16 : decode cX4_makeRoom 16 = .ok (.aload_n 0, 1) := by decide +kernel
theorem dX4_makeRoom_17 : decode cX4_makeRoom 17 = .ok (.new 15, 3) := by decide +kernel
theorem dX4_makeRoom_20 : decode cX4_makeRoom 20 = .ok (.dup, 1) := by decide +kernel
theorem dX4_makeRoom_21 : decode cX4_makeRoom 21 = .ok (.iload_n 1, 1) := by decide +kernel
theorem dX4_makeRoom_22 : decode cX4_makeRoom 22 = .ok (.invokespecial 17, 3) := by decide +kernel
theorem dX4_makeRoom_25 : decode cX4_makeRoom 25 = .ok (.putfield 20, 3) := by decide +kernel
theorem dX4_makeRoom_28 : decode cX4_makeRoom 28 = .ok (.return_, 1) := by decide +kernel
set_option maxRecDepth 20000 in
theorem ggX4_shortest_J7_fill_53178 : GoodIn wsX4_shortest wsJ7_fill_53178 := goodIn_r _ [8] (by decide +kernel) (by decide +kernel)
set_option maxRecDepth 20000 in
theorem gX4_shortest_J7_fill_53178 : GoodIn wsX4_shortest (va_wsS RX4 31 yJ7_fill_53178 wsJ7_fill_53178) := goodIn_app (goodIn_of _ (by decide +kernel)) ggX4_shortest_J7_fill_53178
set_option maxRecDepth 20000 in
theorem ggX4_shortest_X6_empty : GoodIn wsX4_shortest wsX6_empty := goodIn_r _ [13, 14, 75, 76] (by decide +kernel) (by decide +kernel)
set_option maxRecDepth 20000 in
theorem gX4_shortest_X6_empty : GoodIn wsX4_shortest (wsV RX4 37 RX6 yX6_empty wsX6_empty) := goodIn_app (goodIn_of _ (by decide +kernel)) ggX4_shortest_X6_empty
set_option maxRecDepth 20000 in
theorem ggX4_shortest_X4_reach : GoodIn wsX4_shortest wsX4_reach := goodIn_r _ [19, 1, 2, 20, 21, 22, 12, 23, 14, 24, 64, 65, 66, 67, 75, 76] (by decide +kernel) (by decide +kernel)
set_option maxRecDepth 20000 in
theorem gX4_shortest_X4_reach : GoodIn wsX4_shortest (wsV RX4 40 RX4 yX4_reach wsX4_reach) := goodIn_app (goodIn_of _ (by decide +kernel)) ggX4_shortest_X4_reach
set_option maxRecDepth 20000 in
theorem ggX4_shortest_X6_get : GoodIn wsX4_shortest wsX6_get := goodIn_r _ [28, 14, 24, 75, 76] (by decide +kernel) (by decide +kernel)
set_option maxRecDepth 20000 in
theorem gX4_shortest_X6_get : GoodIn wsX4_shortest (wsV RX4 53 RX6 yX6_get wsX6_get) := goodIn_app (goodIn_of _ (by decide +kernel)) ggX4_shortest_X6_get
set_option maxRecDepth 20000 in
theorem ggX4_shortest_X3_listChanges : GoodIn wsX4_shortest wsX3_listChanges := goodIn_r _ [33, 34, 10, 11, 12, 13, 14, 35, 36, 37, 32, 38, 39, 40, 41, 42, 43, 44, 45, 46, 47, 48, 49, 50, 51, 52, 53, 54, 21, 22, 23, 24, 55, 56, 57, 58, 75, 76, 68, 69, 70, 71, 72, 73, 74, 77, 78, 79, 80, 81, 82, 83, 84, 85, 86] (by decide +kernel) (by decide +kernel)
set_option maxRecDepth 20000 in
theorem gX4_shortest_X3_listChanges : GoodIn wsX4_shortest (wsV RX4 57 RX3 yX3_listChanges wsX3_listChanges) := goodIn_app (goodIn_of _ (by decide +kernel)) ggX4_shortest_X3_listChanges
set_option maxRecDepth 20000 in
theorem ggX4_shortest_X6_has : GoodIn wsX4_shortest wsX6_has := goodIn_r _ [62, 14, 24, 75, 76] (by decide +kernel) (by decide +kernel)
set_option maxRecDepth 20000 in
theorem gX4_shortest_X6_has : GoodIn wsX4_shortest (wsV RX4 61 RX6 yX6_has wsX6_has) := goodIn_app (goodIn_of _ (by decide +kernel)) ggX4_shortest_X6_has
set_option maxRecDepth 20000 in
theorem ggX4_shortest_X3_isSense : GoodIn wsX4_shortest wsX3_isSense := goodIn_r _ [51, 52, 53, 68, 69, 70, 71, 72, 73, 74] (by decide +kernel) (by decide +kernel)
set_option maxRecDepth 20000 in
theorem gX4_shortest_X3_isSense : GoodIn wsX4_shortest (wsV RX4 65 RX3 yX3_isSense wsX3_isSense) := goodIn_app (goodIn_of _ (by decide +kernel)) ggX4_shortest_X3_isSense
theorem dX4_shortest_0 : decode cX4_shortest 0 = .ok (.iload_n 2, 1) := by decide +kernel
theorem dX4_shortest_1 : decode cX4_shortest 1 = .ok (.iload_n 3, 1) := by decide +kernel
theorem dX4_shortest_2 : decode cX4_shortest 2 = .ok (.if_icmp .ne 5, 3) := by decide +kernel
theorem dX4_shortest_5 : decode cX4_shortest 5 = .ok (.iconst 0, 1) := by decide +kernel
theorem dX4_shortest_6 : decode cX4_shortest 6 = .ok (.ireturn, 1) := by decide +kernel
theorem dX4_shortest_7 : decode cX4_shortest 7 = .ok (.aload_n 0, 1) := by decide +kernel
theorem dX4_shortest_8 : decode cX4_shortest 8 = .ok (.getfield 9, 3) := by decide +kernel
theorem dX4_shortest_11 : decode cX4_shortest 11 = .ok (.iconst (-1), 1) := by decide +kernel
theorem dX4_shortest_12 : decode cX4_shortest 12 = .ok (.invokestatic 31, 3) := by decide +kernel
theorem dX4_shortest_15 : decode cX4_shortest 15 = .ok (.aload_n 0, 1) := by decide +kernel
theorem dX4_shortest_16 : decode cX4_shortest 16 = .ok (.getfield 20, 3) := by decide +kernel
theorem dX4_shortest_19 : decode cX4_shortest 19 = .ok (.invokevirtual 37, 3) := by decide +kernel
theorem dX4_shortest_22 : decode cX4_shortest 22 = .ok (.aload_n 0, 1) := by decide +kernel
theorem dX4_shortest_23 : decode cX4_shortest 23 = .ok (.iload_n 2, 1) := by decide +kernel
theorem dX4_shortest_24 : decode cX4_shortest 24 = .ok (.iconst 0, 1) := by decide +kernel
theorem dX4_shortest_25 : decode cX4_shortest 25 = .ok (.invokevirtual 40, 3) := by decide +kernel
theorem dX4_shortest_28 : decode cX4_shortest 28 = .ok (.iconst 0, 1) := by decide +kernel
theorem dX4_shortest_29 : decode cX4_shortest 29 = .ok (.istore 5, 2) := by decide +kernel
theorem dX4_shortest_31 : decode cX4_shortest 31 = .ok (.iload 5, 2) := by decide +kernel
theorem dX4_shortest_33 : decode cX4_shortest 33 = .ok (.aload_n 0, 1) := by decide +kernel
theorem dX4_shortest_34 : decode cX4_shortest 34 = .ok (.getfield 27, 3) := by decide +kernel
theorem dX4_shortest_37 : decode cX4_shortest 37 = .ok (.getfield 44, 3) := by decide +kernel
theorem dX4_shortest_40 : decode cX4_shortest 40 = .ok (.if_icmp .ge 132, 3) := by decide +kernel
theorem dX4_shortest_43 : decode cX4_shortest 43 = .ok (.iload 5, 2) := by decide +kernel
theorem dX4_shortest_45 : decode cX4_shortest 45 = .ok (.aload_n 0, 1) := by decide +kernel
theorem dX4_shortest_46 : decode cX4_shortest 46 = .ok (.getfield 20, 3) := by decide +kernel
theorem dX4_shortest_49 : decode cX4_shortest 49 = .ok (.getfield 50, 3) := by decide +kernel
theorem dX4_shortest_52 : decode cX4_shortest 52 = .ok (.if_icmp .ge 120, 3) := by decide +kernel
theorem dX4_shortest_55 : decode cX4_shortest 55 = .ok (.aload_n 0, 1) := by decide +kernel
theorem dX4_shortest_56 : decode cX4_shortest 56 = .ok (.getfield 20, 3) := by decide +kernel
theorem dX4_shortest_59 : decode cX4_shortest 59 = .ok (.iload 5, 2) := by decide +kernel
theorem dX4_shortest_61 : decode cX4_shortest 61 = .ok (.invokevirtual 53, 3) := by decide +kernel
theorem dX4_shortest_64 : decode cX4_shortest 64 = .ok (.istore 6, 2) := by decide +kernel
theorem dX4_shortest_66 : decode cX4_shortest 66 = .ok (.aload_n 0, 1) := by decide +kernel
theorem dX4_shortest_67 : decode cX4_shortest 67 = .ok (.getfield 9, 3) := by decide +kernel
theorem dX4_shortest_70 : decode cX4_shortest 70 = .ok (.iload 6, 2) := by decide +kernel
theorem dX4_shortest_72 : decode cX4_shortest 72 = .ok (.iaload, 1) := by decide +kernel
theorem dX4_shortest_73 : decode cX4_shortest 73 = .ok (.iconst 1, 1) := by decide +kernel
theorem dX4_shortest_74 : decode cX4_shortest 74 = .ok (.iadd, 1) := by decide +kernel
theorem dX4_shortest_75 : decode cX4_shortest 75 = .ok (.istore 7, 2) := by decide +kernel
theorem dX4_shortest_77 : decode cX4_shortest 77 = .ok (.aload_n 0, 1) := by decide +kernel
theorem dX4_shortest_78 : decode cX4_shortest 78 = .ok (.getfield 27, 3) := by decide +kernel
theorem dX4_shortest_81 : decode cX4_shortest 81 = .ok (.iload 6, 2) := by decide +kernel
theorem dX4_shortest_83 : decode cX4_shortest 83 = .ok (.iload_n 1, 1) := by decide +kernel
theorem dX4_shortest_84 : decode cX4_shortest 84 = .ok (.iconst 1, 1) := by decide +kernel
theorem dX4_shortest_85 : decode cX4_shortest 85 = .ok (.aload_n 0, 1) := by decide +kernel
theorem dX4_shortest_86 : decode cX4_shortest 86 = .ok (.getfield 24, 3) := by decide +kernel
theorem dX4_shortest_89 : decode cX4_shortest 89 = .ok (.invokevirtual 57, 3) := by decide +kernel
theorem dX4_shortest_92 : decode cX4_shortest 92 = .ok (.aload_n 0, 1) := by decide +kernel
theorem dX4_shortest_93 : decode cX4_shortest 93 = .ok (.getfield 24, 3) := by decide +kernel
theorem dX4_shortest_96 : decode cX4_shortest 96 = .ok (.iload_n 3, 1) := by decide +kernel
theorem dX4_shortest_97 : decode cX4_shortest 97 = .ok (.invokevirtual 61, 3) := by decide +kernel
theorem dX4_shortest_100 : decode cX4_shortest 100 = .ok (.ifCond .eq 6, 3) := by decide +kernel
theorem dX4_shortest_103 : decode cX4_shortest 103 = .ok (.iload 7, 2) := by decide +kernel
theorem dX4_shortest_105 : decode cX4_shortest 105 = .ok (.ireturn, 1) := by decide +kernel
theorem dX4_shortest_106 : decode cX4_shortest 106 = .ok (.iconst 0, 1) := by decide +kernel
theorem dX4_shortest_107 : decode cX4_shortest 107 = .ok (.istore 8, 2) := by decide +kernel
theorem dX4_shortest_109 : decode cX4_shortest 109 = .ok (.iload 8, 2) := by decide +kernel
theorem dX4_shortest_111 : decode cX4_shortest 111 = .ok (.aload_n 0, 1) := by decide +kernel
theorem dX4_shortest_112 : decode cX4_shortest 112 = .ok (.getfield 24, 3) := by decide +kernel
theorem dX4_shortest_115 : decode cX4_shortest 115 = .ok (.getfield 50, 3) := by decide +kernel
theorem dX4_shortest_118 : decode cX4_shortest 118 = .ok (.if_icmp .ge 48, 3) := by decide +kernel
theorem dX4_shortest_121 : decode cX4_shortest 121 = .ok (.iload 4, 2) := by decide +kernel
theorem dX4_shortest_123 : decode cX4_shortest 123 = .ok (.ifCond .ne 22, 3) := by decide +kernel
theorem dX4_shortest_126 : decode cX4_shortest 126 = .ok (.aload_n 0, 1) := by decide +kernel
theorem dX4_shortest_127 : decode cX4_shortest 127 = .ok (.getfield 27, 3) := by decide +kernel
theorem dX4_shortest_130 : decode cX4_shortest 130 = .ok (.aload_n 0, 1) := by decide +kernel
theorem dX4_shortest_131 : decode cX4_shortest 131 = .ok (.getfield 24, 3) := by decide +kernel
theorem dX4_shortest_134 : decode cX4_shortest 134 = .ok (.iload 8, 2) := by decide +kernel
theorem dX4_shortest_136 : decode cX4_shortest 136 = .ok (.invokevirtual 53, 3) := by decide +kernel
theorem dX4_shortest_139 : decode cX4_shortest 139 = .ok (.invokevirtual 65, 3) := by decide +kernel
theorem dX4_shortest_142 : decode cX4_shortest 142 = .ok (.ifCond .eq 18, 3) := by decide +kernel
theorem dX4_shortest_145 : decode cX4_shortest 145 = .ok (.aload_n 0, 1) := by decide +kernel
theorem dX4_shortest_146 : decode cX4_shortest 146 = .ok (.aload_n 0, 1) := by decide +kernel
theorem dX4_shortest_147 : decode cX4_shortest 147 = .ok (.getfield 24, 3) := by decide +kernel
theorem dX4_shortest_150 : decode cX4_shortest 150 = .ok (.iload 8, 2) := by decide +kernel
theorem dX4_shortest_152 : decode cX4_shortest 152 = .ok (.invokevirtual 53, 3) := by decide +kernel
theorem dX4_shortest_155 : decode cX4_shortest 155 = .ok (.iload 7, 2) := by decide +kernel
theorem dX4_shortest_157 : decode cX4_shortest 157 = .ok (.invokevirtual 40, 3) := by decide +kernel
theorem dX4_shortest_160 : decode cX4_shortest 160 = .ok (.iinc 8 1, 3) := by decide +kernel
theorem dX4_shortest_163 : decode cX4_shortest 163 = .ok (.goto (-54), 3) := by decide +kernel
theorem dX4_shortest_166 : decode cX4_shortest 166 = .ok (.iinc 5 1, 3) := by decide +kernel
theorem dX4_shortest_169 : decode cX4_shortest 169 = .ok (.goto (-138), 3) := by decide +kernel
theorem dX4_shortest_172 : decode cX4_shortest 172 = .ok (.iconst (-1), 1) := by decide +kernel
theorem dX4_shortest_173 : decode cX4_shortest 173 = .ok (.ireturn, 1) := by decide +kernel
set_option maxRecDepth 20000 in
theorem ggX4_reach_X6_add : GoodIn wsX4_reach wsX6_add := goodIn_r _ [7, 8, 9, 14, 15] (by decide +kernel) (by decide +kernel)
set_option maxRecDepth 20000 in
theorem gX4_reach_X6_add : GoodIn wsX4_reach (wsV RX4 68 RX6 yX6_add wsX6_add) := goodIn_app (goodIn_of _ (by decide +kernel)) ggX4_reach_X6_add
theorem dX4_reach_0 : decode cX4_reach 0 = .ok (.iload_n 1, 1) := by decide +kernel
theorem dX4_reach_1 : decode cX4_reach 1 = .ok (.ifCond .lt 37, 3) := by decide +kernel
theorem dX4_reach_4 : decode cX4_reach 4 = .ok (.iload_n 1, 1) := by decide +kernel
theorem dX4_reach_5 : decode cX4_reach 5 = .ok (.aload_n 0, 1) := by decide +kernel
theorem dX4_reach_6 : decode cX4_reach 6 = .ok (.getfield 9, 3) := by decide +kernel
theorem dX4_reach_9 : decode cX4_reach 9 = .ok (.arraylength, 1) := by decide +kernel
theorem dX4_reach_10 : decode cX4_reach 10 = .ok (.if_icmp .ge 28, 3) := by decide +kernel
theorem dX4_reach_13 : decode cX4_reach 13 = .ok (.aload_n 0, 1) := by decide +kernel
theorem dX4_reach_14 : decode cX4_reach 14 = .ok (.getfield 9, 3) := by decide +kernel
theorem dX4_reach_17 : decode cX4_reach 17 = .ok (.iload_n 1, 1) := by decide +kernel
theorem dX4_reach_18 : decode cX4_reach 18 = .ok (.iaload, 1) := by decide +kernel
theorem dX4_reach_19 : decode cX4_reach 19 = .ok (.iconst (-1), 1) := by decide +kernel
theorem dX4_reach_20 : decode cX4_reach 20 = .ok (.if_icmp .ne 18, 3) := by decide +kernel
theorem dX4_reach_23 : decode cX4_reach 23 = .ok (.aload_n 0, 1) := by decide +kernel
theorem dX4_reach_24 : decode cX4_reach 24 = .ok (.getfield 9, 3) := by decide +kernel
theorem dX4_reach_27 : decode cX4_reach 27 = .ok (.iload_n 1, 1) := by decide +kernel
theorem dX4_reach_28 : decode cX4_reach 28 = .ok (.iload_n 2, 1) := by decide +kernel
theorem dX4_reach_29 : decode cX4_reach 29 = .ok (.iastore, 1) := by decide +kernel
theorem dX4_reach_30 : decode cX4_reach 30 = .ok (.aload_n 0, 1) := by decide +kernel
theorem dX4_reach_31 : decode cX4_reach 31 = .ok (.getfield 20, 3) := by decide +kernel
theorem dX4_reach_34 : decode cX4_reach 34 = .ok (.iload_n 1, 1) := by decide +kernel
theorem dX4_reach_35 : decode cX4_reach 35 = .ok (.invokevirtual 68, 3) := by decide +kernel
theorem dX4_reach_38 : decode cX4_reach 38 = .ok (.return_, 1) := by decide +kernel
theorem dX5_init_0 : decode cX5_init 0 = .ok (.aload_n 0, 1) := by decide +kernel
theorem dX5_init_1 : decode cX5_init 1 = .ok (.invokespecial 3, 3) := by decide +kernel
theorem dX5_init_4 : decode cX5_init 4 = .ok (.aload_n 0, 1) := by decide +kernel
theorem dX5_init_5 : decode cX5_init 5 = .ok (.sipush 500, 3) := by decide +kernel
theorem dX5_init_8 : decode cX5_init 8 = .ok (.newarray .byte, 2) := by decide +kernel
theorem dX5_init_10 : decode cX5_init 10 = .ok (.putfield 9, 3) := by decide +kernel
theorem dX5_init_13 : decode cX5_init 13 = .ok (.aload_n 0, 1) := by decide +kernel
theorem dX5_init_14 : decode cX5_init 14 = .ok (.iconst (-1), 1) := by decide +kernel
theorem dX5_init_15 : decode cX5_init 15 = .ok (.putfield 15, 3) := by decide +kernel
theorem dX5_init_18 : decode cX5_init 18 = .ok (.return_, 1) := by decide +kernel
theorem dX5_take_0 : decode cX5_take 0 = .ok (.aload_n 0, 1) := by decide +kernel
theorem dX5_take_1 : decode cX5_take 1 = .ok (.getfield 19, 3) := by decide +kernel
theorem dX5_take_4 : decode cX5_take 4 = .ok (.iload_n 1, 1) := by decide +kernel
theorem dX5_take_5 : decode cX5_take 5 = .ok (.iadd, 1) := by decide +kernel
theorem dX5_take_6 : decode cX5_take 6 = .ok (.sipush 500, 3) := by decide +kernel
theorem dX5_take_9 : decode cX5_take 9 = .ok (.if_icmp .le 6, 3) := by decide +kernel
theorem dX5_take_12 : decode cX5_take 12 = .ok (.ldc 22, 2) := by decide +kernel
theorem dX5_take_14 : decode cX5_take 14 = .ok (.ireturn, 1) := by decide +kernel
theorem dX5_take_15 : decode cX5_take 15 = .ok (.iload_n 1, 1) := by decide +kernel
theorem dX5_take_16 : decode cX5_take 16 = .ok (.iconst 1, 1) := by decide +kernel
theorem dX5_take_17 : decode cX5_take 17 = .ok (.isub, 1) := by decide +kernel
theorem dX5_take_18 : decode cX5_take 18 = .ok (.istore 4, 2) := by decide +kernel
theorem dX5_take_20 : decode cX5_take 20 = .ok (.iload 4, 2) := by decide +kernel
theorem dX5_take_22 : decode cX5_take 22 = .ok (.ifCond .lt 37, 3) := by decide +kernel
theorem dX5_take_25 : decode cX5_take 25 = .ok (.aload_n 0, 1) := by decide +kernel
theorem dX5_take_26 : decode cX5_take 26 = .ok (.getfield 9, 3) := by decide +kernel
theorem dX5_take_29 : decode cX5_take 29 = .ok (.aload_n 0, 1) := by decide +kernel
theorem dX5_take_30 : decode cX5_take 30 = .ok (.getfield 19, 3) := by decide +kernel
theorem dX5_take_33 : decode cX5_take 33 = .ok (.lload_n 2, 1) := by decide +kernel
theorem dX5_take_34 : decode cX5_take 34 = .ok (.bipush 8, 2) := by decide +kernel
theorem dX5_take_36 : decode cX5_take 36 = .ok (.iload 4, 2) := by decide +kernel
theorem dX5_take_38 : decode cX5_take 38 = .ok (.imul, 1) := by decide +kernel
theorem dX5_take_39 : decode cX5_take 39 = .ok (.lushr, 1) := by decide +kernel
theorem dX5_take_40 : decode cX5_take 40 = .ok (.l2i, 1) := by decide +kernel
theorem dX5_take_41 : decode cX5_take 41 = .ok (.i2b, 1) := by decide +kernel
theorem dX5_take_42 : decode cX5_take 42 = .ok (.bastore, 1) := by decide +kernel
theorem dX5_take_43 : decode cX5_take 43 = .ok (.aload_n 0, 1) := by decide +kernel
theorem dX5_take_44 : decode cX5_take 44 = .ok (.dup, 1) := by decide +kernel
theorem dX5_take_45 : decode cX5_take 45 = .ok (.getfield 19, 3) := by decide +kernel
theorem dX5_take_48 : decode cX5_take 48 = .ok (.iconst 1, 1) := by decide +kernel
theorem dX5_take_49 : decode cX5_take 49 = .ok (.iadd, 1) := by decide +kernel
theorem dX5_take_50 : decode cX5_take 50 = .ok (.putfield 19, 3) := by decide +kernel
theorem dX5_take_53 : decode cX5_take 53 = .ok (.iinc 4 (-1), 3) := by decide +kernel
theorem dX5_take_56 : decode cX5_take 56 = .ok (.goto (-36), 3) := by decide +kernel
theorem dX5_take_59 : decode cX5_take 59 = .ok (.aload_n 0, 1) := by decide +kernel
theorem dX5_take_60 : decode cX5_take 60 = .ok (.getfield 19, 3) := by decide +kernel
theorem dX5_take_63 : decode cX5_take 63 = .ok (.ireturn, 1) := by decide +kernel
set_option maxRecDepth 20000 in
theorem ggX5_read_X7_clear : GoodIn wsX5_read wsX7_clear := goodIn_r _ [9, 10, 11, 12, 13, 14, 15, 16, 17, 18, 19, 20, 152, 153, 154, 155, 156, 157, 158, 159, 160, 161] (by decide +kernel) (by decide +kernel)
set_option maxRecDepth 20000 in
theorem gX5_read_X7_clear : GoodIn wsX5_read (wsV RX5 29 RX7 yX7_clear wsX7_clear) := goodIn_app (goodIn_of _ (by decide +kernel)) ggX5_read_X7_clear
set_option maxRecDepth 20000 in
theorem ggX5_read_X5_isMore : GoodIn wsX5_read wsX5_isMore := goodIn_r _ [25, 1, 4, 26, 27, 28, 24, 29, 30, 146, 147, 148, 149, 150, 151] (by decide +kernel) (by decide +kernel)
set_option maxRecDepth 20000 in
theorem gX5_read_X5_isMore : GoodIn wsX5_read (wsV RX5 34 RX5 yX5_isMore wsX5_isMore) := goodIn_app (goodIn_of _ (by decide +kernel)) ggX5_read_X5_isMore
set_option maxRecDepth 20000 in
theorem ggX5_read_X5_readHead : GoodIn wsX5_read wsX5_readHead := goodIn_r _ [34, 35, 36, 37, 24, 38, 1, 39, 4, 30, 26, 27, 28, 29, 40, 41, 42, 43, 44, 45, 46, 47, 48, 49, 50, 51, 52, 53, 54, 55, 56, 57, 58, 59, 60, 61, 62, 63, 64, 65, 66, 67, 68, 69, 70, 71, 72, 73, 74, 75, 76, 77, 78, 79, 80, 81, 82, 83, 84, 85, 86, 87, 88, 89, 90, 91, 92, 93, 94, 95, 96, 2, 3, 97, 98, 99, 100, 101, 102, 103, 104, 152, 153, 154, 155, 156, 157, 158, 159, 160, 161, 146, 147, 148, 149, 150, 151] (by decide +kernel) (by decide +kernel)
set_option maxRecDepth 20000 in
theorem gX5_read_X5_readHead : GoodIn wsX5_read (wsV RX5 38 RX5 yX5_readHead wsX5_readHead) := goodIn_app (goodIn_of _ (by decide +kernel)) ggX5_read_X5_readHead
set_option maxRecDepth 20000 in
theorem ggX5_read_X5_readStatement : GoodIn wsX5_read wsX5_readStatement := goodIn_r _ [108, 35, 36, 37, 24, 38, 1, 39, 4, 30, 26, 27, 28, 29, 40, 41, 42, 43, 44, 45, 46, 47, 48, 49, 50, 51, 52, 53, 54, 55, 56, 57, 58, 59, 60, 61, 62, 63, 64, 65, 66, 67, 68, 69, 70, 71, 72, 73, 74, 75, 76, 77, 78, 79, 80, 81, 82, 83, 84, 85, 86, 87, 88, 89, 90, 91, 92, 109, 110, 111, 112, 2, 93, 94, 95, 96, 3, 113, 114, 115, 116, 97, 98, 99, 100, 101, 102, 103, 104, 117, 118, 119, 8, 120, 11, 121, 122, 123, 124, 125, 126, 127, 128, 129, 130, 14, 12, 131, 132, 133, 134, 135, 136, 137, 138, 15, 139, 140, 141, 142, 143, 144, 145, 16, 13, 146, 147, 148, 149, 150, 151, 152, 153, 154, 155, 156, 157, 158, 159, 160, 161] (by decide +kernel) (by decide +kernel)
set_option maxRecDepth 20000 in
theorem gX5_read_X5_readStatement : GoodIn wsX5_read (wsV RX5 42 RX5 yX5_readStatement wsX5_readStatement) := goodIn_app (goodIn_of _ (by decide +kernel)) ggX5_read_X5_readStatement
theorem dX5_read_0 : decode cX5_read 0 = .ok (.aload_n 0, 1) := by decide +kernel
theorem dX5_read_1 : decode cX5_read 1 = .ok (.iconst 0, 1) := by decide +kernel
theorem dX5_read_2 : decode cX5_read 2 = .ok (.putfield 23, 3) := by decide +kernel
theorem dX5_read_5 : decode cX5_read 5 = .ok (.aload_n 0, 1) := by decide +kernel
theorem dX5_read_6 : decode cX5_read 6 = .ok (.iconst 0, 1) := by decide +kernel
theorem dX5_read_7 : decode cX5_read 7 = .ok (.putfield 26, 3) := by decide +kernel
theorem dX5_read_10 : decode cX5_read 10 = .ok (.aload_n 0, 1) := by decide +kernel
theorem dX5_read_11 : decode cX5_read 11 = .ok (.iconst (-1), 1) := by decide +kernel
theorem dX5_read_12 : decode cX5_read 12 = .ok (.putfield 15, 3) := by decide +kernel
theorem dX5_read_15 : decode cX5_read 15 = .ok (.aload_n 1, 1) := by decide +kernel
theorem dX5_read_16 : decode cX5_read 16 = .ok (.invokevirtual 29, 3) := by decide +kernel
theorem dX5_read_19 : decode cX5_read 19 = .ok (.aload_n 0, 1) := by decide +kernel
theorem dX5_read_20 : decode cX5_read 20 = .ok (.invokevirtual 34, 3) := by decide +kernel
theorem dX5_read_23 : decode cX5_read 23 = .ok (.ifCond .eq 8, 3) := by decide +kernel
theorem dX5_read_26 : decode cX5_read 26 = .ok (.aload_n 0, 1) := by decide +kernel
theorem dX5_read_27 : decode cX5_read 27 = .ok (.aload_n 1, 1) := by decide +kernel
theorem dX5_read_28 : decode cX5_read 28 = .ok (.invokevirtual 38, 3) := by decide +kernel
theorem dX5_read_31 : decode cX5_read 31 = .ok (.iconst 0, 1) := by decide +kernel
theorem dX5_read_32 : decode cX5_read 32 = .ok (.istore_n 2, 1) := by decide +kernel
theorem dX5_read_33 : decode cX5_read 33 = .ok (.iload_n 2, 1) := by decide +kernel
theorem dX5_read_34 : decode cX5_read 34 = .ok (.sipush 500, 3) := by decide +kernel
theorem dX5_read_37 : decode cX5_read 37 = .ok (.if_icmp .ge 28, 3) := by decide +kernel
theorem dX5_read_40 : decode cX5_read 40 = .ok (.aload_n 0, 1) := by decide +kernel
theorem dX5_read_41 : decode cX5_read 41 = .ok (.getfield 26, 3) := by decide +kernel
theorem dX5_read_44 : decode cX5_read 44 = .ok (.ifCond .ne 21, 3) := by decide +kernel
theorem dX5_read_47 : decode cX5_read 47 = .ok (.aload_n 0, 1) := by decide +kernel
theorem dX5_read_48 : decode cX5_read 48 = .ok (.invokevirtual 34, 3) := by decide +kernel
theorem dX5_read_51 : decode cX5_read 51 = .ok (.ifCond .eq 14, 3) := by decide +kernel
theorem dX5_read_54 : decode cX5_read 54 = .ok (.aload_n 0, 1) := by decide +kernel
theorem dX5_read_55 : decode cX5_read 55 = .ok (.aload_n 1, 1) := by decide +kernel
theorem dX5_read_56 : decode cX5_read 56 = .ok (.invokevirtual 42, 3) := by decide +kernel
theorem dX5_read_59 : decode cX5_read 59 = .ok (.iinc 2 1, 3) := by decide +kernel
theorem dX5_read_62 : decode cX5_read 62 = .ok (.goto (-29), 3) := by decide +kernel
theorem dX5_read_65 : decode cX5_read 65 = .ok (.aload_n 0, 1) := by decide +kernel
theorem dX5_read_66 : decode cX5_read 66 = .ok (.iconst 0, 1) := by decide +kernel
theorem dX5_read_67 : decode cX5_read 67 = .ok (.putfield 19, 3) := by decide +kernel
theorem dX5_read_70 : decode cX5_read 70 = .ok (.aload_n 0, 1) := by decide +kernel
theorem dX5_read_71 : decode cX5_read 71 = .ok (.getfield 26, 3) := by decide +kernel
theorem dX5_read_74 : decode cX5_read 74 = .ok (.ireturn, 1) := by decide +kernel
set_option maxRecDepth 20000 in
theorem ggX5_readHead_X5_nextWord : GoodIn wsX5_readHead wsX5_nextWord := goodIn_r _ [5, 6, 7, 8, 9, 10, 11, 12, 4, 13, 91, 92, 93, 94, 95, 96] (by decide +kernel) (by decide +kernel)
set_option maxRecDepth 20000 in
theorem gX5_readHead_X5_nextWord : GoodIn wsX5_readHead (wsV RX5 45 RX5 yX5_nextWord wsX5_nextWord) := goodIn_app (goodIn_of _ (by decide +kernel)) ggX5_readHead_X5_nextWord
set_option maxRecDepth 20000 in
theorem ggX5_readHead_X5_spells : GoodIn wsX5_readHead wsX5_spells := goodIn_r _ [17, 6, 7, 9, 18, 19, 20, 21, 22, 23, 24, 25, 26, 27, 28, 29, 30, 31, 32, 33, 34, 35, 36, 37, 38, 39, 40, 41, 42, 43, 44, 45, 46, 47, 48, 49, 50, 51, 52, 53, 54, 55, 56, 57, 58, 59, 60, 61, 62, 63, 64, 65, 66, 91, 92, 93, 94, 95, 96] (by decide +kernel) (by decide +kernel)
set_option maxRecDepth 20000 in
theorem gX5_readHead_X5_spells : GoodIn wsX5_readHead (wsV RX5 50 RX5 yX5_spells wsX5_spells) := goodIn_app (goodIn_of _ (by decide +kernel)) ggX5_readHead_X5_spells
set_option maxRecDepth 20000 in
theorem ggX5_readHead_X5_fail : GoodIn wsX5_readHead wsX5_fail := goodIn_r _ [70, 71, 7, 72, 91, 92, 93, 94, 95, 96] (by decide +kernel) (by decide +kernel)
set_option maxRecDepth 20000 in
theorem gX5_readHead_X5_fail : GoodIn wsX5_readHead (wsV RX5 54 RX5 yX5_fail wsX5_fail) := goodIn_app (goodIn_of _ (by decide +kernel)) ggX5_readHead_X5_fail
set_option maxRecDepth 20000 in
theorem ggX5_readHead_X5_nextNumber : GoodIn wsX5_readHead wsX5_nextNumber := goodIn_r _ [76, 6, 7, 8, 9, 10, 11, 12, 4, 13, 67, 68, 69, 70, 71, 72, 91, 92, 93, 94, 95, 96] (by decide +kernel) (by decide +kernel)
set_option maxRecDepth 20000 in
theorem gX5_readHead_X5_nextNumber : GoodIn wsX5_readHead (wsV RX5 58 RX5 yX5_nextNumber wsX5_nextNumber) := goodIn_app (goodIn_of _ (by decide +kernel)) ggX5_readHead_X5_nextNumber
set_option maxRecDepth 20000 in
theorem ggX5_readHead_X5_nextSign : GoodIn wsX5_readHead wsX5_nextSign := goodIn_r _ [80, 6, 7, 8, 9, 10, 11, 12, 4, 13, 67, 68, 69, 70, 71, 72, 91, 92, 93, 94, 95, 96] (by decide +kernel) (by decide +kernel)
set_option maxRecDepth 20000 in
theorem gX5_readHead_X5_nextSign : GoodIn wsX5_readHead (wsV RX5 63 RX5 yX5_nextSign wsX5_nextSign) := goodIn_app (goodIn_of _ (by decide +kernel)) ggX5_readHead_X5_nextSign
theorem dX5_readHead_0 : decode cX5_readHead 0 = .ok (.aload_n 0, 1) := by decide +kernel
theorem dX5_readHead_1 : decode cX5_readHead 1 = .ok (.invokevirtual 45, 3) := by decide +kernel
theorem dX5_readHead_4 : decode cX5_readHead 4 = .ok (.aload_n 0, 1) := by decide +kernel
theorem dX5_readHead_5 : decode cX5_readHead 5 = .ok (.ldc 48, 2) := by decide +kernel
theorem dX5_readHead_7 : decode cX5_readHead 7 = .ok (.invokevirtual 50, 3) := by decide +kernel
theorem dX5_readHead_10 : decode cX5_readHead 10 = .ok (.ifCond .ne 8, 3) := by decide +kernel
theorem dX5_readHead_13 : decode cX5_readHead 13 = .ok (.aload_n 0, 1) := by decide +kernel
theorem dX5_readHead_14 : decode cX5_readHead 14 = .ok (.iconst 1, 1) := by decide +kernel
theorem dX5_readHead_15 : decode cX5_readHead 15 = .ok (.invokevirtual 54, 3) := by decide +kernel
theorem dX5_readHead_18 : decode cX5_readHead 18 = .ok (.aload_n 1, 1) := by decide +kernel
theorem dX5_readHead_19 : decode cX5_readHead 19 = .ok (.aload_n 0, 1) := by decide +kernel
theorem dX5_readHead_20 : decode cX5_readHead 20 = .ok (.iconst 2, 1) := by decide +kernel
theorem dX5_readHead_21 : decode cX5_readHead 21 = .ok (.iconst 4, 1) := by decide +kernel
theorem dX5_readHead_22 : decode cX5_readHead 22 = .ok (.invokevirtual 58, 3) := by decide +kernel
theorem dX5_readHead_25 : decode cX5_readHead 25 = .ok (.putfield 62, 3) := by decide +kernel
theorem dX5_readHead_28 : decode cX5_readHead 28 = .ok (.aload_n 0, 1) := by decide +kernel
theorem dX5_readHead_29 : decode cX5_readHead 29 = .ok (.bipush 59, 2) := by decide +kernel
theorem dX5_readHead_31 : decode cX5_readHead 31 = .ok (.invokevirtual 63, 3) := by decide +kernel
theorem dX5_readHead_34 : decode cX5_readHead 34 = .ok (.return_, 1) := by decide +kernel
set_option maxRecDepth 20000 in
theorem ggX5_readStatement_X5_nextWord : GoodIn wsX5_readStatement wsX5_nextWord := goodIn_r _ [5, 6, 7, 8, 9, 10, 11, 12, 4, 13, 125, 126, 127, 128, 129, 130] (by decide +kernel) (by decide +kernel)
set_option maxRecDepth 20000 in
theorem gX5_readStatement_X5_nextWord : GoodIn wsX5_readStatement (wsV RX5 45 RX5 yX5_nextWord wsX5_nextWord) := goodIn_app (goodIn_of _ (by decide +kernel)) ggX5_readStatement_X5_nextWord
set_option maxRecDepth 20000 in
theorem ggX5_readStatement_X5_spells : GoodIn wsX5_readStatement wsX5_spells := goodIn_r _ [17, 6, 7, 9, 18, 19, 20, 21, 22, 23, 24, 25, 26, 27, 28, 29, 30, 31, 32, 33, 34, 35, 36, 37, 38, 39, 40, 41, 42, 43, 44, 45, 46, 47, 48, 49, 50, 51, 52, 53, 54, 55, 56, 57, 58, 59, 60, 61, 62, 63, 64, 65, 66, 125, 126, 127, 128, 129, 130] (by decide +kernel) (by decide +kernel)
set_option maxRecDepth 20000 in
theorem gX5_readStatement_X5_spells : GoodIn wsX5_readStatement (wsV RX5 50 RX5 yX5_spells wsX5_spells) := goodIn_app (goodIn_of _ (by decide +kernel)) ggX5_readStatement_X5_spells
set_option maxRecDepth 20000 in
theorem ggX5_readStatement_X5_readWord : GoodIn wsX5_readStatement wsX5_readWord := goodIn_r _ [70, 71, 72, 73, 74, 4, 75, 7, 76, 77, 78, 79, 80, 1, 2, 3, 5, 6, 8, 9, 10, 11, 12, 13, 14, 15, 16, 17, 18, 19, 20, 21, 22, 23, 24, 25, 26, 27, 28, 29, 30, 31, 32, 33, 34, 35, 36, 37, 38, 39, 40, 41, 42, 43, 44, 45, 46, 47, 48, 49, 50, 51, 52, 53, 54, 55, 56, 57, 58, 59, 60, 61, 62, 63, 64, 65, 66, 81, 82, 83, 84, 85, 86, 87, 88, 89, 90, 91, 92, 93, 94, 95, 96, 131, 132, 133, 134, 135, 136, 137, 138, 139, 140, 125, 126, 127, 128, 129, 130] (by decide +kernel) (by decide +kernel)
set_option maxRecDepth 20000 in
theorem gX5_readStatement_X5_readWord : GoodIn wsX5_readStatement (wsV RX5 69 RX5 yX5_readWord wsX5_readWord) := goodIn_app (goodIn_of _ (by decide +kernel)) ggX5_readStatement_X5_readWord
set_option maxRecDepth 20000 in
theorem ggX5_readStatement_X5_readFrame : GoodIn wsX5_readStatement wsX5_readFrame := goodIn_r _ [100, 71, 72, 73, 74, 4, 75, 7, 76, 77, 78, 79, 80, 1, 2, 3, 5, 6, 8, 9, 10, 11, 12, 13, 14, 15, 16, 17, 18, 19, 20, 21, 22, 23, 24, 25, 26, 27, 28, 29, 30, 31, 32, 33, 34, 35, 36, 37, 38, 39, 40, 41, 42, 43, 44, 45, 46, 47, 48, 49, 50, 51, 52, 53, 54, 55, 56, 57, 58, 59, 60, 61, 62, 63, 64, 65, 66, 85, 86, 87, 88, 101, 102, 103, 92, 104, 105, 106, 131, 132, 133, 134, 135, 136, 137, 138, 139, 140, 125, 126, 127, 128, 129, 130] (by decide +kernel) (by decide +kernel)
set_option maxRecDepth 20000 in
theorem gX5_readStatement_X5_readFrame : GoodIn wsX5_readStatement (wsV RX5 74 RX5 yX5_readFrame wsX5_readFrame) := goodIn_app (goodIn_of _ (by decide +kernel)) ggX5_readStatement_X5_readFrame
set_option maxRecDepth 20000 in
theorem ggX5_readStatement_X5_readPair : GoodIn wsX5_readStatement wsX5_readPair := goodIn_r _ [110, 71, 72, 73, 74, 4, 75, 7, 76, 81, 82, 83, 84, 6, 8, 9, 10, 11, 12, 13, 111, 112, 113, 92, 114, 115, 116, 117, 118, 85, 86, 87, 88, 119, 120, 121, 122, 123, 124, 131, 132, 133, 134, 135, 136, 137, 138, 139, 140, 125, 126, 127, 128, 129, 130] (by decide +kernel) (by decide +kernel)
set_option maxRecDepth 20000 in
theorem gX5_readStatement_X5_readPair : GoodIn wsX5_readStatement (wsV RX5 79 RX5 yX5_readPair wsX5_readPair) := goodIn_app (goodIn_of _ (by decide +kernel)) ggX5_readStatement_X5_readPair
set_option maxRecDepth 20000 in
theorem ggX5_readStatement_X5_fail : GoodIn wsX5_readStatement wsX5_fail := goodIn_r _ [75, 71, 7, 76, 125, 126, 127, 128, 129, 130] (by decide +kernel) (by decide +kernel)
set_option maxRecDepth 20000 in
theorem gX5_readStatement_X5_fail : GoodIn wsX5_readStatement (wsV RX5 54 RX5 yX5_fail wsX5_fail) := goodIn_app (goodIn_of _ (by decide +kernel)) ggX5_readStatement_X5_fail
theorem dX5_readStatement_0 : decode cX5_readStatement 0 = .ok (.aload_n 0, 1) := by decide +kernel
theorem dX5_readStatement_1 : decode cX5_readStatement 1 = .ok (.invokevirtual 45, 3) := by decide +kernel
theorem dX5_readStatement_4 : decode cX5_readStatement 4 = .ok (.aload_n 0, 1) := by decide +kernel
theorem dX5_readStatement_5 : decode cX5_readStatement 5 = .ok (.ldc 67, 2) := by decide +kernel
theorem dX5_readStatement_7 : decode cX5_readStatement 7 = .ok (.invokevirtual 50, 3) := by decide +kernel
theorem dX5_readStatement_10 : decode cX5_readStatement 10 = .ok (.ifCond .eq 11, 3) := by decide +kernel
theorem dX5_readStatement_13 : decode cX5_readStatement 13 = .ok (.aload_n 0, 1) := by decide +kernel
theorem dX5_readStatement_14 : decode cX5_readStatement 14 = .ok (.aload_n 1, 1) := by decide +kernel
theorem dX5_readStatement_15 : decode cX5_readStatement 15 = .ok (.invokevirtual 69, 3) := by decide +kernel
theorem dX5_readStatement_18 : decode cX5_readStatement 18 = .ok (.goto 55, 3) := by decide +kernel
theorem dX5_readStatement_21 : decode cX5_readStatement 21 = .ok (.aload_n 0, 1) := by decide +kernel
theorem dX5_readStatement_22 : decode cX5_readStatement 22 = .ok (.ldc 72, 2) := by decide +kernel
theorem dX5_readStatement_24 : decode cX5_readStatement 24 = .ok (.invokevirtual 50, 3) := by decide +kernel
theorem dX5_readStatement_27 : decode cX5_readStatement 27 = .ok (.ifCond .eq 11, 3) := by decide +kernel
theorem dX5_readStatement_30 : decode cX5_readStatement 30 = .ok (.aload_n 0, 1) := by decide +kernel
theorem dX5_readStatement_31 : decode cX5_readStatement 31 = .ok (.aload_n 1, 1) := by decide +kernel
theorem dX5_readStatement_32 : decode cX5_readStatement 32 = .ok (.invokevirtual 74, 3) := by decide +kernel
theorem dX5_readStatement_35 : decode cX5_readStatement 35 = .ok (.goto 38, 3) := by decide +kernel
theorem dX5_readStatement_38 : decode cX5_readStatement 38 = .ok (.aload_n 0, 1) := by decide +kernel
theorem dX5_readStatement_39 : decode cX5_readStatement 39 = .ok (.ldc 77, 2) := by decide +kernel
theorem dX5_readStatement_41 : decode cX5_readStatement 41 = .ok (.invokevirtual 50, 3) := by decide +kernel
theorem dX5_readStatement_44 : decode cX5_readStatement 44 = .ok (.ifCond .eq 11, 3) := by decide +kernel
theorem dX5_readStatement_47 : decode cX5_readStatement 47 = .ok (.aload_n 0, 1) := by decide +kernel
theorem dX5_readStatement_48 : decode cX5_readStatement 48 = .ok (.aload_n 1, 1) := by decide +kernel
theorem dX5_readStatement_49 : decode cX5_readStatement 49 = .ok (.invokevirtual 79, 3) := by decide +kernel
theorem dX5_readStatement_52 : decode cX5_readStatement 52 = .ok (.goto 21, 3) := by decide +kernel
theorem dX5_readStatement_55 : decode cX5_readStatement 55 = .ok (.aload_n 0, 1) := by decide +kernel
theorem dX5_readStatement_56 : decode cX5_readStatement 56 = .ok (.aload_n 0, 1) := by decide +kernel
theorem dX5_readStatement_57 : decode cX5_readStatement 57 = .ok (.ldc 48, 2) := by decide +kernel
theorem dX5_readStatement_59 : decode cX5_readStatement 59 = .ok (.invokevirtual 50, 3) := by decide +kernel
theorem dX5_readStatement_62 : decode cX5_readStatement 62 = .ok (.ifCond .eq 7, 3) := by decide +kernel
theorem dX5_readStatement_65 : decode cX5_readStatement 65 = .ok (.iconst 3, 1) := by decide +kernel
theorem dX5_readStatement_66 : decode cX5_readStatement 66 = .ok (.goto 4, 3) := by decide +kernel
theorem dX5_readStatement_69 : decode cX5_readStatement 69 = .ok (.iconst 1, 1) := by decide +kernel
theorem dX5_readStatement_70 : decode cX5_readStatement 70 = .ok (.invokevirtual 54, 3) := by decide +kernel
theorem dX5_readStatement_73 : decode cX5_readStatement 73 = .ok (.return_, 1) := by decide +kernel
set_option maxRecDepth 20000 in
theorem ggX5_readWord_X5_fail : GoodIn wsX5_readWord wsX5_fail := goodIn_r _ [6, 1, 7, 8, 103, 104, 105, 106, 107, 108] (by decide +kernel) (by decide +kernel)
set_option maxRecDepth 20000 in
theorem gX5_readWord_X5_fail : GoodIn wsX5_readWord (wsV RX5 54 RX5 yX5_fail wsX5_fail) := goodIn_app (goodIn_of _ (by decide +kernel)) ggX5_readWord_X5_fail
set_option maxRecDepth 20000 in
theorem ggX5_readWord_X5_nextKind : GoodIn wsX5_readWord wsX5_nextKind := goodIn_r _ [12, 13, 14, 15, 5, 16, 17, 7, 18, 19, 20, 21, 22, 23, 24, 25, 26, 27, 28, 29, 30, 31, 32, 33, 34, 35, 36, 37, 38, 39, 40, 41, 42, 43, 44, 45, 46, 47, 48, 49, 50, 51, 52, 53, 54, 55, 56, 57, 58, 59, 60, 61, 62, 63, 64, 65, 66, 67, 68, 69, 70, 71, 72, 73, 74, 75, 76, 2, 3, 4, 6, 1, 8, 103, 104, 105, 106, 107, 108] (by decide +kernel) (by decide +kernel)
set_option maxRecDepth 20000 in
theorem gX5_readWord_X5_nextKind : GoodIn wsX5_readWord (wsV RX5 85 RX5 yX5_nextKind wsX5_nextKind) := goodIn_app (goodIn_of _ (by decide +kernel)) ggX5_readWord_X5_nextKind
set_option maxRecDepth 20000 in
theorem ggX5_readWord_X5_nextNumber : GoodIn wsX5_readWord wsX5_nextNumber := goodIn_r _ [80, 17, 7, 18, 19, 20, 21, 22, 5, 23, 2, 3, 4, 6, 1, 8, 103, 104, 105, 106, 107, 108] (by decide +kernel) (by decide +kernel)
set_option maxRecDepth 20000 in
theorem gX5_readWord_X5_nextNumber : GoodIn wsX5_readWord (wsV RX5 58 RX5 yX5_nextNumber wsX5_nextNumber) := goodIn_app (goodIn_of _ (by decide +kernel)) ggX5_readWord_X5_nextNumber
set_option maxRecDepth 20000 in
theorem ggX5_readWord_X5_nextSign : GoodIn wsX5_readWord wsX5_nextSign := goodIn_r _ [84, 17, 7, 18, 19, 20, 21, 22, 5, 23, 2, 3, 4, 6, 1, 8, 103, 104, 105, 106, 107, 108] (by decide +kernel) (by decide +kernel)
set_option maxRecDepth 20000 in
theorem gX5_readWord_X5_nextSign : GoodIn wsX5_readWord (wsV RX5 63 RX5 yX5_nextSign wsX5_nextSign) := goodIn_app (goodIn_of _ (by decide +kernel)) ggX5_readWord_X5_nextSign
set_option maxRecDepth 20000 in
theorem ggX5_readWord_X7_addWord : GoodIn wsX5_readWord wsX7_addWord := goodIn_r _ [89, 90, 91, 92, 93, 94, 95, 96, 97, 98, 99, 100, 101, 102] (by decide +kernel) (by decide +kernel)
set_option maxRecDepth 20000 in
theorem gX5_readWord_X7_addWord : GoodIn wsX5_readWord (wsV RX5 89 RX7 yX7_addWord wsX7_addWord) := goodIn_app (goodIn_of _ (by decide +kernel)) ggX5_readWord_X7_addWord
theorem dX5_readWord_0 : decode cX5_readWord 0 = .ok (.aload_n 1, 1) := by decide +kernel
theorem dX5_readWord_1 : decode cX5_readWord 1 = .ok (.getfield 82, 3) := by decide +kernel
theorem dX5_readWord_4 : decode cX5_readWord 4 = .ok (.bipush 8, 2) := by decide +kernel
theorem dX5_readWord_6 : decode cX5_readWord 6 = .ok (.if_icmp .lt 8, 3) := by decide +kernel
theorem dX5_readWord_9 : decode cX5_readWord 9 = .ok (.aload_n 0, 1) := by decide +kernel
theorem dX5_readWord_10 : decode cX5_readWord 10 = .ok (.iconst 3, 1) := by decide +kernel
theorem dX5_readWord_11 : decode cX5_readWord 11 = .ok (.invokevirtual 54, 3) := by decide +kernel
theorem dX5_readWord_14 : decode cX5_readWord 14 = .ok (.aload_n 0, 1) := by decide +kernel
theorem dX5_readWord_15 : decode cX5_readWord 15 = .ok (.invokevirtual 85, 3) := by decide +kernel
theorem dX5_readWord_18 : decode cX5_readWord 18 = .ok (.istore_n 2, 1) := by decide +kernel
theorem dX5_readWord_19 : decode cX5_readWord 19 = .ok (.aload_n 0, 1) := by decide +kernel
theorem dX5_readWord_20 : decode cX5_readWord 20 = .ok (.iconst 0, 1) := by decide +kernel
theorem dX5_readWord_21 : decode cX5_readWord 21 = .ok (.bipush 99, 2) := by decide +kernel
theorem dX5_readWord_23 : decode cX5_readWord 23 = .ok (.invokevirtual 58, 3) := by decide +kernel
theorem dX5_readWord_26 : decode cX5_readWord 26 = .ok (.bipush 50, 2) := by decide +kernel
theorem dX5_readWord_28 : decode cX5_readWord 28 = .ok (.isub, 1) := by decide +kernel
theorem dX5_readWord_29 : decode cX5_readWord 29 = .ok (.istore_n 3, 1) := by decide +kernel
theorem dX5_readWord_30 : decode cX5_readWord 30 = .ok (.aload_n 0, 1) := by decide +kernel
theorem dX5_readWord_31 : decode cX5_readWord 31 = .ok (.iconst 0, 1) := by decide +kernel
theorem dX5_readWord_32 : decode cX5_readWord 32 = .ok (.bipush 99, 2) := by decide +kernel
theorem dX5_readWord_34 : decode cX5_readWord 34 = .ok (.invokevirtual 58, 3) := by decide +kernel
theorem dX5_readWord_37 : decode cX5_readWord 37 = .ok (.bipush 50, 2) := by decide +kernel
theorem dX5_readWord_39 : decode cX5_readWord 39 = .ok (.isub, 1) := by decide +kernel
theorem dX5_readWord_40 : decode cX5_readWord 40 = .ok (.istore 4, 2) := by decide +kernel
theorem dX5_readWord_42 : decode cX5_readWord 42 = .ok (.aload_n 0, 1) := by decide +kernel
theorem dX5_readWord_43 : decode cX5_readWord 43 = .ok (.bipush 59, 2) := by decide +kernel
theorem dX5_readWord_45 : decode cX5_readWord 45 = .ok (.invokevirtual 63, 3) := by decide +kernel
theorem dX5_readWord_48 : decode cX5_readWord 48 = .ok (.aload_n 0, 1) := by decide +kernel
theorem dX5_readWord_49 : decode cX5_readWord 49 = .ok (.getfield 26, 3) := by decide +kernel
theorem dX5_readWord_52 : decode cX5_readWord 52 = .ok (.ifCond .ne 11, 3) := by decide +kernel
theorem dX5_readWord_55 : decode cX5_readWord 55 = .ok (.aload_n 1, 1) := by decide +kernel
theorem dX5_readWord_56 : decode cX5_readWord 56 = .ok (.iload_n 2, 1) := by decide +kernel
theorem dX5_readWord_57 : decode cX5_readWord 57 = .ok (.iload_n 3, 1) := by decide +kernel
theorem dX5_readWord_58 : decode cX5_readWord 58 = .ok (.iload 4, 2) := by decide +kernel
theorem dX5_readWord_60 : decode cX5_readWord 60 = .ok (.invokevirtual 89, 3) := by decide +kernel
theorem dX5_readWord_63 : decode cX5_readWord 63 = .ok (.return_, 1) := by decide +kernel
set_option maxRecDepth 20000 in
theorem ggX5_readFrame_X5_fail : GoodIn wsX5_readFrame wsX5_fail := goodIn_r _ [6, 1, 7, 8, 98, 99, 100, 101, 102, 103] (by decide +kernel) (by decide +kernel)
set_option maxRecDepth 20000 in
theorem gX5_readFrame_X5_fail : GoodIn wsX5_readFrame (wsV RX5 54 RX5 yX5_fail wsX5_fail) := goodIn_app (goodIn_of _ (by decide +kernel)) ggX5_readFrame_X5_fail
set_option maxRecDepth 20000 in
theorem ggX5_readFrame_X5_nextKind : GoodIn wsX5_readFrame wsX5_nextKind := goodIn_r _ [12, 13, 14, 15, 5, 16, 17, 7, 18, 19, 20, 21, 22, 23, 24, 25, 26, 27, 28, 29, 30, 31, 32, 33, 34, 35, 36, 37, 38, 39, 40, 41, 42, 43, 44, 45, 46, 47, 48, 49, 50, 51, 52, 53, 54, 55, 56, 57, 58, 59, 60, 61, 62, 63, 64, 65, 66, 67, 68, 69, 70, 71, 72, 73, 74, 75, 76, 2, 3, 4, 6, 1, 8, 98, 99, 100, 101, 102, 103] (by decide +kernel) (by decide +kernel)
set_option maxRecDepth 20000 in
theorem gX5_readFrame_X5_nextKind : GoodIn wsX5_readFrame (wsV RX5 85 RX5 yX5_nextKind wsX5_nextKind) := goodIn_app (goodIn_of _ (by decide +kernel)) ggX5_readFrame_X5_nextKind
set_option maxRecDepth 20000 in
theorem ggX5_readFrame_X5_nextSign : GoodIn wsX5_readFrame wsX5_nextSign := goodIn_r _ [80, 17, 7, 18, 19, 20, 21, 22, 5, 23, 2, 3, 4, 6, 1, 8, 98, 99, 100, 101, 102, 103] (by decide +kernel) (by decide +kernel)
set_option maxRecDepth 20000 in
theorem gX5_readFrame_X5_nextSign : GoodIn wsX5_readFrame (wsV RX5 63 RX5 yX5_nextSign wsX5_nextSign) := goodIn_app (goodIn_of _ (by decide +kernel)) ggX5_readFrame_X5_nextSign
set_option maxRecDepth 20000 in
theorem ggX5_readFrame_X7_addFrame : GoodIn wsX5_readFrame wsX7_addFrame := goodIn_r _ [85, 86, 87, 88, 89, 90, 91, 92, 93, 94, 95, 96, 97] (by decide +kernel) (by decide +kernel)
set_option maxRecDepth 20000 in
theorem gX5_readFrame_X7_addFrame : GoodIn wsX5_readFrame (wsV RX5 96 RX7 yX7_addFrame wsX7_addFrame) := goodIn_app (goodIn_of _ (by decide +kernel)) ggX5_readFrame_X7_addFrame
theorem dX5_readFrame_0 : decode cX5_readFrame 0 = .ok (.aload_n 1, 1) := by decide +kernel
theorem dX5_readFrame_1 : decode cX5_readFrame 1 = .ok (.getfield 93, 3) := by decide +kernel
theorem dX5_readFrame_4 : decode cX5_readFrame 4 = .ok (.bipush 8, 2) := by decide +kernel
theorem dX5_readFrame_6 : decode cX5_readFrame 6 = .ok (.if_icmp .lt 8, 3) := by decide +kernel
theorem dX5_readFrame_9 : decode cX5_readFrame 9 = .ok (.aload_n 0, 1) := by decide +kernel
theorem dX5_readFrame_10 : decode cX5_readFrame 10 = .ok (.iconst 3, 1) := by decide +kernel
theorem dX5_readFrame_11 : decode cX5_readFrame 11 = .ok (.invokevirtual 54, 3) := by decide +kernel
theorem dX5_readFrame_14 : decode cX5_readFrame 14 = .ok (.iconst 0, 1) := by decide +kernel
theorem dX5_readFrame_15 : decode cX5_readFrame 15 = .ok (.istore_n 2, 1) := by decide +kernel
theorem dX5_readFrame_16 : decode cX5_readFrame 16 = .ok (.iconst 1, 1) := by decide +kernel
theorem dX5_readFrame_17 : decode cX5_readFrame 17 = .ok (.istore_n 3, 1) := by decide +kernel
theorem dX5_readFrame_18 : decode cX5_readFrame 18 = .ok (.iconst 1, 1) := by decide +kernel
theorem dX5_readFrame_19 : decode cX5_readFrame 19 = .ok (.istore 4, 2) := by decide +kernel
theorem dX5_readFrame_21 : decode cX5_readFrame 21 = .ok (.iload 4, 2) := by decide +kernel
theorem dX5_readFrame_23 : decode cX5_readFrame 23 = .ok (.aload_n 1, 1) := by decide +kernel
theorem dX5_readFrame_24 : decode cX5_readFrame 24 = .ok (.getfield 62, 3) := by decide +kernel
theorem dX5_readFrame_27 : decode cX5_readFrame 27 = .ok (.if_icmp .gt 42, 3) := by decide +kernel
theorem dX5_readFrame_30 : decode cX5_readFrame 30 = .ok (.iload_n 2, 1) := by decide +kernel
theorem dX5_readFrame_31 : decode cX5_readFrame 31 = .ok (.aload_n 0, 1) := by decide +kernel
theorem dX5_readFrame_32 : decode cX5_readFrame 32 = .ok (.invokevirtual 85, 3) := by decide +kernel
theorem dX5_readFrame_35 : decode cX5_readFrame 35 = .ok (.iload_n 3, 1) := by decide +kernel
theorem dX5_readFrame_36 : decode cX5_readFrame 36 = .ok (.imul, 1) := by decide +kernel
theorem dX5_readFrame_37 : decode cX5_readFrame 37 = .ok (.iadd, 1) := by decide +kernel
theorem dX5_readFrame_38 : decode cX5_readFrame 38 = .ok (.istore_n 2, 1) := by decide +kernel
theorem dX5_readFrame_39 : decode cX5_readFrame 39 = .ok (.iload_n 3, 1) := by decide +kernel
theorem dX5_readFrame_40 : decode cX5_readFrame 40 = .ok (.iconst 4, 1) := by decide +kernel
theorem dX5_readFrame_41 : decode cX5_readFrame 41 = .ok (.imul, 1) := by decide +kernel
theorem dX5_readFrame_42 : decode cX5_readFrame 42 = .ok (.istore_n 3, 1) := by decide +kernel
theorem dX5_readFrame_43 : decode cX5_readFrame 43 = .ok (.aload_n 0, 1) := by decide +kernel
theorem dX5_readFrame_44 : decode cX5_readFrame 44 = .ok (.iload 4, 2) := by decide +kernel
theorem dX5_readFrame_46 : decode cX5_readFrame 46 = .ok (.aload_n 1, 1) := by decide +kernel
theorem dX5_readFrame_47 : decode cX5_readFrame 47 = .ok (.getfield 62, 3) := by decide +kernel
theorem dX5_readFrame_50 : decode cX5_readFrame 50 = .ok (.if_icmp .ge 8, 3) := by decide +kernel
theorem dX5_readFrame_53 : decode cX5_readFrame 53 = .ok (.bipush 44, 2) := by decide +kernel
theorem dX5_readFrame_55 : decode cX5_readFrame 55 = .ok (.goto 5, 3) := by decide +kernel
theorem dX5_readFrame_58 : decode cX5_readFrame 58 = .ok (.bipush 59, 2) := by decide +kernel
theorem dX5_readFrame_60 : decode cX5_readFrame 60 = .ok (.invokevirtual 63, 3) := by decide +kernel
theorem dX5_readFrame_63 : decode cX5_readFrame 63 = .ok (.iinc 4 1, 3) := by decide +kernel
theorem dX5_readFrame_66 : decode cX5_readFrame 66 = .ok (.goto (-45), 3) := by decide +kernel
theorem dX5_readFrame_69 : decode cX5_readFrame 69 = .ok (.aload_n 0, 1) := by decide +kernel
theorem dX5_readFrame_70 : decode cX5_readFrame 70 = .ok (.getfield 26, 3) := by decide +kernel
theorem dX5_readFrame_73 : decode cX5_readFrame 73 = .ok (.ifCond .ne 8, 3) := by decide +kernel
theorem dX5_readFrame_76 : decode cX5_readFrame 76 = .ok (.aload_n 1, 1) := by decide +kernel
theorem dX5_readFrame_77 : decode cX5_readFrame 77 = .ok (.iload_n 2, 1) := by decide +kernel
theorem dX5_readFrame_78 : decode cX5_readFrame 78 = .ok (.invokevirtual 96, 3) := by decide +kernel
theorem dX5_readFrame_81 : decode cX5_readFrame 81 = .ok (.return_, 1) := by decide +kernel
set_option maxRecDepth 20000 in
theorem ggX5_readPair_X5_fail : GoodIn wsX5_readPair wsX5_fail := goodIn_r _ [6, 1, 7, 8, 49, 50, 51, 52, 53, 54] (by decide +kernel) (by decide +kernel)
set_option maxRecDepth 20000 in
theorem gX5_readPair_X5_fail : GoodIn wsX5_readPair (wsV RX5 54 RX5 yX5_fail wsX5_fail) := goodIn_app (goodIn_of _ (by decide +kernel)) ggX5_readPair_X5_fail
set_option maxRecDepth 20000 in
theorem ggX5_readPair_X5_nextNumber : GoodIn wsX5_readPair wsX5_nextNumber := goodIn_r _ [12, 13, 7, 14, 15, 16, 17, 18, 5, 19, 2, 3, 4, 6, 1, 8, 49, 50, 51, 52, 53, 54] (by decide +kernel) (by decide +kernel)
set_option maxRecDepth 20000 in
theorem gX5_readPair_X5_nextNumber : GoodIn wsX5_readPair (wsV RX5 58 RX5 yX5_nextNumber wsX5_nextNumber) := goodIn_app (goodIn_of _ (by decide +kernel)) ggX5_readPair_X5_nextNumber
set_option maxRecDepth 20000 in
theorem ggX5_readPair_X7_hasPair : GoodIn wsX5_readPair wsX7_hasPair := goodIn_r _ [24, 25, 26, 27, 23, 28, 39, 40, 41, 42, 43, 44, 45, 46, 47, 48] (by decide +kernel) (by decide +kernel)
set_option maxRecDepth 20000 in
theorem gX5_readPair_X7_hasPair : GoodIn wsX5_readPair (wsV RX5 102 RX7 yX7_hasPair wsX7_hasPair) := goodIn_app (goodIn_of _ (by decide +kernel)) ggX5_readPair_X7_hasPair
set_option maxRecDepth 20000 in
theorem ggX5_readPair_X5_nextSign : GoodIn wsX5_readPair wsX5_nextSign := goodIn_r _ [32, 13, 7, 14, 15, 16, 17, 18, 5, 19, 2, 3, 4, 6, 1, 8, 49, 50, 51, 52, 53, 54] (by decide +kernel) (by decide +kernel)
set_option maxRecDepth 20000 in
theorem gX5_readPair_X5_nextSign : GoodIn wsX5_readPair (wsV RX5 63 RX5 yX5_nextSign wsX5_nextSign) := goodIn_app (goodIn_of _ (by decide +kernel)) ggX5_readPair_X5_nextSign
set_option maxRecDepth 20000 in
theorem ggX5_readPair_X7_addPair : GoodIn wsX5_readPair wsX7_addPair := goodIn_r _ [36, 25, 37, 38, 26, 27, 23, 28, 39, 40, 41, 42, 43, 44, 45, 46, 47, 48] (by decide +kernel) (by decide +kernel)
set_option maxRecDepth 20000 in
theorem gX5_readPair_X7_addPair : GoodIn wsX5_readPair (wsV RX5 106 RX7 yX7_addPair wsX7_addPair) := goodIn_app (goodIn_of _ (by decide +kernel)) ggX5_readPair_X7_addPair
theorem dX5_readPair_0 : decode cX5_readPair 0 = .ok (.aload_n 1, 1) := by decide +kernel
theorem dX5_readPair_1 : decode cX5_readPair 1 = .ok (.getfield 99, 3) := by decide +kernel
theorem dX5_readPair_4 : decode cX5_readPair 4 = .ok (.bipush 12, 2) := by decide +kernel
theorem dX5_readPair_6 : decode cX5_readPair 6 = .ok (.if_icmp .lt 8, 3) := by decide +kernel
theorem dX5_readPair_9 : decode cX5_readPair 9 = .ok (.aload_n 0, 1) := by decide +kernel
theorem dX5_readPair_10 : decode cX5_readPair 10 = .ok (.iconst 3, 1) := by decide +kernel
theorem dX5_readPair_11 : decode cX5_readPair 11 = .ok (.invokevirtual 54, 3) := by decide +kernel
theorem dX5_readPair_14 : decode cX5_readPair 14 = .ok (.aload_n 0, 1) := by decide +kernel
theorem dX5_readPair_15 : decode cX5_readPair 15 = .ok (.iconst 0, 1) := by decide +kernel
theorem dX5_readPair_16 : decode cX5_readPair 16 = .ok (.aload_n 1, 1) := by decide +kernel
theorem dX5_readPair_17 : decode cX5_readPair 17 = .ok (.getfield 82, 3) := by decide +kernel
theorem dX5_readPair_20 : decode cX5_readPair 20 = .ok (.iconst 1, 1) := by decide +kernel
theorem dX5_readPair_21 : decode cX5_readPair 21 = .ok (.isub, 1) := by decide +kernel
theorem dX5_readPair_22 : decode cX5_readPair 22 = .ok (.invokevirtual 58, 3) := by decide +kernel
theorem dX5_readPair_25 : decode cX5_readPair 25 = .ok (.istore_n 2, 1) := by decide +kernel
theorem dX5_readPair_26 : decode cX5_readPair 26 = .ok (.aload_n 0, 1) := by decide +kernel
theorem dX5_readPair_27 : decode cX5_readPair 27 = .ok (.iconst 0, 1) := by decide +kernel
theorem dX5_readPair_28 : decode cX5_readPair 28 = .ok (.aload_n 1, 1) := by decide +kernel
theorem dX5_readPair_29 : decode cX5_readPair 29 = .ok (.getfield 82, 3) := by decide +kernel
theorem dX5_readPair_32 : decode cX5_readPair 32 = .ok (.iconst 1, 1) := by decide +kernel
theorem dX5_readPair_33 : decode cX5_readPair 33 = .ok (.isub, 1) := by decide +kernel
theorem dX5_readPair_34 : decode cX5_readPair 34 = .ok (.invokevirtual 58, 3) := by decide +kernel
theorem dX5_readPair_37 : decode cX5_readPair 37 = .ok (.istore_n 3, 1) := by decide +kernel
theorem dX5_readPair_38 : decode cX5_readPair 38 = .ok (.aload_n 0, 1) := by decide +kernel
theorem dX5_readPair_39 : decode cX5_readPair 39 = .ok (.getfield 26, 3) := by decide +kernel
theorem dX5_readPair_42 : decode cX5_readPair 42 = .ok (.ifCond .ne 17, 3) := by decide +kernel
theorem dX5_readPair_45 : decode cX5_readPair 45 = .ok (.aload_n 1, 1) := by decide +kernel
theorem dX5_readPair_46 : decode cX5_readPair 46 = .ok (.iload_n 2, 1) := by decide +kernel
theorem dX5_readPair_47 : decode cX5_readPair 47 = .ok (.iload_n 3, 1) := by decide +kernel
theorem dX5_readPair_48 : decode cX5_readPair 48 = .ok (.invokevirtual 102, 3) := by decide +kernel
theorem dX5_readPair_51 : decode cX5_readPair 51 = .ok (.ifCond .eq 8, 3) := by decide +kernel
theorem dX5_readPair_54 : decode cX5_readPair 54 = .ok (.aload_n 0, 1) := by decide +kernel
theorem dX5_readPair_55 : decode cX5_readPair 55 = .ok (.iconst 4, 1) := by decide +kernel
theorem dX5_readPair_56 : decode cX5_readPair 56 = .ok (.invokevirtual 54, 3) := by decide +kernel
theorem dX5_readPair_59 : decode cX5_readPair 59 = .ok (.aload_n 0, 1) := by decide +kernel
theorem dX5_readPair_60 : decode cX5_readPair 60 = .ok (.iconst 0, 1) := by decide +kernel
theorem dX5_readPair_61 : decode cX5_readPair 61 = .ok (.bipush 99, 2) := by decide +kernel
theorem dX5_readPair_63 : decode cX5_readPair 63 = .ok (.invokevirtual 58, 3) := by decide +kernel
theorem dX5_readPair_66 : decode cX5_readPair 66 = .ok (.bipush 50, 2) := by decide +kernel
theorem dX5_readPair_68 : decode cX5_readPair 68 = .ok (.isub, 1) := by decide +kernel
theorem dX5_readPair_69 : decode cX5_readPair 69 = .ok (.istore 4, 2) := by decide +kernel
theorem dX5_readPair_71 : decode cX5_readPair 71 = .ok (.aload_n 0, 1) := by decide +kernel
theorem dX5_readPair_72 : decode cX5_readPair 72 = .ok (.iconst 0, 1) := by decide +kernel
theorem dX5_readPair_73 : decode cX5_readPair 73 = .ok (.bipush 99, 2) := by decide +kernel
theorem dX5_readPair_75 : decode cX5_readPair 75 = .ok (.invokevirtual 58, 3) := by decide +kernel
theorem dX5_readPair_78 : decode cX5_readPair 78 = .ok (.bipush 50, 2) := by decide +kernel
theorem dX5_readPair_80 : decode cX5_readPair 80 = .ok (.isub, 1) := by decide +kernel
theorem dX5_readPair_81 : decode cX5_readPair 81 = .ok (.istore 5, 2) := by decide +kernel
theorem dX5_readPair_83 : decode cX5_readPair 83 = .ok (.aload_n 0, 1) := by decide +kernel
theorem dX5_readPair_84 : decode cX5_readPair 84 = .ok (.bipush 59, 2) := by decide +kernel
theorem dX5_readPair_86 : decode cX5_readPair 86 = .ok (.invokevirtual 63, 3) := by decide +kernel
theorem dX5_readPair_89 : decode cX5_readPair 89 = .ok (.aload_n 0, 1) := by decide +kernel
theorem dX5_readPair_90 : decode cX5_readPair 90 = .ok (.getfield 26, 3) := by decide +kernel
theorem dX5_readPair_93 : decode cX5_readPair 93 = .ok (.ifCond .ne 13, 3) := by decide +kernel
theorem dX5_readPair_96 : decode cX5_readPair 96 = .ok (.aload_n 1, 1) := by decide +kernel
theorem dX5_readPair_97 : decode cX5_readPair 97 = .ok (.iload_n 2, 1) := by decide +kernel
theorem dX5_readPair_98 : decode cX5_readPair 98 = .ok (.iload_n 3, 1) := by decide +kernel
theorem dX5_readPair_99 : decode cX5_readPair 99 = .ok (.iload 4, 2) := by decide +kernel
theorem dX5_readPair_101 : decode cX5_readPair 101 = .ok (.iload 5, 2) := by decide +kernel
theorem dX5_readPair_103 : decode cX5_readPair 103 = .ok (.invokevirtual 106, 3) := by decide +kernel
theorem dX5_readPair_106 : decode cX5_readPair 106 = .ok (.return_, 1) := by decide +kernel
set_option maxRecDepth 20000 in
theorem ggX5_nextKind_X5_nextWord : GoodIn wsX5_nextKind wsX5_nextWord := goodIn_r _ [5, 6, 7, 8, 9, 10, 11, 12, 4, 13, 73, 74, 75, 76, 77, 78] (by decide +kernel) (by decide +kernel)
set_option maxRecDepth 20000 in
theorem gX5_nextKind_X5_nextWord : GoodIn wsX5_nextKind (wsV RX5 45 RX5 yX5_nextWord wsX5_nextWord) := goodIn_app (goodIn_of _ (by decide +kernel)) ggX5_nextKind_X5_nextWord
set_option maxRecDepth 20000 in
theorem ggX5_nextKind_X5_spells : GoodIn wsX5_nextKind wsX5_spells := goodIn_r _ [17, 6, 7, 9, 18, 19, 20, 21, 22, 23, 24, 25, 26, 27, 28, 29, 30, 31, 32, 33, 34, 35, 36, 37, 38, 39, 40, 41, 42, 43, 44, 45, 46, 47, 48, 49, 50, 51, 52, 53, 54, 55, 56, 57, 58, 59, 60, 61, 62, 63, 64, 65, 66, 73, 74, 75, 76, 77, 78] (by decide +kernel) (by decide +kernel)
set_option maxRecDepth 20000 in
theorem gX5_nextKind_X5_spells : GoodIn wsX5_nextKind (wsV RX5 50 RX5 yX5_spells wsX5_spells) := goodIn_app (goodIn_of _ (by decide +kernel)) ggX5_nextKind_X5_spells
set_option maxRecDepth 20000 in
theorem ggX5_nextKind_X5_fail : GoodIn wsX5_nextKind wsX5_fail := goodIn_r _ [70, 71, 7, 72, 73, 74, 75, 76, 77, 78] (by decide +kernel) (by decide +kernel)
set_option maxRecDepth 20000 in
theorem gX5_nextKind_X5_fail : GoodIn wsX5_nextKind (wsV RX5 54 RX5 yX5_fail wsX5_fail) := goodIn_app (goodIn_of _ (by decide +kernel)) ggX5_nextKind_X5_fail
theorem dX5_nextKind_0 : decode cX5_nextKind 0 = .ok (.aload_n 0, 1) := by decide +kernel
theorem dX5_nextKind_1 : decode cX5_nextKind 1 = .ok (.invokevirtual 45, 3) := by decide +kernel
theorem dX5_nextKind_4 : decode cX5_nextKind 4 = .ok (.aload_n 0, 1) := by decide +kernel
theorem dX5_nextKind_5 : decode cX5_nextKind 5 = .ok (.ldc 110, 2) := by decide +kernel
theorem dX5_nextKind_7 : decode cX5_nextKind 7 = .ok (.invokevirtual 50, 3) := by decide +kernel
theorem dX5_nextKind_10 : decode cX5_nextKind 10 = .ok (.ifCond .eq 5, 3) := by decide +kernel
theorem dX5_nextKind_13 : decode cX5_nextKind 13 = .ok (.iconst 0, 1) := by decide +kernel
theorem dX5_nextKind_14 : decode cX5_nextKind 14 = .ok (.ireturn, 1) := by decide +kernel
theorem dX5_nextKind_15 : decode cX5_nextKind 15 = .ok (.aload_n 0, 1) := by decide +kernel
theorem dX5_nextKind_16 : decode cX5_nextKind 16 = .ok (.ldc 112, 2) := by decide +kernel
theorem dX5_nextKind_18 : decode cX5_nextKind 18 = .ok (.invokevirtual 50, 3) := by decide +kernel
theorem dX5_nextKind_21 : decode cX5_nextKind 21 = .ok (.ifCond .eq 5, 3) := by decide +kernel
theorem dX5_nextKind_24 : decode cX5_nextKind 24 = .ok (.iconst 1, 1) := by decide +kernel
theorem dX5_nextKind_25 : decode cX5_nextKind 25 = .ok (.ireturn, 1) := by decide +kernel
theorem dX5_nextKind_26 : decode cX5_nextKind 26 = .ok (.aload_n 0, 1) := by decide +kernel
theorem dX5_nextKind_27 : decode cX5_nextKind 27 = .ok (.ldc 114, 2) := by decide +kernel
theorem dX5_nextKind_29 : decode cX5_nextKind 29 = .ok (.invokevirtual 50, 3) := by decide +kernel
theorem dX5_nextKind_32 : decode cX5_nextKind 32 = .ok (.ifCond .eq 5, 3) := by decide +kernel
theorem dX5_nextKind_35 : decode cX5_nextKind 35 = .ok (.iconst 2, 1) := by decide +kernel
theorem dX5_nextKind_36 : decode cX5_nextKind 36 = .ok (.ireturn, 1) := by decide +kernel
theorem dX5_nextKind_37 : decode cX5_nextKind 37 = .ok (.aload_n 0, 1) := by decide +kernel
theorem dX5_nextKind_38 : decode cX5_nextKind 38 = .ok (.ldc 116, 2) := by decide +kernel
theorem dX5_nextKind_40 : decode cX5_nextKind 40 = .ok (.invokevirtual 50, 3) := by decide +kernel
theorem dX5_nextKind_43 : decode cX5_nextKind 43 = .ok (.ifCond .eq 5, 3) := by decide +kernel
theorem dX5_nextKind_46 : decode cX5_nextKind 46 = .ok (.iconst 3, 1) := by decide +kernel
theorem dX5_nextKind_47 : decode cX5_nextKind 47 = .ok (.ireturn, 1) := by decide +kernel
theorem dX5_nextKind_48 : decode cX5_nextKind 48 = .ok (.aload_n 0, 1) := by decide +kernel
theorem dX5_nextKind_49 : decode cX5_nextKind 49 = .ok (.iconst 1, 1) := by decide +kernel
theorem dX5_nextKind_50 : decode cX5_nextKind 50 = .ok (.invokevirtual 54, 3) := by decide +kernel
theorem dX5_nextKind_53 : decode cX5_nextKind 53 = .ok (.iconst 0, 1) := by decide +kernel
theorem dX5_nextKind_54 : decode cX5_nextKind 54 = .ok (.ireturn, 1) := by decide +kernel
set_option maxRecDepth 20000 in
theorem ggX5_nextNumber_X5_skipBlanks : GoodIn wsX5_nextNumber wsX5_skipBlanks := goodIn_r _ [9, 1, 3, 4, 16, 17, 18, 19, 20, 21] (by decide +kernel) (by decide +kernel)
set_option maxRecDepth 20000 in
theorem gX5_nextNumber_X5_skipBlanks : GoodIn wsX5_nextNumber (wsV RX5 118 RX5 yX5_skipBlanks wsX5_skipBlanks) := goodIn_app (goodIn_of _ (by decide +kernel)) ggX5_nextNumber_X5_skipBlanks
set_option maxRecDepth 20000 in
theorem ggX5_nextNumber_X5_fail : GoodIn wsX5_nextNumber wsX5_fail := goodIn_r _ [13, 14, 2, 15, 16, 17, 18, 19, 20, 21] (by decide +kernel) (by decide +kernel)
set_option maxRecDepth 20000 in
theorem gX5_nextNumber_X5_fail : GoodIn wsX5_nextNumber (wsV RX5 54 RX5 yX5_fail wsX5_fail) := goodIn_app (goodIn_of _ (by decide +kernel)) ggX5_nextNumber_X5_fail
theorem dX5_nextNumber_0 : decode cX5_nextNumber 0 = .ok (.aload_n 0, 1) := by decide +kernel
theorem dX5_nextNumber_1 : decode cX5_nextNumber 1 = .ok (.invokevirtual 118, 3) := by decide +kernel
theorem dX5_nextNumber_4 : decode cX5_nextNumber 4 = .ok (.aload_n 0, 1) := by decide +kernel
theorem dX5_nextNumber_5 : decode cX5_nextNumber 5 = .ok (.aload_n 0, 1) := by decide +kernel
theorem dX5_nextNumber_6 : decode cX5_nextNumber 6 = .ok (.getfield 23, 3) := by decide +kernel
theorem dX5_nextNumber_9 : decode cX5_nextNumber 9 = .ok (.putfield 121, 3) := by decide +kernel
theorem dX5_nextNumber_12 : decode cX5_nextNumber 12 = .ok (.iconst 0, 1) := by decide +kernel
theorem dX5_nextNumber_13 : decode cX5_nextNumber 13 = .ok (.istore_n 3, 1) := by decide +kernel
theorem dX5_nextNumber_14 : decode cX5_nextNumber 14 = .ok (.aload_n 0, 1) := by decide +kernel
theorem dX5_nextNumber_15 : decode cX5_nextNumber 15 = .ok (.getfield 23, 3) := by decide +kernel
theorem dX5_nextNumber_18 : decode cX5_nextNumber 18 = .ok (.aload_n 0, 1) := by decide +kernel
theorem dX5_nextNumber_19 : decode cX5_nextNumber 19 = .ok (.getfield 19, 3) := by decide +kernel
theorem dX5_nextNumber_22 : decode cX5_nextNumber 22 = .ok (.if_icmp .ge 75, 3) := by decide +kernel
theorem dX5_nextNumber_25 : decode cX5_nextNumber 25 = .ok (.aload_n 0, 1) := by decide +kernel
theorem dX5_nextNumber_26 : decode cX5_nextNumber 26 = .ok (.getfield 9, 3) := by decide +kernel
theorem dX5_nextNumber_29 : decode cX5_nextNumber 29 = .ok (.aload_n 0, 1) := by decide +kernel
theorem dX5_nextNumber_30 : decode cX5_nextNumber 30 = .ok (.getfield 23, 3) := by decide +kernel
theorem dX5_nextNumber_33 : decode cX5_nextNumber 33 = .ok (.baload, 1) := by decide +kernel
theorem dX5_nextNumber_34 : decode cX5_nextNumber 34 = .ok (.bipush 48, 2) := by decide +kernel
theorem dX5_nextNumber_36 : decode cX5_nextNumber 36 = .ok (.if_icmp .lt 61, 3) := by decide +kernel
theorem dX5_nextNumber_39 : decode cX5_nextNumber 39 = .ok (.aload_n 0, 1) := by decide +kernel
theorem dX5_nextNumber_40 : decode cX5_nextNumber 40 = .ok (.getfield 9, 3) := by decide +kernel
theorem dX5_nextNumber_43 : decode cX5_nextNumber 43 = .ok (.aload_n 0, 1) := by decide +kernel
theorem dX5_nextNumber_44 : decode cX5_nextNumber 44 = .ok (.getfield 23, 3) := by decide +kernel
theorem dX5_nextNumber_47 : decode cX5_nextNumber 47 = .ok (.baload, 1) := by decide +kernel
theorem dX5_nextNumber_48 : decode cX5_nextNumber 48 = .ok (.bipush 57, 2) := by decide +kernel
theorem dX5_nextNumber_50 : decode cX5_nextNumber 50 = .ok (.if_icmp .gt 47, 3) := by decide +kernel
theorem dX5_nextNumber_53 : decode cX5_nextNumber 53 = .ok (.aload_n 0, 1) := by decide +kernel
theorem dX5_nextNumber_54 : decode cX5_nextNumber 54 = .ok (.getfield 23, 3) := by decide +kernel
theorem dX5_nextNumber_57 : decode cX5_nextNumber 57 = .ok (.aload_n 0, 1) := by decide +kernel
theorem dX5_nextNumber_58 : decode cX5_nextNumber 58 = .ok (.getfield 121, 3) := by decide +kernel
theorem dX5_nextNumber_61 : decode cX5_nextNumber 61 = .ok (.isub, 1) := by decide +kernel
theorem dX5_nextNumber_62 : decode cX5_nextNumber 62 = .ok (.iconst 3, 1) := by decide +kernel
theorem dX5_nextNumber_63 : decode cX5_nextNumber 63 = .ok (.if_icmp .ge 21, 3) := by decide +kernel
theorem dX5_nextNumber_66 : decode cX5_nextNumber 66 = .ok (.iload_n 3, 1) := by decide +kernel
theorem dX5_nextNumber_67 : decode cX5_nextNumber 67 = .ok (.bipush 10, 2) := by decide +kernel
theorem dX5_nextNumber_69 : decode cX5_nextNumber 69 = .ok (.imul, 1) := by decide +kernel
theorem dX5_nextNumber_70 : decode cX5_nextNumber 70 = .ok (.aload_n 0, 1) := by decide +kernel
theorem dX5_nextNumber_71 : decode cX5_nextNumber 71 = .ok (.getfield 9, 3) := by decide +kernel
theorem dX5_nextNumber_74 : decode cX5_nextNumber 74 = .ok (.aload_n 0, 1) := by decide +kernel
theorem dX5_nextNumber_75 : decode cX5_nextNumber 75 = .ok (.getfield 23, 3) := by decide +kernel
theorem dX5_nextNumber_78 : decode cX5_nextNumber 78 = .ok (.baload, 1) := by decide +kernel
theorem dX5_nextNumber_79 : decode cX5_nextNumber 79 = .ok (.iadd, 1) := by decide +kernel
theorem dX5_nextNumber_80 : decode cX5_nextNumber 80 = .ok (.bipush 48, 2) := by decide +kernel
theorem dX5_nextNumber_82 : decode cX5_nextNumber 82 = .ok (.isub, 1) := by decide +kernel
theorem dX5_nextNumber_83 : decode cX5_nextNumber 83 = .ok (.istore_n 3, 1) := by decide +kernel
theorem dX5_nextNumber_84 : decode cX5_nextNumber 84 = .ok (.aload_n 0, 1) := by decide +kernel
theorem dX5_nextNumber_85 : decode cX5_nextNumber 85 = .ok (.dup, 1) := by decide +kernel
theorem dX5_nextNumber_86 : decode cX5_nextNumber 86 = .ok (.getfield 23, 3) := by decide +kernel
theorem dX5_nextNumber_89 : decode cX5_nextNumber 89 = .ok (.iconst 1, 1) := by decide +kernel
theorem dX5_nextNumber_90 : decode cX5_nextNumber 90 = .ok (.iadd, 1) := by decide +kernel
theorem dX5_nextNumber_91 : decode cX5_nextNumber 91 = .ok (.putfield 23, 3) := by decide +kernel
theorem dX5_nextNumber_94 : decode cX5_nextNumber 94 = .ok (.goto (-80), 3) := by decide +kernel
theorem dX5_nextNumber_97 : decode cX5_nextNumber 97 = .ok (.aload_n 0, 1) := by decide +kernel
theorem dX5_nextNumber_98 : decode cX5_nextNumber 98 = .ok (.getfield 23, 3) := by decide +kernel
theorem dX5_nextNumber_101 : decode cX5_nextNumber 101 = .ok (.aload_n 0, 1) := by decide +kernel
theorem dX5_nextNumber_102 : decode cX5_nextNumber 102 = .ok (.getfield 121, 3) := by decide +kernel
theorem dX5_nextNumber_105 : decode cX5_nextNumber 105 = .ok (.if_icmp .ne 11, 3) := by decide +kernel
theorem dX5_nextNumber_108 : decode cX5_nextNumber 108 = .ok (.aload_n 0, 1) := by decide +kernel
theorem dX5_nextNumber_109 : decode cX5_nextNumber 109 = .ok (.iconst 1, 1) := by decide +kernel
theorem dX5_nextNumber_110 : decode cX5_nextNumber 110 = .ok (.invokevirtual 54, 3) := by decide +kernel
theorem dX5_nextNumber_113 : decode cX5_nextNumber 113 = .ok (.goto 31, 3) := by decide +kernel
theorem dX5_nextNumber_116 : decode cX5_nextNumber 116 = .ok (.aload_n 0, 1) := by decide +kernel
theorem dX5_nextNumber_117 : decode cX5_nextNumber 117 = .ok (.getfield 23, 3) := by decide +kernel
theorem dX5_nextNumber_120 : decode cX5_nextNumber 120 = .ok (.aload_n 0, 1) := by decide +kernel
theorem dX5_nextNumber_121 : decode cX5_nextNumber 121 = .ok (.getfield 121, 3) := by decide +kernel
theorem dX5_nextNumber_124 : decode cX5_nextNumber 124 = .ok (.isub, 1) := by decide +kernel
theorem dX5_nextNumber_125 : decode cX5_nextNumber 125 = .ok (.iconst 3, 1) := by decide +kernel
theorem dX5_nextNumber_126 : decode cX5_nextNumber 126 = .ok (.if_icmp .gt 13, 3) := by decide +kernel
theorem dX5_nextNumber_129 : decode cX5_nextNumber 129 = .ok (.iload_n 3, 1) := by decide +kernel
theorem dX5_nextNumber_130 : decode cX5_nextNumber 130 = .ok (.iload_n 1, 1) := by decide +kernel
theorem dX5_nextNumber_131 : decode cX5_nextNumber 131 = .ok (.if_icmp .lt 8, 3) := by decide +kernel
theorem dX5_nextNumber_134 : decode cX5_nextNumber 134 = .ok (.iload_n 3, 1) := by decide +kernel
theorem dX5_nextNumber_135 : decode cX5_nextNumber 135 = .ok (.iload_n 2, 1) := by decide +kernel
theorem dX5_nextNumber_136 : decode cX5_nextNumber 136 = .ok (.if_icmp .le 8, 3) := by decide +kernel
theorem dX5_nextNumber_139 : decode cX5_nextNumber 139 = .ok (.aload_n 0, 1) := by decide +kernel
theorem dX5_nextNumber_140 : decode cX5_nextNumber 140 = .ok (.iconst 2, 1) := by decide +kernel
theorem dX5_nextNumber_141 : decode cX5_nextNumber 141 = .ok (.invokevirtual 54, 3) := by decide +kernel
theorem dX5_nextNumber_144 : decode cX5_nextNumber 144 = .ok (.iload_n 3, 1) := by decide +kernel
theorem dX5_nextNumber_145 : decode cX5_nextNumber 145 = .ok (.ireturn, 1) := by decide +kernel
set_option maxRecDepth 20000 in
theorem ggX5_nextWord_X5_skipBlanks : GoodIn wsX5_nextWord wsX5_skipBlanks := goodIn_r _ [9, 1, 3, 4, 10, 11, 12, 13, 14, 15] (by decide +kernel) (by decide +kernel)
set_option maxRecDepth 20000 in
theorem gX5_nextWord_X5_skipBlanks : GoodIn wsX5_nextWord (wsV RX5 118 RX5 yX5_skipBlanks wsX5_skipBlanks) := goodIn_app (goodIn_of _ (by decide +kernel)) ggX5_nextWord_X5_skipBlanks
theorem dX5_nextWord_0 : decode cX5_nextWord 0 = .ok (.aload_n 0, 1) := by decide +kernel
theorem dX5_nextWord_1 : decode cX5_nextWord 1 = .ok (.invokevirtual 118, 3) := by decide +kernel
theorem dX5_nextWord_4 : decode cX5_nextWord 4 = .ok (.aload_n 0, 1) := by decide +kernel
theorem dX5_nextWord_5 : decode cX5_nextWord 5 = .ok (.aload_n 0, 1) := by decide +kernel
theorem dX5_nextWord_6 : decode cX5_nextWord 6 = .ok (.getfield 23, 3) := by decide +kernel
theorem dX5_nextWord_9 : decode cX5_nextWord 9 = .ok (.putfield 121, 3) := by decide +kernel
theorem dX5_nextWord_12 : decode cX5_nextWord 12 = .ok (.aload_n 0, 1) := by decide +kernel
theorem dX5_nextWord_13 : decode cX5_nextWord 13 = .ok (.getfield 23, 3) := by decide +kernel
theorem dX5_nextWord_16 : decode cX5_nextWord 16 = .ok (.aload_n 0, 1) := by decide +kernel
theorem dX5_nextWord_17 : decode cX5_nextWord 17 = .ok (.getfield 19, 3) := by decide +kernel
theorem dX5_nextWord_20 : decode cX5_nextWord 20 = .ok (.if_icmp .ge 44, 3) := by decide +kernel
theorem dX5_nextWord_23 : decode cX5_nextWord 23 = .ok (.aload_n 0, 1) := by decide +kernel
theorem dX5_nextWord_24 : decode cX5_nextWord 24 = .ok (.getfield 9, 3) := by decide +kernel
theorem dX5_nextWord_27 : decode cX5_nextWord 27 = .ok (.aload_n 0, 1) := by decide +kernel
theorem dX5_nextWord_28 : decode cX5_nextWord 28 = .ok (.getfield 23, 3) := by decide +kernel
theorem dX5_nextWord_31 : decode cX5_nextWord 31 = .ok (.baload, 1) := by decide +kernel
theorem dX5_nextWord_32 : decode cX5_nextWord 32 = .ok (.bipush 97, 2) := by decide +kernel
theorem dX5_nextWord_34 : decode cX5_nextWord 34 = .ok (.if_icmp .lt 30, 3) := by decide +kernel
theorem dX5_nextWord_37 : decode cX5_nextWord 37 = .ok (.aload_n 0, 1) := by decide +kernel
theorem dX5_nextWord_38 : decode cX5_nextWord 38 = .ok (.getfield 9, 3) := by decide +kernel
theorem dX5_nextWord_41 : decode cX5_nextWord 41 = .ok (.aload_n 0, 1) := by decide +kernel
theorem dX5_nextWord_42 : decode cX5_nextWord 42 = .ok (.getfield 23, 3) := by decide +kernel
theorem dX5_nextWord_45 : decode cX5_nextWord 45 = .ok (.baload, 1) := by decide +kernel
theorem dX5_nextWord_46 : decode cX5_nextWord 46 = .ok (.bipush 122, 2) := by decide +kernel
theorem dX5_nextWord_48 : decode cX5_nextWord 48 = .ok (.if_icmp .gt 16, 3) := by decide +kernel
theorem dX5_nextWord_51 : decode cX5_nextWord 51 = .ok (.aload_n 0, 1) := by decide +kernel
theorem dX5_nextWord_52 : decode cX5_nextWord 52 = .ok (.dup, 1) := by decide +kernel
theorem dX5_nextWord_53 : decode cX5_nextWord 53 = .ok (.getfield 23, 3) := by decide +kernel
theorem dX5_nextWord_56 : decode cX5_nextWord 56 = .ok (.iconst 1, 1) := by decide +kernel
theorem dX5_nextWord_57 : decode cX5_nextWord 57 = .ok (.iadd, 1) := by decide +kernel
theorem dX5_nextWord_58 : decode cX5_nextWord 58 = .ok (.putfield 23, 3) := by decide +kernel
theorem dX5_nextWord_61 : decode cX5_nextWord 61 = .ok (.goto (-49), 3) := by decide +kernel
theorem dX5_nextWord_64 : decode cX5_nextWord 64 = .ok (.return_, 1) := by decide +kernel
set_option maxRecDepth 20000 in
theorem ggX5_nextSign_X5_skipBlanks : GoodIn wsX5_nextSign wsX5_skipBlanks := goodIn_r _ [9, 1, 3, 4, 16, 17, 18, 19, 20, 21] (by decide +kernel) (by decide +kernel)
set_option maxRecDepth 20000 in
theorem gX5_nextSign_X5_skipBlanks : GoodIn wsX5_nextSign (wsV RX5 118 RX5 yX5_skipBlanks wsX5_skipBlanks) := goodIn_app (goodIn_of _ (by decide +kernel)) ggX5_nextSign_X5_skipBlanks
set_option maxRecDepth 20000 in
theorem ggX5_nextSign_X5_fail : GoodIn wsX5_nextSign wsX5_fail := goodIn_r _ [13, 14, 2, 15, 16, 17, 18, 19, 20, 21] (by decide +kernel) (by decide +kernel)
set_option maxRecDepth 20000 in
theorem gX5_nextSign_X5_fail : GoodIn wsX5_nextSign (wsV RX5 54 RX5 yX5_fail wsX5_fail) := goodIn_app (goodIn_of _ (by decide +kernel)) ggX5_nextSign_X5_fail
theorem dX5_nextSign_0 : decode cX5_nextSign 0 = .ok (.aload_n 0, 1) := by decide +kernel
theorem dX5_nextSign_1 : decode cX5_nextSign 1 = .ok (.invokevirtual 118, 3) := by decide +kernel
theorem dX5_nextSign_4 : decode cX5_nextSign 4 = .ok (.aload_n 0, 1) := by decide +kernel
theorem dX5_nextSign_5 : decode cX5_nextSign 5 = .ok (.aload_n 0, 1) := by decide +kernel
theorem dX5_nextSign_6 : decode cX5_nextSign 6 = .ok (.getfield 23, 3) := by decide +kernel
theorem dX5_nextSign_9 : decode cX5_nextSign 9 = .ok (.putfield 121, 3) := by decide +kernel
theorem dX5_nextSign_12 : decode cX5_nextSign 12 = .ok (.aload_n 0, 1) := by decide +kernel
theorem dX5_nextSign_13 : decode cX5_nextSign 13 = .ok (.getfield 23, 3) := by decide +kernel
theorem dX5_nextSign_16 : decode cX5_nextSign 16 = .ok (.aload_n 0, 1) := by decide +kernel
theorem dX5_nextSign_17 : decode cX5_nextSign 17 = .ok (.getfield 19, 3) := by decide +kernel
theorem dX5_nextSign_20 : decode cX5_nextSign 20 = .ok (.if_icmp .ge 29, 3) := by decide +kernel
theorem dX5_nextSign_23 : decode cX5_nextSign 23 = .ok (.aload_n 0, 1) := by decide +kernel
theorem dX5_nextSign_24 : decode cX5_nextSign 24 = .ok (.getfield 9, 3) := by decide +kernel
theorem dX5_nextSign_27 : decode cX5_nextSign 27 = .ok (.aload_n 0, 1) := by decide +kernel
theorem dX5_nextSign_28 : decode cX5_nextSign 28 = .ok (.getfield 23, 3) := by decide +kernel
theorem dX5_nextSign_31 : decode cX5_nextSign 31 = .ok (.baload, 1) := by decide +kernel
theorem dX5_nextSign_32 : decode cX5_nextSign 32 = .ok (.iload_n 1, 1) := by decide +kernel
theorem dX5_nextSign_33 : decode cX5_nextSign 33 = .ok (.if_icmp .ne 16, 3) := by decide +kernel
theorem dX5_nextSign_36 : decode cX5_nextSign 36 = .ok (.aload_n 0, 1) := by decide +kernel
theorem dX5_nextSign_37 : decode cX5_nextSign 37 = .ok (.dup, 1) := by decide +kernel
theorem dX5_nextSign_38 : decode cX5_nextSign 38 = .ok (.getfield 23, 3) := by decide +kernel
theorem dX5_nextSign_41 : decode cX5_nextSign 41 = .ok (.iconst 1, 1) := by decide +kernel
theorem dX5_nextSign_42 : decode cX5_nextSign 42 = .ok (.iadd, 1) := by decide +kernel
theorem dX5_nextSign_43 : decode cX5_nextSign 43 = .ok (.putfield 23, 3) := by decide +kernel
theorem dX5_nextSign_46 : decode cX5_nextSign 46 = .ok (.goto 8, 3) := by decide +kernel
theorem dX5_nextSign_49 : decode cX5_nextSign 49 = .ok (.aload_n 0, 1) := by decide +kernel
theorem dX5_nextSign_50 : decode cX5_nextSign 50 = .ok (.iconst 1, 1) := by decide +kernel
theorem dX5_nextSign_51 : decode cX5_nextSign 51 = .ok (.invokevirtual 54, 3) := by decide +kernel
theorem dX5_nextSign_54 : decode cX5_nextSign 54 = .ok (.return_, 1) := by decide +kernel
set_option maxRecDepth 20000 in
theorem ggX5_spells_J0_length_8abf5 : GoodIn wsX5_spells wsJ0_length_8abf5 := goodIn_r _ [8, 9, 10, 11, 12, 7, 13, 14, 15] (by decide +kernel) (by decide +kernel)
set_option maxRecDepth 20000 in
theorem gX5_spells_J0_length_8abf5 : GoodIn wsX5_spells (wsV RX5 124 RJ0 yJ0_length_8abf5 wsJ0_length_8abf5) := goodIn_app (goodIn_of _ (by decide +kernel)) ggX5_spells_J0_length_8abf5
set_option maxRecDepth 20000 in
theorem ggX5_spells_J0_charAt_5068e : GoodIn wsX5_spells wsJ0_charAt_5068e := goodIn_r _ [19, 9, 20, 21, 22, 7, 23, 14, 15, 24, 25, 26, 27, 28, 29, 30, 31, 32, 33, 34, 35, 36, 37, 38, 39, 40, 41, 42, 43, 44, 45, 46, 47, 48, 49, 50, 51, 52] (by decide +kernel) (by decide +kernel)
set_option maxRecDepth 20000 in
theorem gX5_spells_J0_charAt_5068e : GoodIn wsX5_spells (wsV RX5 128 RJ0 yJ0_charAt_5068e wsJ0_charAt_5068e) := goodIn_app (goodIn_of _ (by decide +kernel)) ggX5_spells_J0_charAt_5068e
theorem dX5_spells_0 : decode cX5_spells 0 = .ok (.aload_n 0, 1) := by decide +kernel
theorem dX5_spells_1 : decode cX5_spells 1 = .ok (.getfield 23, 3) := by decide +kernel
theorem dX5_spells_4 : decode cX5_spells 4 = .ok (.aload_n 0, 1) := by decide +kernel
theorem dX5_spells_5 : decode cX5_spells 5 = .ok (.getfield 121, 3) := by decide +kernel
theorem dX5_spells_8 : decode cX5_spells 8 = .ok (.isub, 1) := by decide +kernel
theorem dX5_spells_9 : decode cX5_spells 9 = .ok (.aload_n 1, 1) := by decide +kernel
theorem dX5_spells_10 : decode cX5_spells 10 = .ok (.invokevirtual 124, 3) := by decide +kernel
theorem dX5_spells_13 : decode cX5_spells 13 = .ok (.if_icmp .eq 5, 3) := by decide +kernel
theorem dX5_spells_16 : decode cX5_spells 16 = .ok (.iconst 0, 1) := by decide +kernel
theorem dX5_spells_17 : decode cX5_spells 17 = .ok (.ireturn, 1) := by decide +kernel
theorem dX5_spells_18 : decode cX5_spells 18 = .ok (.iconst 0, 1) := by decide +kernel
theorem dX5_spells_19 : decode cX5_spells 19 = .ok (.istore_n 2, 1) := by decide +kernel
theorem dX5_spells_20 : decode cX5_spells 20 = .ok (.iload_n 2, 1) := by decide +kernel
theorem dX5_spells_21 : decode cX5_spells 21 = .ok (.aload_n 1, 1) := by decide +kernel
theorem dX5_spells_22 : decode cX5_spells 22 = .ok (.invokevirtual 124, 3) := by decide +kernel
theorem dX5_spells_25 : decode cX5_spells 25 = .ok (.if_icmp .ge 30, 3) := by decide +kernel
theorem dX5_spells_28 : decode cX5_spells 28 = .ok (.aload_n 0, 1) := by decide +kernel
theorem dX5_spells_29 : decode cX5_spells 29 = .ok (.getfield 9, 3) := by decide +kernel
theorem dX5_spells_32 : decode cX5_spells 32 = .ok (.aload_n 0, 1) := by decide +kernel
theorem dX5_spells_33 : decode cX5_spells 33 = .ok (.getfield 121, 3) := by decide +kernel
theorem dX5_spells_36 : decode cX5_spells 36 = .ok (.iload_n 2, 1) := by decide +kernel
theorem dX5_spells_37 : decode cX5_spells 37 = .ok (.iadd, 1) := by decide +kernel
theorem dX5_spells_38 : decode cX5_spells 38 = .ok (.baload, 1) := by decide +kernel
theorem dX5_spells_39 : decode cX5_spells 39 = .ok (.aload_n 1, 1) := by decide +kernel
theorem dX5_spells_40 : decode cX5_spells 40 = .ok (.iload_n 2, 1) := by decide +kernel
theorem dX5_spells_41 : decode cX5_spells 41 = .ok (.invokevirtual 128, 3) := by decide +kernel
theorem dX5_spells_44 : decode cX5_spells 44 = .ok (.if_icmp .eq 5, 3) := by decide +kernel
theorem dX5_spells_47 : decode cX5_spells 47 = .ok (.iconst 0, 1) := by decide +kernel
theorem dX5_spells_48 : decode cX5_spells 48 = .ok (.ireturn, 1) := by decide +kernel
theorem dX5_spells_49 : decode cX5_spells 49 = .ok (.iinc 2 1, 3) := by decide +kernel
theorem dX5_spells_52 : decode cX5_spells 52 = .ok (.goto (-32), 3) := by decide +kernel
theorem dX5_spells_55 : decode cX5_spells 55 = .ok (.iconst 1, 1) := by decide +kernel
theorem dX5_spells_56 : decode cX5_spells 56 = .ok (.ireturn, 1) := by decide +kernel
set_option maxRecDepth 20000 in
theorem ggX5_isMore_X5_skipBlanks : GoodIn wsX5_isMore wsX5_skipBlanks := goodIn_r _ [7, 1, 2, 8, 9, 10, 11, 12, 13, 14] (by decide +kernel) (by decide +kernel)
set_option maxRecDepth 20000 in
theorem gX5_isMore_X5_skipBlanks : GoodIn wsX5_isMore (wsV RX5 118 RX5 yX5_skipBlanks wsX5_skipBlanks) := goodIn_app (goodIn_of _ (by decide +kernel)) ggX5_isMore_X5_skipBlanks
theorem dX5_isMore_0 : decode cX5_isMore 0 = .ok (.aload_n 0, 1) := by decide +kernel
theorem dX5_isMore_1 : decode cX5_isMore 1 = .ok (.invokevirtual 118, 3) := by decide +kernel
theorem dX5_isMore_4 : decode cX5_isMore 4 = .ok (.aload_n 0, 1) := by decide +kernel
theorem dX5_isMore_5 : decode cX5_isMore 5 = .ok (.getfield 23, 3) := by decide +kernel
theorem dX5_isMore_8 : decode cX5_isMore 8 = .ok (.aload_n 0, 1) := by decide +kernel
theorem dX5_isMore_9 : decode cX5_isMore 9 = .ok (.getfield 19, 3) := by decide +kernel
theorem dX5_isMore_12 : decode cX5_isMore 12 = .ok (.if_icmp .ge 7, 3) := by decide +kernel
theorem dX5_isMore_15 : decode cX5_isMore 15 = .ok (.iconst 1, 1) := by decide +kernel
theorem dX5_isMore_16 : decode cX5_isMore 16 = .ok (.goto 4, 3) := by decide +kernel
theorem dX5_isMore_19 : decode cX5_isMore 19 = .ok (.iconst 0, 1) := by decide +kernel
theorem dX5_isMore_20 : decode cX5_isMore 20 = .ok (.ireturn, 1) := by decide +kernel
theorem dX5_skipBlanks_0 : decode cX5_skipBlanks 0 = .ok (.aload_n 0, 1) := by decide +kernel
theorem dX5_skipBlanks_1 : decode cX5_skipBlanks 1 = .ok (.getfield 23, 3) := by decide +kernel
theorem dX5_skipBlanks_4 : decode cX5_skipBlanks 4 = .ok (.aload_n 0, 1) := by decide +kernel
theorem dX5_skipBlanks_5 : decode cX5_skipBlanks 5 = .ok (.getfield 19, 3) := by decide +kernel
theorem dX5_skipBlanks_8 : decode cX5_skipBlanks 8 = .ok (.if_icmp .ge 30, 3) := by decide +kernel
theorem dX5_skipBlanks_11 : decode cX5_skipBlanks 11 = .ok (.aload_n 0, 1) := by decide +kernel
theorem dX5_skipBlanks_12 : decode cX5_skipBlanks 12 = .ok (.getfield 9, 3) := by decide +kernel
theorem dX5_skipBlanks_15 : decode cX5_skipBlanks 15 = .ok (.aload_n 0, 1) := by decide +kernel
theorem dX5_skipBlanks_16 : decode cX5_skipBlanks 16 = .ok (.getfield 23, 3) := by decide +kernel
theorem dX5_skipBlanks_19 : decode cX5_skipBlanks 19 = .ok (.baload, 1) := by decide +kernel
theorem dX5_skipBlanks_20 : decode cX5_skipBlanks 20 = .ok (.bipush 32, 2) := by decide +kernel
theorem dX5_skipBlanks_22 : decode cX5_skipBlanks 22 = .ok (.if_icmp .ne 16, 3) := by decide +kernel
theorem dX5_skipBlanks_25 : decode cX5_skipBlanks 25 = .ok (.aload_n 0, 1) := by decide +kernel
theorem dX5_skipBlanks_26 : decode cX5_skipBlanks 26 = .ok (.dup, 1) := by decide +kernel
theorem dX5_skipBlanks_27 : decode cX5_skipBlanks 27 = .ok (.getfield 23, 3) := by decide +kernel
theorem dX5_skipBlanks_30 : decode cX5_skipBlanks 30 = .ok (.iconst 1, 1) := by decide +kernel
theorem dX5_skipBlanks_31 : decode cX5_skipBlanks 31 = .ok (.iadd, 1) := by decide +kernel
theorem dX5_skipBlanks_32 : decode cX5_skipBlanks 32 = .ok (.putfield 23, 3) := by decide +kernel
theorem dX5_skipBlanks_35 : decode cX5_skipBlanks 35 = .ok (.goto (-35), 3) := by decide +kernel
theorem dX5_skipBlanks_38 : decode cX5_skipBlanks 38 = .ok (.return_, 1) := by decide +kernel
theorem dX5_fail_0 : decode cX5_fail 0 = .ok (.aload_n 0, 1) := by decide +kernel
theorem dX5_fail_1 : decode cX5_fail 1 = .ok (.getfield 26, 3) := by decide +kernel
theorem dX5_fail_4 : decode cX5_fail 4 = .ok (.ifCond .ne 16, 3) := by decide +kernel
theorem dX5_fail_7 : decode cX5_fail 7 = .ok (.aload_n 0, 1) := by decide +kernel
theorem dX5_fail_8 : decode cX5_fail 8 = .ok (.iload_n 1, 1) := by decide +kernel
theorem dX5_fail_9 : decode cX5_fail 9 = .ok (.putfield 26, 3) := by decide +kernel
theorem dX5_fail_12 : decode cX5_fail 12 = .ok (.aload_n 0, 1) := by decide +kernel
theorem dX5_fail_13 : decode cX5_fail 13 = .ok (.aload_n 0, 1) := by decide +kernel
theorem dX5_fail_14 : decode cX5_fail 14 = .ok (.getfield 121, 3) := by decide +kernel
theorem dX5_fail_17 : decode cX5_fail 17 = .ok (.putfield 15, 3) := by decide +kernel
theorem dX5_fail_20 : decode cX5_fail 20 = .ok (.return_, 1) := by decide +kernel
theorem dX6_init_0 : decode cX6_init 0 = .ok (.aload_n 0, 1) := by decide +kernel
theorem dX6_init_1 : decode cX6_init 1 = .ok (.invokespecial 3, 3) := by decide +kernel
theorem dX6_init_4 : decode cX6_init 4 = .ok (.aload_n 0, 1) := by decide +kernel
theorem dX6_init_5 : decode cX6_init 5 = .ok (.iload_n 1, 1) := by decide +kernel
theorem dX6_init_6 : decode cX6_init 6 = .ok (.iconst 0, 1) := by decide +kernel
theorem dX6_init_7 : decode cX6_init 7 = .ok (.invokestatic 9, 3) := by decide +kernel
theorem dX6_init_10 : decode cX6_init 10 = .ok (.newarray .int, 2) := by decide +kernel
theorem dX6_init_12 : decode cX6_init 12 = .ok (.putfield 15, 3) := by decide +kernel
theorem dX6_init_15 : decode cX6_init 15 = .ok (.return_, 1) := by decide +kernel
theorem dX6_empty_0 : decode cX6_empty 0 = .ok (.aload_n 0, 1) := by decide +kernel
theorem dX6_empty_1 : decode cX6_empty 1 = .ok (.iconst 0, 1) := by decide +kernel
theorem dX6_empty_2 : decode cX6_empty 2 = .ok (.putfield 21, 3) := by decide +kernel
theorem dX6_empty_5 : decode cX6_empty 5 = .ok (.return_, 1) := by decide +kernel
theorem dX6_add_0 : decode cX6_add 0 = .ok (.aload_n 0, 1) := by decide +kernel
theorem dX6_add_1 : decode cX6_add 1 = .ok (.getfield 21, 3) := by decide +kernel
theorem dX6_add_4 : decode cX6_add 4 = .ok (.aload_n 0, 1) := by decide +kernel
theorem dX6_add_5 : decode cX6_add 5 = .ok (.getfield 15, 3) := by decide +kernel
theorem dX6_add_8 : decode cX6_add 8 = .ok (.arraylength, 1) := by decide +kernel
theorem dX6_add_9 : decode cX6_add 9 = .ok (.if_icmp .ge 23, 3) := by decide +kernel
theorem dX6_add_12 : decode cX6_add 12 = .ok (.aload_n 0, 1) := by decide +kernel
theorem dX6_add_13 : decode cX6_add 13 = .ok (.getfield 15, 3) := by decide +kernel
theorem dX6_add_16 : decode cX6_add 16 = .ok (.aload_n 0, 1) := by decide +kernel
theorem dX6_add_17 : decode cX6_add 17 = .ok (.getfield 21, 3) := by decide +kernel
theorem dX6_add_20 : decode cX6_add 20 = .ok (.iload_n 1, 1) := by decide +kernel
theorem dX6_add_21 : decode cX6_add 21 = .ok (.iastore, 1) := by decide +kernel
theorem dX6_add_22 : decode cX6_add 22 = .ok (.aload_n 0, 1) := by decide +kernel
theorem dX6_add_23 : decode cX6_add 23 = .ok (.dup, 1) := by decide +kernel
theorem dX6_add_24 : decode cX6_add 24 = .ok (.getfield 21, 3) := by decide +kernel
theorem dX6_add_27 : decode cX6_add 27 = .ok (.iconst 1, 1) := by decide +kernel
theorem dX6_add_28 : decode cX6_add 28 = .ok (.iadd, 1) := by decide +kernel
theorem dX6_add_29 : decode cX6_add 29 = .ok (.putfield 21, 3) := by decide +kernel
theorem dX6_add_32 : decode cX6_add 32 = .ok (.return_, 1) := by decide +kernel
theorem dX6_get_0 : decode cX6_get 0 = .ok (.iload_n 1, 1) := by decide +kernel
theorem dX6_get_1 : decode cX6_get 1 = .ok (.ifCond .lt 20, 3) := by decide +kernel
theorem dX6_get_4 : decode cX6_get 4 = .ok (.iload_n 1, 1) := by decide +kernel
theorem dX6_get_5 : decode cX6_get 5 = .ok (.aload_n 0, 1) := by decide +kernel
theorem dX6_get_6 : decode cX6_get 6 = .ok (.getfield 21, 3) := by decide +kernel
theorem dX6_get_9 : decode cX6_get 9 = .ok (.if_icmp .ge 12, 3) := by decide +kernel
theorem dX6_get_12 : decode cX6_get 12 = .ok (.aload_n 0, 1) := by decide +kernel
theorem dX6_get_13 : decode cX6_get 13 = .ok (.getfield 15, 3) := by decide +kernel
theorem dX6_get_16 : decode cX6_get 16 = .ok (.iload_n 1, 1) := by decide +kernel
theorem dX6_get_17 : decode cX6_get 17 = .ok (.iaload, 1) := by decide +kernel
theorem dX6_get_18 : decode cX6_get 18 = .ok (.goto 4, 3) := by decide +kernel
theorem dX6_get_21 : decode cX6_get 21 = .ok (.iconst (-1), 1) := by decide +kernel
theorem dX6_get_22 : decode cX6_get 22 = .ok (.ireturn, 1) := by decide +kernel
set_option maxRecDepth 20000 in
theorem ggX6_countOrGet_X6_get : GoodIn wsX6_countOrGet wsX6_get := goodIn_r _ [6, 1, 7, 8, 9] (by decide +kernel) (by decide +kernel)
set_option maxRecDepth 20000 in
theorem gX6_countOrGet_X6_get : GoodIn wsX6_countOrGet (wsV RX6 25 RX6 yX6_get wsX6_get) := goodIn_app (goodIn_of _ (by decide +kernel)) ggX6_countOrGet_X6_get
theorem dX6_countOrGet_0 : decode cX6_countOrGet 0 = .ok (.iload_n 1, 1) := by decide +kernel
theorem dX6_countOrGet_1 : decode cX6_countOrGet 1 = .ok (.iconst (-1), 1) := by decide +kernel
theorem dX6_countOrGet_2 : decode cX6_countOrGet 2 = .ok (.if_icmp .ne 10, 3) := by decide +kernel
theorem dX6_countOrGet_5 : decode cX6_countOrGet 5 = .ok (.aload_n 0, 1) := by decide +kernel
theorem dX6_countOrGet_6 : decode cX6_countOrGet 6 = .ok (.getfield 21, 3) := by decide +kernel
theorem dX6_countOrGet_9 : decode cX6_countOrGet 9 = .ok (.goto 8, 3) := by decide +kernel
theorem dX6_countOrGet_12 : decode cX6_countOrGet 12 = .ok (.aload_n 0, 1) := by decide +kernel
theorem dX6_countOrGet_13 : decode cX6_countOrGet 13 = .ok (.iload_n 1, 1) := by decide +kernel
theorem dX6_countOrGet_14 : decode cX6_countOrGet 14 = .ok (.invokevirtual 25, 3) := by decide +kernel
theorem dX6_countOrGet_17 : decode cX6_countOrGet 17 = .ok (.ireturn, 1) := by decide +kernel
theorem dX6_has_0 : decode cX6_has 0 = .ok (.iconst 0, 1) := by decide +kernel
theorem dX6_has_1 : decode cX6_has 1 = .ok (.istore_n 2, 1) := by decide +kernel
theorem dX6_has_2 : decode cX6_has 2 = .ok (.iload_n 2, 1) := by decide +kernel
theorem dX6_has_3 : decode cX6_has 3 = .ok (.aload_n 0, 1) := by decide +kernel
theorem dX6_has_4 : decode cX6_has 4 = .ok (.getfield 21, 3) := by decide +kernel
theorem dX6_has_7 : decode cX6_has 7 = .ok (.if_icmp .ge 21, 3) := by decide +kernel
theorem dX6_has_10 : decode cX6_has 10 = .ok (.aload_n 0, 1) := by decide +kernel
theorem dX6_has_11 : decode cX6_has 11 = .ok (.getfield 15, 3) := by decide +kernel
theorem dX6_has_14 : decode cX6_has 14 = .ok (.iload_n 2, 1) := by decide +kernel
theorem dX6_has_15 : decode cX6_has 15 = .ok (.iaload, 1) := by decide +kernel
theorem dX6_has_16 : decode cX6_has 16 = .ok (.iload_n 1, 1) := by decide +kernel
theorem dX6_has_17 : decode cX6_has 17 = .ok (.if_icmp .ne 5, 3) := by decide +kernel
theorem dX6_has_20 : decode cX6_has 20 = .ok (.iconst 1, 1) := by decide +kernel
theorem dX6_has_21 : decode cX6_has 21 = .ok (.ireturn, 1) := by decide +kernel
theorem dX6_has_22 : decode cX6_has 22 = .ok (.iinc 2 1, 3) := by decide +kernel
theorem dX6_has_25 : decode cX6_has 25 = .ok (.goto (-23), 3) := by decide +kernel
theorem dX6_has_28 : decode cX6_has 28 = .ok (.iconst 0, 1) := by decide +kernel
theorem dX6_has_29 : decode cX6_has 29 = .ok (.ireturn, 1) := by decide +kernel
theorem dX7_init_0 : decode cX7_init 0 = .ok (.aload_n 0, 1) := by decide +kernel
theorem dX7_init_1 : decode cX7_init 1 = .ok (.invokespecial 3, 3) := by decide +kernel
theorem dX7_init_4 : decode cX7_init 4 = .ok (.aload_n 0, 1) := by decide +kernel
theorem dX7_init_5 : decode cX7_init 5 = .ok (.bipush 8, 2) := by decide +kernel
theorem dX7_init_7 : decode cX7_init 7 = .ok (.newarray .int, 2) := by decide +kernel
theorem dX7_init_9 : decode cX7_init 9 = .ok (.putfield 9, 3) := by decide +kernel
theorem dX7_init_12 : decode cX7_init 12 = .ok (.aload_n 0, 1) := by decide +kernel
theorem dX7_init_13 : decode cX7_init 13 = .ok (.iconst 2, 1) := by decide +kernel
theorem dX7_init_14 : decode cX7_init 14 = .ok (.bipush 8, 2) := by decide +kernel
theorem dX7_init_16 : decode cX7_init 16 = .ok (.multianewarray 15 2, 4) := by decide +kernel
theorem dX7_init_20 : decode cX7_init 20 = .ok (.putfield 17, 3) := by decide +kernel
theorem dX7_init_23 : decode cX7_init 23 = .ok (.aload_n 0, 1) := by decide +kernel
theorem dX7_init_24 : decode cX7_init 24 = .ok (.sipush 256, 3) := by decide +kernel
theorem dX7_init_27 : decode cX7_init 27 = .ok (.newarray .int, 2) := by decide +kernel
theorem dX7_init_29 : decode cX7_init 29 = .ok (.putfield 20, 3) := by decide +kernel
theorem dX7_init_32 : decode cX7_init 32 = .ok (.aload_n 0, 1) := by decide +kernel
theorem dX7_init_33 : decode cX7_init 33 = .ok (.bipush 64, 2) := by decide +kernel
theorem dX7_init_35 : decode cX7_init 35 = .ok (.newarray .int, 2) := by decide +kernel
theorem dX7_init_37 : decode cX7_init 37 = .ok (.putfield 23, 3) := by decide +kernel
theorem dX7_init_40 : decode cX7_init 40 = .ok (.aload_n 0, 1) := by decide +kernel
theorem dX7_init_41 : decode cX7_init 41 = .ok (.iconst 2, 1) := by decide +kernel
theorem dX7_init_42 : decode cX7_init 42 = .ok (.bipush 64, 2) := by decide +kernel
theorem dX7_init_44 : decode cX7_init 44 = .ok (.multianewarray 15 2, 4) := by decide +kernel
theorem dX7_init_48 : decode cX7_init 48 = .ok (.putfield 26, 3) := by decide +kernel
theorem dX7_init_51 : decode cX7_init 51 = .ok (.aload_n 0, 1) := by decide +kernel
theorem dX7_init_52 : decode cX7_init 52 = .ok (.iconst 5, 1) := by decide +kernel
theorem dX7_init_53 : decode cX7_init 53 = .ok (.newarray .int, 2) := by decide +kernel
theorem dX7_init_55 : decode cX7_init 55 = .ok (.putfield 29, 3) := by decide +kernel
theorem dX7_init_58 : decode cX7_init 58 = .ok (.return_, 1) := by decide +kernel
set_option maxRecDepth 20000 in
theorem ggX7_clear_J7_fill_53178 : GoodIn wsX7_clear wsJ7_fill_53178 := goodIn_r _ [11] (by decide +kernel) (by decide +kernel)
set_option maxRecDepth 20000 in
theorem gX7_clear_J7_fill_53178 : GoodIn wsX7_clear (va_wsS RX7 45 yJ7_fill_53178 wsJ7_fill_53178) := goodIn_app (goodIn_of _ (by decide +kernel)) ggX7_clear_J7_fill_53178
theorem dX7_clear_0 : decode cX7_clear 0 = .ok (.aload_n 0, 1) := by decide +kernel
theorem dX7_clear_1 : decode cX7_clear 1 = .ok (.iconst 0, 1) := by decide +kernel
theorem dX7_clear_2 : decode cX7_clear 2 = .ok (.putfield 32, 3) := by decide +kernel
theorem dX7_clear_5 : decode cX7_clear 5 = .ok (.aload_n 0, 1) := by decide +kernel
theorem dX7_clear_6 : decode cX7_clear 6 = .ok (.iconst 0, 1) := by decide +kernel
theorem dX7_clear_7 : decode cX7_clear 7 = .ok (.putfield 36, 3) := by decide +kernel
theorem dX7_clear_10 : decode cX7_clear 10 = .ok (.aload_n 0, 1) := by decide +kernel
theorem dX7_clear_11 : decode cX7_clear 11 = .ok (.iconst 0, 1) := by decide +kernel
theorem dX7_clear_12 : decode cX7_clear 12 = .ok (.putfield 39, 3) := by decide +kernel
theorem dX7_clear_15 : decode cX7_clear 15 = .ok (.aload_n 0, 1) := by decide +kernel
theorem dX7_clear_16 : decode cX7_clear 16 = .ok (.iconst 0, 1) := by decide +kernel
theorem dX7_clear_17 : decode cX7_clear 17 = .ok (.putfield 42, 3) := by decide +kernel
theorem dX7_clear_20 : decode cX7_clear 20 = .ok (.aload_n 0, 1) := by decide +kernel
theorem dX7_clear_21 : decode cX7_clear 21 = .ok (.getfield 20, 3) := by decide +kernel
theorem dX7_clear_24 : decode cX7_clear 24 = .ok (.iconst 0, 1) := by decide +kernel
theorem dX7_clear_25 : decode cX7_clear 25 = .ok (.invokestatic 45, 3) := by decide +kernel
theorem dX7_clear_28 : decode cX7_clear 28 = .ok (.aload_n 0, 1) := by decide +kernel
theorem dX7_clear_29 : decode cX7_clear 29 = .ok (.getfield 23, 3) := by decide +kernel
theorem dX7_clear_32 : decode cX7_clear 32 = .ok (.iconst 0, 1) := by decide +kernel
theorem dX7_clear_33 : decode cX7_clear 33 = .ok (.invokestatic 45, 3) := by decide +kernel
theorem dX7_clear_36 : decode cX7_clear 36 = .ok (.iconst 0, 1) := by decide +kernel
theorem dX7_clear_37 : decode cX7_clear 37 = .ok (.istore_n 1, 1) := by decide +kernel
theorem dX7_clear_38 : decode cX7_clear 38 = .ok (.iload_n 1, 1) := by decide +kernel
theorem dX7_clear_39 : decode cX7_clear 39 = .ok (.iconst 2, 1) := by decide +kernel
theorem dX7_clear_40 : decode cX7_clear 40 = .ok (.if_icmp .ge 19, 3) := by decide +kernel
theorem dX7_clear_43 : decode cX7_clear 43 = .ok (.aload_n 0, 1) := by decide +kernel
theorem dX7_clear_44 : decode cX7_clear 44 = .ok (.getfield 26, 3) := by decide +kernel
theorem dX7_clear_47 : decode cX7_clear 47 = .ok (.iload_n 1, 1) := by decide +kernel
theorem dX7_clear_48 : decode cX7_clear 48 = .ok (.aaload, 1) := by decide +kernel
theorem dX7_clear_49 : decode cX7_clear 49 = .ok (.iconst 0, 1) := by decide +kernel
theorem dX7_clear_50 : decode cX7_clear 50 = .ok (.invokestatic 45, 3) := by decide +kernel
theorem dX7_clear_53 : decode cX7_clear 53 = .ok (.iinc 1 1, 3) := by decide +kernel
theorem dX7_clear_56 : decode cX7_clear 56 = .ok (.goto (-18), 3) := by decide +kernel
theorem dX7_clear_59 : decode cX7_clear 59 = .ok (.return_, 1) := by decide +kernel
theorem dX7_addWord_0 : decode cX7_addWord 0 = .ok (.aload_n 0, 1) := by decide +kernel
theorem dX7_addWord_1 : decode cX7_addWord 1 = .ok (.getfield 36, 3) := by decide +kernel
theorem dX7_addWord_4 : decode cX7_addWord 4 = .ok (.bipush 8, 2) := by decide +kernel
theorem dX7_addWord_6 : decode cX7_addWord 6 = .ok (.if_icmp .ge 47, 3) := by decide +kernel
theorem dX7_addWord_9 : decode cX7_addWord 9 = .ok (.aload_n 0, 1) := by decide +kernel
theorem dX7_addWord_10 : decode cX7_addWord 10 = .ok (.getfield 9, 3) := by decide +kernel
theorem dX7_addWord_13 : decode cX7_addWord 13 = .ok (.aload_n 0, 1) := by decide +kernel
theorem dX7_addWord_14 : decode cX7_addWord 14 = .ok (.getfield 36, 3) := by decide +kernel
theorem dX7_addWord_17 : decode cX7_addWord 17 = .ok (.iload_n 1, 1) := by decide +kernel
theorem dX7_addWord_18 : decode cX7_addWord 18 = .ok (.iastore, 1) := by decide +kernel
theorem dX7_addWord_19 : decode cX7_addWord 19 = .ok (.aload_n 0, 1) := by decide +kernel
theorem dX7_addWord_20 : decode cX7_addWord 20 = .ok (.getfield 17, 3) := by decide +kernel
theorem dX7_addWord_23 : decode cX7_addWord 23 = .ok (.iconst 0, 1) := by decide +kernel
theorem dX7_addWord_24 : decode cX7_addWord 24 = .ok (.aaload, 1) := by decide +kernel
theorem dX7_addWord_25 : decode cX7_addWord 25 = .ok (.aload_n 0, 1) := by decide +kernel
theorem dX7_addWord_26 : decode cX7_addWord 26 = .ok (.getfield 36, 3) := by decide +kernel
theorem dX7_addWord_29 : decode cX7_addWord 29 = .ok (.iload_n 2, 1) := by decide +kernel
theorem dX7_addWord_30 : decode cX7_addWord 30 = .ok (.iastore, 1) := by decide +kernel
theorem dX7_addWord_31 : decode cX7_addWord 31 = .ok (.aload_n 0, 1) := by decide +kernel
theorem dX7_addWord_32 : decode cX7_addWord 32 = .ok (.getfield 17, 3) := by decide +kernel
theorem dX7_addWord_35 : decode cX7_addWord 35 = .ok (.iconst 1, 1) := by decide +kernel
theorem dX7_addWord_36 : decode cX7_addWord 36 = .ok (.aaload, 1) := by decide +kernel
theorem dX7_addWord_37 : decode cX7_addWord 37 = .ok (.aload_n 0, 1) := by decide +kernel
theorem dX7_addWord_38 : decode cX7_addWord 38 = .ok (.getfield 36, 3) := by decide +kernel
theorem dX7_addWord_41 : decode cX7_addWord 41 = .ok (.iload_n 3, 1) := by decide +kernel
theorem dX7_addWord_42 : decode cX7_addWord 42 = .ok (.iastore, 1) := by decide +kernel
theorem dX7_addWord_43 : decode cX7_addWord 43 = .ok (.aload_n 0, 1) := by decide +kernel
theorem dX7_addWord_44 : decode cX7_addWord 44 = .ok (.dup, 1) := by decide +kernel
theorem dX7_addWord_45 : decode cX7_addWord 45 = .ok (.getfield 36, 3) := by decide +kernel
theorem dX7_addWord_48 : decode cX7_addWord 48 = .ok (.iconst 1, 1) := by decide +kernel
theorem dX7_addWord_49 : decode cX7_addWord 49 = .ok (.iadd, 1) := by decide +kernel
theorem dX7_addWord_50 : decode cX7_addWord 50 = .ok (.putfield 36, 3) := by decide +kernel
theorem dX7_addWord_53 : decode cX7_addWord 53 = .ok (.return_, 1) := by decide +kernel
theorem dX7_addFrame_0 : decode cX7_addFrame 0 = .ok (.iload_n 1, 1) := by decide +kernel
theorem dX7_addFrame_1 : decode cX7_addFrame 1 = .ok (.ifCond .lt 29, 3) := by decide +kernel
theorem dX7_addFrame_4 : decode cX7_addFrame 4 = .ok (.iload_n 1, 1) := by decide +kernel
theorem dX7_addFrame_5 : decode cX7_addFrame 5 = .ok (.aload_n 0, 1) := by decide +kernel
theorem dX7_addFrame_6 : decode cX7_addFrame 6 = .ok (.getfield 20, 3) := by decide +kernel
theorem dX7_addFrame_9 : decode cX7_addFrame 9 = .ok (.arraylength, 1) := by decide +kernel
theorem dX7_addFrame_10 : decode cX7_addFrame 10 = .ok (.if_icmp .ge 20, 3) := by decide +kernel
theorem dX7_addFrame_13 : decode cX7_addFrame 13 = .ok (.aload_n 0, 1) := by decide +kernel
theorem dX7_addFrame_14 : decode cX7_addFrame 14 = .ok (.getfield 20, 3) := by decide +kernel
theorem dX7_addFrame_17 : decode cX7_addFrame 17 = .ok (.iload_n 1, 1) := by decide +kernel
theorem dX7_addFrame_18 : decode cX7_addFrame 18 = .ok (.iconst 1, 1) := by decide +kernel
theorem dX7_addFrame_19 : decode cX7_addFrame 19 = .ok (.iastore, 1) := by decide +kernel
theorem dX7_addFrame_20 : decode cX7_addFrame 20 = .ok (.aload_n 0, 1) := by decide +kernel
theorem dX7_addFrame_21 : decode cX7_addFrame 21 = .ok (.dup, 1) := by decide +kernel
theorem dX7_addFrame_22 : decode cX7_addFrame 22 = .ok (.getfield 39, 3) := by decide +kernel
theorem dX7_addFrame_25 : decode cX7_addFrame 25 = .ok (.iconst 1, 1) := by decide +kernel
theorem dX7_addFrame_26 : decode cX7_addFrame 26 = .ok (.iadd, 1) := by decide +kernel
theorem dX7_addFrame_27 : decode cX7_addFrame 27 = .ok (.putfield 39, 3) := by decide +kernel
theorem dX7_addFrame_30 : decode cX7_addFrame 30 = .ok (.return_, 1) := by decide +kernel
set_option maxRecDepth 20000 in
theorem ggX7_addPair_X7_spotOf : GoodIn wsX7_addPair wsX7_spotOf := goodIn_r _ [7] (by decide +kernel) (by decide +kernel)
set_option maxRecDepth 20000 in
theorem gX7_addPair_X7_spotOf : GoodIn wsX7_addPair (va_wsS RX7 51 yX7_spotOf wsX7_spotOf) := goodIn_app (goodIn_of _ (by decide +kernel)) ggX7_addPair_X7_spotOf
theorem dX7_addPair_0 : decode cX7_addPair 0 = .ok (.iload_n 1, 1) := by decide +kernel
theorem dX7_addPair_1 : decode cX7_addPair 1 = .ok (.iload_n 2, 1) := by decide +kernel
theorem dX7_addPair_2 : decode cX7_addPair 2 = .ok (.invokestatic 51, 3) := by decide +kernel
theorem dX7_addPair_5 : decode cX7_addPair 5 = .ok (.istore 5, 2) := by decide +kernel
theorem dX7_addPair_7 : decode cX7_addPair 7 = .ok (.aload_n 0, 1) := by decide +kernel
theorem dX7_addPair_8 : decode cX7_addPair 8 = .ok (.getfield 23, 3) := by decide +kernel
theorem dX7_addPair_11 : decode cX7_addPair 11 = .ok (.iload 5, 2) := by decide +kernel
theorem dX7_addPair_13 : decode cX7_addPair 13 = .ok (.iconst 1, 1) := by decide +kernel
theorem dX7_addPair_14 : decode cX7_addPair 14 = .ok (.iastore, 1) := by decide +kernel
theorem dX7_addPair_15 : decode cX7_addPair 15 = .ok (.aload_n 0, 1) := by decide +kernel
theorem dX7_addPair_16 : decode cX7_addPair 16 = .ok (.getfield 26, 3) := by decide +kernel
theorem dX7_addPair_19 : decode cX7_addPair 19 = .ok (.iconst 0, 1) := by decide +kernel
theorem dX7_addPair_20 : decode cX7_addPair 20 = .ok (.aaload, 1) := by decide +kernel
theorem dX7_addPair_21 : decode cX7_addPair 21 = .ok (.iload 5, 2) := by decide +kernel
theorem dX7_addPair_23 : decode cX7_addPair 23 = .ok (.iload_n 3, 1) := by decide +kernel
theorem dX7_addPair_24 : decode cX7_addPair 24 = .ok (.iastore, 1) := by decide +kernel
theorem dX7_addPair_25 : decode cX7_addPair 25 = .ok (.aload_n 0, 1) := by decide +kernel
theorem dX7_addPair_26 : decode cX7_addPair 26 = .ok (.getfield 26, 3) := by decide +kernel
theorem dX7_addPair_29 : decode cX7_addPair 29 = .ok (.iconst 1, 1) := by decide +kernel
theorem dX7_addPair_30 : decode cX7_addPair 30 = .ok (.aaload, 1) := by decide +kernel
theorem dX7_addPair_31 : decode cX7_addPair 31 = .ok (.iload 5, 2) := by decide +kernel
theorem dX7_addPair_33 : decode cX7_addPair 33 = .ok (.iload 4, 2) := by decide +kernel
theorem dX7_addPair_35 : decode cX7_addPair 35 = .ok (.iastore, 1) := by decide +kernel
theorem dX7_addPair_36 : decode cX7_addPair 36 = .ok (.aload_n 0, 1) := by decide +kernel
theorem dX7_addPair_37 : decode cX7_addPair 37 = .ok (.dup, 1) := by decide +kernel
theorem dX7_addPair_38 : decode cX7_addPair 38 = .ok (.getfield 42, 3) := by decide +kernel
theorem dX7_addPair_41 : decode cX7_addPair 41 = .ok (.iconst 1, 1) := by decide +kernel
theorem dX7_addPair_42 : decode cX7_addPair 42 = .ok (.iadd, 1) := by decide +kernel
theorem dX7_addPair_43 : decode cX7_addPair 43 = .ok (.putfield 42, 3) := by decide +kernel
theorem dX7_addPair_46 : decode cX7_addPair 46 = .ok (.return_, 1) := by decide +kernel
set_option maxRecDepth 20000 in
theorem ggX7_hasPair_X7_spotOf : GoodIn wsX7_hasPair wsX7_spotOf := goodIn_r _ [5] (by decide +kernel) (by decide +kernel)
set_option maxRecDepth 20000 in
theorem gX7_hasPair_X7_spotOf : GoodIn wsX7_hasPair (va_wsS RX7 51 yX7_spotOf wsX7_spotOf) := goodIn_app (goodIn_of _ (by decide +kernel)) ggX7_hasPair_X7_spotOf
theorem dX7_hasPair_0 : decode cX7_hasPair 0 = .ok (.aload_n 0, 1) := by decide +kernel
theorem dX7_hasPair_1 : decode cX7_hasPair 1 = .ok (.getfield 23, 3) := by decide +kernel
theorem dX7_hasPair_4 : decode cX7_hasPair 4 = .ok (.iload_n 1, 1) := by decide +kernel
theorem dX7_hasPair_5 : decode cX7_hasPair 5 = .ok (.iload_n 2, 1) := by decide +kernel
theorem dX7_hasPair_6 : decode cX7_hasPair 6 = .ok (.invokestatic 51, 3) := by decide +kernel
theorem dX7_hasPair_9 : decode cX7_hasPair 9 = .ok (.iaload, 1) := by decide +kernel
theorem dX7_hasPair_10 : decode cX7_hasPair 10 = .ok (.iconst 1, 1) := by decide +kernel
theorem dX7_hasPair_11 : decode cX7_hasPair 11 = .ok (.if_icmp .ne 7, 3) := by decide +kernel
theorem dX7_hasPair_14 : decode cX7_hasPair 14 = .ok (.iconst 1, 1) := by decide +kernel
theorem dX7_hasPair_15 : decode cX7_hasPair 15 = .ok (.goto 4, 3) := by decide +kernel
theorem dX7_hasPair_18 : decode cX7_hasPair 18 = .ok (.iconst 0, 1) := by decide +kernel
theorem dX7_hasPair_19 : decode cX7_hasPair 19 = .ok (.ireturn, 1) := by decide +kernel
theorem dX7_spotOf_0 : decode cX7_spotOf 0 = .ok (.iload_n 0, 1) := by decide +kernel
theorem dX7_spotOf_1 : decode cX7_spotOf 1 = .ok (.bipush 7, 2) := by decide +kernel
theorem dX7_spotOf_3 : decode cX7_spotOf 3 = .ok (.iand, 1) := by decide +kernel
theorem dX7_spotOf_4 : decode cX7_spotOf 4 = .ok (.bipush 8, 2) := by decide +kernel
theorem dX7_spotOf_6 : decode cX7_spotOf 6 = .ok (.imul, 1) := by decide +kernel
theorem dX7_spotOf_7 : decode cX7_spotOf 7 = .ok (.iload_n 1, 1) := by decide +kernel
theorem dX7_spotOf_8 : decode cX7_spotOf 8 = .ok (.bipush 7, 2) := by decide +kernel
theorem dX7_spotOf_10 : decode cX7_spotOf 10 = .ok (.iand, 1) := by decide +kernel
theorem dX7_spotOf_11 : decode cX7_spotOf 11 = .ok (.iadd, 1) := by decide +kernel
theorem dX7_spotOf_12 : decode cX7_spotOf 12 = .ok (.ireturn, 1) := by decide +kernel
theorem dX7_countLetters_0 : decode cX7_countLetters 0 = .ok (.iconst 1, 1) := by decide +kernel
theorem dX7_countLetters_1 : decode cX7_countLetters 1 = .ok (.istore_n 1, 1) := by decide +kernel
theorem dX7_countLetters_2 : decode cX7_countLetters 2 = .ok (.iconst 0, 1) := by decide +kernel
theorem dX7_countLetters_3 : decode cX7_countLetters 3 = .ok (.istore_n 2, 1) := by decide +kernel
theorem dX7_countLetters_4 : decode cX7_countLetters 4 = .ok (.iload_n 2, 1) := by decide +kernel
theorem dX7_countLetters_5 : decode cX7_countLetters 5 = .ok (.iconst 4, 1) := by decide +kernel
theorem dX7_countLetters_6 : decode cX7_countLetters 6 = .ok (.if_icmp .gt 23, 3) := by decide +kernel
theorem dX7_countLetters_9 : decode cX7_countLetters 9 = .ok (.aload_n 0, 1) := by decide +kernel
theorem dX7_countLetters_10 : decode cX7_countLetters 10 = .ok (.getfield 29, 3) := by decide +kernel
theorem dX7_countLetters_13 : decode cX7_countLetters 13 = .ok (.iload_n 2, 1) := by decide +kernel
theorem dX7_countLetters_14 : decode cX7_countLetters 14 = .ok (.iload_n 1, 1) := by decide +kernel
theorem dX7_countLetters_15 : decode cX7_countLetters 15 = .ok (.iastore, 1) := by decide +kernel
theorem dX7_countLetters_16 : decode cX7_countLetters 16 = .ok (.iload_n 1, 1) := by decide +kernel
theorem dX7_countLetters_17 : decode cX7_countLetters 17 = .ok (.aload_n 0, 1) := by decide +kernel
theorem dX7_countLetters_18 : decode cX7_countLetters 18 = .ok (.getfield 36, 3) := by decide +kernel
theorem dX7_countLetters_21 : decode cX7_countLetters 21 = .ok (.imul, 1) := by decide +kernel
theorem dX7_countLetters_22 : decode cX7_countLetters 22 = .ok (.istore_n 1, 1) := by decide +kernel
theorem dX7_countLetters_23 : decode cX7_countLetters 23 = .ok (.iinc 2 1, 3) := by decide +kernel
theorem dX7_countLetters_26 : decode cX7_countLetters 26 = .ok (.goto (-22), 3) := by decide +kernel
theorem dX7_countLetters_29 : decode cX7_countLetters 29 = .ok (.aload_n 0, 1) := by decide +kernel
theorem dX7_countLetters_30 : decode cX7_countLetters 30 = .ok (.getfield 36, 3) := by decide +kernel
theorem dX7_countLetters_33 : decode cX7_countLetters 33 = .ok (.ifCond .le 23, 3) := by decide +kernel
theorem dX7_countLetters_36 : decode cX7_countLetters 36 = .ok (.aload_n 0, 1) := by decide +kernel
theorem dX7_countLetters_37 : decode cX7_countLetters 37 = .ok (.getfield 32, 3) := by decide +kernel
theorem dX7_countLetters_40 : decode cX7_countLetters 40 = .ok (.iconst 4, 1) := by decide +kernel
theorem dX7_countLetters_41 : decode cX7_countLetters 41 = .ok (.if_icmp .gt 15, 3) := by decide +kernel
theorem dX7_countLetters_44 : decode cX7_countLetters 44 = .ok (.aload_n 0, 1) := by decide +kernel
theorem dX7_countLetters_45 : decode cX7_countLetters 45 = .ok (.getfield 29, 3) := by decide +kernel
theorem dX7_countLetters_48 : decode cX7_countLetters 48 = .ok (.aload_n 0, 1) := by decide +kernel
theorem dX7_countLetters_49 : decode cX7_countLetters 49 = .ok (.getfield 32, 3) := by decide +kernel
theorem dX7_countLetters_52 : decode cX7_countLetters 52 = .ok (.iaload, 1) := by decide +kernel
theorem dX7_countLetters_53 : decode cX7_countLetters 53 = .ok (.goto 4, 3) := by decide +kernel
theorem dX7_countLetters_56 : decode cX7_countLetters 56 = .ok (.iconst 0, 1) := by decide +kernel
theorem dX7_countLetters_57 : decode cX7_countLetters 57 = .ok (.ireturn, 1) := by decide +kernel
theorem dX7_wordAt_0 : decode cX7_wordAt 0 = .ok (.aload_n 0, 1) := by decide +kernel
theorem dX7_wordAt_1 : decode cX7_wordAt 1 = .ok (.getfield 36, 3) := by decide +kernel
theorem dX7_wordAt_4 : decode cX7_wordAt 4 = .ok (.ifCond .le 24, 3) := by decide +kernel
theorem dX7_wordAt_7 : decode cX7_wordAt 7 = .ok (.iload_n 2, 1) := by decide +kernel
theorem dX7_wordAt_8 : decode cX7_wordAt 8 = .ok (.ifCond .lt 20, 3) := by decide +kernel
theorem dX7_wordAt_11 : decode cX7_wordAt 11 = .ok (.iload_n 2, 1) := by decide +kernel
theorem dX7_wordAt_12 : decode cX7_wordAt 12 = .ok (.aload_n 0, 1) := by decide +kernel
theorem dX7_wordAt_13 : decode cX7_wordAt 13 = .ok (.getfield 32, 3) := by decide +kernel
theorem dX7_wordAt_16 : decode cX7_wordAt 16 = .ok (.if_icmp .ge 12, 3) := by decide +kernel
theorem dX7_wordAt_19 : decode cX7_wordAt 19 = .ok (.aload_n 0, 1) := by decide +kernel
theorem dX7_wordAt_20 : decode cX7_wordAt 20 = .ok (.getfield 29, 3) := by decide +kernel
theorem dX7_wordAt_23 : decode cX7_wordAt 23 = .ok (.iload_n 2, 1) := by decide +kernel
theorem dX7_wordAt_24 : decode cX7_wordAt 24 = .ok (.iaload, 1) := by decide +kernel
theorem dX7_wordAt_25 : decode cX7_wordAt 25 = .ok (.ifCond .gt 5, 3) := by decide +kernel
theorem dX7_wordAt_28 : decode cX7_wordAt 28 = .ok (.iconst 0, 1) := by decide +kernel
theorem dX7_wordAt_29 : decode cX7_wordAt 29 = .ok (.ireturn, 1) := by decide +kernel
theorem dX7_wordAt_30 : decode cX7_wordAt 30 = .ok (.iload_n 1, 1) := by decide +kernel
theorem dX7_wordAt_31 : decode cX7_wordAt 31 = .ok (.aload_n 0, 1) := by decide +kernel
theorem dX7_wordAt_32 : decode cX7_wordAt 32 = .ok (.getfield 29, 3) := by decide +kernel
theorem dX7_wordAt_35 : decode cX7_wordAt 35 = .ok (.iload_n 2, 1) := by decide +kernel
theorem dX7_wordAt_36 : decode cX7_wordAt 36 = .ok (.iaload, 1) := by decide +kernel
theorem dX7_wordAt_37 : decode cX7_wordAt 37 = .ok (.idiv, 1) := by decide +kernel
theorem dX7_wordAt_38 : decode cX7_wordAt 38 = .ok (.aload_n 0, 1) := by decide +kernel
theorem dX7_wordAt_39 : decode cX7_wordAt 39 = .ok (.getfield 36, 3) := by decide +kernel
theorem dX7_wordAt_42 : decode cX7_wordAt 42 = .ok (.irem, 1) := by decide +kernel
theorem dX7_wordAt_43 : decode cX7_wordAt 43 = .ok (.ireturn, 1) := by decide +kernel
set_option maxRecDepth 20000 in
theorem ggX7_isFramed_X7_wordAt : GoodIn wsX7_isFramed wsX7_wordAt := goodIn_r _ [8, 9, 1, 10, 11, 12, 13, 14, 15, 16, 17, 18, 19, 20] (by decide +kernel) (by decide +kernel)
set_option maxRecDepth 20000 in
theorem gX7_isFramed_X7_wordAt : GoodIn wsX7_isFramed (wsV RX7 55 RX7 yX7_wordAt wsX7_wordAt) := goodIn_app (goodIn_of _ (by decide +kernel)) ggX7_isFramed_X7_wordAt
theorem dX7_isFramed_0 : decode cX7_isFramed 0 = .ok (.iconst 0, 1) := by decide +kernel
theorem dX7_isFramed_1 : decode cX7_isFramed 1 = .ok (.istore_n 2, 1) := by decide +kernel
theorem dX7_isFramed_2 : decode cX7_isFramed 2 = .ok (.aload_n 0, 1) := by decide +kernel
theorem dX7_isFramed_3 : decode cX7_isFramed 3 = .ok (.getfield 32, 3) := by decide +kernel
theorem dX7_isFramed_6 : decode cX7_isFramed 6 = .ok (.iconst 1, 1) := by decide +kernel
theorem dX7_isFramed_7 : decode cX7_isFramed 7 = .ok (.isub, 1) := by decide +kernel
theorem dX7_isFramed_8 : decode cX7_isFramed 8 = .ok (.istore_n 3, 1) := by decide +kernel
theorem dX7_isFramed_9 : decode cX7_isFramed 9 = .ok (.iload_n 3, 1) := by decide +kernel
theorem dX7_isFramed_10 : decode cX7_isFramed 10 = .ok (.ifCond .lt 25, 3) := by decide +kernel
theorem dX7_isFramed_13 : decode cX7_isFramed 13 = .ok (.iload_n 2, 1) := by decide +kernel
theorem dX7_isFramed_14 : decode cX7_isFramed 14 = .ok (.iconst 4, 1) := by decide +kernel
theorem dX7_isFramed_15 : decode cX7_isFramed 15 = .ok (.imul, 1) := by decide +kernel
theorem dX7_isFramed_16 : decode cX7_isFramed 16 = .ok (.aload_n 0, 1) := by decide +kernel
theorem dX7_isFramed_17 : decode cX7_isFramed 17 = .ok (.getfield 9, 3) := by decide +kernel
theorem dX7_isFramed_20 : decode cX7_isFramed 20 = .ok (.aload_n 0, 1) := by decide +kernel
theorem dX7_isFramed_21 : decode cX7_isFramed 21 = .ok (.iload_n 1, 1) := by decide +kernel
theorem dX7_isFramed_22 : decode cX7_isFramed 22 = .ok (.iload_n 3, 1) := by decide +kernel
theorem dX7_isFramed_23 : decode cX7_isFramed 23 = .ok (.invokevirtual 55, 3) := by decide +kernel
theorem dX7_isFramed_26 : decode cX7_isFramed 26 = .ok (.iaload, 1) := by decide +kernel
theorem dX7_isFramed_27 : decode cX7_isFramed 27 = .ok (.iadd, 1) := by decide +kernel
theorem dX7_isFramed_28 : decode cX7_isFramed 28 = .ok (.istore_n 2, 1) := by decide +kernel
theorem dX7_isFramed_29 : decode cX7_isFramed 29 = .ok (.iinc 3 (-1), 3) := by decide +kernel
theorem dX7_isFramed_32 : decode cX7_isFramed 32 = .ok (.goto (-23), 3) := by decide +kernel
theorem dX7_isFramed_35 : decode cX7_isFramed 35 = .ok (.aload_n 0, 1) := by decide +kernel
theorem dX7_isFramed_36 : decode cX7_isFramed 36 = .ok (.getfield 20, 3) := by decide +kernel
theorem dX7_isFramed_39 : decode cX7_isFramed 39 = .ok (.iload_n 2, 1) := by decide +kernel
theorem dX7_isFramed_40 : decode cX7_isFramed 40 = .ok (.aload_n 0, 1) := by decide +kernel
theorem dX7_isFramed_41 : decode cX7_isFramed 41 = .ok (.getfield 20, 3) := by decide +kernel
theorem dX7_isFramed_44 : decode cX7_isFramed 44 = .ok (.arraylength, 1) := by decide +kernel
theorem dX7_isFramed_45 : decode cX7_isFramed 45 = .ok (.iconst 1, 1) := by decide +kernel
theorem dX7_isFramed_46 : decode cX7_isFramed 46 = .ok (.isub, 1) := by decide +kernel
theorem dX7_isFramed_47 : decode cX7_isFramed 47 = .ok (.iand, 1) := by decide +kernel
theorem dX7_isFramed_48 : decode cX7_isFramed 48 = .ok (.iaload, 1) := by decide +kernel
theorem dX7_isFramed_49 : decode cX7_isFramed 49 = .ok (.iconst 1, 1) := by decide +kernel
theorem dX7_isFramed_50 : decode cX7_isFramed 50 = .ok (.if_icmp .ne 7, 3) := by decide +kernel
theorem dX7_isFramed_53 : decode cX7_isFramed 53 = .ok (.iconst 1, 1) := by decide +kernel
theorem dX7_isFramed_54 : decode cX7_isFramed 54 = .ok (.goto 4, 3) := by decide +kernel
theorem dX7_isFramed_57 : decode cX7_isFramed 57 = .ok (.iconst 0, 1) := by decide +kernel
theorem dX7_isFramed_58 : decode cX7_isFramed 58 = .ok (.ireturn, 1) := by decide +kernel
set_option maxRecDepth 20000 in
theorem ggX7_weigh_X7_wordAt : GoodIn wsX7_weigh wsX7_wordAt := goodIn_r _ [7, 8, 1, 9, 13, 14, 15, 16, 17, 18, 19, 20, 21, 22] (by decide +kernel) (by decide +kernel)
set_option maxRecDepth 20000 in
theorem gX7_weigh_X7_wordAt : GoodIn wsX7_weigh (wsV RX7 55 RX7 yX7_wordAt wsX7_wordAt) := goodIn_app (goodIn_of _ (by decide +kernel)) ggX7_weigh_X7_wordAt
set_option maxRecDepth 20000 in
theorem ggX7_weigh_X7_spotOf : GoodIn wsX7_weigh wsX7_spotOf := goodIn_r _ [12] (by decide +kernel) (by decide +kernel)
set_option maxRecDepth 20000 in
theorem gX7_weigh_X7_spotOf : GoodIn wsX7_weigh (va_wsS RX7 51 yX7_spotOf wsX7_spotOf) := goodIn_app (goodIn_of _ (by decide +kernel)) ggX7_weigh_X7_spotOf
theorem dX7_weigh_0 : decode cX7_weigh 0 = .ok (.aload_n 0, 1) := by decide +kernel
theorem dX7_weigh_1 : decode cX7_weigh 1 = .ok (.iload_n 1, 1) := by decide +kernel
theorem dX7_weigh_2 : decode cX7_weigh 2 = .ok (.iconst 0, 1) := by decide +kernel
theorem dX7_weigh_3 : decode cX7_weigh 3 = .ok (.invokevirtual 55, 3) := by decide +kernel
theorem dX7_weigh_6 : decode cX7_weigh 6 = .ok (.istore 4, 2) := by decide +kernel
theorem dX7_weigh_8 : decode cX7_weigh 8 = .ok (.aload_n 2, 1) := by decide +kernel
theorem dX7_weigh_9 : decode cX7_weigh 9 = .ok (.iload 4, 2) := by decide +kernel
theorem dX7_weigh_11 : decode cX7_weigh 11 = .ok (.iaload, 1) := by decide +kernel
theorem dX7_weigh_12 : decode cX7_weigh 12 = .ok (.istore 5, 2) := by decide +kernel
theorem dX7_weigh_14 : decode cX7_weigh 14 = .ok (.iconst 1, 1) := by decide +kernel
theorem dX7_weigh_15 : decode cX7_weigh 15 = .ok (.istore 6, 2) := by decide +kernel
theorem dX7_weigh_17 : decode cX7_weigh 17 = .ok (.iload 6, 2) := by decide +kernel
theorem dX7_weigh_19 : decode cX7_weigh 19 = .ok (.aload_n 0, 1) := by decide +kernel
theorem dX7_weigh_20 : decode cX7_weigh 20 = .ok (.getfield 32, 3) := by decide +kernel
theorem dX7_weigh_23 : decode cX7_weigh 23 = .ok (.if_icmp .ge 64, 3) := by decide +kernel
theorem dX7_weigh_26 : decode cX7_weigh 26 = .ok (.aload_n 0, 1) := by decide +kernel
theorem dX7_weigh_27 : decode cX7_weigh 27 = .ok (.iload_n 1, 1) := by decide +kernel
theorem dX7_weigh_28 : decode cX7_weigh 28 = .ok (.iload 6, 2) := by decide +kernel
theorem dX7_weigh_30 : decode cX7_weigh 30 = .ok (.invokevirtual 55, 3) := by decide +kernel
theorem dX7_weigh_33 : decode cX7_weigh 33 = .ok (.istore 7, 2) := by decide +kernel
theorem dX7_weigh_35 : decode cX7_weigh 35 = .ok (.iload 5, 2) := by decide +kernel
theorem dX7_weigh_37 : decode cX7_weigh 37 = .ok (.aload_n 0, 1) := by decide +kernel
theorem dX7_weigh_38 : decode cX7_weigh 38 = .ok (.getfield 9, 3) := by decide +kernel
theorem dX7_weigh_41 : decode cX7_weigh 41 = .ok (.iload 4, 2) := by decide +kernel
theorem dX7_weigh_43 : decode cX7_weigh 43 = .ok (.iaload, 1) := by decide +kernel
theorem dX7_weigh_44 : decode cX7_weigh 44 = .ok (.iconst 3, 1) := by decide +kernel
theorem dX7_weigh_45 : decode cX7_weigh 45 = .ok (.if_icmp .ne 11, 3) := by decide +kernel
theorem dX7_weigh_48 : decode cX7_weigh 48 = .ok (.aload_n 2, 1) := by decide +kernel
theorem dX7_weigh_49 : decode cX7_weigh 49 = .ok (.iload 7, 2) := by decide +kernel
theorem dX7_weigh_51 : decode cX7_weigh 51 = .ok (.iaload, 1) := by decide +kernel
theorem dX7_weigh_52 : decode cX7_weigh 52 = .ok (.ineg, 1) := by decide +kernel
theorem dX7_weigh_53 : decode cX7_weigh 53 = .ok (.goto 7, 3) := by decide +kernel
theorem dX7_weigh_56 : decode cX7_weigh 56 = .ok (.aload_n 2, 1) := by decide +kernel
theorem dX7_weigh_57 : decode cX7_weigh 57 = .ok (.iload 7, 2) := by decide +kernel
theorem dX7_weigh_59 : decode cX7_weigh 59 = .ok (.iaload, 1) := by decide +kernel
theorem dX7_weigh_60 : decode cX7_weigh 60 = .ok (.iadd, 1) := by decide +kernel
theorem dX7_weigh_61 : decode cX7_weigh 61 = .ok (.istore 5, 2) := by decide +kernel
theorem dX7_weigh_63 : decode cX7_weigh 63 = .ok (.iload 5, 2) := by decide +kernel
theorem dX7_weigh_65 : decode cX7_weigh 65 = .ok (.aload_n 3, 1) := by decide +kernel
theorem dX7_weigh_66 : decode cX7_weigh 66 = .ok (.iload 4, 2) := by decide +kernel
theorem dX7_weigh_68 : decode cX7_weigh 68 = .ok (.iload 7, 2) := by decide +kernel
theorem dX7_weigh_70 : decode cX7_weigh 70 = .ok (.invokestatic 51, 3) := by decide +kernel
theorem dX7_weigh_73 : decode cX7_weigh 73 = .ok (.iaload, 1) := by decide +kernel
theorem dX7_weigh_74 : decode cX7_weigh 74 = .ok (.iadd, 1) := by decide +kernel
theorem dX7_weigh_75 : decode cX7_weigh 75 = .ok (.istore 5, 2) := by decide +kernel
theorem dX7_weigh_77 : decode cX7_weigh 77 = .ok (.iload 7, 2) := by decide +kernel
theorem dX7_weigh_79 : decode cX7_weigh 79 = .ok (.istore 4, 2) := by decide +kernel
theorem dX7_weigh_81 : decode cX7_weigh 81 = .ok (.iinc 6 1, 3) := by decide +kernel
theorem dX7_weigh_84 : decode cX7_weigh 84 = .ok (.goto (-67), 3) := by decide +kernel
theorem dX7_weigh_87 : decode cX7_weigh 87 = .ok (.iload 5, 2) := by decide +kernel
theorem dX7_weigh_89 : decode cX7_weigh 89 = .ok (.ireturn, 1) := by decide +kernel
set_option maxRecDepth 20000 in
theorem ggX7_wordsApart_X7_wordAt : GoodIn wsX7_wordsApart wsX7_wordAt := goodIn_r _ [6, 7, 1, 8, 9, 10, 11, 12, 13, 14, 15, 16, 17, 18] (by decide +kernel) (by decide +kernel)
set_option maxRecDepth 20000 in
theorem gX7_wordsApart_X7_wordAt : GoodIn wsX7_wordsApart (wsV RX7 55 RX7 yX7_wordAt wsX7_wordAt) := goodIn_app (goodIn_of _ (by decide +kernel)) ggX7_wordsApart_X7_wordAt
theorem dX7_wordsApart_0 : decode cX7_wordsApart 0 = .ok (.iconst 0, 1) := by decide +kernel
theorem dX7_wordsApart_1 : decode cX7_wordsApart 1 = .ok (.istore_n 3, 1) := by decide +kernel
theorem dX7_wordsApart_2 : decode cX7_wordsApart 2 = .ok (.iconst 0, 1) := by decide +kernel
theorem dX7_wordsApart_3 : decode cX7_wordsApart 3 = .ok (.istore 4, 2) := by decide +kernel
theorem dX7_wordsApart_5 : decode cX7_wordsApart 5 = .ok (.iload 4, 2) := by decide +kernel
theorem dX7_wordsApart_7 : decode cX7_wordsApart 7 = .ok (.aload_n 0, 1) := by decide +kernel
theorem dX7_wordsApart_8 : decode cX7_wordsApart 8 = .ok (.getfield 32, 3) := by decide +kernel
theorem dX7_wordsApart_11 : decode cX7_wordsApart 11 = .ok (.if_icmp .ge 29, 3) := by decide +kernel
theorem dX7_wordsApart_14 : decode cX7_wordsApart 14 = .ok (.aload_n 0, 1) := by decide +kernel
theorem dX7_wordsApart_15 : decode cX7_wordsApart 15 = .ok (.iload_n 1, 1) := by decide +kernel
theorem dX7_wordsApart_16 : decode cX7_wordsApart 16 = .ok (.iload 4, 2) := by decide +kernel
theorem dX7_wordsApart_18 : decode cX7_wordsApart 18 = .ok (.invokevirtual 55, 3) := by decide +kernel
theorem dX7_wordsApart_21 : decode cX7_wordsApart 21 = .ok (.aload_n 0, 1) := by decide +kernel
theorem dX7_wordsApart_22 : decode cX7_wordsApart 22 = .ok (.iload_n 2, 1) := by decide +kernel
theorem dX7_wordsApart_23 : decode cX7_wordsApart 23 = .ok (.iload 4, 2) := by decide +kernel
theorem dX7_wordsApart_25 : decode cX7_wordsApart 25 = .ok (.invokevirtual 55, 3) := by decide +kernel
theorem dX7_wordsApart_28 : decode cX7_wordsApart 28 = .ok (.if_icmp .eq 6, 3) := by decide +kernel
theorem dX7_wordsApart_31 : decode cX7_wordsApart 31 = .ok (.iinc 3 1, 3) := by decide +kernel
theorem dX7_wordsApart_34 : decode cX7_wordsApart 34 = .ok (.iinc 4 1, 3) := by decide +kernel
theorem dX7_wordsApart_37 : decode cX7_wordsApart 37 = .ok (.goto (-32), 3) := by decide +kernel
theorem dX7_wordsApart_40 : decode cX7_wordsApart 40 = .ok (.iload_n 3, 1) := by decide +kernel
theorem dX7_wordsApart_41 : decode cX7_wordsApart 41 = .ok (.ireturn, 1) := by decide +kernel
set_option maxRecDepth 20000 in
theorem ggX8_init_X5_init : GoodIn wsX8_init wsX5_init := goodIn_r _ [45, 46, 2, 3, 47, 48, 49, 105, 106, 107, 108, 109, 110] (by decide +kernel) (by decide +kernel)
set_option maxRecDepth 20000 in
theorem gX8_init_X5_init_n9 : GoodIn wsX8_init (wsX5_init) := ggX8_init_X5_init
set_option maxRecDepth 20000 in
theorem ggX8_init_X7_init : GoodIn wsX8_init wsX7_init := goodIn_r _ [51, 52, 2, 3, 22, 53, 54, 55, 56, 57, 58, 59, 127, 128, 129, 130, 131, 132, 133, 134, 135, 136] (by decide +kernel) (by decide +kernel)
set_option maxRecDepth 20000 in
theorem gX8_init_X7_init_n18 : GoodIn wsX8_init (wsX7_init) := ggX8_init_X7_init
set_option maxRecDepth 20000 in
theorem ggX8_init_X3_init : GoodIn wsX8_init wsX3_init := goodIn_r _ [62, 63, 2, 3, 47, 64, 22, 65, 66, 67, 137, 138, 139, 140, 141, 142, 143] (by decide +kernel) (by decide +kernel)
set_option maxRecDepth 20000 in
theorem gX8_init_X3_init : GoodIn wsX8_init (wsX3_init) := ggX8_init_X3_init
set_option maxRecDepth 20000 in
theorem ggX8_init_X0_init : GoodIn wsX8_init wsX0_init := goodIn_r _ [69, 70, 2, 3, 22, 71, 72, 144, 145, 146, 147, 148, 149, 150, 151, 152] (by decide +kernel) (by decide +kernel)
set_option maxRecDepth 20000 in
theorem gX8_init_X0_init_n37 : GoodIn wsX8_init (wsX0_init) := ggX8_init_X0_init
set_option maxRecDepth 20000 in
theorem ggX8_init_X6_init : GoodIn wsX8_init wsX6_init := goodIn_r _ [75, 76, 2, 3, 77, 78, 79, 80, 22, 81, 153, 154] (by decide +kernel) (by decide +kernel)
set_option maxRecDepth 20000 in
theorem gX8_init_X6_init : GoodIn wsX8_init (wsX6_init) := ggX8_init_X6_init
set_option maxRecDepth 20000 in
theorem ggX8_init_X4_init : GoodIn wsX8_init wsX4_init := goodIn_r _ [84, 85, 2, 3, 22, 86, 87, 27, 28, 88, 89, 90, 91, 74, 75, 76, 77, 78, 79, 80, 81, 155, 156, 157, 158, 153, 154] (by decide +kernel) (by decide +kernel)
set_option maxRecDepth 20000 in
theorem gX8_init_X4_init : GoodIn wsX8_init (wsX4_init) := ggX8_init_X4_init
set_option maxRecDepth 20000 in
theorem ggX8_init_X1_init : GoodIn wsX8_init wsX1_init := goodIn_r _ [94, 95, 2, 3, 22, 96, 97, 98, 99, 27, 28, 100, 74, 75, 76, 77, 78, 79, 80, 81, 159, 160, 161, 162, 163, 164, 153, 154] (by decide +kernel) (by decide +kernel)
set_option maxRecDepth 20000 in
theorem gX8_init_X1_init : GoodIn wsX8_init (wsX1_init) := ggX8_init_X1_init
set_option maxRecDepth 20000 in
theorem ggX8_init_X2_init : GoodIn wsX8_init wsX2_init := goodIn_r _ [102, 103, 2, 3, 22, 104, 165, 166] (by decide +kernel) (by decide +kernel)
set_option maxRecDepth 20000 in
theorem gX8_init_X2_init_n94 : GoodIn wsX8_init (wsX2_init) := ggX8_init_X2_init
theorem dX8_init_0 : decode cX8_init 0 = .ok (.aload_n 0, 1) := by decide +kernel
theorem dX8_init_1 : decode cX8_init 1 = .ok (.invokespecial 1, 3) := by decide +kernel
theorem dX8_init_4 : decode cX8_init 4 = .ok (.aload_n 0, 1) := by decide +kernel
theorem dX8_init_5 : decode cX8_init 5 = .ok (.new 7, 3) := by decide +kernel
theorem dX8_init_8 : decode cX8_init 8 = .ok (.dup, 1) := by decide +kernel
theorem dX8_init_9 : decode cX8_init 9 = .ok (.invokespecial 9, 3) := by decide +kernel
theorem dX8_init_12 : decode cX8_init 12 = .ok (.putfield 10, 3) := by decide +kernel
theorem dX8_init_15 : decode cX8_init 15 = .ok (.aload_n 0, 1) := by decide +kernel
theorem dX8_init_16 : decode cX8_init 16 = .ok (.new 16, 3) := by decide +kernel
theorem dX8_init_19 : decode cX8_init 19 = .ok (.dup, 1) := by decide +kernel
theorem dX8_init_20 : decode cX8_init 20 = .ok (.invokespecial 18, 3) := by decide +kernel
theorem dX8_init_23 : decode cX8_init 23 = .ok (.putfield 19, 3) := by decide +kernel
theorem dX8_init_26 : decode cX8_init 26 = .ok (.aload_n 0, 1) := by decide +kernel
theorem dX8_init_27 : decode cX8_init 27 = .ok (.new 16, 3) := by decide +kernel
theorem dX8_init_30 : decode cX8_init 30 = .ok (.dup, 1) := by decide +kernel
theorem dX8_init_31 : decode cX8_init 31 = .ok (.invokespecial 18, 3) := by decide +kernel
theorem dX8_init_34 : decode cX8_init 34 = .ok (.putfield 23, 3) := by decide +kernel
theorem dX8_init_37 : decode cX8_init 37 = .ok (.aload_n 0, 1) := by decide +kernel
theorem dX8_init_38 : decode cX8_init 38 = .ok (.new 26, 3) := by decide +kernel
theorem dX8_init_41 : decode cX8_init 41 = .ok (.dup, 1) := by decide +kernel
theorem dX8_init_42 : decode cX8_init 42 = .ok (.aload_n 0, 1) := by decide +kernel
theorem dX8_init_43 : decode cX8_init 43 = .ok (.getfield 19, 3) := by decide +kernel
theorem dX8_init_46 : decode cX8_init 46 = .ok (.invokespecial 28, 3) := by decide +kernel
theorem dX8_init_49 : decode cX8_init 49 = .ok (.putfield 31, 3) := by decide +kernel
theorem dX8_init_52 : decode cX8_init 52 = .ok (.aload_n 0, 1) := by decide +kernel
theorem dX8_init_53 : decode cX8_init 53 = .ok (.new 35, 3) := by decide +kernel
theorem dX8_init_56 : decode cX8_init 56 = .ok (.dup, 1) := by decide +kernel
theorem dX8_init_57 : decode cX8_init 57 = .ok (.invokespecial 37, 3) := by decide +kernel
theorem dX8_init_60 : decode cX8_init 60 = .ok (.putfield 38, 3) := by decide +kernel
theorem dX8_init_63 : decode cX8_init 63 = .ok (.aload_n 0, 1) := by decide +kernel
theorem dX8_init_64 : decode cX8_init 64 = .ok (.iconst 2, 1) := by decide +kernel
theorem dX8_init_65 : decode cX8_init 65 = .ok (.anewarray 35, 3) := by decide +kernel
theorem dX8_init_68 : decode cX8_init 68 = .ok (.putfield 42, 3) := by decide +kernel
theorem dX8_init_71 : decode cX8_init 71 = .ok (.aload_n 0, 1) := by decide +kernel
theorem dX8_init_72 : decode cX8_init 72 = .ok (.iconst 2, 1) := by decide +kernel
theorem dX8_init_73 : decode cX8_init 73 = .ok (.newarray .int, 2) := by decide +kernel
theorem dX8_init_75 : decode cX8_init 75 = .ok (.putfield 46, 3) := by decide +kernel
theorem dX8_init_78 : decode cX8_init 78 = .ok (.aload_n 0, 1) := by decide +kernel
theorem dX8_init_79 : decode cX8_init 79 = .ok (.bipush 6, 2) := by decide +kernel
theorem dX8_init_81 : decode cX8_init 81 = .ok (.anewarray 50, 3) := by decide +kernel
theorem dX8_init_84 : decode cX8_init 84 = .ok (.putfield 52, 3) := by decide +kernel
theorem dX8_init_87 : decode cX8_init 87 = .ok (.aload_n 0, 1) := by decide +kernel
theorem dX8_init_88 : decode cX8_init 88 = .ok (.new 56, 3) := by decide +kernel
theorem dX8_init_91 : decode cX8_init 91 = .ok (.dup, 1) := by decide +kernel
theorem dX8_init_92 : decode cX8_init 92 = .ok (.bipush 30, 2) := by decide +kernel
theorem dX8_init_94 : decode cX8_init 94 = .ok (.invokespecial 58, 3) := by decide +kernel
theorem dX8_init_97 : decode cX8_init 97 = .ok (.putfield 61, 3) := by decide +kernel
theorem dX8_init_100 : decode cX8_init 100 = .ok (.aload_n 0, 1) := by decide +kernel
theorem dX8_init_101 : decode cX8_init 101 = .ok (.new 56, 3) := by decide +kernel
