theorem dX0_init_0 : decode cX0_init 0 = .ok (.aload_n 0, 1) := by decide +kernel
theorem dX0_init_1 : decode cX0_init 1 = .ok (.invokespecial 3, 3) := by decide +kernel
theorem dX0_init_4 : decode cX0_init 4 = .ok (.aload_n 0, 1) := by decide +kernel
theorem dX0_init_5 : decode cX0_init 5 = .ok (.iconst 4, 1) := by decide +kernel
theorem dX0_init_6 : decode cX0_init 6 = .ok (.anewarray 9, 3) := by decide +kernel
theorem dX0_init_9 : decode cX0_init 9 = .ok (.putfield 11, 3) := by decide +kernel
theorem dX0_init_12 : decode cX0_init 12 = .ok (.aload_n 0, 1) := by decide +kernel
theorem dX0_init_13 : decode cX0_init 13 = .ok (.bipush 16, 2) := by decide +kernel
theorem dX0_init_15 : decode cX0_init 15 = .ok (.newarray .int, 2) := by decide +kernel
theorem dX0_init_17 : decode cX0_init 17 = .ok (.putfield 17, 3) := by decide +kernel
theorem dX0_init_20 : decode cX0_init 20 = .ok (.iconst 0, 1) := by decide +kernel
theorem dX0_init_21 : decode cX0_init 21 = .ok (.istore_n 1, 1) := by decide +kernel
theorem dX0_init_22 : decode cX0_init 22 = .ok (.iload_n 1, 1) := by decide +kernel
theorem dX0_init_23 : decode cX0_init 23 = .ok (.iconst 4, 1) := by decide +kernel
theorem dX0_init_24 : decode cX0_init 24 = .ok (.if_icmp .ge 22, 3) := by decide +kernel
theorem dX0_init_27 : decode cX0_init 27 = .ok (.aload_n 0, 1) := by decide +kernel
theorem dX0_init_28 : decode cX0_init 28 = .ok (.getfield 11, 3) := by decide +kernel
theorem dX0_init_31 : decode cX0_init 31 = .ok (.iload_n 1, 1) := by decide +kernel
theorem dX0_init_32 : decode cX0_init 32 = .ok (.new 9, 3) := by decide +kernel
theorem dX0_init_35 : decode cX0_init 35 = .ok (.dup, 1) := by decide +kernel
theorem dX0_init_36 : decode cX0_init 36 = .ok (.invokespecial 21, 3) := by decide +kernel
theorem dX0_init_39 : decode cX0_init 39 = .ok (.aastore, 1) := by decide +kernel
theorem dX0_init_40 : decode cX0_init 40 = .ok (.iinc 1 1, 3) := by decide +kernel
theorem dX0_init_43 : decode cX0_init 43 = .ok (.goto (-21), 3) := by decide +kernel
theorem dX0_init_46 : decode cX0_init 46 = .ok (.aload_n 0, 1) := by decide +kernel
theorem dX0_init_47 : decode cX0_init 47 = .ok (.invokevirtual 22, 3) := by decide +kernel
theorem dX0_init_50 : decode cX0_init 50 = .ok (.return_, 1) := by decide +kernel
theorem dX0_empty_0 : decode cX0_empty 0 = .ok (.aload_n 0, 1) := by decide +kernel
theorem dX0_empty_1 : decode cX0_empty 1 = .ok (.iconst 4, 1) := by decide +kernel
theorem dX0_empty_2 : decode cX0_empty 2 = .ok (.putfield 25, 3) := by decide +kernel
theorem dX0_empty_5 : decode cX0_empty 5 = .ok (.aload_n 0, 1) := by decide +kernel
theorem dX0_empty_6 : decode cX0_empty 6 = .ok (.iconst 0, 1) := by decide +kernel
theorem dX0_empty_7 : decode cX0_empty 7 = .ok (.putfield 29, 3) := by decide +kernel
theorem dX0_empty_10 : decode cX0_empty 10 = .ok (.aload_n 0, 1) := by decide +kernel
theorem dX0_empty_11 : decode cX0_empty 11 = .ok (.iconst 0, 1) := by decide +kernel
theorem dX0_empty_12 : decode cX0_empty 12 = .ok (.putfield 32, 3) := by decide +kernel
theorem dX0_empty_15 : decode cX0_empty 15 = .ok (.aload_n 0, 1) := by decide +kernel
theorem dX0_empty_16 : decode cX0_empty 16 = .ok (.iconst 0, 1) := by decide +kernel
theorem dX0_empty_17 : decode cX0_empty 17 = .ok (.putfield 35, 3) := by decide +kernel
theorem dX0_empty_20 : decode cX0_empty 20 = .ok (.return_, 1) := by decide +kernel
theorem dX0_copy_0 : decode cX0_copy 0 = .ok (.aload_n 0, 1) := by decide +kernel
theorem dX0_copy_1 : decode cX0_copy 1 = .ok (.aload_n 1, 1) := by decide +kernel
theorem dX0_copy_2 : decode cX0_copy 2 = .ok (.getfield 25, 3) := by decide +kernel
theorem dX0_copy_5 : decode cX0_copy 5 = .ok (.putfield 25, 3) := by decide +kernel
theorem dX0_copy_8 : decode cX0_copy 8 = .ok (.aload_n 0, 1) := by decide +kernel
theorem dX0_copy_9 : decode cX0_copy 9 = .ok (.aload_n 1, 1) := by decide +kernel
theorem dX0_copy_10 : decode cX0_copy 10 = .ok (.getfield 29, 3) := by decide +kernel
theorem dX0_copy_13 : decode cX0_copy 13 = .ok (.putfield 29, 3) := by decide +kernel
theorem dX0_copy_16 : decode cX0_copy 16 = .ok (.aload_n 0, 1) := by decide +kernel
theorem dX0_copy_17 : decode cX0_copy 17 = .ok (.aload_n 1, 1) := by decide +kernel
theorem dX0_copy_18 : decode cX0_copy 18 = .ok (.getfield 32, 3) := by decide +kernel
theorem dX0_copy_21 : decode cX0_copy 21 = .ok (.putfield 32, 3) := by decide +kernel
theorem dX0_copy_24 : decode cX0_copy 24 = .ok (.aload_n 0, 1) := by decide +kernel
theorem dX0_copy_25 : decode cX0_copy 25 = .ok (.aload_n 1, 1) := by decide +kernel
theorem dX0_copy_26 : decode cX0_copy 26 = .ok (.getfield 35, 3) := by decide +kernel
theorem dX0_copy_29 : decode cX0_copy 29 = .ok (.putfield 35, 3) := by decide +kernel
theorem dX0_copy_32 : decode cX0_copy 32 = .ok (.iconst 0, 1) := by decide +kernel
theorem dX0_copy_33 : decode cX0_copy 33 = .ok (.istore_n 2, 1) := by decide +kernel
theorem dX0_copy_34 : decode cX0_copy 34 = .ok (.iload_n 2, 1) := by decide +kernel
theorem dX0_copy_35 : decode cX0_copy 35 = .ok (.aload_n 0, 1) := by decide +kernel
theorem dX0_copy_36 : decode cX0_copy 36 = .ok (.getfield 29, 3) := by decide +kernel
theorem dX0_copy_39 : decode cX0_copy 39 = .ok (.if_icmp .ge 24, 3) := by decide +kernel
theorem dX0_copy_42 : decode cX0_copy 42 = .ok (.aload_n 0, 1) := by decide +kernel
theorem dX0_copy_43 : decode cX0_copy 43 = .ok (.getfield 11, 3) := by decide +kernel
theorem dX0_copy_46 : decode cX0_copy 46 = .ok (.iload_n 2, 1) := by decide +kernel
theorem dX0_copy_47 : decode cX0_copy 47 = .ok (.aaload, 1) := by decide +kernel
theorem dX0_copy_48 : decode cX0_copy 48 = .ok (.aload_n 1, 1) := by decide +kernel
theorem dX0_copy_49 : decode cX0_copy 49 = .ok (.getfield 11, 3) := by decide +kernel
theorem dX0_copy_52 : decode cX0_copy 52 = .ok (.iload_n 2, 1) := by decide +kernel
theorem dX0_copy_53 : decode cX0_copy 53 = .ok (.aaload, 1) := by decide +kernel
theorem dX0_copy_54 : decode cX0_copy 54 = .ok (.invokevirtual 38, 3) := by decide +kernel
theorem dX0_copy_57 : decode cX0_copy 57 = .ok (.iinc 2 1, 3) := by decide +kernel
theorem dX0_copy_60 : decode cX0_copy 60 = .ok (.goto (-26), 3) := by decide +kernel
theorem dX0_copy_63 : decode cX0_copy 63 = .ok (.aload_n 1, 1) := by decide +kernel
theorem dX0_copy_64 : decode cX0_copy 64 = .ok (.getfield 17, 3) := by decide +kernel
theorem dX0_copy_67 : decode cX0_copy 67 = .ok (.iconst 0, 1) := by decide +kernel
theorem dX0_copy_68 : decode cX0_copy 68 = .ok (.aload_n 0, 1) := by decide +kernel
theorem dX0_copy_69 : decode cX0_copy 69 = .ok (.getfield 17, 3) := by decide +kernel
theorem dX0_copy_72 : decode cX0_copy 72 = .ok (.iconst 0, 1) := by decide +kernel
theorem dX0_copy_73 : decode cX0_copy 73 = .ok (.bipush 16, 2) := by decide +kernel
theorem dX0_copy_75 : decode cX0_copy 75 = .ok (.invokestatic 42, 3) := by decide +kernel
theorem dX0_copy_78 : decode cX0_copy 78 = .ok (.return_, 1) := by decide +kernel
theorem dX0_hasShelf_0 : decode cX0_hasShelf 0 = .ok (.iload_n 1, 1) := by decide +kernel
theorem dX0_hasShelf_1 : decode cX0_hasShelf 1 = .ok (.ifCond .lt 15, 3) := by decide +kernel
theorem dX0_hasShelf_4 : decode cX0_hasShelf 4 = .ok (.iload_n 1, 1) := by decide +kernel
theorem dX0_hasShelf_5 : decode cX0_hasShelf 5 = .ok (.aload_n 0, 1) := by decide +kernel
theorem dX0_hasShelf_6 : decode cX0_hasShelf 6 = .ok (.getfield 29, 3) := by decide +kernel
theorem dX0_hasShelf_9 : decode cX0_hasShelf 9 = .ok (.if_icmp .ge 7, 3) := by decide +kernel
theorem dX0_hasShelf_12 : decode cX0_hasShelf 12 = .ok (.iconst 1, 1) := by decide +kernel
theorem dX0_hasShelf_13 : decode cX0_hasShelf 13 = .ok (.goto 4, 3) := by decide +kernel
theorem dX0_hasShelf_16 : decode cX0_hasShelf 16 = .ok (.iconst 0, 1) := by decide +kernel
theorem dX0_hasShelf_17 : decode cX0_hasShelf 17 = .ok (.ireturn, 1) := by decide +kernel
theorem dX0_hasBook_0 : decode cX0_hasBook 0 = .ok (.iload_n 1, 1) := by decide +kernel
theorem dX0_hasBook_1 : decode cX0_hasBook 1 = .ok (.ifCond .lt 15, 3) := by decide +kernel
theorem dX0_hasBook_4 : decode cX0_hasBook 4 = .ok (.iload_n 1, 1) := by decide +kernel
theorem dX0_hasBook_5 : decode cX0_hasBook 5 = .ok (.aload_n 0, 1) := by decide +kernel
theorem dX0_hasBook_6 : decode cX0_hasBook 6 = .ok (.getfield 25, 3) := by decide +kernel
theorem dX0_hasBook_9 : decode cX0_hasBook 9 = .ok (.if_icmp .ge 7, 3) := by decide +kernel
theorem dX0_hasBook_12 : decode cX0_hasBook 12 = .ok (.iconst 1, 1) := by decide +kernel
theorem dX0_hasBook_13 : decode cX0_hasBook 13 = .ok (.goto 4, 3) := by decide +kernel
theorem dX0_hasBook_16 : decode cX0_hasBook 16 = .ok (.iconst 0, 1) := by decide +kernel
theorem dX0_hasBook_17 : decode cX0_hasBook 17 = .ok (.ireturn, 1) := by decide +kernel
theorem dX0_hasWant_0 : decode cX0_hasWant 0 = .ok (.iload_n 1, 1) := by decide +kernel
theorem dX0_hasWant_1 : decode cX0_hasWant 1 = .ok (.ifCond .lt 15, 3) := by decide +kernel
theorem dX0_hasWant_4 : decode cX0_hasWant 4 = .ok (.iload_n 1, 1) := by decide +kernel
theorem dX0_hasWant_5 : decode cX0_hasWant 5 = .ok (.aload_n 0, 1) := by decide +kernel
theorem dX0_hasWant_6 : decode cX0_hasWant 6 = .ok (.getfield 32, 3) := by decide +kernel
theorem dX0_hasWant_9 : decode cX0_hasWant 9 = .ok (.if_icmp .ge 7, 3) := by decide +kernel
theorem dX0_hasWant_12 : decode cX0_hasWant 12 = .ok (.iconst 1, 1) := by decide +kernel
theorem dX0_hasWant_13 : decode cX0_hasWant 13 = .ok (.goto 4, 3) := by decide +kernel
theorem dX0_hasWant_16 : decode cX0_hasWant 16 = .ok (.iconst 0, 1) := by decide +kernel
theorem dX0_hasWant_17 : decode cX0_hasWant 17 = .ok (.ireturn, 1) := by decide +kernel
theorem dX0_addShelf_0 : decode cX0_addShelf 0 = .ok (.aload_n 0, 1) := by decide +kernel
theorem dX0_addShelf_1 : decode cX0_addShelf 1 = .ok (.getfield 29, 3) := by decide +kernel
theorem dX0_addShelf_4 : decode cX0_addShelf 4 = .ok (.iconst 4, 1) := by decide +kernel
theorem dX0_addShelf_5 : decode cX0_addShelf 5 = .ok (.if_icmp .lt 5, 3) := by decide +kernel
theorem dX0_addShelf_8 : decode cX0_addShelf 8 = .ok (.iconst 0, 1) := by decide +kernel
theorem dX0_addShelf_9 : decode cX0_addShelf 9 = .ok (.ireturn, 1) := by decide +kernel
theorem dX0_addShelf_10 : decode cX0_addShelf 10 = .ok (.aload_n 0, 1) := by decide +kernel
theorem dX0_addShelf_11 : decode cX0_addShelf 11 = .ok (.getfield 11, 3) := by decide +kernel
theorem dX0_addShelf_14 : decode cX0_addShelf 14 = .ok (.aload_n 0, 1) := by decide +kernel
theorem dX0_addShelf_15 : decode cX0_addShelf 15 = .ok (.getfield 29, 3) := by decide +kernel
theorem dX0_addShelf_18 : decode cX0_addShelf 18 = .ok (.aaload, 1) := by decide +kernel
theorem dX0_addShelf_19 : decode cX0_addShelf 19 = .ok (.iload_n 1, 1) := by decide +kernel
theorem dX0_addShelf_20 : decode cX0_addShelf 20 = .ok (.invokevirtual 48, 3) := by decide +kernel
theorem dX0_addShelf_23 : decode cX0_addShelf 23 = .ok (.aload_n 0, 1) := by decide +kernel
theorem dX0_addShelf_24 : decode cX0_addShelf 24 = .ok (.dup, 1) := by decide +kernel
theorem dX0_addShelf_25 : decode cX0_addShelf 25 = .ok (.getfield 29, 3) := by decide +kernel
theorem dX0_addShelf_28 : decode cX0_addShelf 28 = .ok (.iconst 1, 1) := by decide +kernel
theorem dX0_addShelf_29 : decode cX0_addShelf 29 = .ok (.iadd, 1) := by decide +kernel
theorem dX0_addShelf_30 : decode cX0_addShelf 30 = .ok (.putfield 29, 3) := by decide +kernel
theorem dX0_addShelf_33 : decode cX0_addShelf 33 = .ok (.iconst 1, 1) := by decide +kernel
theorem dX0_addShelf_34 : decode cX0_addShelf 34 = .ok (.ireturn, 1) := by decide +kernel
theorem dX0_addWant_0 : decode cX0_addWant 0 = .ok (.aload_n 0, 1) := by decide +kernel
theorem dX0_addWant_1 : decode cX0_addWant 1 = .ok (.getfield 32, 3) := by decide +kernel
theorem dX0_addWant_4 : decode cX0_addWant 4 = .ok (.bipush 16, 2) := by decide +kernel
theorem dX0_addWant_6 : decode cX0_addWant 6 = .ok (.if_icmp .lt 5, 3) := by decide +kernel
theorem dX0_addWant_9 : decode cX0_addWant 9 = .ok (.iconst 0, 1) := by decide +kernel
theorem dX0_addWant_10 : decode cX0_addWant 10 = .ok (.ireturn, 1) := by decide +kernel
theorem dX0_addWant_11 : decode cX0_addWant 11 = .ok (.aload_n 0, 1) := by decide +kernel
theorem dX0_addWant_12 : decode cX0_addWant 12 = .ok (.getfield 17, 3) := by decide +kernel
theorem dX0_addWant_15 : decode cX0_addWant 15 = .ok (.aload_n 0, 1) := by decide +kernel
theorem dX0_addWant_16 : decode cX0_addWant 16 = .ok (.getfield 32, 3) := by decide +kernel
theorem dX0_addWant_19 : decode cX0_addWant 19 = .ok (.iload_n 1, 1) := by decide +kernel
theorem dX0_addWant_20 : decode cX0_addWant 20 = .ok (.iastore, 1) := by decide +kernel
theorem dX0_addWant_21 : decode cX0_addWant 21 = .ok (.aload_n 0, 1) := by decide +kernel
theorem dX0_addWant_22 : decode cX0_addWant 22 = .ok (.dup, 1) := by decide +kernel
theorem dX0_addWant_23 : decode cX0_addWant 23 = .ok (.getfield 32, 3) := by decide +kernel
theorem dX0_addWant_26 : decode cX0_addWant 26 = .ok (.iconst 1, 1) := by decide +kernel
theorem dX0_addWant_27 : decode cX0_addWant 27 = .ok (.iadd, 1) := by decide +kernel
theorem dX0_addWant_28 : decode cX0_addWant 28 = .ok (.putfield 32, 3) := by decide +kernel
theorem dX0_addWant_31 : decode cX0_addWant 31 = .ok (.iconst 1, 1) := by decide +kernel
theorem dX0_addWant_32 : decode cX0_addWant 32 = .ok (.ireturn, 1) := by decide +kernel
theorem dX0_wantsNoSuchBook_0 : decode cX0_wantsNoSuchBook 0 = .ok (.iconst 0, 1) := by decide +kernel
theorem dX0_wantsNoSuchBook_1 : decode cX0_wantsNoSuchBook 1 = .ok (.istore_n 1, 1) := by decide +kernel
theorem dX0_wantsNoSuchBook_2 : decode cX0_wantsNoSuchBook 2 = .ok (.iload_n 1, 1) := by decide +kernel
theorem dX0_wantsNoSuchBook_3 : decode cX0_wantsNoSuchBook 3 = .ok (.aload_n 0, 1) := by decide +kernel
theorem dX0_wantsNoSuchBook_4 : decode cX0_wantsNoSuchBook 4 = .ok (.getfield 32, 3) := by decide +kernel
theorem dX0_wantsNoSuchBook_7 : decode cX0_wantsNoSuchBook 7 = .ok (.if_icmp .ge 24, 3) := by decide +kernel
theorem dX0_wantsNoSuchBook_10 : decode cX0_wantsNoSuchBook 10 = .ok (.aload_n 0, 1) := by decide +kernel
theorem dX0_wantsNoSuchBook_11 : decode cX0_wantsNoSuchBook 11 = .ok (.aload_n 0, 1) := by decide +kernel
theorem dX0_wantsNoSuchBook_12 : decode cX0_wantsNoSuchBook 12 = .ok (.getfield 17, 3) := by decide +kernel
theorem dX0_wantsNoSuchBook_15 : decode cX0_wantsNoSuchBook 15 = .ok (.iload_n 1, 1) := by decide +kernel
theorem dX0_wantsNoSuchBook_16 : decode cX0_wantsNoSuchBook 16 = .ok (.iaload, 1) := by decide +kernel
theorem dX0_wantsNoSuchBook_17 : decode cX0_wantsNoSuchBook 17 = .ok (.invokevirtual 52, 3) := by decide +kernel
theorem dX0_wantsNoSuchBook_20 : decode cX0_wantsNoSuchBook 20 = .ok (.ifCond .ne 5, 3) := by decide +kernel
theorem dX0_wantsNoSuchBook_23 : decode cX0_wantsNoSuchBook 23 = .ok (.iconst 1, 1) := by decide +kernel
theorem dX0_wantsNoSuchBook_24 : decode cX0_wantsNoSuchBook 24 = .ok (.ireturn, 1) := by decide +kernel
theorem dX0_wantsNoSuchBook_25 : decode cX0_wantsNoSuchBook 25 = .ok (.iinc 1 1, 3) := by decide +kernel
theorem dX0_wantsNoSuchBook_28 : decode cX0_wantsNoSuchBook 28 = .ok (.goto (-26), 3) := by decide +kernel
theorem dX0_wantsNoSuchBook_31 : decode cX0_wantsNoSuchBook 31 = .ok (.iconst 0, 1) := by decide +kernel
theorem dX0_wantsNoSuchBook_32 : decode cX0_wantsNoSuchBook 32 = .ok (.ireturn, 1) := by decide +kernel
theorem dX0_turn_0 : decode cX0_turn 0 = .ok (.aload_n 0, 1) := by decide +kernel
theorem dX0_turn_1 : decode cX0_turn 1 = .ok (.getfield 32, 3) := by decide +kernel
theorem dX0_turn_4 : decode cX0_turn 4 = .ok (.ifCond .le 17, 3) := by decide +kernel
theorem dX0_turn_7 : decode cX0_turn 7 = .ok (.aload_n 0, 1) := by decide +kernel
theorem dX0_turn_8 : decode cX0_turn 8 = .ok (.getfield 35, 3) := by decide +kernel
theorem dX0_turn_11 : decode cX0_turn 11 = .ok (.iload_n 1, 1) := by decide +kernel
theorem dX0_turn_12 : decode cX0_turn 12 = .ok (.iadd, 1) := by decide +kernel
theorem dX0_turn_13 : decode cX0_turn 13 = .ok (.aload_n 0, 1) := by decide +kernel
theorem dX0_turn_14 : decode cX0_turn 14 = .ok (.getfield 32, 3) := by decide +kernel
theorem dX0_turn_17 : decode cX0_turn 17 = .ok (.irem, 1) := by decide +kernel
theorem dX0_turn_18 : decode cX0_turn 18 = .ok (.goto 5, 3) := by decide +kernel
theorem dX0_turn_21 : decode cX0_turn 21 = .ok (.bipush (-4), 2) := by decide +kernel
theorem dX0_turn_23 : decode cX0_turn 23 = .ok (.ireturn, 1) := by decide +kernel
theorem dX0_serveAll_0 : decode cX0_serveAll 0 = .ok (.iconst 0, 1) := by decide +kernel
theorem dX0_serveAll_1 : decode cX0_serveAll 1 = .ok (.istore_n 2, 1) := by decide +kernel
theorem dX0_serveAll_2 : decode cX0_serveAll 2 = .ok (.iconst 0, 1) := by decide +kernel
theorem dX0_serveAll_3 : decode cX0_serveAll 3 = .ok (.istore_n 3, 1) := by decide +kernel
theorem dX0_serveAll_4 : decode cX0_serveAll 4 = .ok (.iload_n 3, 1) := by decide +kernel
theorem dX0_serveAll_5 : decode cX0_serveAll 5 = .ok (.aload_n 0, 1) := by decide +kernel
theorem dX0_serveAll_6 : decode cX0_serveAll 6 = .ok (.getfield 29, 3) := by decide +kernel
theorem dX0_serveAll_9 : decode cX0_serveAll 9 = .ok (.if_icmp .ge 22, 3) := by decide +kernel
theorem dX0_serveAll_12 : decode cX0_serveAll 12 = .ok (.iload_n 2, 1) := by decide +kernel
theorem dX0_serveAll_13 : decode cX0_serveAll 13 = .ok (.aload_n 0, 1) := by decide +kernel
theorem dX0_serveAll_14 : decode cX0_serveAll 14 = .ok (.getfield 11, 3) := by decide +kernel
theorem dX0_serveAll_17 : decode cX0_serveAll 17 = .ok (.iload_n 3, 1) := by decide +kernel
theorem dX0_serveAll_18 : decode cX0_serveAll 18 = .ok (.aaload, 1) := by decide +kernel
theorem dX0_serveAll_19 : decode cX0_serveAll 19 = .ok (.iload_n 1, 1) := by decide +kernel
theorem dX0_serveAll_20 : decode cX0_serveAll 20 = .ok (.invokevirtual 56, 3) := by decide +kernel
theorem dX0_serveAll_23 : decode cX0_serveAll 23 = .ok (.iadd, 1) := by decide +kernel
theorem dX0_serveAll_24 : decode cX0_serveAll 24 = .ok (.istore_n 2, 1) := by decide +kernel
theorem dX0_serveAll_25 : decode cX0_serveAll 25 = .ok (.iinc 3 1, 3) := by decide +kernel
theorem dX0_serveAll_28 : decode cX0_serveAll 28 = .ok (.goto (-24), 3) := by decide +kernel
theorem dX0_serveAll_31 : decode cX0_serveAll 31 = .ok (.iload_n 2, 1) := by decide +kernel
theorem dX0_serveAll_32 : decode cX0_serveAll 32 = .ok (.ireturn, 1) := by decide +kernel
theorem dX0_stepOn_0 : decode cX0_stepOn 0 = .ok (.aload_n 0, 1) := by decide +kernel
theorem dX0_stepOn_1 : decode cX0_stepOn 1 = .ok (.iconst 0, 1) := by decide +kernel
theorem dX0_stepOn_2 : decode cX0_stepOn 2 = .ok (.invokevirtual 60, 3) := by decide +kernel
theorem dX0_stepOn_5 : decode cX0_stepOn 5 = .ok (.istore_n 1, 1) := by decide +kernel
theorem dX0_stepOn_6 : decode cX0_stepOn 6 = .ok (.aload_n 0, 1) := by decide +kernel
theorem dX0_stepOn_7 : decode cX0_stepOn 7 = .ok (.dup, 1) := by decide +kernel
theorem dX0_stepOn_8 : decode cX0_stepOn 8 = .ok (.getfield 35, 3) := by decide +kernel
theorem dX0_stepOn_11 : decode cX0_stepOn 11 = .ok (.iconst 1, 1) := by decide +kernel
theorem dX0_stepOn_12 : decode cX0_stepOn 12 = .ok (.iadd, 1) := by decide +kernel
theorem dX0_stepOn_13 : decode cX0_stepOn 13 = .ok (.putfield 35, 3) := by decide +kernel
theorem dX0_stepOn_16 : decode cX0_stepOn 16 = .ok (.iload_n 1, 1) := by decide +kernel
theorem dX0_stepOn_17 : decode cX0_stepOn 17 = .ok (.ifCond .lt 12, 3) := by decide +kernel
theorem dX0_stepOn_20 : decode cX0_stepOn 20 = .ok (.aload_n 0, 1) := by decide +kernel
theorem dX0_stepOn_21 : decode cX0_stepOn 21 = .ok (.getfield 17, 3) := by decide +kernel
theorem dX0_stepOn_24 : decode cX0_stepOn 24 = .ok (.iload_n 1, 1) := by decide +kernel
theorem dX0_stepOn_25 : decode cX0_stepOn 25 = .ok (.iaload, 1) := by decide +kernel
theorem dX0_stepOn_26 : decode cX0_stepOn 26 = .ok (.ifCond .ge 7, 3) := by decide +kernel
theorem dX0_stepOn_29 : decode cX0_stepOn 29 = .ok (.iconst 0, 1) := by decide +kernel
theorem dX0_stepOn_30 : decode cX0_stepOn 30 = .ok (.goto 13, 3) := by decide +kernel
theorem dX0_stepOn_33 : decode cX0_stepOn 33 = .ok (.aload_n 0, 1) := by decide +kernel
theorem dX0_stepOn_34 : decode cX0_stepOn 34 = .ok (.aload_n 0, 1) := by decide +kernel
theorem dX0_stepOn_35 : decode cX0_stepOn 35 = .ok (.getfield 17, 3) := by decide +kernel
theorem dX0_stepOn_38 : decode cX0_stepOn 38 = .ok (.iload_n 1, 1) := by decide +kernel
theorem dX0_stepOn_39 : decode cX0_stepOn 39 = .ok (.iaload, 1) := by decide +kernel
theorem dX0_stepOn_40 : decode cX0_stepOn 40 = .ok (.invokevirtual 63, 3) := by decide +kernel
theorem dX0_stepOn_43 : decode cX0_stepOn 43 = .ok (.ireturn, 1) := by decide +kernel
theorem dX0_serveTurn_0 : decode cX0_serveTurn 0 = .ok (.aload_n 0, 1) := by decide +kernel
theorem dX0_serveTurn_1 : decode cX0_serveTurn 1 = .ok (.iload_n 2, 1) := by decide +kernel
theorem dX0_serveTurn_2 : decode cX0_serveTurn 2 = .ok (.invokevirtual 60, 3) := by decide +kernel
theorem dX0_serveTurn_5 : decode cX0_serveTurn 5 = .ok (.istore_n 3, 1) := by decide +kernel
theorem dX0_serveTurn_6 : decode cX0_serveTurn 6 = .ok (.iload_n 3, 1) := by decide +kernel
theorem dX0_serveTurn_7 : decode cX0_serveTurn 7 = .ok (.ifCond .lt 12, 3) := by decide +kernel
theorem dX0_serveTurn_10 : decode cX0_serveTurn 10 = .ok (.aload_n 0, 1) := by decide +kernel
theorem dX0_serveTurn_11 : decode cX0_serveTurn 11 = .ok (.getfield 17, 3) := by decide +kernel
theorem dX0_serveTurn_14 : decode cX0_serveTurn 14 = .ok (.iload_n 3, 1) := by decide +kernel
theorem dX0_serveTurn_15 : decode cX0_serveTurn 15 = .ok (.iaload, 1) := by decide +kernel
theorem dX0_serveTurn_16 : decode cX0_serveTurn 16 = .ok (.ifCond .ge 7, 3) := by decide +kernel
theorem dX0_serveTurn_19 : decode cX0_serveTurn 19 = .ok (.iconst 0, 1) := by decide +kernel
theorem dX0_serveTurn_20 : decode cX0_serveTurn 20 = .ok (.goto 18, 3) := by decide +kernel
theorem dX0_serveTurn_23 : decode cX0_serveTurn 23 = .ok (.aload_n 0, 1) := by decide +kernel
theorem dX0_serveTurn_24 : decode cX0_serveTurn 24 = .ok (.getfield 11, 3) := by decide +kernel
theorem dX0_serveTurn_27 : decode cX0_serveTurn 27 = .ok (.iload_n 1, 1) := by decide +kernel
theorem dX0_serveTurn_28 : decode cX0_serveTurn 28 = .ok (.aaload, 1) := by decide +kernel
theorem dX0_serveTurn_29 : decode cX0_serveTurn 29 = .ok (.aload_n 0, 1) := by decide +kernel
theorem dX0_serveTurn_30 : decode cX0_serveTurn 30 = .ok (.getfield 17, 3) := by decide +kernel
theorem dX0_serveTurn_33 : decode cX0_serveTurn 33 = .ok (.iload_n 3, 1) := by decide +kernel
theorem dX0_serveTurn_34 : decode cX0_serveTurn 34 = .ok (.iaload, 1) := by decide +kernel
theorem dX0_serveTurn_35 : decode cX0_serveTurn 35 = .ok (.invokevirtual 56, 3) := by decide +kernel
theorem dX0_serveTurn_38 : decode cX0_serveTurn 38 = .ok (.ireturn, 1) := by decide +kernel
theorem dX0_paidBy_0 : decode cX0_paidBy 0 = .ok (.iconst 0, 1) := by decide +kernel
theorem dX0_paidBy_1 : decode cX0_paidBy 1 = .ok (.istore 4, 2) := by decide +kernel
theorem dX0_paidBy_3 : decode cX0_paidBy 3 = .ok (.iconst 0, 1) := by decide +kernel
theorem dX0_paidBy_4 : decode cX0_paidBy 4 = .ok (.istore 5, 2) := by decide +kernel
theorem dX0_paidBy_6 : decode cX0_paidBy 6 = .ok (.iload 5, 2) := by decide +kernel
theorem dX0_paidBy_8 : decode cX0_paidBy 8 = .ok (.iload_n 2, 1) := by decide +kernel
theorem dX0_paidBy_9 : decode cX0_paidBy 9 = .ok (.if_icmp .ge 27, 3) := by decide +kernel
theorem dX0_paidBy_12 : decode cX0_paidBy 12 = .ok (.iload 4, 2) := by decide +kernel
theorem dX0_paidBy_14 : decode cX0_paidBy 14 = .ok (.iload_n 3, 1) := by decide +kernel
theorem dX0_paidBy_15 : decode cX0_paidBy 15 = .ok (.if_icmp .ge 21, 3) := by decide +kernel
theorem dX0_paidBy_18 : decode cX0_paidBy 18 = .ok (.iload 4, 2) := by decide +kernel
theorem dX0_paidBy_20 : decode cX0_paidBy 20 = .ok (.aload_n 0, 1) := by decide +kernel
theorem dX0_paidBy_21 : decode cX0_paidBy 21 = .ok (.iload_n 1, 1) := by decide +kernel
theorem dX0_paidBy_22 : decode cX0_paidBy 22 = .ok (.iload 5, 2) := by decide +kernel
theorem dX0_paidBy_24 : decode cX0_paidBy 24 = .ok (.invokevirtual 66, 3) := by decide +kernel
theorem dX0_paidBy_27 : decode cX0_paidBy 27 = .ok (.iadd, 1) := by decide +kernel
theorem dX0_paidBy_28 : decode cX0_paidBy 28 = .ok (.istore 4, 2) := by decide +kernel
theorem dX0_paidBy_30 : decode cX0_paidBy 30 = .ok (.iinc 5 1, 3) := by decide +kernel
theorem dX0_paidBy_33 : decode cX0_paidBy 33 = .ok (.goto (-27), 3) := by decide +kernel
theorem dX0_paidBy_36 : decode cX0_paidBy 36 = .ok (.iload 4, 2) := by decide +kernel
theorem dX0_paidBy_38 : decode cX0_paidBy 38 = .ok (.ireturn, 1) := by decide +kernel
theorem dX0_paidByAll_0 : decode cX0_paidByAll 0 = .ok (.iconst 0, 1) := by decide +kernel
theorem dX0_paidByAll_1 : decode cX0_paidByAll 1 = .ok (.istore_n 3, 1) := by decide +kernel
theorem dX0_paidByAll_2 : decode cX0_paidByAll 2 = .ok (.iconst 0, 1) := by decide +kernel
theorem dX0_paidByAll_3 : decode cX0_paidByAll 3 = .ok (.istore 4, 2) := by decide +kernel
theorem dX0_paidByAll_5 : decode cX0_paidByAll 5 = .ok (.iload 4, 2) := by decide +kernel
theorem dX0_paidByAll_7 : decode cX0_paidByAll 7 = .ok (.aload_n 0, 1) := by decide +kernel
theorem dX0_paidByAll_8 : decode cX0_paidByAll 8 = .ok (.getfield 29, 3) := by decide +kernel
theorem dX0_paidByAll_11 : decode cX0_paidByAll 11 = .ok (.if_icmp .ge 27, 3) := by decide +kernel
theorem dX0_paidByAll_14 : decode cX0_paidByAll 14 = .ok (.iload_n 3, 1) := by decide +kernel
theorem dX0_paidByAll_15 : decode cX0_paidByAll 15 = .ok (.iload_n 2, 1) := by decide +kernel
theorem dX0_paidByAll_16 : decode cX0_paidByAll 16 = .ok (.if_icmp .ge 22, 3) := by decide +kernel
theorem dX0_paidByAll_19 : decode cX0_paidByAll 19 = .ok (.iload_n 3, 1) := by decide +kernel
theorem dX0_paidByAll_20 : decode cX0_paidByAll 20 = .ok (.aload_n 0, 1) := by decide +kernel
theorem dX0_paidByAll_21 : decode cX0_paidByAll 21 = .ok (.iload 4, 2) := by decide +kernel
theorem dX0_paidByAll_23 : decode cX0_paidByAll 23 = .ok (.iload_n 1, 1) := by decide +kernel
theorem dX0_paidByAll_24 : decode cX0_paidByAll 24 = .ok (.iload_n 2, 1) := by decide +kernel
theorem dX0_paidByAll_25 : decode cX0_paidByAll 25 = .ok (.iload_n 3, 1) := by decide +kernel
theorem dX0_paidByAll_26 : decode cX0_paidByAll 26 = .ok (.isub, 1) := by decide +kernel
theorem dX0_paidByAll_27 : decode cX0_paidByAll 27 = .ok (.invokevirtual 70, 3) := by decide +kernel
theorem dX0_paidByAll_30 : decode cX0_paidByAll 30 = .ok (.iadd, 1) := by decide +kernel
theorem dX0_paidByAll_31 : decode cX0_paidByAll 31 = .ok (.istore_n 3, 1) := by decide +kernel
theorem dX0_paidByAll_32 : decode cX0_paidByAll 32 = .ok (.iinc 4 1, 3) := by decide +kernel
theorem dX0_paidByAll_35 : decode cX0_paidByAll 35 = .ok (.goto (-30), 3) := by decide +kernel
theorem dX0_paidByAll_38 : decode cX0_paidByAll 38 = .ok (.iload_n 3, 1) := by decide +kernel
theorem dX0_paidByAll_39 : decode cX0_paidByAll 39 = .ok (.ireturn, 1) := by decide +kernel
theorem dX0_paidWithout_0 : decode cX0_paidWithout 0 = .ok (.iconst 0, 1) := by decide +kernel
theorem dX0_paidWithout_1 : decode cX0_paidWithout 1 = .ok (.istore 4, 2) := by decide +kernel
theorem dX0_paidWithout_3 : decode cX0_paidWithout 3 = .ok (.iconst 0, 1) := by decide +kernel
theorem dX0_paidWithout_4 : decode cX0_paidWithout 4 = .ok (.istore 5, 2) := by decide +kernel
theorem dX0_paidWithout_6 : decode cX0_paidWithout 6 = .ok (.iload 5, 2) := by decide +kernel
theorem dX0_paidWithout_8 : decode cX0_paidWithout 8 = .ok (.iload_n 3, 1) := by decide +kernel
theorem dX0_paidWithout_9 : decode cX0_paidWithout 9 = .ok (.if_icmp .ge 30, 3) := by decide +kernel
theorem dX0_paidWithout_12 : decode cX0_paidWithout 12 = .ok (.iload_n 1, 1) := by decide +kernel
theorem dX0_paidWithout_13 : decode cX0_paidWithout 13 = .ok (.iload 5, 2) := by decide +kernel
theorem dX0_paidWithout_15 : decode cX0_paidWithout 15 = .ok (.ishr, 1) := by decide +kernel
theorem dX0_paidWithout_16 : decode cX0_paidWithout 16 = .ok (.iconst 1, 1) := by decide +kernel
theorem dX0_paidWithout_17 : decode cX0_paidWithout 17 = .ok (.iand, 1) := by decide +kernel
theorem dX0_paidWithout_18 : decode cX0_paidWithout 18 = .ok (.ifCond .ne 15, 3) := by decide +kernel
theorem dX0_paidWithout_21 : decode cX0_paidWithout 21 = .ok (.iload 4, 2) := by decide +kernel
theorem dX0_paidWithout_23 : decode cX0_paidWithout 23 = .ok (.aload_n 0, 1) := by decide +kernel
theorem dX0_paidWithout_24 : decode cX0_paidWithout 24 = .ok (.iload_n 2, 1) := by decide +kernel
theorem dX0_paidWithout_25 : decode cX0_paidWithout 25 = .ok (.iload 5, 2) := by decide +kernel
theorem dX0_paidWithout_27 : decode cX0_paidWithout 27 = .ok (.invokevirtual 66, 3) := by decide +kernel
theorem dX0_paidWithout_30 : decode cX0_paidWithout 30 = .ok (.iadd, 1) := by decide +kernel
theorem dX0_paidWithout_31 : decode cX0_paidWithout 31 = .ok (.istore 4, 2) := by decide +kernel
theorem dX0_paidWithout_33 : decode cX0_paidWithout 33 = .ok (.iinc 5 1, 3) := by decide +kernel
theorem dX0_paidWithout_36 : decode cX0_paidWithout 36 = .ok (.goto (-30), 3) := by decide +kernel
theorem dX0_paidWithout_39 : decode cX0_paidWithout 39 = .ok (.iload 4, 2) := by decide +kernel
theorem dX0_paidWithout_41 : decode cX0_paidWithout 41 = .ok (.ireturn, 1) := by decide +kernel
theorem dX0_dearestPay_0 : decode cX0_dearestPay 0 = .ok (.iconst 0, 1) := by decide +kernel
theorem dX0_dearestPay_1 : decode cX0_dearestPay 1 = .ok (.istore_n 2, 1) := by decide +kernel
theorem dX0_dearestPay_2 : decode cX0_dearestPay 2 = .ok (.iconst 0, 1) := by decide +kernel
theorem dX0_dearestPay_3 : decode cX0_dearestPay 3 = .ok (.istore_n 3, 1) := by decide +kernel
theorem dX0_dearestPay_4 : decode cX0_dearestPay 4 = .ok (.iload_n 3, 1) := by decide +kernel
theorem dX0_dearestPay_5 : decode cX0_dearestPay 5 = .ok (.aload_n 0, 1) := by decide +kernel
theorem dX0_dearestPay_6 : decode cX0_dearestPay 6 = .ok (.getfield 29, 3) := by decide +kernel
theorem dX0_dearestPay_9 : decode cX0_dearestPay 9 = .ok (.if_icmp .ge 36, 3) := by decide +kernel
theorem dX0_dearestPay_12 : decode cX0_dearestPay 12 = .ok (.iconst 0, 1) := by decide +kernel
theorem dX0_dearestPay_13 : decode cX0_dearestPay 13 = .ok (.istore 4, 2) := by decide +kernel
theorem dX0_dearestPay_15 : decode cX0_dearestPay 15 = .ok (.iload 4, 2) := by decide +kernel
theorem dX0_dearestPay_17 : decode cX0_dearestPay 17 = .ok (.iload_n 1, 1) := by decide +kernel
theorem dX0_dearestPay_18 : decode cX0_dearestPay 18 = .ok (.if_icmp .ge 21, 3) := by decide +kernel
theorem dX0_dearestPay_21 : decode cX0_dearestPay 21 = .ok (.iload_n 2, 1) := by decide +kernel
theorem dX0_dearestPay_22 : decode cX0_dearestPay 22 = .ok (.aload_n 0, 1) := by decide +kernel
theorem dX0_dearestPay_23 : decode cX0_dearestPay 23 = .ok (.iload_n 3, 1) := by decide +kernel
theorem dX0_dearestPay_24 : decode cX0_dearestPay 24 = .ok (.iload 4, 2) := by decide +kernel
theorem dX0_dearestPay_26 : decode cX0_dearestPay 26 = .ok (.invokevirtual 66, 3) := by decide +kernel
theorem dX0_dearestPay_29 : decode cX0_dearestPay 29 = .ok (.invokestatic 74, 3) := by decide +kernel
theorem dX0_dearestPay_32 : decode cX0_dearestPay 32 = .ok (.istore_n 2, 1) := by decide +kernel
theorem dX0_dearestPay_33 : decode cX0_dearestPay 33 = .ok (.iinc 4 1, 3) := by decide +kernel
theorem dX0_dearestPay_36 : decode cX0_dearestPay 36 = .ok (.goto (-21), 3) := by decide +kernel
theorem dX0_dearestPay_39 : decode cX0_dearestPay 39 = .ok (.iinc 3 1, 3) := by decide +kernel
theorem dX0_dearestPay_42 : decode cX0_dearestPay 42 = .ok (.goto (-38), 3) := by decide +kernel
theorem dX0_dearestPay_45 : decode cX0_dearestPay 45 = .ok (.iload_n 2, 1) := by decide +kernel
theorem dX0_dearestPay_46 : decode cX0_dearestPay 46 = .ok (.ireturn, 1) := by decide +kernel
theorem dX0_movesIn_0 : decode cX0_movesIn 0 = .ok (.iconst 0, 1) := by decide +kernel
theorem dX0_movesIn_1 : decode cX0_movesIn 1 = .ok (.istore_n 2, 1) := by decide +kernel
theorem dX0_movesIn_2 : decode cX0_movesIn 2 = .ok (.iconst 0, 1) := by decide +kernel
theorem dX0_movesIn_3 : decode cX0_movesIn 3 = .ok (.istore_n 3, 1) := by decide +kernel
theorem dX0_movesIn_4 : decode cX0_movesIn 4 = .ok (.iload_n 3, 1) := by decide +kernel
theorem dX0_movesIn_5 : decode cX0_movesIn 5 = .ok (.aload_n 0, 1) := by decide +kernel
theorem dX0_movesIn_6 : decode cX0_movesIn 6 = .ok (.getfield 29, 3) := by decide +kernel
theorem dX0_movesIn_9 : decode cX0_movesIn 9 = .ok (.if_icmp .ge 93, 3) := by decide +kernel
theorem dX0_movesIn_12 : decode cX0_movesIn 12 = .ok (.iconst 0, 1) := by decide +kernel
theorem dX0_movesIn_13 : decode cX0_movesIn 13 = .ok (.istore 4, 2) := by decide +kernel
theorem dX0_movesIn_15 : decode cX0_movesIn 15 = .ok (.iload 4, 2) := by decide +kernel
theorem dX0_movesIn_17 : decode cX0_movesIn 17 = .ok (.iload_n 1, 1) := by decide +kernel
theorem dX0_movesIn_18 : decode cX0_movesIn 18 = .ok (.if_icmp .ge 78, 3) := by decide +kernel
theorem dX0_movesIn_21 : decode cX0_movesIn 21 = .ok (.aload_n 0, 1) := by decide +kernel
theorem dX0_movesIn_22 : decode cX0_movesIn 22 = .ok (.getfield 32, 3) := by decide +kernel
theorem dX0_movesIn_25 : decode cX0_movesIn 25 = .ok (.ifCond .le 71, 3) := by decide +kernel
theorem dX0_movesIn_28 : decode cX0_movesIn 28 = .ok (.aload_n 0, 1) := by decide +kernel
theorem dX0_movesIn_29 : decode cX0_movesIn 29 = .ok (.getfield 17, 3) := by decide +kernel
theorem dX0_movesIn_32 : decode cX0_movesIn 32 = .ok (.aload_n 0, 1) := by decide +kernel
theorem dX0_movesIn_33 : decode cX0_movesIn 33 = .ok (.iload 4, 2) := by decide +kernel
theorem dX0_movesIn_35 : decode cX0_movesIn 35 = .ok (.invokevirtual 60, 3) := by decide +kernel
theorem dX0_movesIn_38 : decode cX0_movesIn 38 = .ok (.iaload, 1) := by decide +kernel
theorem dX0_movesIn_39 : decode cX0_movesIn 39 = .ok (.istore 5, 2) := by decide +kernel
theorem dX0_movesIn_41 : decode cX0_movesIn 41 = .ok (.aload_n 0, 1) := by decide +kernel
theorem dX0_movesIn_42 : decode cX0_movesIn 42 = .ok (.getfield 11, 3) := by decide +kernel
theorem dX0_movesIn_45 : decode cX0_movesIn 45 = .ok (.iload_n 3, 1) := by decide +kernel
theorem dX0_movesIn_46 : decode cX0_movesIn 46 = .ok (.aaload, 1) := by decide +kernel
theorem dX0_movesIn_47 : decode cX0_movesIn 47 = .ok (.iload 5, 2) := by decide +kernel
theorem dX0_movesIn_49 : decode cX0_movesIn 49 = .ok (.invokevirtual 79, 3) := by decide +kernel
theorem dX0_movesIn_52 : decode cX0_movesIn 52 = .ok (.istore 6, 2) := by decide +kernel
theorem dX0_movesIn_54 : decode cX0_movesIn 54 = .ok (.aload_n 0, 1) := by decide +kernel
theorem dX0_movesIn_55 : decode cX0_movesIn 55 = .ok (.getfield 11, 3) := by decide +kernel
theorem dX0_movesIn_58 : decode cX0_movesIn 58 = .ok (.iload_n 3, 1) := by decide +kernel
theorem dX0_movesIn_59 : decode cX0_movesIn 59 = .ok (.aaload, 1) := by decide +kernel
theorem dX0_movesIn_60 : decode cX0_movesIn 60 = .ok (.iload 5, 2) := by decide +kernel
theorem dX0_movesIn_62 : decode cX0_movesIn 62 = .ok (.invokevirtual 56, 3) := by decide +kernel
theorem dX0_movesIn_65 : decode cX0_movesIn 65 = .ok (.pop, 1) := by decide +kernel
theorem dX0_movesIn_66 : decode cX0_movesIn 66 = .ok (.iload_n 2, 1) := by decide +kernel
theorem dX0_movesIn_67 : decode cX0_movesIn 67 = .ok (.aload_n 0, 1) := by decide +kernel
theorem dX0_movesIn_68 : decode cX0_movesIn 68 = .ok (.getfield 11, 3) := by decide +kernel
theorem dX0_movesIn_71 : decode cX0_movesIn 71 = .ok (.iload_n 3, 1) := by decide +kernel
theorem dX0_movesIn_72 : decode cX0_movesIn 72 = .ok (.aaload, 1) := by decide +kernel
theorem dX0_movesIn_73 : decode cX0_movesIn 73 = .ok (.iload 5, 2) := by decide +kernel
theorem dX0_movesIn_75 : decode cX0_movesIn 75 = .ok (.invokevirtual 79, 3) := by decide +kernel
theorem dX0_movesIn_78 : decode cX0_movesIn 78 = .ok (.iload 6, 2) := by decide +kernel
theorem dX0_movesIn_80 : decode cX0_movesIn 80 = .ok (.if_icmp .ne 7, 3) := by decide +kernel
theorem dX0_movesIn_83 : decode cX0_movesIn 83 = .ok (.iconst 0, 1) := by decide +kernel
theorem dX0_movesIn_84 : decode cX0_movesIn 84 = .ok (.goto 4, 3) := by decide +kernel
theorem dX0_movesIn_87 : decode cX0_movesIn 87 = .ok (.iconst 1, 1) := by decide +kernel
theorem dX0_movesIn_88 : decode cX0_movesIn 88 = .ok (.iadd, 1) := by decide +kernel
theorem dX0_movesIn_89 : decode cX0_movesIn 89 = .ok (.istore_n 2, 1) := by decide +kernel
theorem dX0_movesIn_90 : decode cX0_movesIn 90 = .ok (.iinc 4 1, 3) := by decide +kernel
theorem dX0_movesIn_93 : decode cX0_movesIn 93 = .ok (.goto (-78), 3) := by decide +kernel
theorem dX0_movesIn_96 : decode cX0_movesIn 96 = .ok (.iinc 3 1, 3) := by decide +kernel
theorem dX0_movesIn_99 : decode cX0_movesIn 99 = .ok (.goto (-95), 3) := by decide +kernel
theorem dX0_movesIn_102 : decode cX0_movesIn 102 = .ok (.iload_n 2, 1) := by decide +kernel
theorem dX0_movesIn_103 : decode cX0_movesIn 103 = .ok (.ireturn, 1) := by decide +kernel
theorem dX0_standsAs_0 : decode cX0_standsAs 0 = .ok (.iconst 0, 1) := by decide +kernel
theorem dX0_standsAs_1 : decode cX0_standsAs 1 = .ok (.istore_n 2, 1) := by decide +kernel
theorem dX0_standsAs_2 : decode cX0_standsAs 2 = .ok (.iload_n 2, 1) := by decide +kernel
theorem dX0_standsAs_3 : decode cX0_standsAs 3 = .ok (.aload_n 0, 1) := by decide +kernel
theorem dX0_standsAs_4 : decode cX0_standsAs 4 = .ok (.getfield 29, 3) := by decide +kernel
theorem dX0_standsAs_7 : decode cX0_standsAs 7 = .ok (.if_icmp .ge 29, 3) := by decide +kernel
theorem dX0_standsAs_10 : decode cX0_standsAs 10 = .ok (.aload_n 0, 1) := by decide +kernel
theorem dX0_standsAs_11 : decode cX0_standsAs 11 = .ok (.getfield 11, 3) := by decide +kernel
theorem dX0_standsAs_14 : decode cX0_standsAs 14 = .ok (.iload_n 2, 1) := by decide +kernel
theorem dX0_standsAs_15 : decode cX0_standsAs 15 = .ok (.aaload, 1) := by decide +kernel
theorem dX0_standsAs_16 : decode cX0_standsAs 16 = .ok (.aload_n 1, 1) := by decide +kernel
theorem dX0_standsAs_17 : decode cX0_standsAs 17 = .ok (.getfield 11, 3) := by decide +kernel
theorem dX0_standsAs_20 : decode cX0_standsAs 20 = .ok (.iload_n 2, 1) := by decide +kernel
theorem dX0_standsAs_21 : decode cX0_standsAs 21 = .ok (.aaload, 1) := by decide +kernel
theorem dX0_standsAs_22 : decode cX0_standsAs 22 = .ok (.invokevirtual 82, 3) := by decide +kernel
theorem dX0_standsAs_25 : decode cX0_standsAs 25 = .ok (.ifCond .ne 5, 3) := by decide +kernel
theorem dX0_standsAs_28 : decode cX0_standsAs 28 = .ok (.iconst 0, 1) := by decide +kernel
theorem dX0_standsAs_29 : decode cX0_standsAs 29 = .ok (.ireturn, 1) := by decide +kernel
theorem dX0_standsAs_30 : decode cX0_standsAs 30 = .ok (.iinc 2 1, 3) := by decide +kernel
theorem dX0_standsAs_33 : decode cX0_standsAs 33 = .ok (.goto (-31), 3) := by decide +kernel
theorem dX0_standsAs_36 : decode cX0_standsAs 36 = .ok (.iconst 1, 1) := by decide +kernel
theorem dX0_standsAs_37 : decode cX0_standsAs 37 = .ok (.ireturn, 1) := by decide +kernel
theorem dX0_costOfAll_0 : decode cX0_costOfAll 0 = .ok (.iconst 0, 1) := by decide +kernel
theorem dX0_costOfAll_1 : decode cX0_costOfAll 1 = .ok (.istore_n 1, 1) := by decide +kernel
theorem dX0_costOfAll_2 : decode cX0_costOfAll 2 = .ok (.iconst 0, 1) := by decide +kernel
theorem dX0_costOfAll_3 : decode cX0_costOfAll 3 = .ok (.istore_n 2, 1) := by decide +kernel
theorem dX0_costOfAll_4 : decode cX0_costOfAll 4 = .ok (.iload_n 2, 1) := by decide +kernel
theorem dX0_costOfAll_5 : decode cX0_costOfAll 5 = .ok (.aload_n 0, 1) := by decide +kernel
theorem dX0_costOfAll_6 : decode cX0_costOfAll 6 = .ok (.getfield 29, 3) := by decide +kernel
theorem dX0_costOfAll_9 : decode cX0_costOfAll 9 = .ok (.if_icmp .ge 21, 3) := by decide +kernel
theorem dX0_costOfAll_12 : decode cX0_costOfAll 12 = .ok (.iload_n 1, 1) := by decide +kernel
theorem dX0_costOfAll_13 : decode cX0_costOfAll 13 = .ok (.aload_n 0, 1) := by decide +kernel
theorem dX0_costOfAll_14 : decode cX0_costOfAll 14 = .ok (.getfield 11, 3) := by decide +kernel
theorem dX0_costOfAll_17 : decode cX0_costOfAll 17 = .ok (.iload_n 2, 1) := by decide +kernel
theorem dX0_costOfAll_18 : decode cX0_costOfAll 18 = .ok (.aaload, 1) := by decide +kernel
theorem dX0_costOfAll_19 : decode cX0_costOfAll 19 = .ok (.getfield 86, 3) := by decide +kernel
theorem dX0_costOfAll_22 : decode cX0_costOfAll 22 = .ok (.iadd, 1) := by decide +kernel
theorem dX0_costOfAll_23 : decode cX0_costOfAll 23 = .ok (.istore_n 1, 1) := by decide +kernel
theorem dX0_costOfAll_24 : decode cX0_costOfAll 24 = .ok (.iinc 2 1, 3) := by decide +kernel
theorem dX0_costOfAll_27 : decode cX0_costOfAll 27 = .ok (.goto (-23), 3) := by decide +kernel
theorem dX0_costOfAll_30 : decode cX0_costOfAll 30 = .ok (.iload_n 1, 1) := by decide +kernel
theorem dX0_costOfAll_31 : decode cX0_costOfAll 31 = .ok (.ireturn, 1) := by decide +kernel
theorem dX0_wantsSummed_0 : decode cX0_wantsSummed 0 = .ok (.iconst 0, 1) := by decide +kernel
theorem dX0_wantsSummed_1 : decode cX0_wantsSummed 1 = .ok (.istore_n 1, 1) := by decide +kernel
theorem dX0_wantsSummed_2 : decode cX0_wantsSummed 2 = .ok (.iconst 0, 1) := by decide +kernel
theorem dX0_wantsSummed_3 : decode cX0_wantsSummed 3 = .ok (.istore_n 2, 1) := by decide +kernel
theorem dX0_wantsSummed_4 : decode cX0_wantsSummed 4 = .ok (.iload_n 2, 1) := by decide +kernel
theorem dX0_wantsSummed_5 : decode cX0_wantsSummed 5 = .ok (.aload_n 0, 1) := by decide +kernel
theorem dX0_wantsSummed_6 : decode cX0_wantsSummed 6 = .ok (.getfield 32, 3) := by decide +kernel
theorem dX0_wantsSummed_9 : decode cX0_wantsSummed 9 = .ok (.if_icmp .ge 18, 3) := by decide +kernel
theorem dX0_wantsSummed_12 : decode cX0_wantsSummed 12 = .ok (.iload_n 1, 1) := by decide +kernel
theorem dX0_wantsSummed_13 : decode cX0_wantsSummed 13 = .ok (.aload_n 0, 1) := by decide +kernel
theorem dX0_wantsSummed_14 : decode cX0_wantsSummed 14 = .ok (.getfield 17, 3) := by decide +kernel
theorem dX0_wantsSummed_17 : decode cX0_wantsSummed 17 = .ok (.iload_n 2, 1) := by decide +kernel
theorem dX0_wantsSummed_18 : decode cX0_wantsSummed 18 = .ok (.iaload, 1) := by decide +kernel
theorem dX0_wantsSummed_19 : decode cX0_wantsSummed 19 = .ok (.iadd, 1) := by decide +kernel
theorem dX0_wantsSummed_20 : decode cX0_wantsSummed 20 = .ok (.istore_n 1, 1) := by decide +kernel
theorem dX0_wantsSummed_21 : decode cX0_wantsSummed 21 = .ok (.iinc 2 1, 3) := by decide +kernel
theorem dX0_wantsSummed_24 : decode cX0_wantsSummed 24 = .ok (.goto (-20), 3) := by decide +kernel
theorem dX0_wantsSummed_27 : decode cX0_wantsSummed 27 = .ok (.iload_n 1, 1) := by decide +kernel
theorem dX0_wantsSummed_28 : decode cX0_wantsSummed 28 = .ok (.ireturn, 1) := by decide +kernel
theorem dX1_init_0 : decode cX1_init 0 = .ok (.aload_n 0, 1) := by decide +kernel
theorem dX1_init_1 : decode cX1_init 1 = .ok (.invokespecial 3, 3) := by decide +kernel
theorem dX1_init_4 : decode cX1_init 4 = .ok (.return_, 1) := by decide +kernel
theorem dX1_reset_0 : decode cX1_reset 0 = .ok (.aload_n 0, 1) := by decide +kernel
theorem dX1_reset_1 : decode cX1_reset 1 = .ok (.bipush (-4), 2) := by decide +kernel
theorem dX1_reset_3 : decode cX1_reset 3 = .ok (.putfield 9, 3) := by decide +kernel
theorem dX1_reset_6 : decode cX1_reset 6 = .ok (.aload_n 0, 1) := by decide +kernel
theorem dX1_reset_7 : decode cX1_reset 7 = .ok (.iload_n 1, 1) := by decide +kernel
theorem dX1_reset_8 : decode cX1_reset 8 = .ok (.putfield 15, 3) := by decide +kernel
theorem dX1_reset_11 : decode cX1_reset 11 = .ok (.return_, 1) := by decide +kernel
theorem dX1_offer_0 : decode cX1_offer 0 = .ok (.iload_n 2, 1) := by decide +kernel
theorem dX1_offer_1 : decode cX1_offer 1 = .ok (.aload_n 0, 1) := by decide +kernel
theorem dX1_offer_2 : decode cX1_offer 2 = .ok (.getfield 15, 3) := by decide +kernel
theorem dX1_offer_5 : decode cX1_offer 5 = .ok (.if_icmp .ge 13, 3) := by decide +kernel
theorem dX1_offer_8 : decode cX1_offer 8 = .ok (.aload_n 0, 1) := by decide +kernel
theorem dX1_offer_9 : decode cX1_offer 9 = .ok (.iload_n 1, 1) := by decide +kernel
theorem dX1_offer_10 : decode cX1_offer 10 = .ok (.putfield 9, 3) := by decide +kernel
theorem dX1_offer_13 : decode cX1_offer 13 = .ok (.aload_n 0, 1) := by decide +kernel
theorem dX1_offer_14 : decode cX1_offer 14 = .ok (.iload_n 2, 1) := by decide +kernel
theorem dX1_offer_15 : decode cX1_offer 15 = .ok (.putfield 15, 3) := by decide +kernel
theorem dX1_offer_18 : decode cX1_offer 18 = .ok (.return_, 1) := by decide +kernel
theorem dX1_answer_0 : decode cX1_answer 0 = .ok (.aload_n 0, 1) := by decide +kernel
theorem dX1_answer_1 : decode cX1_answer 1 = .ok (.getfield 9, 3) := by decide +kernel
theorem dX1_answer_4 : decode cX1_answer 4 = .ok (.bipush (-4), 2) := by decide +kernel
theorem dX1_answer_6 : decode cX1_answer 6 = .ok (.if_icmp .eq 7, 3) := by decide +kernel
theorem dX1_answer_9 : decode cX1_answer 9 = .ok (.iload_n 1, 1) := by decide +kernel
theorem dX1_answer_10 : decode cX1_answer 10 = .ok (.ifCond .ne 10, 3) := by decide +kernel
theorem dX1_answer_13 : decode cX1_answer 13 = .ok (.aload_n 0, 1) := by decide +kernel
theorem dX1_answer_14 : decode cX1_answer 14 = .ok (.getfield 9, 3) := by decide +kernel
theorem dX1_answer_17 : decode cX1_answer 17 = .ok (.goto 7, 3) := by decide +kernel
theorem dX1_answer_20 : decode cX1_answer 20 = .ok (.aload_n 0, 1) := by decide +kernel
theorem dX1_answer_21 : decode cX1_answer 21 = .ok (.getfield 15, 3) := by decide +kernel
theorem dX1_answer_24 : decode cX1_answer 24 = .ok (.ireturn, 1) := by decide +kernel
theorem dX2_init_0 : decode cX2_init 0 = .ok (.aload_n 0, 1) := by decide +kernel
theorem dX2_init_1 : decode cX2_init 1 = .ok (.invokespecial 3, 3) := by decide +kernel
theorem dX2_init_4 : decode cX2_init 4 = .ok (.aload_n 0, 1) := by decide +kernel
theorem dX2_init_5 : decode cX2_init 5 = .ok (.bipush 6, 2) := by decide +kernel
theorem dX2_init_7 : decode cX2_init 7 = .ok (.newarray .int, 2) := by decide +kernel
theorem dX2_init_9 : decode cX2_init 9 = .ok (.putfield 9, 3) := by decide +kernel
theorem dX2_init_12 : decode cX2_init 12 = .ok (.aload_n 0, 1) := by decide +kernel
theorem dX2_init_13 : decode cX2_init 13 = .ok (.bipush 6, 2) := by decide +kernel
theorem dX2_init_15 : decode cX2_init 15 = .ok (.newarray .int, 2) := by decide +kernel
theorem dX2_init_17 : decode cX2_init 17 = .ok (.putfield 15, 3) := by decide +kernel
theorem dX2_init_20 : decode cX2_init 20 = .ok (.aload_n 0, 1) := by decide +kernel
theorem dX2_init_21 : decode cX2_init 21 = .ok (.bipush 6, 2) := by decide +kernel
theorem dX2_init_23 : decode cX2_init 23 = .ok (.newarray .int, 2) := by decide +kernel
theorem dX2_init_25 : decode cX2_init 25 = .ok (.putfield 18, 3) := by decide +kernel
theorem dX2_init_28 : decode cX2_init 28 = .ok (.return_, 1) := by decide +kernel
theorem dX2_note_0 : decode cX2_note 0 = .ok (.aload_n 0, 1) := by decide +kernel
theorem dX2_note_1 : decode cX2_note 1 = .ok (.getfield 21, 3) := by decide +kernel
theorem dX2_note_4 : decode cX2_note 4 = .ok (.bipush 6, 2) := by decide +kernel
theorem dX2_note_6 : decode cX2_note 6 = .ok (.if_icmp .lt 5, 3) := by decide +kernel
theorem dX2_note_9 : decode cX2_note 9 = .ok (.iconst 0, 1) := by decide +kernel
theorem dX2_note_10 : decode cX2_note 10 = .ok (.ireturn, 1) := by decide +kernel
theorem dX2_note_11 : decode cX2_note 11 = .ok (.aload_n 0, 1) := by decide +kernel
theorem dX2_note_12 : decode cX2_note 12 = .ok (.getfield 9, 3) := by decide +kernel
theorem dX2_note_15 : decode cX2_note 15 = .ok (.aload_n 0, 1) := by decide +kernel
theorem dX2_note_16 : decode cX2_note 16 = .ok (.getfield 21, 3) := by decide +kernel
theorem dX2_note_19 : decode cX2_note 19 = .ok (.iload_n 1, 1) := by decide +kernel
theorem dX2_note_20 : decode cX2_note 20 = .ok (.iastore, 1) := by decide +kernel
theorem dX2_note_21 : decode cX2_note 21 = .ok (.aload_n 0, 1) := by decide +kernel
theorem dX2_note_22 : decode cX2_note 22 = .ok (.getfield 15, 3) := by decide +kernel
theorem dX2_note_25 : decode cX2_note 25 = .ok (.aload_n 0, 1) := by decide +kernel
theorem dX2_note_26 : decode cX2_note 26 = .ok (.getfield 21, 3) := by decide +kernel
theorem dX2_note_29 : decode cX2_note 29 = .ok (.iload_n 2, 1) := by decide +kernel
theorem dX2_note_30 : decode cX2_note 30 = .ok (.iastore, 1) := by decide +kernel
theorem dX2_note_31 : decode cX2_note 31 = .ok (.aload_n 0, 1) := by decide +kernel
theorem dX2_note_32 : decode cX2_note 32 = .ok (.getfield 18, 3) := by decide +kernel
theorem dX2_note_35 : decode cX2_note 35 = .ok (.aload_n 0, 1) := by decide +kernel
theorem dX2_note_36 : decode cX2_note 36 = .ok (.getfield 21, 3) := by decide +kernel
theorem dX2_note_39 : decode cX2_note 39 = .ok (.iload_n 3, 1) := by decide +kernel
theorem dX2_note_40 : decode cX2_note 40 = .ok (.iastore, 1) := by decide +kernel
theorem dX2_note_41 : decode cX2_note 41 = .ok (.aload_n 0, 1) := by decide +kernel
theorem dX2_note_42 : decode cX2_note 42 = .ok (.dup, 1) := by decide +kernel
theorem dX2_note_43 : decode cX2_note 43 = .ok (.getfield 21, 3) := by decide +kernel
theorem dX2_note_46 : decode cX2_note 46 = .ok (.iconst 1, 1) := by decide +kernel
theorem dX2_note_47 : decode cX2_note 47 = .ok (.iadd, 1) := by decide +kernel
theorem dX2_note_48 : decode cX2_note 48 = .ok (.putfield 21, 3) := by decide +kernel
theorem dX2_note_51 : decode cX2_note 51 = .ok (.iconst 1, 1) := by decide +kernel
theorem dX2_note_52 : decode cX2_note 52 = .ok (.ireturn, 1) := by decide +kernel
theorem dX2_isSoIn_0 : decode cX2_isSoIn 0 = .ok (.aload_n 0, 1) := by decide +kernel
theorem dX2_isSoIn_1 : decode cX2_isSoIn 1 = .ok (.invokevirtual 25, 3) := by decide +kernel
theorem dX2_isSoIn_4 : decode cX2_isSoIn 4 = .ok (.istore_n 2, 1) := by decide +kernel
theorem dX2_isSoIn_5 : decode cX2_isSoIn 5 = .ok (.iconst 0, 1) := by decide +kernel
theorem dX2_isSoIn_6 : decode cX2_isSoIn 6 = .ok (.istore_n 3, 1) := by decide +kernel
theorem dX2_isSoIn_7 : decode cX2_isSoIn 7 = .ok (.iload_n 3, 1) := by decide +kernel
theorem dX2_isSoIn_8 : decode cX2_isSoIn 8 = .ok (.iload_n 2, 1) := by decide +kernel
theorem dX2_isSoIn_9 : decode cX2_isSoIn 9 = .ok (.if_icmp .gt 25, 3) := by decide +kernel
theorem dX2_isSoIn_12 : decode cX2_isSoIn 12 = .ok (.aload_n 0, 1) := by decide +kernel
theorem dX2_isSoIn_13 : decode cX2_isSoIn 13 = .ok (.iload_n 3, 1) := by decide +kernel
theorem dX2_isSoIn_14 : decode cX2_isSoIn 14 = .ok (.aload_n 1, 1) := by decide +kernel
theorem dX2_isSoIn_15 : decode cX2_isSoIn 15 = .ok (.invokevirtual 29, 3) := by decide +kernel
theorem dX2_isSoIn_18 : decode cX2_isSoIn 18 = .ok (.ifCond .ne 5, 3) := by decide +kernel
theorem dX2_isSoIn_21 : decode cX2_isSoIn 21 = .ok (.iconst 0, 1) := by decide +kernel
theorem dX2_isSoIn_22 : decode cX2_isSoIn 22 = .ok (.ireturn, 1) := by decide +kernel
theorem dX2_isSoIn_23 : decode cX2_isSoIn 23 = .ok (.aload_n 1, 1) := by decide +kernel
theorem dX2_isSoIn_24 : decode cX2_isSoIn 24 = .ok (.invokevirtual 33, 3) := by decide +kernel
theorem dX2_isSoIn_27 : decode cX2_isSoIn 27 = .ok (.pop, 1) := by decide +kernel
theorem dX2_isSoIn_28 : decode cX2_isSoIn 28 = .ok (.iinc 3 1, 3) := by decide +kernel
theorem dX2_isSoIn_31 : decode cX2_isSoIn 31 = .ok (.goto (-24), 3) := by decide +kernel
theorem dX2_isSoIn_34 : decode cX2_isSoIn 34 = .ok (.iconst 1, 1) := by decide +kernel
theorem dX2_isSoIn_35 : decode cX2_isSoIn 35 = .ok (.ireturn, 1) := by decide +kernel
theorem dX2_latest_0 : decode cX2_latest 0 = .ok (.iconst 0, 1) := by decide +kernel
theorem dX2_latest_1 : decode cX2_latest 1 = .ok (.istore_n 1, 1) := by decide +kernel
theorem dX2_latest_2 : decode cX2_latest 2 = .ok (.iconst 0, 1) := by decide +kernel
theorem dX2_latest_3 : decode cX2_latest 3 = .ok (.istore_n 2, 1) := by decide +kernel
theorem dX2_latest_4 : decode cX2_latest 4 = .ok (.iload_n 2, 1) := by decide +kernel
theorem dX2_latest_5 : decode cX2_latest 5 = .ok (.aload_n 0, 1) := by decide +kernel
theorem dX2_latest_6 : decode cX2_latest 6 = .ok (.getfield 21, 3) := by decide +kernel
theorem dX2_latest_9 : decode cX2_latest 9 = .ok (.if_icmp .ge 20, 3) := by decide +kernel
theorem dX2_latest_12 : decode cX2_latest 12 = .ok (.iload_n 1, 1) := by decide +kernel
theorem dX2_latest_13 : decode cX2_latest 13 = .ok (.aload_n 0, 1) := by decide +kernel
theorem dX2_latest_14 : decode cX2_latest 14 = .ok (.getfield 9, 3) := by decide +kernel
theorem dX2_latest_17 : decode cX2_latest 17 = .ok (.iload_n 2, 1) := by decide +kernel
theorem dX2_latest_18 : decode cX2_latest 18 = .ok (.iaload, 1) := by decide +kernel
theorem dX2_latest_19 : decode cX2_latest 19 = .ok (.invokestatic 38, 3) := by decide +kernel
theorem dX2_latest_22 : decode cX2_latest 22 = .ok (.istore_n 1, 1) := by decide +kernel
theorem dX2_latest_23 : decode cX2_latest 23 = .ok (.iinc 2 1, 3) := by decide +kernel
theorem dX2_latest_26 : decode cX2_latest 26 = .ok (.goto (-22), 3) := by decide +kernel
theorem dX2_latest_29 : decode cX2_latest 29 = .ok (.iload_n 1, 1) := by decide +kernel
theorem dX2_latest_30 : decode cX2_latest 30 = .ok (.ireturn, 1) := by decide +kernel
theorem dX2_isSoBehind_0 : decode cX2_isSoBehind 0 = .ok (.iconst 0, 1) := by decide +kernel
theorem dX2_isSoBehind_1 : decode cX2_isSoBehind 1 = .ok (.istore_n 3, 1) := by decide +kernel
theorem dX2_isSoBehind_2 : decode cX2_isSoBehind 2 = .ok (.iload_n 3, 1) := by decide +kernel
theorem dX2_isSoBehind_3 : decode cX2_isSoBehind 3 = .ok (.aload_n 0, 1) := by decide +kernel
theorem dX2_isSoBehind_4 : decode cX2_isSoBehind 4 = .ok (.getfield 21, 3) := by decide +kernel
theorem dX2_isSoBehind_7 : decode cX2_isSoBehind 7 = .ok (.if_icmp .ge 59, 3) := by decide +kernel
theorem dX2_isSoBehind_10 : decode cX2_isSoBehind 10 = .ok (.aload_n 0, 1) := by decide +kernel
theorem dX2_isSoBehind_11 : decode cX2_isSoBehind 11 = .ok (.getfield 9, 3) := by decide +kernel
theorem dX2_isSoBehind_14 : decode cX2_isSoBehind 14 = .ok (.iload_n 3, 1) := by decide +kernel
theorem dX2_isSoBehind_15 : decode cX2_isSoBehind 15 = .ok (.iaload, 1) := by decide +kernel
theorem dX2_isSoBehind_16 : decode cX2_isSoBehind 16 = .ok (.iload_n 1, 1) := by decide +kernel
theorem dX2_isSoBehind_17 : decode cX2_isSoBehind 17 = .ok (.if_icmp .ne 43, 3) := by decide +kernel
theorem dX2_isSoBehind_20 : decode cX2_isSoBehind 20 = .ok (.aload_n 0, 1) := by decide +kernel
theorem dX2_isSoBehind_21 : decode cX2_isSoBehind 21 = .ok (.getfield 15, 3) := by decide +kernel
theorem dX2_isSoBehind_24 : decode cX2_isSoBehind 24 = .ok (.iload_n 3, 1) := by decide +kernel
theorem dX2_isSoBehind_25 : decode cX2_isSoBehind 25 = .ok (.iaload, 1) := by decide +kernel
theorem dX2_isSoBehind_26 : decode cX2_isSoBehind 26 = .ok (.istore 4, 2) := by decide +kernel
theorem dX2_isSoBehind_28 : decode cX2_isSoBehind 28 = .ok (.aload_n 2, 1) := by decide +kernel
theorem dX2_isSoBehind_29 : decode cX2_isSoBehind 29 = .ok (.iload 4, 2) := by decide +kernel
theorem dX2_isSoBehind_31 : decode cX2_isSoBehind 31 = .ok (.invokevirtual 44, 3) := by decide +kernel
theorem dX2_isSoBehind_34 : decode cX2_isSoBehind 34 = .ok (.ifCond .eq 24, 3) := by decide +kernel
theorem dX2_isSoBehind_37 : decode cX2_isSoBehind 37 = .ok (.aload_n 2, 1) := by decide +kernel
theorem dX2_isSoBehind_38 : decode cX2_isSoBehind 38 = .ok (.getfield 48, 3) := by decide +kernel
theorem dX2_isSoBehind_41 : decode cX2_isSoBehind 41 = .ok (.iload 4, 2) := by decide +kernel
theorem dX2_isSoBehind_43 : decode cX2_isSoBehind 43 = .ok (.aaload, 1) := by decide +kernel
theorem dX2_isSoBehind_44 : decode cX2_isSoBehind 44 = .ok (.getfield 52, 3) := by decide +kernel
theorem dX2_isSoBehind_47 : decode cX2_isSoBehind 47 = .ok (.iconst 0, 1) := by decide +kernel
theorem dX2_isSoBehind_48 : decode cX2_isSoBehind 48 = .ok (.iaload, 1) := by decide +kernel
theorem dX2_isSoBehind_49 : decode cX2_isSoBehind 49 = .ok (.aload_n 0, 1) := by decide +kernel
theorem dX2_isSoBehind_50 : decode cX2_isSoBehind 50 = .ok (.getfield 18, 3) := by decide +kernel
theorem dX2_isSoBehind_53 : decode cX2_isSoBehind 53 = .ok (.iload_n 3, 1) := by decide +kernel
theorem dX2_isSoBehind_54 : decode cX2_isSoBehind 54 = .ok (.iaload, 1) := by decide +kernel
theorem dX2_isSoBehind_55 : decode cX2_isSoBehind 55 = .ok (.if_icmp .eq 5, 3) := by decide +kernel
theorem dX2_isSoBehind_58 : decode cX2_isSoBehind 58 = .ok (.iconst 0, 1) := by decide +kernel
theorem dX2_isSoBehind_59 : decode cX2_isSoBehind 59 = .ok (.ireturn, 1) := by decide +kernel
theorem dX2_isSoBehind_60 : decode cX2_isSoBehind 60 = .ok (.iinc 3 1, 3) := by decide +kernel
theorem dX2_isSoBehind_63 : decode cX2_isSoBehind 63 = .ok (.goto (-61), 3) := by decide +kernel
theorem dX2_isSoBehind_66 : decode cX2_isSoBehind 66 = .ok (.iconst 1, 1) := by decide +kernel
theorem dX2_isSoBehind_67 : decode cX2_isSoBehind 67 = .ok (.ireturn, 1) := by decide +kernel
theorem dX3_init_0 : decode cX3_init 0 = .ok (.aload_n 0, 1) := by decide +kernel
theorem dX3_init_1 : decode cX3_init 1 = .ok (.invokespecial 3, 3) := by decide +kernel
theorem dX3_init_4 : decode cX3_init 4 = .ok (.aload_n 0, 1) := by decide +kernel
theorem dX3_init_5 : decode cX3_init 5 = .ok (.iconst (-1), 1) := by decide +kernel
theorem dX3_init_6 : decode cX3_init 6 = .ok (.putfield 9, 3) := by decide +kernel
theorem dX3_init_9 : decode cX3_init 9 = .ok (.aload_n 0, 1) := by decide +kernel
theorem dX3_init_10 : decode cX3_init 10 = .ok (.bipush 40, 2) := by decide +kernel
theorem dX3_init_12 : decode cX3_init 12 = .ok (.newarray .int, 2) := by decide +kernel
theorem dX3_init_14 : decode cX3_init 14 = .ok (.putfield 15, 3) := by decide +kernel
theorem dX3_init_17 : decode cX3_init 17 = .ok (.return_, 1) := by decide +kernel
theorem dX3_begin_0 : decode cX3_begin 0 = .ok (.aload_n 0, 1) := by decide +kernel
theorem dX3_begin_1 : decode cX3_begin 1 = .ok (.iload_n 1, 1) := by decide +kernel
theorem dX3_begin_2 : decode cX3_begin 2 = .ok (.putfield 9, 3) := by decide +kernel
theorem dX3_begin_5 : decode cX3_begin 5 = .ok (.aload_n 0, 1) := by decide +kernel
theorem dX3_begin_6 : decode cX3_begin 6 = .ok (.iload_n 2, 1) := by decide +kernel
theorem dX3_begin_7 : decode cX3_begin 7 = .ok (.putfield 19, 3) := by decide +kernel
theorem dX3_begin_10 : decode cX3_begin 10 = .ok (.iconst 0, 1) := by decide +kernel
theorem dX3_begin_11 : decode cX3_begin 11 = .ok (.istore_n 3, 1) := by decide +kernel
theorem dX3_begin_12 : decode cX3_begin 12 = .ok (.iload_n 3, 1) := by decide +kernel
theorem dX3_begin_13 : decode cX3_begin 13 = .ok (.bipush 40, 2) := by decide +kernel
theorem dX3_begin_15 : decode cX3_begin 15 = .ok (.if_icmp .ge 16, 3) := by decide +kernel
theorem dX3_begin_18 : decode cX3_begin 18 = .ok (.aload_n 0, 1) := by decide +kernel
theorem dX3_begin_19 : decode cX3_begin 19 = .ok (.getfield 15, 3) := by decide +kernel
theorem dX3_begin_22 : decode cX3_begin 22 = .ok (.iload_n 3, 1) := by decide +kernel
theorem dX3_begin_23 : decode cX3_begin 23 = .ok (.iconst 0, 1) := by decide +kernel
theorem dX3_begin_24 : decode cX3_begin 24 = .ok (.iastore, 1) := by decide +kernel
theorem dX3_begin_25 : decode cX3_begin 25 = .ok (.iinc 3 1, 3) := by decide +kernel
theorem dX3_begin_28 : decode cX3_begin 28 = .ok (.goto (-16), 3) := by decide +kernel
theorem dX3_begin_31 : decode cX3_begin 31 = .ok (.return_, 1) := by decide +kernel
theorem dX3_faultOf_0 : decode cX3_faultOf 0 = .ok (.aload_n 0, 1) := by decide +kernel
theorem dX3_faultOf_1 : decode cX3_faultOf 1 = .ok (.getfield 9, 3) := by decide +kernel
theorem dX3_faultOf_4 : decode cX3_faultOf 4 = .ok (.iconst (-1), 1) := by decide +kernel
theorem dX3_faultOf_5 : decode cX3_faultOf 5 = .ok (.if_icmp .ne 5, 3) := by decide +kernel
theorem dX3_faultOf_8 : decode cX3_faultOf 8 = .ok (.iconst 1, 1) := by decide +kernel
theorem dX3_faultOf_9 : decode cX3_faultOf 9 = .ok (.ireturn, 1) := by decide +kernel
theorem dX3_faultOf_10 : decode cX3_faultOf 10 = .ok (.aload_n 0, 1) := by decide +kernel
theorem dX3_faultOf_11 : decode cX3_faultOf 11 = .ok (.getfield 9, 3) := by decide +kernel
theorem dX3_faultOf_14 : decode cX3_faultOf 14 = .ok (.iload_n 1, 1) := by decide +kernel
theorem dX3_faultOf_15 : decode cX3_faultOf 15 = .ok (.if_icmp .eq 5, 3) := by decide +kernel
theorem dX3_faultOf_18 : decode cX3_faultOf 18 = .ok (.iconst 3, 1) := by decide +kernel
theorem dX3_faultOf_19 : decode cX3_faultOf 19 = .ok (.ireturn, 1) := by decide +kernel
theorem dX3_faultOf_20 : decode cX3_faultOf 20 = .ok (.iload_n 2, 1) := by decide +kernel
theorem dX3_faultOf_21 : decode cX3_faultOf 21 = .ok (.ifCond .lt 15, 3) := by decide +kernel
theorem dX3_faultOf_24 : decode cX3_faultOf 24 = .ok (.iload_n 2, 1) := by decide +kernel
theorem dX3_faultOf_25 : decode cX3_faultOf 25 = .ok (.aload_n 0, 1) := by decide +kernel
theorem dX3_faultOf_26 : decode cX3_faultOf 26 = .ok (.getfield 19, 3) := by decide +kernel
theorem dX3_faultOf_29 : decode cX3_faultOf 29 = .ok (.if_icmp .ge 7, 3) := by decide +kernel
theorem dX3_faultOf_32 : decode cX3_faultOf 32 = .ok (.iconst 0, 1) := by decide +kernel
theorem dX3_faultOf_33 : decode cX3_faultOf 33 = .ok (.goto 4, 3) := by decide +kernel
theorem dX3_faultOf_36 : decode cX3_faultOf 36 = .ok (.iconst 2, 1) := by decide +kernel
theorem dX3_faultOf_37 : decode cX3_faultOf 37 = .ok (.ireturn, 1) := by decide +kernel
theorem dX3_write_0 : decode cX3_write 0 = .ok (.aload_n 0, 1) := by decide +kernel
theorem dX3_write_1 : decode cX3_write 1 = .ok (.getfield 9, 3) := by decide +kernel
theorem dX3_write_4 : decode cX3_write 4 = .ok (.lookupswitch 50 #[(0, 28), (1, 39)], 28) := by decide +kernel
theorem dX3_write_32 : decode cX3_write 32 = .ok (.aload_n 0, 1) := by decide +kernel
theorem dX3_write_33 : decode cX3_write 33 = .ok (.getfield 15, 3) := by decide +kernel
theorem dX3_write_36 : decode cX3_write 36 = .ok (.iload_n 1, 1) := by decide +kernel
theorem dX3_write_37 : decode cX3_write 37 = .ok (.iload_n 2, 1) := by decide +kernel
theorem dX3_write_38 : decode cX3_write 38 = .ok (.i2b, 1) := by decide +kernel
theorem dX3_write_39 : decode cX3_write 39 = .ok (.iastore, 1) := by decide +kernel
theorem dX3_write_40 : decode cX3_write 40 = .ok (.goto 21, 3) := by decide +kernel
theorem dX3_write_43 : decode cX3_write 43 = .ok (.aload_n 0, 1) := by decide +kernel
theorem dX3_write_44 : decode cX3_write 44 = .ok (.getfield 15, 3) := by decide +kernel
theorem dX3_write_47 : decode cX3_write 47 = .ok (.iload_n 1, 1) := by decide +kernel
theorem dX3_write_48 : decode cX3_write 48 = .ok (.iload_n 2, 1) := by decide +kernel
theorem dX3_write_49 : decode cX3_write 49 = .ok (.i2s, 1) := by decide +kernel
theorem dX3_write_50 : decode cX3_write 50 = .ok (.iastore, 1) := by decide +kernel
theorem dX3_write_51 : decode cX3_write 51 = .ok (.goto 10, 3) := by decide +kernel
theorem dX3_write_54 : decode cX3_write 54 = .ok (.aload_n 0, 1) := by decide +kernel
theorem dX3_write_55 : decode cX3_write 55 = .ok (.getfield 15, 3) := by decide +kernel
theorem dX3_write_58 : decode cX3_write 58 = .ok (.iload_n 1, 1) := by decide +kernel
theorem dX3_write_59 : decode cX3_write 59 = .ok (.iload_n 2, 1) := by decide +kernel
theorem dX3_write_60 : decode cX3_write 60 = .ok (.iastore, 1) := by decide +kernel
theorem dX3_write_61 : decode cX3_write 61 = .ok (.return_, 1) := by decide +kernel
theorem dX4_init_0 : decode cX4_init 0 = .ok (.aload_n 0, 1) := by decide +kernel
theorem dX4_init_1 : decode cX4_init 1 = .ok (.invokespecial 3, 3) := by decide +kernel
theorem dX4_init_4 : decode cX4_init 4 = .ok (.aload_n 0, 1) := by decide +kernel
theorem dX4_init_5 : decode cX4_init 5 = .ok (.bipush 6, 2) := by decide +kernel
theorem dX4_init_7 : decode cX4_init 7 = .ok (.newarray .int, 2) := by decide +kernel
theorem dX4_init_9 : decode cX4_init 9 = .ok (.putfield 9, 3) := by decide +kernel
theorem dX4_init_12 : decode cX4_init 12 = .ok (.aload_n 0, 1) := by decide +kernel
theorem dX4_init_13 : decode cX4_init 13 = .ok (.bipush 6, 2) := by decide +kernel
theorem dX4_init_15 : decode cX4_init 15 = .ok (.newarray .int, 2) := by decide +kernel
theorem dX4_init_17 : decode cX4_init 17 = .ok (.putfield 15, 3) := by decide +kernel
theorem dX4_init_20 : decode cX4_init 20 = .ok (.aload_n 0, 1) := by decide +kernel
theorem dX4_init_21 : decode cX4_init 21 = .ok (.iconst 0, 1) := by decide +kernel
theorem dX4_init_22 : decode cX4_init 22 = .ok (.invokevirtual 18, 3) := by decide +kernel
theorem dX4_init_25 : decode cX4_init 25 = .ok (.return_, 1) := by decide +kernel
theorem dX4_begin_0 : decode cX4_begin 0 = .ok (.aload_n 0, 1) := by decide +kernel
theorem dX4_begin_1 : decode cX4_begin 1 = .ok (.iload_n 1, 1) := by decide +kernel
theorem dX4_begin_2 : decode cX4_begin 2 = .ok (.putfield 22, 3) := by decide +kernel
theorem dX4_begin_5 : decode cX4_begin 5 = .ok (.aload_n 0, 1) := by decide +kernel
theorem dX4_begin_6 : decode cX4_begin 6 = .ok (.iconst 0, 1) := by decide +kernel
theorem dX4_begin_7 : decode cX4_begin 7 = .ok (.putfield 26, 3) := by decide +kernel
theorem dX4_begin_10 : decode cX4_begin 10 = .ok (.iconst 0, 1) := by decide +kernel
theorem dX4_begin_11 : decode cX4_begin 11 = .ok (.istore_n 2, 1) := by decide +kernel
theorem dX4_begin_12 : decode cX4_begin 12 = .ok (.iload_n 2, 1) := by decide +kernel
theorem dX4_begin_13 : decode cX4_begin 13 = .ok (.bipush 6, 2) := by decide +kernel
theorem dX4_begin_15 : decode cX4_begin 15 = .ok (.if_icmp .ge 23, 3) := by decide +kernel
theorem dX4_begin_18 : decode cX4_begin 18 = .ok (.aload_n 0, 1) := by decide +kernel
theorem dX4_begin_19 : decode cX4_begin 19 = .ok (.getfield 9, 3) := by decide +kernel
theorem dX4_begin_22 : decode cX4_begin 22 = .ok (.iload_n 2, 1) := by decide +kernel
theorem dX4_begin_23 : decode cX4_begin 23 = .ok (.iload_n 2, 1) := by decide +kernel
theorem dX4_begin_24 : decode cX4_begin 24 = .ok (.iastore, 1) := by decide +kernel
theorem dX4_begin_25 : decode cX4_begin 25 = .ok (.aload_n 0, 1) := by decide +kernel
theorem dX4_begin_26 : decode cX4_begin 26 = .ok (.getfield 15, 3) := by decide +kernel
theorem dX4_begin_29 : decode cX4_begin 29 = .ok (.iload_n 2, 1) := by decide +kernel
theorem dX4_begin_30 : decode cX4_begin 30 = .ok (.iconst 0, 1) := by decide +kernel
theorem dX4_begin_31 : decode cX4_begin 31 = .ok (.iastore, 1) := by decide +kernel
theorem dX4_begin_32 : decode cX4_begin 32 = .ok (.iinc 2 1, 3) := by decide +kernel
theorem dX4_begin_35 : decode cX4_begin 35 = .ok (.goto (-23), 3) := by decide +kernel
theorem dX4_begin_38 : decode cX4_begin 38 = .ok (.return_, 1) := by decide +kernel
theorem dX4_copy_0 : decode cX4_copy 0 = .ok (.aload_n 0, 1) := by decide +kernel
theorem dX4_copy_1 : decode cX4_copy 1 = .ok (.aload_n 1, 1) := by decide +kernel
theorem dX4_copy_2 : decode cX4_copy 2 = .ok (.getfield 22, 3) := by decide +kernel
theorem dX4_copy_5 : decode cX4_copy 5 = .ok (.putfield 22, 3) := by decide +kernel
theorem dX4_copy_8 : decode cX4_copy 8 = .ok (.aload_n 0, 1) := by decide +kernel
theorem dX4_copy_9 : decode cX4_copy 9 = .ok (.aload_n 1, 1) := by decide +kernel
theorem dX4_copy_10 : decode cX4_copy 10 = .ok (.getfield 26, 3) := by decide +kernel
theorem dX4_copy_13 : decode cX4_copy 13 = .ok (.putfield 26, 3) := by decide +kernel
theorem dX4_copy_16 : decode cX4_copy 16 = .ok (.aload_n 1, 1) := by decide +kernel
theorem dX4_copy_17 : decode cX4_copy 17 = .ok (.getfield 9, 3) := by decide +kernel
theorem dX4_copy_20 : decode cX4_copy 20 = .ok (.iconst 0, 1) := by decide +kernel
theorem dX4_copy_21 : decode cX4_copy 21 = .ok (.aload_n 0, 1) := by decide +kernel
theorem dX4_copy_22 : decode cX4_copy 22 = .ok (.getfield 9, 3) := by decide +kernel
theorem dX4_copy_25 : decode cX4_copy 25 = .ok (.iconst 0, 1) := by decide +kernel
theorem dX4_copy_26 : decode cX4_copy 26 = .ok (.bipush 6, 2) := by decide +kernel
theorem dX4_copy_28 : decode cX4_copy 28 = .ok (.invokestatic 29, 3) := by decide +kernel
theorem dX4_copy_31 : decode cX4_copy 31 = .ok (.aload_n 1, 1) := by decide +kernel
theorem dX4_copy_32 : decode cX4_copy 32 = .ok (.getfield 15, 3) := by decide +kernel
theorem dX4_copy_35 : decode cX4_copy 35 = .ok (.iconst 0, 1) := by decide +kernel
theorem dX4_copy_36 : decode cX4_copy 36 = .ok (.aload_n 0, 1) := by decide +kernel
theorem dX4_copy_37 : decode cX4_copy 37 = .ok (.getfield 15, 3) := by decide +kernel
theorem dX4_copy_40 : decode cX4_copy 40 = .ok (.iconst 0, 1) := by decide +kernel
theorem dX4_copy_41 : decode cX4_copy 41 = .ok (.bipush 6, 2) := by decide +kernel
theorem dX4_copy_43 : decode cX4_copy 43 = .ok (.invokestatic 29, 3) := by decide +kernel
theorem dX4_copy_46 : decode cX4_copy 46 = .ok (.return_, 1) := by decide +kernel
theorem dX4_find_0 : decode cX4_find 0 = .ok (.iconst 0, 1) := by decide +kernel
theorem dX4_find_1 : decode cX4_find 1 = .ok (.istore_n 2, 1) := by decide +kernel
theorem dX4_find_2 : decode cX4_find 2 = .ok (.iload_n 2, 1) := by decide +kernel
theorem dX4_find_3 : decode cX4_find 3 = .ok (.iconst 5, 1) := by decide +kernel
theorem dX4_find_4 : decode cX4_find 4 = .ok (.if_icmp .ge 19, 3) := by decide +kernel
theorem dX4_find_7 : decode cX4_find 7 = .ok (.aload_n 0, 1) := by decide +kernel
theorem dX4_find_8 : decode cX4_find 8 = .ok (.getfield 9, 3) := by decide +kernel
theorem dX4_find_11 : decode cX4_find 11 = .ok (.iload_n 2, 1) := by decide +kernel
theorem dX4_find_12 : decode cX4_find 12 = .ok (.iaload, 1) := by decide +kernel
theorem dX4_find_13 : decode cX4_find 13 = .ok (.iload_n 1, 1) := by decide +kernel
theorem dX4_find_14 : decode cX4_find 14 = .ok (.if_icmp .eq 9, 3) := by decide +kernel
theorem dX4_find_17 : decode cX4_find 17 = .ok (.iinc 2 1, 3) := by decide +kernel
theorem dX4_find_20 : decode cX4_find 20 = .ok (.goto (-18), 3) := by decide +kernel
theorem dX4_find_23 : decode cX4_find 23 = .ok (.iload_n 2, 1) := by decide +kernel
theorem dX4_find_24 : decode cX4_find 24 = .ok (.ireturn, 1) := by decide +kernel
theorem dX4_serve_0 : decode cX4_serve 0 = .ok (.aload_n 0, 1) := by decide +kernel
theorem dX4_serve_1 : decode cX4_serve 1 = .ok (.iload_n 1, 1) := by decide +kernel
theorem dX4_serve_2 : decode cX4_serve 2 = .ok (.invokevirtual 35, 3) := by decide +kernel
theorem dX4_serve_5 : decode cX4_serve 5 = .ok (.istore_n 2, 1) := by decide +kernel
theorem dX4_serve_6 : decode cX4_serve 6 = .ok (.aload_n 0, 1) := by decide +kernel
theorem dX4_serve_7 : decode cX4_serve 7 = .ok (.iload_n 2, 1) := by decide +kernel
theorem dX4_serve_8 : decode cX4_serve 8 = .ok (.invokevirtual 39, 3) := by decide +kernel
theorem dX4_serve_11 : decode cX4_serve 11 = .ok (.istore_n 3, 1) := by decide +kernel
theorem dX4_serve_12 : decode cX4_serve 12 = .ok (.aload_n 0, 1) := by decide +kernel
theorem dX4_serve_13 : decode cX4_serve 13 = .ok (.ldc 42, 2) := by decide +kernel
theorem dX4_serve_15 : decode cX4_serve 15 = .ok (.aload_n 0, 1) := by decide +kernel
theorem dX4_serve_16 : decode cX4_serve 16 = .ok (.getfield 26, 3) := by decide +kernel
theorem dX4_serve_19 : decode cX4_serve 19 = .ok (.iload_n 3, 1) := by decide +kernel
theorem dX4_serve_20 : decode cX4_serve 20 = .ok (.iadd, 1) := by decide +kernel
theorem dX4_serve_21 : decode cX4_serve 21 = .ok (.invokestatic 43, 3) := by decide +kernel
theorem dX4_serve_24 : decode cX4_serve 24 = .ok (.putfield 26, 3) := by decide +kernel
theorem dX4_serve_27 : decode cX4_serve 27 = .ok (.aload_n 0, 1) := by decide +kernel
theorem dX4_serve_28 : decode cX4_serve 28 = .ok (.getfield 15, 3) := by decide +kernel
theorem dX4_serve_31 : decode cX4_serve 31 = .ok (.iload_n 1, 1) := by decide +kernel
theorem dX4_serve_32 : decode cX4_serve 32 = .ok (.bipush 99, 2) := by decide +kernel
theorem dX4_serve_34 : decode cX4_serve 34 = .ok (.aload_n 0, 1) := by decide +kernel
theorem dX4_serve_35 : decode cX4_serve 35 = .ok (.getfield 15, 3) := by decide +kernel
theorem dX4_serve_38 : decode cX4_serve 38 = .ok (.iload_n 1, 1) := by decide +kernel
theorem dX4_serve_39 : decode cX4_serve 39 = .ok (.iaload, 1) := by decide +kernel
theorem dX4_serve_40 : decode cX4_serve 40 = .ok (.iconst 1, 1) := by decide +kernel
theorem dX4_serve_41 : decode cX4_serve 41 = .ok (.iadd, 1) := by decide +kernel
theorem dX4_serve_42 : decode cX4_serve 42 = .ok (.invokestatic 43, 3) := by decide +kernel
theorem dX4_serve_45 : decode cX4_serve 45 = .ok (.iastore, 1) := by decide +kernel
theorem dX4_serve_46 : decode cX4_serve 46 = .ok (.aload_n 0, 1) := by decide +kernel
theorem dX4_serve_47 : decode cX4_serve 47 = .ok (.iload_n 2, 1) := by decide +kernel
theorem dX4_serve_48 : decode cX4_serve 48 = .ok (.aload_n 0, 1) := by decide +kernel
theorem dX4_serve_49 : decode cX4_serve 49 = .ok (.iload_n 1, 1) := by decide +kernel
theorem dX4_serve_50 : decode cX4_serve 50 = .ok (.iload_n 2, 1) := by decide +kernel
theorem dX4_serve_51 : decode cX4_serve 51 = .ok (.invokevirtual 49, 3) := by decide +kernel
theorem dX4_serve_54 : decode cX4_serve 54 = .ok (.invokevirtual 52, 3) := by decide +kernel
theorem dX4_serve_57 : decode cX4_serve 57 = .ok (.iload_n 3, 1) := by decide +kernel
theorem dX4_serve_58 : decode cX4_serve 58 = .ok (.ireturn, 1) := by decide +kernel
theorem dX4_payFor_0 : decode cX4_payFor 0 = .ok (.aload_n 0, 1) := by decide +kernel
theorem dX4_payFor_1 : decode cX4_payFor 1 = .ok (.getfield 22, 3) := by decide +kernel
theorem dX4_payFor_4 : decode cX4_payFor 4 = .ok (.iconst 2, 1) := by decide +kernel
theorem dX4_payFor_5 : decode cX4_payFor 5 = .ok (.if_icmp .ne 13, 3) := by decide +kernel
theorem dX4_payFor_8 : decode cX4_payFor 8 = .ok (.iload_n 1, 1) := by decide +kernel
theorem dX4_payFor_9 : decode cX4_payFor 9 = .ok (.ifCond .eq 9, 3) := by decide +kernel
theorem dX4_payFor_12 : decode cX4_payFor 12 = .ok (.iload_n 1, 1) := by decide +kernel
theorem dX4_payFor_13 : decode cX4_payFor 13 = .ok (.iconst 2, 1) := by decide +kernel
theorem dX4_payFor_14 : decode cX4_payFor 14 = .ok (.iadd, 1) := by decide +kernel
theorem dX4_payFor_15 : decode cX4_payFor 15 = .ok (.goto 6, 3) := by decide +kernel
theorem dX4_payFor_18 : decode cX4_payFor 18 = .ok (.iload_n 1, 1) := by decide +kernel
theorem dX4_payFor_19 : decode cX4_payFor 19 = .ok (.iconst 1, 1) := by decide +kernel
theorem dX4_payFor_20 : decode cX4_payFor 20 = .ok (.iadd, 1) := by decide +kernel
theorem dX4_payFor_21 : decode cX4_payFor 21 = .ok (.ireturn, 1) := by decide +kernel
theorem dX4_goalOf_0 : decode cX4_goalOf 0 = .ok (.aload_n 0, 1) := by decide +kernel
theorem dX4_goalOf_1 : decode cX4_goalOf 1 = .ok (.getfield 22, 3) := by decide +kernel
theorem dX4_goalOf_4 : decode cX4_goalOf 4 = .ok (.iconst 1, 1) := by decide +kernel
theorem dX4_goalOf_5 : decode cX4_goalOf 5 = .ok (.if_icmp .ne 15, 3) := by decide +kernel
theorem dX4_goalOf_8 : decode cX4_goalOf 8 = .ok (.iload_n 2, 1) := by decide +kernel
theorem dX4_goalOf_9 : decode cX4_goalOf 9 = .ok (.ifCond .le 9, 3) := by decide +kernel
theorem dX4_goalOf_12 : decode cX4_goalOf 12 = .ok (.iload_n 2, 1) := by decide +kernel
theorem dX4_goalOf_13 : decode cX4_goalOf 13 = .ok (.iconst 1, 1) := by decide +kernel
theorem dX4_goalOf_14 : decode cX4_goalOf 14 = .ok (.isub, 1) := by decide +kernel
theorem dX4_goalOf_15 : decode cX4_goalOf 15 = .ok (.goto 4, 3) := by decide +kernel
theorem dX4_goalOf_18 : decode cX4_goalOf 18 = .ok (.iconst 0, 1) := by decide +kernel
theorem dX4_goalOf_19 : decode cX4_goalOf 19 = .ok (.ireturn, 1) := by decide +kernel
theorem dX4_goalOf_20 : decode cX4_goalOf 20 = .ok (.aload_n 0, 1) := by decide +kernel
theorem dX4_goalOf_21 : decode cX4_goalOf 21 = .ok (.getfield 22, 3) := by decide +kernel
theorem dX4_goalOf_24 : decode cX4_goalOf 24 = .ok (.ifCond .ne 7, 3) := by decide +kernel
theorem dX4_goalOf_27 : decode cX4_goalOf 27 = .ok (.iload_n 2, 1) := by decide +kernel
theorem dX4_goalOf_28 : decode cX4_goalOf 28 = .ok (.goto 4, 3) := by decide +kernel
theorem dX4_goalOf_31 : decode cX4_goalOf 31 = .ok (.iconst 0, 1) := by decide +kernel
theorem dX4_goalOf_32 : decode cX4_goalOf 32 = .ok (.istore_n 3, 1) := by decide +kernel
theorem dX4_goalOf_33 : decode cX4_goalOf 33 = .ok (.aload_n 0, 1) := by decide +kernel
theorem dX4_goalOf_34 : decode cX4_goalOf 34 = .ok (.getfield 22, 3) := by decide +kernel
theorem dX4_goalOf_37 : decode cX4_goalOf 37 = .ok (.iconst 3, 1) := by decide +kernel
theorem dX4_goalOf_38 : decode cX4_goalOf 38 = .ok (.if_icmp .ne 34, 3) := by decide +kernel
theorem dX4_goalOf_41 : decode cX4_goalOf 41 = .ok (.iload_n 3, 1) := by decide +kernel
theorem dX4_goalOf_42 : decode cX4_goalOf 42 = .ok (.iload_n 2, 1) := by decide +kernel
theorem dX4_goalOf_43 : decode cX4_goalOf 43 = .ok (.if_icmp .ge 29, 3) := by decide +kernel
theorem dX4_goalOf_46 : decode cX4_goalOf 46 = .ok (.aload_n 0, 1) := by decide +kernel
theorem dX4_goalOf_47 : decode cX4_goalOf 47 = .ok (.getfield 15, 3) := by decide +kernel
theorem dX4_goalOf_50 : decode cX4_goalOf 50 = .ok (.aload_n 0, 1) := by decide +kernel
theorem dX4_goalOf_51 : decode cX4_goalOf 51 = .ok (.getfield 9, 3) := by decide +kernel
theorem dX4_goalOf_54 : decode cX4_goalOf 54 = .ok (.iload_n 3, 1) := by decide +kernel
theorem dX4_goalOf_55 : decode cX4_goalOf 55 = .ok (.iaload, 1) := by decide +kernel
theorem dX4_goalOf_56 : decode cX4_goalOf 56 = .ok (.iaload, 1) := by decide +kernel
theorem dX4_goalOf_57 : decode cX4_goalOf 57 = .ok (.aload_n 0, 1) := by decide +kernel
theorem dX4_goalOf_58 : decode cX4_goalOf 58 = .ok (.getfield 15, 3) := by decide +kernel
theorem dX4_goalOf_61 : decode cX4_goalOf 61 = .ok (.iload_n 1, 1) := by decide +kernel
theorem dX4_goalOf_62 : decode cX4_goalOf 62 = .ok (.iaload, 1) := by decide +kernel
theorem dX4_goalOf_63 : decode cX4_goalOf 63 = .ok (.if_icmp .lt 9, 3) := by decide +kernel
theorem dX4_goalOf_66 : decode cX4_goalOf 66 = .ok (.iinc 3 1, 3) := by decide +kernel
theorem dX4_goalOf_69 : decode cX4_goalOf 69 = .ok (.goto (-36), 3) := by decide +kernel
theorem dX4_goalOf_72 : decode cX4_goalOf 72 = .ok (.iload_n 3, 1) := by decide +kernel
theorem dX4_goalOf_73 : decode cX4_goalOf 73 = .ok (.ireturn, 1) := by decide +kernel
theorem dX4_shift_0 : decode cX4_shift 0 = .ok (.aload_n 0, 1) := by decide +kernel
theorem dX4_shift_1 : decode cX4_shift 1 = .ok (.getfield 9, 3) := by decide +kernel
theorem dX4_shift_4 : decode cX4_shift 4 = .ok (.iload_n 1, 1) := by decide +kernel
theorem dX4_shift_5 : decode cX4_shift 5 = .ok (.iaload, 1) := by decide +kernel
theorem dX4_shift_6 : decode cX4_shift 6 = .ok (.istore_n 3, 1) := by decide +kernel
theorem dX4_shift_7 : decode cX4_shift 7 = .ok (.iload_n 1, 1) := by decide +kernel
theorem dX4_shift_8 : decode cX4_shift 8 = .ok (.istore 4, 2) := by decide +kernel
theorem dX4_shift_10 : decode cX4_shift 10 = .ok (.iload 4, 2) := by decide +kernel
theorem dX4_shift_12 : decode cX4_shift 12 = .ok (.iload_n 2, 1) := by decide +kernel
theorem dX4_shift_13 : decode cX4_shift 13 = .ok (.if_icmp .le 25, 3) := by decide +kernel
theorem dX4_shift_16 : decode cX4_shift 16 = .ok (.aload_n 0, 1) := by decide +kernel
theorem dX4_shift_17 : decode cX4_shift 17 = .ok (.getfield 9, 3) := by decide +kernel
theorem dX4_shift_20 : decode cX4_shift 20 = .ok (.iload 4, 2) := by decide +kernel
theorem dX4_shift_22 : decode cX4_shift 22 = .ok (.aload_n 0, 1) := by decide +kernel
theorem dX4_shift_23 : decode cX4_shift 23 = .ok (.getfield 9, 3) := by decide +kernel
theorem dX4_shift_26 : decode cX4_shift 26 = .ok (.iload 4, 2) := by decide +kernel
theorem dX4_shift_28 : decode cX4_shift 28 = .ok (.iconst 1, 1) := by decide +kernel
theorem dX4_shift_29 : decode cX4_shift 29 = .ok (.isub, 1) := by decide +kernel
theorem dX4_shift_30 : decode cX4_shift 30 = .ok (.iaload, 1) := by decide +kernel
theorem dX4_shift_31 : decode cX4_shift 31 = .ok (.iastore, 1) := by decide +kernel
theorem dX4_shift_32 : decode cX4_shift 32 = .ok (.iinc 4 (-1), 3) := by decide +kernel
theorem dX4_shift_35 : decode cX4_shift 35 = .ok (.goto (-25), 3) := by decide +kernel
theorem dX4_shift_38 : decode cX4_shift 38 = .ok (.iload_n 1, 1) := by decide +kernel
theorem dX4_shift_39 : decode cX4_shift 39 = .ok (.istore 4, 2) := by decide +kernel
theorem dX4_shift_41 : decode cX4_shift 41 = .ok (.iload 4, 2) := by decide +kernel
theorem dX4_shift_43 : decode cX4_shift 43 = .ok (.iload_n 2, 1) := by decide +kernel
theorem dX4_shift_44 : decode cX4_shift 44 = .ok (.if_icmp .ge 25, 3) := by decide +kernel
theorem dX4_shift_47 : decode cX4_shift 47 = .ok (.aload_n 0, 1) := by decide +kernel
theorem dX4_shift_48 : decode cX4_shift 48 = .ok (.getfield 9, 3) := by decide +kernel
theorem dX4_shift_51 : decode cX4_shift 51 = .ok (.iload 4, 2) := by decide +kernel
theorem dX4_shift_53 : decode cX4_shift 53 = .ok (.aload_n 0, 1) := by decide +kernel
theorem dX4_shift_54 : decode cX4_shift 54 = .ok (.getfield 9, 3) := by decide +kernel
theorem dX4_shift_57 : decode cX4_shift 57 = .ok (.iload 4, 2) := by decide +kernel
theorem dX4_shift_59 : decode cX4_shift 59 = .ok (.iconst 1, 1) := by decide +kernel
theorem dX4_shift_60 : decode cX4_shift 60 = .ok (.iadd, 1) := by decide +kernel
theorem dX4_shift_61 : decode cX4_shift 61 = .ok (.iaload, 1) := by decide +kernel
theorem dX4_shift_62 : decode cX4_shift 62 = .ok (.iastore, 1) := by decide +kernel
theorem dX4_shift_63 : decode cX4_shift 63 = .ok (.iinc 4 1, 3) := by decide +kernel
theorem dX4_shift_66 : decode cX4_shift 66 = .ok (.goto (-25), 3) := by decide +kernel
theorem dX4_shift_69 : decode cX4_shift 69 = .ok (.aload_n 0, 1) := by decide +kernel
theorem dX4_shift_70 : decode cX4_shift 70 = .ok (.getfield 9, 3) := by decide +kernel
theorem dX4_shift_73 : decode cX4_shift 73 = .ok (.iload_n 2, 1) := by decide +kernel
theorem dX4_shift_74 : decode cX4_shift 74 = .ok (.iload_n 3, 1) := by decide +kernel
theorem dX4_shift_75 : decode cX4_shift 75 = .ok (.iastore, 1) := by decide +kernel
theorem dX4_shift_76 : decode cX4_shift 76 = .ok (.return_, 1) := by decide +kernel
theorem dX4_standsAs_0 : decode cX4_standsAs 0 = .ok (.iconst 0, 1) := by decide +kernel
theorem dX4_standsAs_1 : decode cX4_standsAs 1 = .ok (.istore_n 2, 1) := by decide +kernel
theorem dX4_standsAs_2 : decode cX4_standsAs 2 = .ok (.iload_n 2, 1) := by decide +kernel
theorem dX4_standsAs_3 : decode cX4_standsAs 3 = .ok (.bipush 6, 2) := by decide +kernel
theorem dX4_standsAs_5 : decode cX4_standsAs 5 = .ok (.if_icmp .ge 26, 3) := by decide +kernel
theorem dX4_standsAs_8 : decode cX4_standsAs 8 = .ok (.aload_n 0, 1) := by decide +kernel
theorem dX4_standsAs_9 : decode cX4_standsAs 9 = .ok (.getfield 9, 3) := by decide +kernel
theorem dX4_standsAs_12 : decode cX4_standsAs 12 = .ok (.iload_n 2, 1) := by decide +kernel
theorem dX4_standsAs_13 : decode cX4_standsAs 13 = .ok (.iaload, 1) := by decide +kernel
theorem dX4_standsAs_14 : decode cX4_standsAs 14 = .ok (.aload_n 1, 1) := by decide +kernel
theorem dX4_standsAs_15 : decode cX4_standsAs 15 = .ok (.getfield 9, 3) := by decide +kernel
theorem dX4_standsAs_18 : decode cX4_standsAs 18 = .ok (.iload_n 2, 1) := by decide +kernel
theorem dX4_standsAs_19 : decode cX4_standsAs 19 = .ok (.iaload, 1) := by decide +kernel
theorem dX4_standsAs_20 : decode cX4_standsAs 20 = .ok (.if_icmp .eq 5, 3) := by decide +kernel
theorem dX4_standsAs_23 : decode cX4_standsAs 23 = .ok (.iconst 0, 1) := by decide +kernel
theorem dX4_standsAs_24 : decode cX4_standsAs 24 = .ok (.ireturn, 1) := by decide +kernel
theorem dX4_standsAs_25 : decode cX4_standsAs 25 = .ok (.iinc 2 1, 3) := by decide +kernel
theorem dX4_standsAs_28 : decode cX4_standsAs 28 = .ok (.goto (-26), 3) := by decide +kernel
theorem dX4_standsAs_31 : decode cX4_standsAs 31 = .ok (.iconst 1, 1) := by decide +kernel
theorem dX4_standsAs_32 : decode cX4_standsAs 32 = .ok (.ireturn, 1) := by decide +kernel
theorem dX5_init_0 : decode cX5_init 0 = .ok (.aload_n 0, 1) := by decide +kernel
theorem dX5_init_1 : decode cX5_init 1 = .ok (.invokespecial 3, 3) := by decide +kernel
theorem dX5_init_4 : decode cX5_init 4 = .ok (.aload_n 0, 1) := by decide +kernel
theorem dX5_init_5 : decode cX5_init 5 = .ok (.sipush 160, 3) := by decide +kernel
theorem dX5_init_8 : decode cX5_init 8 = .ok (.newarray .byte, 2) := by decide +kernel
theorem dX5_init_10 : decode cX5_init 10 = .ok (.putfield 9, 3) := by decide +kernel
theorem dX5_init_13 : decode cX5_init 13 = .ok (.return_, 1) := by decide +kernel
theorem dX5_tellTo_0 : decode cX5_tellTo 0 = .ok (.aload_n 1, 1) := by decide +kernel
theorem dX5_tellTo_1 : decode cX5_tellTo 1 = .ok (.invokevirtual 15, 3) := by decide +kernel
theorem dX5_tellTo_4 : decode cX5_tellTo 4 = .ok (.aload_n 0, 1) := by decide +kernel
theorem dX5_tellTo_5 : decode cX5_tellTo 5 = .ok (.iconst 0, 1) := by decide +kernel
theorem dX5_tellTo_6 : decode cX5_tellTo 6 = .ok (.putfield 20, 3) := by decide +kernel
theorem dX5_tellTo_9 : decode cX5_tellTo 9 = .ok (.aload_n 0, 1) := by decide +kernel
theorem dX5_tellTo_10 : decode cX5_tellTo 10 = .ok (.iconst 0, 1) := by decide +kernel
theorem dX5_tellTo_11 : decode cX5_tellTo 11 = .ok (.putfield 24, 3) := by decide +kernel
theorem dX5_tellTo_14 : decode cX5_tellTo 14 = .ok (.aload_n 0, 1) := by decide +kernel
theorem dX5_tellTo_15 : decode cX5_tellTo 15 = .ok (.iconst 0, 1) := by decide +kernel
theorem dX5_tellTo_16 : decode cX5_tellTo 16 = .ok (.putfield 27, 3) := by decide +kernel
theorem dX5_tellTo_19 : decode cX5_tellTo 19 = .ok (.aload_n 0, 1) := by decide +kernel
theorem dX5_tellTo_20 : decode cX5_tellTo 20 = .ok (.iconst 0, 1) := by decide +kernel
theorem dX5_tellTo_21 : decode cX5_tellTo 21 = .ok (.putfield 30, 3) := by decide +kernel
theorem dX5_tellTo_24 : decode cX5_tellTo 24 = .ok (.iconst 0, 1) := by decide +kernel
theorem dX5_tellTo_25 : decode cX5_tellTo 25 = .ok (.istore_n 2, 1) := by decide +kernel
theorem dX5_tellTo_26 : decode cX5_tellTo 26 = .ok (.iload_n 2, 1) := by decide +kernel
theorem dX5_tellTo_27 : decode cX5_tellTo 27 = .ok (.aload_n 0, 1) := by decide +kernel
theorem dX5_tellTo_28 : decode cX5_tellTo 28 = .ok (.getfield 34, 3) := by decide +kernel
theorem dX5_tellTo_31 : decode cX5_tellTo 31 = .ok (.if_icmp .gt 17, 3) := by decide +kernel
theorem dX5_tellTo_34 : decode cX5_tellTo 34 = .ok (.aload_n 0, 1) := by decide +kernel
theorem dX5_tellTo_35 : decode cX5_tellTo 35 = .ok (.aload_n 1, 1) := by decide +kernel
theorem dX5_tellTo_36 : decode cX5_tellTo 36 = .ok (.invokevirtual 37, 3) := by decide +kernel
theorem dX5_tellTo_39 : decode cX5_tellTo 39 = .ok (.ifCond .eq 9, 3) := by decide +kernel
theorem dX5_tellTo_42 : decode cX5_tellTo 42 = .ok (.iinc 2 1, 3) := by decide +kernel
theorem dX5_tellTo_45 : decode cX5_tellTo 45 = .ok (.goto (-19), 3) := by decide +kernel
theorem dX5_tellTo_48 : decode cX5_tellTo 48 = .ok (.aload_n 1, 1) := by decide +kernel
theorem dX5_tellTo_49 : decode cX5_tellTo 49 = .ok (.invokevirtual 41, 3) := by decide +kernel
theorem dX5_tellTo_52 : decode cX5_tellTo 52 = .ok (.ifCond .eq 10, 3) := by decide +kernel
theorem dX5_tellTo_55 : decode cX5_tellTo 55 = .ok (.aload_n 0, 1) := by decide +kernel
theorem dX5_tellTo_56 : decode cX5_tellTo 56 = .ok (.bipush 6, 2) := by decide +kernel
theorem dX5_tellTo_58 : decode cX5_tellTo 58 = .ok (.invokevirtual 45, 3) := by decide +kernel
theorem dX5_tellTo_61 : decode cX5_tellTo 61 = .ok (.pop, 1) := by decide +kernel
theorem dX5_tellTo_62 : decode cX5_tellTo 62 = .ok (.iload_n 2, 1) := by decide +kernel
theorem dX5_tellTo_63 : decode cX5_tellTo 63 = .ok (.ireturn, 1) := by decide +kernel
theorem dX5_takeLine_0 : decode cX5_takeLine 0 = .ok (.aload_n 0, 1) := by decide +kernel
theorem dX5_takeLine_1 : decode cX5_takeLine 1 = .ok (.invokevirtual 49, 3) := by decide +kernel
theorem dX5_takeLine_4 : decode cX5_takeLine 4 = .ok (.aload_n 0, 1) := by decide +kernel
theorem dX5_takeLine_5 : decode cX5_takeLine 5 = .ok (.getfield 52, 3) := by decide +kernel
theorem dX5_takeLine_8 : decode cX5_takeLine 8 = .ok (.iconst 3, 1) := by decide +kernel
theorem dX5_takeLine_9 : decode cX5_takeLine 9 = .ok (.if_icmp .ne 5, 3) := by decide +kernel
theorem dX5_takeLine_12 : decode cX5_takeLine 12 = .ok (.iconst 0, 1) := by decide +kernel
theorem dX5_takeLine_13 : decode cX5_takeLine 13 = .ok (.ireturn, 1) := by decide +kernel
theorem dX5_takeLine_14 : decode cX5_takeLine 14 = .ok (.aload_n 0, 1) := by decide +kernel
theorem dX5_takeLine_15 : decode cX5_takeLine 15 = .ok (.getfield 52, 3) := by decide +kernel
theorem dX5_takeLine_18 : decode cX5_takeLine 18 = .ok (.ifCond .eq 9, 3) := by decide +kernel
theorem dX5_takeLine_21 : decode cX5_takeLine 21 = .ok (.aload_n 0, 1) := by decide +kernel
theorem dX5_takeLine_22 : decode cX5_takeLine 22 = .ok (.iconst 2, 1) := by decide +kernel
theorem dX5_takeLine_23 : decode cX5_takeLine 23 = .ok (.invokevirtual 45, 3) := by decide +kernel
theorem dX5_takeLine_26 : decode cX5_takeLine 26 = .ok (.ireturn, 1) := by decide +kernel
theorem dX5_takeLine_27 : decode cX5_takeLine 27 = .ok (.aload_n 0, 1) := by decide +kernel
theorem dX5_takeLine_28 : decode cX5_takeLine 28 = .ok (.ldc 55, 2) := by decide +kernel
theorem dX5_takeLine_30 : decode cX5_takeLine 30 = .ok (.invokevirtual 57, 3) := by decide +kernel
theorem dX5_takeLine_33 : decode cX5_takeLine 33 = .ok (.ifCond .eq 9, 3) := by decide +kernel
theorem dX5_takeLine_36 : decode cX5_takeLine 36 = .ok (.aload_n 0, 1) := by decide +kernel
theorem dX5_takeLine_37 : decode cX5_takeLine 37 = .ok (.aload_n 1, 1) := by decide +kernel
theorem dX5_takeLine_38 : decode cX5_takeLine 38 = .ok (.invokevirtual 61, 3) := by decide +kernel
theorem dX5_takeLine_41 : decode cX5_takeLine 41 = .ok (.ireturn, 1) := by decide +kernel
theorem dX5_takeLine_42 : decode cX5_takeLine 42 = .ok (.aload_n 0, 1) := by decide +kernel
theorem dX5_takeLine_43 : decode cX5_takeLine 43 = .ok (.ldc 64, 2) := by decide +kernel
theorem dX5_takeLine_45 : decode cX5_takeLine 45 = .ok (.invokevirtual 57, 3) := by decide +kernel
theorem dX5_takeLine_48 : decode cX5_takeLine 48 = .ok (.ifCond .eq 9, 3) := by decide +kernel
theorem dX5_takeLine_51 : decode cX5_takeLine 51 = .ok (.aload_n 0, 1) := by decide +kernel
theorem dX5_takeLine_52 : decode cX5_takeLine 52 = .ok (.aload_n 1, 1) := by decide +kernel
theorem dX5_takeLine_53 : decode cX5_takeLine 53 = .ok (.invokevirtual 66, 3) := by decide +kernel
theorem dX5_takeLine_56 : decode cX5_takeLine 56 = .ok (.ireturn, 1) := by decide +kernel
theorem dX5_takeLine_57 : decode cX5_takeLine 57 = .ok (.aload_n 0, 1) := by decide +kernel
theorem dX5_takeLine_58 : decode cX5_takeLine 58 = .ok (.invokevirtual 69, 3) := by decide +kernel
theorem dX5_takeLine_61 : decode cX5_takeLine 61 = .ok (.istore_n 2, 1) := by decide +kernel
theorem dX5_takeLine_62 : decode cX5_takeLine 62 = .ok (.iload_n 2, 1) := by decide +kernel
theorem dX5_takeLine_63 : decode cX5_takeLine 63 = .ok (.iconst (-1), 1) := by decide +kernel
theorem dX5_takeLine_64 : decode cX5_takeLine 64 = .ok (.if_icmp .ne 11, 3) := by decide +kernel
theorem dX5_takeLine_67 : decode cX5_takeLine 67 = .ok (.aload_n 0, 1) := by decide +kernel
theorem dX5_takeLine_68 : decode cX5_takeLine 68 = .ok (.iconst 2, 1) := by decide +kernel
theorem dX5_takeLine_69 : decode cX5_takeLine 69 = .ok (.invokevirtual 45, 3) := by decide +kernel
theorem dX5_takeLine_72 : decode cX5_takeLine 72 = .ok (.goto 9, 3) := by decide +kernel
theorem dX5_takeLine_75 : decode cX5_takeLine 75 = .ok (.aload_n 0, 1) := by decide +kernel
theorem dX5_takeLine_76 : decode cX5_takeLine 76 = .ok (.aload_n 1, 1) := by decide +kernel
theorem dX5_takeLine_77 : decode cX5_takeLine 77 = .ok (.iload_n 2, 1) := by decide +kernel
theorem dX5_takeLine_78 : decode cX5_takeLine 78 = .ok (.invokevirtual 73, 3) := by decide +kernel
theorem dX5_takeLine_81 : decode cX5_takeLine 81 = .ok (.ireturn, 1) := by decide +kernel
theorem dX5_takeShelf_0 : decode cX5_takeShelf 0 = .ok (.aload_n 1, 1) := by decide +kernel
theorem dX5_takeShelf_1 : decode cX5_takeShelf 1 = .ok (.iload_n 2, 1) := by decide +kernel
theorem dX5_takeShelf_2 : decode cX5_takeShelf 2 = .ok (.invokevirtual 77, 3) := by decide +kernel
theorem dX5_takeShelf_5 : decode cX5_takeShelf 5 = .ok (.ifCond .ne 9, 3) := by decide +kernel
theorem dX5_takeShelf_8 : decode cX5_takeShelf 8 = .ok (.aload_n 0, 1) := by decide +kernel
theorem dX5_takeShelf_9 : decode cX5_takeShelf 9 = .ok (.iconst 5, 1) := by decide +kernel
theorem dX5_takeShelf_10 : decode cX5_takeShelf 10 = .ok (.invokevirtual 45, 3) := by decide +kernel
theorem dX5_takeShelf_13 : decode cX5_takeShelf 13 = .ok (.ireturn, 1) := by decide +kernel
theorem dX5_takeShelf_14 : decode cX5_takeShelf 14 = .ok (.aload_n 0, 1) := by decide +kernel
theorem dX5_takeShelf_15 : decode cX5_takeShelf 15 = .ok (.invokevirtual 80, 3) := by decide +kernel
theorem dX5_takeShelf_18 : decode cX5_takeShelf 18 = .ok (.ireturn, 1) := by decide +kernel
theorem dX5_takeBooks_0 : decode cX5_takeBooks 0 = .ok (.aload_n 0, 1) := by decide +kernel
theorem dX5_takeBooks_1 : decode cX5_takeBooks 1 = .ok (.getfield 30, 3) := by decide +kernel
theorem dX5_takeBooks_4 : decode cX5_takeBooks 4 = .ok (.ifCond .eq 9, 3) := by decide +kernel
theorem dX5_takeBooks_7 : decode cX5_takeBooks 7 = .ok (.aload_n 0, 1) := by decide +kernel
theorem dX5_takeBooks_8 : decode cX5_takeBooks 8 = .ok (.iconst 4, 1) := by decide +kernel
theorem dX5_takeBooks_9 : decode cX5_takeBooks 9 = .ok (.invokevirtual 45, 3) := by decide +kernel
theorem dX5_takeBooks_12 : decode cX5_takeBooks 12 = .ok (.ireturn, 1) := by decide +kernel
theorem dX5_takeBooks_13 : decode cX5_takeBooks 13 = .ok (.aload_n 0, 1) := by decide +kernel
theorem dX5_takeBooks_14 : decode cX5_takeBooks 14 = .ok (.iconst 1, 1) := by decide +kernel
theorem dX5_takeBooks_15 : decode cX5_takeBooks 15 = .ok (.putfield 30, 3) := by decide +kernel
theorem dX5_takeBooks_18 : decode cX5_takeBooks 18 = .ok (.aload_n 0, 1) := by decide +kernel
theorem dX5_takeBooks_19 : decode cX5_takeBooks 19 = .ok (.invokevirtual 49, 3) := by decide +kernel
theorem dX5_takeBooks_22 : decode cX5_takeBooks 22 = .ok (.aload_n 0, 1) := by decide +kernel
theorem dX5_takeBooks_23 : decode cX5_takeBooks 23 = .ok (.getfield 52, 3) := by decide +kernel
theorem dX5_takeBooks_26 : decode cX5_takeBooks 26 = .ok (.iconst 1, 1) := by decide +kernel
theorem dX5_takeBooks_27 : decode cX5_takeBooks 27 = .ok (.if_icmp .eq 9, 3) := by decide +kernel
theorem dX5_takeBooks_30 : decode cX5_takeBooks 30 = .ok (.aload_n 0, 1) := by decide +kernel
theorem dX5_takeBooks_31 : decode cX5_takeBooks 31 = .ok (.iconst 2, 1) := by decide +kernel
theorem dX5_takeBooks_32 : decode cX5_takeBooks 32 = .ok (.invokevirtual 45, 3) := by decide +kernel
theorem dX5_takeBooks_35 : decode cX5_takeBooks 35 = .ok (.ireturn, 1) := by decide +kernel
theorem dX5_takeBooks_36 : decode cX5_takeBooks 36 = .ok (.aload_n 0, 1) := by decide +kernel
theorem dX5_takeBooks_37 : decode cX5_takeBooks 37 = .ok (.getfield 83, 3) := by decide +kernel
theorem dX5_takeBooks_40 : decode cX5_takeBooks 40 = .ok (.iconst 1, 1) := by decide +kernel
theorem dX5_takeBooks_41 : decode cX5_takeBooks 41 = .ok (.if_icmp .lt 12, 3) := by decide +kernel
theorem dX5_takeBooks_44 : decode cX5_takeBooks 44 = .ok (.aload_n 0, 1) := by decide +kernel
theorem dX5_takeBooks_45 : decode cX5_takeBooks 45 = .ok (.getfield 83, 3) := by decide +kernel
theorem dX5_takeBooks_48 : decode cX5_takeBooks 48 = .ok (.bipush 6, 2) := by decide +kernel
theorem dX5_takeBooks_50 : decode cX5_takeBooks 50 = .ok (.if_icmp .le 9, 3) := by decide +kernel
theorem dX5_takeBooks_53 : decode cX5_takeBooks 53 = .ok (.aload_n 0, 1) := by decide +kernel
theorem dX5_takeBooks_54 : decode cX5_takeBooks 54 = .ok (.iconst 3, 1) := by decide +kernel
theorem dX5_takeBooks_55 : decode cX5_takeBooks 55 = .ok (.invokevirtual 45, 3) := by decide +kernel
theorem dX5_takeBooks_58 : decode cX5_takeBooks 58 = .ok (.ireturn, 1) := by decide +kernel
theorem dX5_takeBooks_59 : decode cX5_takeBooks 59 = .ok (.aload_n 1, 1) := by decide +kernel
theorem dX5_takeBooks_60 : decode cX5_takeBooks 60 = .ok (.aload_n 0, 1) := by decide +kernel
theorem dX5_takeBooks_61 : decode cX5_takeBooks 61 = .ok (.getfield 83, 3) := by decide +kernel
theorem dX5_takeBooks_64 : decode cX5_takeBooks 64 = .ok (.putfield 86, 3) := by decide +kernel
theorem dX5_takeBooks_67 : decode cX5_takeBooks 67 = .ok (.aload_n 0, 1) := by decide +kernel
theorem dX5_takeBooks_68 : decode cX5_takeBooks 68 = .ok (.invokevirtual 80, 3) := by decide +kernel
theorem dX5_takeBooks_71 : decode cX5_takeBooks 71 = .ok (.ireturn, 1) := by decide +kernel
theorem dX5_takeWants_0 : decode cX5_takeWants 0 = .ok (.iconst 0, 1) := by decide +kernel
theorem dX5_takeWants_1 : decode cX5_takeWants 1 = .ok (.istore_n 2, 1) := by decide +kernel
theorem dX5_takeWants_2 : decode cX5_takeWants 2 = .ok (.iload_n 2, 1) := by decide +kernel
theorem dX5_takeWants_3 : decode cX5_takeWants 3 = .ok (.bipush 16, 2) := by decide +kernel
theorem dX5_takeWants_5 : decode cX5_takeWants 5 = .ok (.if_icmp .gt 76, 3) := by decide +kernel
theorem dX5_takeWants_8 : decode cX5_takeWants 8 = .ok (.aload_n 0, 1) := by decide +kernel
theorem dX5_takeWants_9 : decode cX5_takeWants 9 = .ok (.invokevirtual 49, 3) := by decide +kernel
theorem dX5_takeWants_12 : decode cX5_takeWants 12 = .ok (.aload_n 0, 1) := by decide +kernel
theorem dX5_takeWants_13 : decode cX5_takeWants 13 = .ok (.getfield 52, 3) := by decide +kernel
theorem dX5_takeWants_16 : decode cX5_takeWants 16 = .ok (.iconst 2, 1) := by decide +kernel
theorem dX5_takeWants_17 : decode cX5_takeWants 17 = .ok (.if_icmp .ne 5, 3) := by decide +kernel
theorem dX5_takeWants_20 : decode cX5_takeWants 20 = .ok (.iconst 1, 1) := by decide +kernel
theorem dX5_takeWants_21 : decode cX5_takeWants 21 = .ok (.ireturn, 1) := by decide +kernel
theorem dX5_takeWants_22 : decode cX5_takeWants 22 = .ok (.aload_n 0, 1) := by decide +kernel
theorem dX5_takeWants_23 : decode cX5_takeWants 23 = .ok (.getfield 52, 3) := by decide +kernel
theorem dX5_takeWants_26 : decode cX5_takeWants 26 = .ok (.iconst 1, 1) := by decide +kernel
theorem dX5_takeWants_27 : decode cX5_takeWants 27 = .ok (.if_icmp .eq 9, 3) := by decide +kernel
theorem dX5_takeWants_30 : decode cX5_takeWants 30 = .ok (.aload_n 0, 1) := by decide +kernel
theorem dX5_takeWants_31 : decode cX5_takeWants 31 = .ok (.iconst 2, 1) := by decide +kernel
theorem dX5_takeWants_32 : decode cX5_takeWants 32 = .ok (.invokevirtual 45, 3) := by decide +kernel
theorem dX5_takeWants_35 : decode cX5_takeWants 35 = .ok (.ireturn, 1) := by decide +kernel
theorem dX5_takeWants_36 : decode cX5_takeWants 36 = .ok (.aload_n 1, 1) := by decide +kernel
theorem dX5_takeWants_37 : decode cX5_takeWants 37 = .ok (.getfield 89, 3) := by decide +kernel
theorem dX5_takeWants_40 : decode cX5_takeWants 40 = .ok (.bipush 16, 2) := by decide +kernel
theorem dX5_takeWants_42 : decode cX5_takeWants 42 = .ok (.if_icmp .lt 9, 3) := by decide +kernel
theorem dX5_takeWants_45 : decode cX5_takeWants 45 = .ok (.aload_n 0, 1) := by decide +kernel
theorem dX5_takeWants_46 : decode cX5_takeWants 46 = .ok (.iconst 5, 1) := by decide +kernel
theorem dX5_takeWants_47 : decode cX5_takeWants 47 = .ok (.invokevirtual 45, 3) := by decide +kernel
theorem dX5_takeWants_50 : decode cX5_takeWants 50 = .ok (.ireturn, 1) := by decide +kernel
theorem dX5_takeWants_51 : decode cX5_takeWants 51 = .ok (.aload_n 0, 1) := by decide +kernel
theorem dX5_takeWants_52 : decode cX5_takeWants 52 = .ok (.getfield 83, 3) := by decide +kernel
theorem dX5_takeWants_55 : decode cX5_takeWants 55 = .ok (.bipush 6, 2) := by decide +kernel
theorem dX5_takeWants_57 : decode cX5_takeWants 57 = .ok (.if_icmp .lt 9, 3) := by decide +kernel
theorem dX5_takeWants_60 : decode cX5_takeWants 60 = .ok (.aload_n 0, 1) := by decide +kernel
theorem dX5_takeWants_61 : decode cX5_takeWants 61 = .ok (.iconst 3, 1) := by decide +kernel
theorem dX5_takeWants_62 : decode cX5_takeWants 62 = .ok (.invokevirtual 45, 3) := by decide +kernel
theorem dX5_takeWants_65 : decode cX5_takeWants 65 = .ok (.ireturn, 1) := by decide +kernel
theorem dX5_takeWants_66 : decode cX5_takeWants 66 = .ok (.aload_n 1, 1) := by decide +kernel
theorem dX5_takeWants_67 : decode cX5_takeWants 67 = .ok (.aload_n 0, 1) := by decide +kernel
theorem dX5_takeWants_68 : decode cX5_takeWants 68 = .ok (.getfield 83, 3) := by decide +kernel
theorem dX5_takeWants_71 : decode cX5_takeWants 71 = .ok (.invokevirtual 92, 3) := by decide +kernel
theorem dX5_takeWants_74 : decode cX5_takeWants 74 = .ok (.pop, 1) := by decide +kernel
theorem dX5_takeWants_75 : decode cX5_takeWants 75 = .ok (.iinc 2 1, 3) := by decide +kernel
theorem dX5_takeWants_78 : decode cX5_takeWants 78 = .ok (.goto (-76), 3) := by decide +kernel
theorem dX5_takeWants_81 : decode cX5_takeWants 81 = .ok (.iconst 0, 1) := by decide +kernel
theorem dX5_takeWants_82 : decode cX5_takeWants 82 = .ok (.ireturn, 1) := by decide +kernel
theorem dX5_takeSemicolon_0 : decode cX5_takeSemicolon 0 = .ok (.aload_n 0, 1) := by decide +kernel
theorem dX5_takeSemicolon_1 : decode cX5_takeSemicolon 1 = .ok (.invokevirtual 49, 3) := by decide +kernel
theorem dX5_takeSemicolon_4 : decode cX5_takeSemicolon 4 = .ok (.aload_n 0, 1) := by decide +kernel
theorem dX5_takeSemicolon_5 : decode cX5_takeSemicolon 5 = .ok (.getfield 52, 3) := by decide +kernel
theorem dX5_takeSemicolon_8 : decode cX5_takeSemicolon 8 = .ok (.iconst 2, 1) := by decide +kernel
theorem dX5_takeSemicolon_9 : decode cX5_takeSemicolon 9 = .ok (.if_icmp .eq 11, 3) := by decide +kernel
theorem dX5_takeSemicolon_12 : decode cX5_takeSemicolon 12 = .ok (.aload_n 0, 1) := by decide +kernel
theorem dX5_takeSemicolon_13 : decode cX5_takeSemicolon 13 = .ok (.iconst 2, 1) := by decide +kernel
theorem dX5_takeSemicolon_14 : decode cX5_takeSemicolon 14 = .ok (.invokevirtual 45, 3) := by decide +kernel
theorem dX5_takeSemicolon_17 : decode cX5_takeSemicolon 17 = .ok (.ifCond .eq 7, 3) := by decide +kernel
theorem dX5_takeSemicolon_20 : decode cX5_takeSemicolon 20 = .ok (.iconst 1, 1) := by decide +kernel
theorem dX5_takeSemicolon_21 : decode cX5_takeSemicolon 21 = .ok (.goto 4, 3) := by decide +kernel
theorem dX5_takeSemicolon_24 : decode cX5_takeSemicolon 24 = .ok (.iconst 0, 1) := by decide +kernel
theorem dX5_takeSemicolon_25 : decode cX5_takeSemicolon 25 = .ok (.ireturn, 1) := by decide +kernel
theorem dX5_refuse_0 : decode cX5_refuse 0 = .ok (.aload_n 0, 1) := by decide +kernel
theorem dX5_refuse_1 : decode cX5_refuse 1 = .ok (.getfield 24, 3) := by decide +kernel
theorem dX5_refuse_4 : decode cX5_refuse 4 = .ok (.ifCond .ne 16, 3) := by decide +kernel
theorem dX5_refuse_7 : decode cX5_refuse 7 = .ok (.aload_n 0, 1) := by decide +kernel
theorem dX5_refuse_8 : decode cX5_refuse 8 = .ok (.iload_n 1, 1) := by decide +kernel
theorem dX5_refuse_9 : decode cX5_refuse 9 = .ok (.putfield 24, 3) := by decide +kernel
theorem dX5_refuse_12 : decode cX5_refuse 12 = .ok (.aload_n 0, 1) := by decide +kernel
theorem dX5_refuse_13 : decode cX5_refuse 13 = .ok (.aload_n 0, 1) := by decide +kernel
theorem dX5_refuse_14 : decode cX5_refuse 14 = .ok (.getfield 95, 3) := by decide +kernel
theorem dX5_refuse_17 : decode cX5_refuse 17 = .ok (.putfield 27, 3) := by decide +kernel
theorem dX5_refuse_20 : decode cX5_refuse 20 = .ok (.iconst 0, 1) := by decide +kernel
theorem dX5_refuse_21 : decode cX5_refuse 21 = .ok (.ireturn, 1) := by decide +kernel
theorem dX5_kindNamed_0 : decode cX5_kindNamed 0 = .ok (.aload_n 0, 1) := by decide +kernel
theorem dX5_kindNamed_1 : decode cX5_kindNamed 1 = .ok (.ldc 98, 2) := by decide +kernel
theorem dX5_kindNamed_3 : decode cX5_kindNamed 3 = .ok (.invokevirtual 57, 3) := by decide +kernel
theorem dX5_kindNamed_6 : decode cX5_kindNamed 6 = .ok (.ifCond .eq 5, 3) := by decide +kernel
theorem dX5_kindNamed_9 : decode cX5_kindNamed 9 = .ok (.iconst 0, 1) := by decide +kernel
theorem dX5_kindNamed_10 : decode cX5_kindNamed 10 = .ok (.ireturn, 1) := by decide +kernel
theorem dX5_kindNamed_11 : decode cX5_kindNamed 11 = .ok (.aload_n 0, 1) := by decide +kernel
theorem dX5_kindNamed_12 : decode cX5_kindNamed 12 = .ok (.ldc 100, 2) := by decide +kernel
theorem dX5_kindNamed_14 : decode cX5_kindNamed 14 = .ok (.invokevirtual 57, 3) := by decide +kernel
theorem dX5_kindNamed_17 : decode cX5_kindNamed 17 = .ok (.ifCond .eq 5, 3) := by decide +kernel
theorem dX5_kindNamed_20 : decode cX5_kindNamed 20 = .ok (.iconst 1, 1) := by decide +kernel
theorem dX5_kindNamed_21 : decode cX5_kindNamed 21 = .ok (.ireturn, 1) := by decide +kernel
theorem dX5_kindNamed_22 : decode cX5_kindNamed 22 = .ok (.aload_n 0, 1) := by decide +kernel
theorem dX5_kindNamed_23 : decode cX5_kindNamed 23 = .ok (.ldc 102, 2) := by decide +kernel
theorem dX5_kindNamed_25 : decode cX5_kindNamed 25 = .ok (.invokevirtual 57, 3) := by decide +kernel
theorem dX5_kindNamed_28 : decode cX5_kindNamed 28 = .ok (.ifCond .eq 5, 3) := by decide +kernel
theorem dX5_kindNamed_31 : decode cX5_kindNamed 31 = .ok (.iconst 2, 1) := by decide +kernel
theorem dX5_kindNamed_32 : decode cX5_kindNamed 32 = .ok (.ireturn, 1) := by decide +kernel
theorem dX5_kindNamed_33 : decode cX5_kindNamed 33 = .ok (.aload_n 0, 1) := by decide +kernel
theorem dX5_kindNamed_34 : decode cX5_kindNamed 34 = .ok (.ldc 104, 2) := by decide +kernel
theorem dX5_kindNamed_36 : decode cX5_kindNamed 36 = .ok (.invokevirtual 57, 3) := by decide +kernel
theorem dX5_kindNamed_39 : decode cX5_kindNamed 39 = .ok (.ifCond .eq 7, 3) := by decide +kernel
theorem dX5_kindNamed_42 : decode cX5_kindNamed 42 = .ok (.iconst 3, 1) := by decide +kernel
theorem dX5_kindNamed_43 : decode cX5_kindNamed 43 = .ok (.goto 4, 3) := by decide +kernel
theorem dX5_kindNamed_46 : decode cX5_kindNamed 46 = .ok (.iconst (-1), 1) := by decide +kernel
theorem dX5_kindNamed_47 : decode cX5_kindNamed 47 = .ok (.ireturn, 1) := by decide +kernel
theorem dX5_isNamed_0 : decode cX5_isNamed 0 = .ok (.aload_n 0, 1) := by decide +kernel
theorem dX5_isNamed_1 : decode cX5_isNamed 1 = .ok (.getfield 20, 3) := by decide +kernel
theorem dX5_isNamed_4 : decode cX5_isNamed 4 = .ok (.aload_n 0, 1) := by decide +kernel
theorem dX5_isNamed_5 : decode cX5_isNamed 5 = .ok (.getfield 95, 3) := by decide +kernel
theorem dX5_isNamed_8 : decode cX5_isNamed 8 = .ok (.isub, 1) := by decide +kernel
theorem dX5_isNamed_9 : decode cX5_isNamed 9 = .ok (.aload_n 1, 1) := by decide +kernel
theorem dX5_isNamed_10 : decode cX5_isNamed 10 = .ok (.invokevirtual 106, 3) := by decide +kernel
theorem dX5_isNamed_13 : decode cX5_isNamed 13 = .ok (.if_icmp .eq 5, 3) := by decide +kernel
theorem dX5_isNamed_16 : decode cX5_isNamed 16 = .ok (.iconst 0, 1) := by decide +kernel
theorem dX5_isNamed_17 : decode cX5_isNamed 17 = .ok (.ireturn, 1) := by decide +kernel
theorem dX5_isNamed_18 : decode cX5_isNamed 18 = .ok (.iconst 0, 1) := by decide +kernel
theorem dX5_isNamed_19 : decode cX5_isNamed 19 = .ok (.istore_n 2, 1) := by decide +kernel
theorem dX5_isNamed_20 : decode cX5_isNamed 20 = .ok (.iload_n 2, 1) := by decide +kernel
theorem dX5_isNamed_21 : decode cX5_isNamed 21 = .ok (.aload_n 1, 1) := by decide +kernel
theorem dX5_isNamed_22 : decode cX5_isNamed 22 = .ok (.invokevirtual 106, 3) := by decide +kernel
theorem dX5_isNamed_25 : decode cX5_isNamed 25 = .ok (.if_icmp .ge 30, 3) := by decide +kernel
theorem dX5_isNamed_28 : decode cX5_isNamed 28 = .ok (.aload_n 0, 1) := by decide +kernel
theorem dX5_isNamed_29 : decode cX5_isNamed 29 = .ok (.getfield 9, 3) := by decide +kernel
theorem dX5_isNamed_32 : decode cX5_isNamed 32 = .ok (.aload_n 0, 1) := by decide +kernel
theorem dX5_isNamed_33 : decode cX5_isNamed 33 = .ok (.getfield 95, 3) := by decide +kernel
theorem dX5_isNamed_36 : decode cX5_isNamed 36 = .ok (.iload_n 2, 1) := by decide +kernel
theorem dX5_isNamed_37 : decode cX5_isNamed 37 = .ok (.iadd, 1) := by decide +kernel
theorem dX5_isNamed_38 : decode cX5_isNamed 38 = .ok (.baload, 1) := by decide +kernel
theorem dX5_isNamed_39 : decode cX5_isNamed 39 = .ok (.aload_n 1, 1) := by decide +kernel
theorem dX5_isNamed_40 : decode cX5_isNamed 40 = .ok (.iload_n 2, 1) := by decide +kernel
theorem dX5_isNamed_41 : decode cX5_isNamed 41 = .ok (.invokevirtual 110, 3) := by decide +kernel
theorem dX5_isNamed_44 : decode cX5_isNamed 44 = .ok (.if_icmp .eq 5, 3) := by decide +kernel
theorem dX5_isNamed_47 : decode cX5_isNamed 47 = .ok (.iconst 0, 1) := by decide +kernel
theorem dX5_isNamed_48 : decode cX5_isNamed 48 = .ok (.ireturn, 1) := by decide +kernel
theorem dX5_isNamed_49 : decode cX5_isNamed 49 = .ok (.iinc 2 1, 3) := by decide +kernel
theorem dX5_isNamed_52 : decode cX5_isNamed 52 = .ok (.goto (-32), 3) := by decide +kernel
theorem dX5_isNamed_55 : decode cX5_isNamed 55 = .ok (.iconst 1, 1) := by decide +kernel
theorem dX5_isNamed_56 : decode cX5_isNamed 56 = .ok (.ireturn, 1) := by decide +kernel
theorem dX5_scan_0 : decode cX5_scan 0 = .ok (.aload_n 0, 1) := by decide +kernel
theorem dX5_scan_1 : decode cX5_scan 1 = .ok (.getfield 20, 3) := by decide +kernel
theorem dX5_scan_4 : decode cX5_scan 4 = .ok (.aload_n 0, 1) := by decide +kernel
theorem dX5_scan_5 : decode cX5_scan 5 = .ok (.getfield 34, 3) := by decide +kernel
theorem dX5_scan_8 : decode cX5_scan 8 = .ok (.if_icmp .ge 30, 3) := by decide +kernel
theorem dX5_scan_11 : decode cX5_scan 11 = .ok (.aload_n 0, 1) := by decide +kernel
theorem dX5_scan_12 : decode cX5_scan 12 = .ok (.getfield 9, 3) := by decide +kernel
theorem dX5_scan_15 : decode cX5_scan 15 = .ok (.aload_n 0, 1) := by decide +kernel
theorem dX5_scan_16 : decode cX5_scan 16 = .ok (.getfield 20, 3) := by decide +kernel
theorem dX5_scan_19 : decode cX5_scan 19 = .ok (.baload, 1) := by decide +kernel
theorem dX5_scan_20 : decode cX5_scan 20 = .ok (.bipush 32, 2) := by decide +kernel
theorem dX5_scan_22 : decode cX5_scan 22 = .ok (.if_icmp .ne 16, 3) := by decide +kernel
theorem dX5_scan_25 : decode cX5_scan 25 = .ok (.aload_n 0, 1) := by decide +kernel
theorem dX5_scan_26 : decode cX5_scan 26 = .ok (.dup, 1) := by decide +kernel
theorem dX5_scan_27 : decode cX5_scan 27 = .ok (.getfield 20, 3) := by decide +kernel
theorem dX5_scan_30 : decode cX5_scan 30 = .ok (.iconst 1, 1) := by decide +kernel
theorem dX5_scan_31 : decode cX5_scan 31 = .ok (.iadd, 1) := by decide +kernel
theorem dX5_scan_32 : decode cX5_scan 32 = .ok (.putfield 20, 3) := by decide +kernel
theorem dX5_scan_35 : decode cX5_scan 35 = .ok (.goto (-35), 3) := by decide +kernel
theorem dX5_scan_38 : decode cX5_scan 38 = .ok (.aload_n 0, 1) := by decide +kernel
theorem dX5_scan_39 : decode cX5_scan 39 = .ok (.aload_n 0, 1) := by decide +kernel
theorem dX5_scan_40 : decode cX5_scan 40 = .ok (.getfield 20, 3) := by decide +kernel
theorem dX5_scan_43 : decode cX5_scan 43 = .ok (.putfield 95, 3) := by decide +kernel
theorem dX5_scan_46 : decode cX5_scan 46 = .ok (.aload_n 0, 1) := by decide +kernel
theorem dX5_scan_47 : decode cX5_scan 47 = .ok (.getfield 20, 3) := by decide +kernel
theorem dX5_scan_50 : decode cX5_scan 50 = .ok (.aload_n 0, 1) := by decide +kernel
theorem dX5_scan_51 : decode cX5_scan 51 = .ok (.getfield 34, 3) := by decide +kernel
theorem dX5_scan_54 : decode cX5_scan 54 = .ok (.if_icmp .lt 11, 3) := by decide +kernel
theorem dX5_scan_57 : decode cX5_scan 57 = .ok (.aload_n 0, 1) := by decide +kernel
theorem dX5_scan_58 : decode cX5_scan 58 = .ok (.iconst 3, 1) := by decide +kernel
theorem dX5_scan_59 : decode cX5_scan 59 = .ok (.putfield 52, 3) := by decide +kernel
theorem dX5_scan_62 : decode cX5_scan 62 = .ok (.goto 90, 3) := by decide +kernel
theorem dX5_scan_65 : decode cX5_scan 65 = .ok (.aload_n 0, 1) := by decide +kernel
theorem dX5_scan_66 : decode cX5_scan 66 = .ok (.getfield 9, 3) := by decide +kernel
theorem dX5_scan_69 : decode cX5_scan 69 = .ok (.aload_n 0, 1) := by decide +kernel
theorem dX5_scan_70 : decode cX5_scan 70 = .ok (.getfield 20, 3) := by decide +kernel
theorem dX5_scan_73 : decode cX5_scan 73 = .ok (.baload, 1) := by decide +kernel
theorem dX5_scan_74 : decode cX5_scan 74 = .ok (.bipush 59, 2) := by decide +kernel
theorem dX5_scan_76 : decode cX5_scan 76 = .ok (.if_icmp .ne 21, 3) := by decide +kernel
theorem dX5_scan_79 : decode cX5_scan 79 = .ok (.aload_n 0, 1) := by decide +kernel
theorem dX5_scan_80 : decode cX5_scan 80 = .ok (.dup, 1) := by decide +kernel
theorem dX5_scan_81 : decode cX5_scan 81 = .ok (.getfield 20, 3) := by decide +kernel
theorem dX5_scan_84 : decode cX5_scan 84 = .ok (.iconst 1, 1) := by decide +kernel
theorem dX5_scan_85 : decode cX5_scan 85 = .ok (.iadd, 1) := by decide +kernel
theorem dX5_scan_86 : decode cX5_scan 86 = .ok (.putfield 20, 3) := by decide +kernel
theorem dX5_scan_89 : decode cX5_scan 89 = .ok (.aload_n 0, 1) := by decide +kernel
theorem dX5_scan_90 : decode cX5_scan 90 = .ok (.iconst 2, 1) := by decide +kernel
theorem dX5_scan_91 : decode cX5_scan 91 = .ok (.putfield 52, 3) := by decide +kernel
theorem dX5_scan_94 : decode cX5_scan 94 = .ok (.goto 58, 3) := by decide +kernel
theorem dX5_scan_97 : decode cX5_scan 97 = .ok (.aload_n 0, 1) := by decide +kernel
theorem dX5_scan_98 : decode cX5_scan 98 = .ok (.getfield 9, 3) := by decide +kernel
theorem dX5_scan_101 : decode cX5_scan 101 = .ok (.aload_n 0, 1) := by decide +kernel
theorem dX5_scan_102 : decode cX5_scan 102 = .ok (.getfield 20, 3) := by decide +kernel
theorem dX5_scan_105 : decode cX5_scan 105 = .ok (.baload, 1) := by decide +kernel
theorem dX5_scan_106 : decode cX5_scan 106 = .ok (.invokestatic 114, 3) := by decide +kernel
theorem dX5_scan_109 : decode cX5_scan 109 = .ok (.ifCond .eq 10, 3) := by decide +kernel
theorem dX5_scan_112 : decode cX5_scan 112 = .ok (.aload_n 0, 1) := by decide +kernel
theorem dX5_scan_113 : decode cX5_scan 113 = .ok (.invokevirtual 117, 3) := by decide +kernel
theorem dX5_scan_116 : decode cX5_scan 116 = .ok (.goto 36, 3) := by decide +kernel
theorem dX5_scan_119 : decode cX5_scan 119 = .ok (.aload_n 0, 1) := by decide +kernel
theorem dX5_scan_120 : decode cX5_scan 120 = .ok (.getfield 9, 3) := by decide +kernel
theorem dX5_scan_123 : decode cX5_scan 123 = .ok (.aload_n 0, 1) := by decide +kernel
theorem dX5_scan_124 : decode cX5_scan 124 = .ok (.getfield 20, 3) := by decide +kernel
theorem dX5_scan_127 : decode cX5_scan 127 = .ok (.baload, 1) := by decide +kernel
theorem dX5_scan_128 : decode cX5_scan 128 = .ok (.invokestatic 120, 3) := by decide +kernel
theorem dX5_scan_131 : decode cX5_scan 131 = .ok (.ifCond .eq 10, 3) := by decide +kernel
theorem dX5_scan_134 : decode cX5_scan 134 = .ok (.aload_n 0, 1) := by decide +kernel
theorem dX5_scan_135 : decode cX5_scan 135 = .ok (.invokevirtual 123, 3) := by decide +kernel
theorem dX5_scan_138 : decode cX5_scan 138 = .ok (.goto 14, 3) := by decide +kernel
theorem dX5_scan_141 : decode cX5_scan 141 = .ok (.aload_n 0, 1) := by decide +kernel
theorem dX5_scan_142 : decode cX5_scan 142 = .ok (.iconst 4, 1) := by decide +kernel
theorem dX5_scan_143 : decode cX5_scan 143 = .ok (.putfield 52, 3) := by decide +kernel
theorem dX5_scan_146 : decode cX5_scan 146 = .ok (.aload_n 0, 1) := by decide +kernel
theorem dX5_scan_147 : decode cX5_scan 147 = .ok (.iconst 1, 1) := by decide +kernel
theorem dX5_scan_148 : decode cX5_scan 148 = .ok (.invokevirtual 45, 3) := by decide +kernel
theorem dX5_scan_151 : decode cX5_scan 151 = .ok (.pop, 1) := by decide +kernel
theorem dX5_scan_152 : decode cX5_scan 152 = .ok (.return_, 1) := by decide +kernel
theorem dX5_scanName_0 : decode cX5_scanName 0 = .ok (.aload_n 0, 1) := by decide +kernel
theorem dX5_scanName_1 : decode cX5_scanName 1 = .ok (.iconst 0, 1) := by decide +kernel
theorem dX5_scanName_2 : decode cX5_scanName 2 = .ok (.putfield 52, 3) := by decide +kernel
theorem dX5_scanName_5 : decode cX5_scanName 5 = .ok (.aload_n 0, 1) := by decide +kernel
theorem dX5_scanName_6 : decode cX5_scanName 6 = .ok (.getfield 20, 3) := by decide +kernel
theorem dX5_scanName_9 : decode cX5_scanName 9 = .ok (.aload_n 0, 1) := by decide +kernel
theorem dX5_scanName_10 : decode cX5_scanName 10 = .ok (.getfield 34, 3) := by decide +kernel
theorem dX5_scanName_13 : decode cX5_scanName 13 = .ok (.if_icmp .ge 31, 3) := by decide +kernel
theorem dX5_scanName_16 : decode cX5_scanName 16 = .ok (.aload_n 0, 1) := by decide +kernel
theorem dX5_scanName_17 : decode cX5_scanName 17 = .ok (.getfield 9, 3) := by decide +kernel
theorem dX5_scanName_20 : decode cX5_scanName 20 = .ok (.aload_n 0, 1) := by decide +kernel
theorem dX5_scanName_21 : decode cX5_scanName 21 = .ok (.getfield 20, 3) := by decide +kernel
theorem dX5_scanName_24 : decode cX5_scanName 24 = .ok (.baload, 1) := by decide +kernel
theorem dX5_scanName_25 : decode cX5_scanName 25 = .ok (.invokestatic 114, 3) := by decide +kernel
theorem dX5_scanName_28 : decode cX5_scanName 28 = .ok (.ifCond .eq 16, 3) := by decide +kernel
theorem dX5_scanName_31 : decode cX5_scanName 31 = .ok (.aload_n 0, 1) := by decide +kernel
theorem dX5_scanName_32 : decode cX5_scanName 32 = .ok (.dup, 1) := by decide +kernel
theorem dX5_scanName_33 : decode cX5_scanName 33 = .ok (.getfield 20, 3) := by decide +kernel
theorem dX5_scanName_36 : decode cX5_scanName 36 = .ok (.iconst 1, 1) := by decide +kernel
theorem dX5_scanName_37 : decode cX5_scanName 37 = .ok (.iadd, 1) := by decide +kernel
theorem dX5_scanName_38 : decode cX5_scanName 38 = .ok (.putfield 20, 3) := by decide +kernel
theorem dX5_scanName_41 : decode cX5_scanName 41 = .ok (.goto (-36), 3) := by decide +kernel
theorem dX5_scanName_44 : decode cX5_scanName 44 = .ok (.return_, 1) := by decide +kernel
theorem dX5_scanNumber_0 : decode cX5_scanNumber 0 = .ok (.aload_n 0, 1) := by decide +kernel
theorem dX5_scanNumber_1 : decode cX5_scanNumber 1 = .ok (.iconst 1, 1) := by decide +kernel
theorem dX5_scanNumber_2 : decode cX5_scanNumber 2 = .ok (.putfield 52, 3) := by decide +kernel
theorem dX5_scanNumber_5 : decode cX5_scanNumber 5 = .ok (.aload_n 0, 1) := by decide +kernel
theorem dX5_scanNumber_6 : decode cX5_scanNumber 6 = .ok (.iconst 0, 1) := by decide +kernel
theorem dX5_scanNumber_7 : decode cX5_scanNumber 7 = .ok (.putfield 83, 3) := by decide +kernel
theorem dX5_scanNumber_10 : decode cX5_scanNumber 10 = .ok (.aload_n 0, 1) := by decide +kernel
theorem dX5_scanNumber_11 : decode cX5_scanNumber 11 = .ok (.getfield 20, 3) := by decide +kernel
theorem dX5_scanNumber_14 : decode cX5_scanNumber 14 = .ok (.aload_n 0, 1) := by decide +kernel
theorem dX5_scanNumber_15 : decode cX5_scanNumber 15 = .ok (.getfield 34, 3) := by decide +kernel
theorem dX5_scanNumber_18 : decode cX5_scanNumber 18 = .ok (.if_icmp .ge 55, 3) := by decide +kernel
theorem dX5_scanNumber_21 : decode cX5_scanNumber 21 = .ok (.aload_n 0, 1) := by decide +kernel
theorem dX5_scanNumber_22 : decode cX5_scanNumber 22 = .ok (.getfield 9, 3) := by decide +kernel
theorem dX5_scanNumber_25 : decode cX5_scanNumber 25 = .ok (.aload_n 0, 1) := by decide +kernel
theorem dX5_scanNumber_26 : decode cX5_scanNumber 26 = .ok (.getfield 20, 3) := by decide +kernel
theorem dX5_scanNumber_29 : decode cX5_scanNumber 29 = .ok (.baload, 1) := by decide +kernel
theorem dX5_scanNumber_30 : decode cX5_scanNumber 30 = .ok (.invokestatic 120, 3) := by decide +kernel
theorem dX5_scanNumber_33 : decode cX5_scanNumber 33 = .ok (.ifCond .eq 40, 3) := by decide +kernel
theorem dX5_scanNumber_36 : decode cX5_scanNumber 36 = .ok (.aload_n 0, 1) := by decide +kernel
theorem dX5_scanNumber_37 : decode cX5_scanNumber 37 = .ok (.aload_n 0, 1) := by decide +kernel
theorem dX5_scanNumber_38 : decode cX5_scanNumber 38 = .ok (.getfield 83, 3) := by decide +kernel
theorem dX5_scanNumber_41 : decode cX5_scanNumber 41 = .ok (.bipush 10, 2) := by decide +kernel
theorem dX5_scanNumber_43 : decode cX5_scanNumber 43 = .ok (.imul, 1) := by decide +kernel
theorem dX5_scanNumber_44 : decode cX5_scanNumber 44 = .ok (.aload_n 0, 1) := by decide +kernel
theorem dX5_scanNumber_45 : decode cX5_scanNumber 45 = .ok (.getfield 9, 3) := by decide +kernel
theorem dX5_scanNumber_48 : decode cX5_scanNumber 48 = .ok (.aload_n 0, 1) := by decide +kernel
theorem dX5_scanNumber_49 : decode cX5_scanNumber 49 = .ok (.getfield 20, 3) := by decide +kernel
theorem dX5_scanNumber_52 : decode cX5_scanNumber 52 = .ok (.baload, 1) := by decide +kernel
theorem dX5_scanNumber_53 : decode cX5_scanNumber 53 = .ok (.iadd, 1) := by decide +kernel
theorem dX5_scanNumber_54 : decode cX5_scanNumber 54 = .ok (.bipush 48, 2) := by decide +kernel
theorem dX5_scanNumber_56 : decode cX5_scanNumber 56 = .ok (.isub, 1) := by decide +kernel
theorem dX5_scanNumber_57 : decode cX5_scanNumber 57 = .ok (.putfield 83, 3) := by decide +kernel
theorem dX5_scanNumber_60 : decode cX5_scanNumber 60 = .ok (.aload_n 0, 1) := by decide +kernel
theorem dX5_scanNumber_61 : decode cX5_scanNumber 61 = .ok (.dup, 1) := by decide +kernel
theorem dX5_scanNumber_62 : decode cX5_scanNumber 62 = .ok (.getfield 20, 3) := by decide +kernel
theorem dX5_scanNumber_65 : decode cX5_scanNumber 65 = .ok (.iconst 1, 1) := by decide +kernel
theorem dX5_scanNumber_66 : decode cX5_scanNumber 66 = .ok (.iadd, 1) := by decide +kernel
theorem dX5_scanNumber_67 : decode cX5_scanNumber 67 = .ok (.putfield 20, 3) := by decide +kernel
theorem dX5_scanNumber_70 : decode cX5_scanNumber 70 = .ok (.goto (-60), 3) := by decide +kernel
theorem dX5_scanNumber_73 : decode cX5_scanNumber 73 = .ok (.aload_n 0, 1) := by decide +kernel
theorem dX5_scanNumber_74 : decode cX5_scanNumber 74 = .ok (.getfield 20, 3) := by decide +kernel
theorem dX5_scanNumber_77 : decode cX5_scanNumber 77 = .ok (.aload_n 0, 1) := by decide +kernel
theorem dX5_scanNumber_78 : decode cX5_scanNumber 78 = .ok (.getfield 95, 3) := by decide +kernel
theorem dX5_scanNumber_81 : decode cX5_scanNumber 81 = .ok (.isub, 1) := by decide +kernel
theorem dX5_scanNumber_82 : decode cX5_scanNumber 82 = .ok (.iconst 2, 1) := by decide +kernel
theorem dX5_scanNumber_83 : decode cX5_scanNumber 83 = .ok (.if_icmp .le 14, 3) := by decide +kernel
theorem dX5_scanNumber_86 : decode cX5_scanNumber 86 = .ok (.aload_n 0, 1) := by decide +kernel
theorem dX5_scanNumber_87 : decode cX5_scanNumber 87 = .ok (.iconst 4, 1) := by decide +kernel
theorem dX5_scanNumber_88 : decode cX5_scanNumber 88 = .ok (.putfield 52, 3) := by decide +kernel
theorem dX5_scanNumber_91 : decode cX5_scanNumber 91 = .ok (.aload_n 0, 1) := by decide +kernel
theorem dX5_scanNumber_92 : decode cX5_scanNumber 92 = .ok (.iconst 1, 1) := by decide +kernel
theorem dX5_scanNumber_93 : decode cX5_scanNumber 93 = .ok (.invokevirtual 45, 3) := by decide +kernel
theorem dX5_scanNumber_96 : decode cX5_scanNumber 96 = .ok (.pop, 1) := by decide +kernel
theorem dX5_scanNumber_97 : decode cX5_scanNumber 97 = .ok (.return_, 1) := by decide +kernel
theorem dX5_isLetter_0 : decode cX5_isLetter 0 = .ok (.iload_n 0, 1) := by decide +kernel
theorem dX5_isLetter_1 : decode cX5_isLetter 1 = .ok (.bipush 97, 2) := by decide +kernel
theorem dX5_isLetter_3 : decode cX5_isLetter 3 = .ok (.if_icmp .lt 13, 3) := by decide +kernel
theorem dX5_isLetter_6 : decode cX5_isLetter 6 = .ok (.iload_n 0, 1) := by decide +kernel
theorem dX5_isLetter_7 : decode cX5_isLetter 7 = .ok (.bipush 122, 2) := by decide +kernel
theorem dX5_isLetter_9 : decode cX5_isLetter 9 = .ok (.if_icmp .gt 7, 3) := by decide +kernel
theorem dX5_isLetter_12 : decode cX5_isLetter 12 = .ok (.iconst 1, 1) := by decide +kernel
theorem dX5_isLetter_13 : decode cX5_isLetter 13 = .ok (.goto 4, 3) := by decide +kernel
theorem dX5_isLetter_16 : decode cX5_isLetter 16 = .ok (.iconst 0, 1) := by decide +kernel
theorem dX5_isLetter_17 : decode cX5_isLetter 17 = .ok (.ireturn, 1) := by decide +kernel
theorem dX5_isFigure_0 : decode cX5_isFigure 0 = .ok (.iload_n 0, 1) := by decide +kernel
theorem dX5_isFigure_1 : decode cX5_isFigure 1 = .ok (.bipush 48, 2) := by decide +kernel
theorem dX5_isFigure_3 : decode cX5_isFigure 3 = .ok (.if_icmp .lt 13, 3) := by decide +kernel
theorem dX5_isFigure_6 : decode cX5_isFigure 6 = .ok (.iload_n 0, 1) := by decide +kernel
theorem dX5_isFigure_7 : decode cX5_isFigure 7 = .ok (.bipush 57, 2) := by decide +kernel
theorem dX5_isFigure_9 : decode cX5_isFigure 9 = .ok (.if_icmp .gt 7, 3) := by decide +kernel
theorem dX5_isFigure_12 : decode cX5_isFigure 12 = .ok (.iconst 1, 1) := by decide +kernel
theorem dX5_isFigure_13 : decode cX5_isFigure 13 = .ok (.goto 4, 3) := by decide +kernel
theorem dX5_isFigure_16 : decode cX5_isFigure 16 = .ok (.iconst 0, 1) := by decide +kernel
theorem dX5_isFigure_17 : decode cX5_isFigure 17 = .ok (.ireturn, 1) := by decide +kernel
theorem dX6_init_0 : decode cX6_init 0 = .ok (.aload_n 0, 1) := by decide +kernel
theorem dX6_init_1 : decode cX6_init 1 = .ok (.invokespecial 1, 3) := by decide +kernel
theorem dX6_init_4 : decode cX6_init 4 = .ok (.aload_n 0, 1) := by decide +kernel
theorem dX6_init_5 : decode cX6_init 5 = .ok (.new 7, 3) := by decide +kernel
theorem dX6_init_8 : decode cX6_init 8 = .ok (.dup, 1) := by decide +kernel
theorem dX6_init_9 : decode cX6_init 9 = .ok (.invokespecial 9, 3) := by decide +kernel
theorem dX6_init_12 : decode cX6_init 12 = .ok (.putfield 10, 3) := by decide +kernel
theorem dX6_init_15 : decode cX6_init 15 = .ok (.aload_n 0, 1) := by decide +kernel
theorem dX6_init_16 : decode cX6_init 16 = .ok (.new 7, 3) := by decide +kernel
theorem dX6_init_19 : decode cX6_init 19 = .ok (.dup, 1) := by decide +kernel
theorem dX6_init_20 : decode cX6_init 20 = .ok (.invokespecial 9, 3) := by decide +kernel
theorem dX6_init_23 : decode cX6_init 23 = .ok (.putfield 16, 3) := by decide +kernel
theorem dX6_init_26 : decode cX6_init 26 = .ok (.aload_n 0, 1) := by decide +kernel
theorem dX6_init_27 : decode cX6_init 27 = .ok (.iconst 2, 1) := by decide +kernel
theorem dX6_init_28 : decode cX6_init 28 = .ok (.anewarray 7, 3) := by decide +kernel
theorem dX6_init_31 : decode cX6_init 31 = .ok (.putfield 19, 3) := by decide +kernel
theorem dX6_init_34 : decode cX6_init 34 = .ok (.aload_n 0, 1) := by decide +kernel
theorem dX6_init_35 : decode cX6_init 35 = .ok (.iconst 2, 1) := by decide +kernel
