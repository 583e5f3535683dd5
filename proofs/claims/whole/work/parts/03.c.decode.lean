theorem dX6_power_11 : decode cX6_power 11 = .ok (.lload_n 2, 1) := by decide +kernel
theorem dX6_power_12 : decode cX6_power 12 = .ok (.iload_n 0, 1) := by decide +kernel
theorem dX6_power_13 : decode cX6_power 13 = .ok (.i2l, 1) := by decide +kernel
theorem dX6_power_14 : decode cX6_power 14 = .ok (.lmul, 1) := by decide +kernel
theorem dX6_power_15 : decode cX6_power 15 = .ok (.lstore_n 2, 1) := by decide +kernel
theorem dX6_power_16 : decode cX6_power 16 = .ok (.iinc 4 1, 3) := by decide +kernel
theorem dX6_power_19 : decode cX6_power 19 = .ok (.goto (-14), 3) := by decide +kernel
theorem dX6_power_22 : decode cX6_power 22 = .ok (.lload_n 2, 1) := by decide +kernel
theorem dX6_power_23 : decode cX6_power 23 = .ok (.lreturn, 1) := by decide +kernel
theorem dX6_inLowestTerms_0 : decode cX6_inLowestTerms 0 = .ok (.lload_n 2, 1) := by decide +kernel
theorem dX6_inLowestTerms_1 : decode cX6_inLowestTerms 1 = .ok (.lstore 5, 2) := by decide +kernel
theorem dX6_inLowestTerms_3 : decode cX6_inLowestTerms 3 = .ok (.lload_n 0, 1) := by decide +kernel
theorem dX6_inLowestTerms_4 : decode cX6_inLowestTerms 4 = .ok (.lstore 7, 2) := by decide +kernel
theorem dX6_inLowestTerms_6 : decode cX6_inLowestTerms 6 = .ok (.iconst 0, 1) := by decide +kernel
theorem dX6_inLowestTerms_7 : decode cX6_inLowestTerms 7 = .ok (.istore 9, 2) := by decide +kernel
theorem dX6_inLowestTerms_9 : decode cX6_inLowestTerms 9 = .ok (.iload 9, 2) := by decide +kernel
theorem dX6_inLowestTerms_11 : decode cX6_inLowestTerms 11 = .ok (.bipush 100, 2) := by decide +kernel
theorem dX6_inLowestTerms_13 : decode cX6_inLowestTerms 13 = .ok (.if_icmp .ge 31, 3) := by decide +kernel
theorem dX6_inLowestTerms_16 : decode cX6_inLowestTerms 16 = .ok (.lload 7, 2) := by decide +kernel
theorem dX6_inLowestTerms_18 : decode cX6_inLowestTerms 18 = .ok (.lconst 0, 1) := by decide +kernel
theorem dX6_inLowestTerms_19 : decode cX6_inLowestTerms 19 = .ok (.lcmp, 1) := by decide +kernel
theorem dX6_inLowestTerms_20 : decode cX6_inLowestTerms 20 = .ok (.ifCond .eq 24, 3) := by decide +kernel
theorem dX6_inLowestTerms_23 : decode cX6_inLowestTerms 23 = .ok (.lload 5, 2) := by decide +kernel
theorem dX6_inLowestTerms_25 : decode cX6_inLowestTerms 25 = .ok (.lload 7, 2) := by decide +kernel
theorem dX6_inLowestTerms_27 : decode cX6_inLowestTerms 27 = .ok (.lrem, 1) := by decide +kernel
theorem dX6_inLowestTerms_28 : decode cX6_inLowestTerms 28 = .ok (.lstore 10, 2) := by decide +kernel
theorem dX6_inLowestTerms_30 : decode cX6_inLowestTerms 30 = .ok (.lload 7, 2) := by decide +kernel
theorem dX6_inLowestTerms_32 : decode cX6_inLowestTerms 32 = .ok (.lstore 5, 2) := by decide +kernel
theorem dX6_inLowestTerms_34 : decode cX6_inLowestTerms 34 = .ok (.lload 10, 2) := by decide +kernel
theorem dX6_inLowestTerms_36 : decode cX6_inLowestTerms 36 = .ok (.lstore 7, 2) := by decide +kernel
theorem dX6_inLowestTerms_38 : decode cX6_inLowestTerms 38 = .ok (.iinc 9 1, 3) := by decide +kernel
theorem dX6_inLowestTerms_41 : decode cX6_inLowestTerms 41 = .ok (.goto (-32), 3) := by decide +kernel
theorem dX6_inLowestTerms_44 : decode cX6_inLowestTerms 44 = .ok (.lload 5, 2) := by decide +kernel
theorem dX6_inLowestTerms_46 : decode cX6_inLowestTerms 46 = .ok (.lconst 0, 1) := by decide +kernel
theorem dX6_inLowestTerms_47 : decode cX6_inLowestTerms 47 = .ok (.lcmp, 1) := by decide +kernel
theorem dX6_inLowestTerms_48 : decode cX6_inLowestTerms 48 = .ok (.ifCond .ne 7, 3) := by decide +kernel
theorem dX6_inLowestTerms_51 : decode cX6_inLowestTerms 51 = .ok (.ldc2_w 234, 3) := by decide +kernel
theorem dX6_inLowestTerms_54 : decode cX6_inLowestTerms 54 = .ok (.lreturn, 1) := by decide +kernel
theorem dX6_inLowestTerms_55 : decode cX6_inLowestTerms 55 = .ok (.iload 4, 2) := by decide +kernel
theorem dX6_inLowestTerms_57 : decode cX6_inLowestTerms 57 = .ok (.ifCond .ne 10, 3) := by decide +kernel
theorem dX6_inLowestTerms_60 : decode cX6_inLowestTerms 60 = .ok (.lload_n 0, 1) := by decide +kernel
theorem dX6_inLowestTerms_61 : decode cX6_inLowestTerms 61 = .ok (.lload 5, 2) := by decide +kernel
theorem dX6_inLowestTerms_63 : decode cX6_inLowestTerms 63 = .ok (.ldiv, 1) := by decide +kernel
theorem dX6_inLowestTerms_64 : decode cX6_inLowestTerms 64 = .ok (.goto 7, 3) := by decide +kernel
theorem dX6_inLowestTerms_67 : decode cX6_inLowestTerms 67 = .ok (.lload_n 2, 1) := by decide +kernel
theorem dX6_inLowestTerms_68 : decode cX6_inLowestTerms 68 = .ok (.lload 5, 2) := by decide +kernel
theorem dX6_inLowestTerms_70 : decode cX6_inLowestTerms 70 = .ok (.ldiv, 1) := by decide +kernel
theorem dX6_inLowestTerms_71 : decode cX6_inLowestTerms 71 = .ok (.lreturn, 1) := by decide +kernel
theorem dX6_see_0 : decode cX6_see 0 = .ok (.iload_n 1, 1) := by decide +kernel
theorem dX6_see_1 : decode cX6_see 1 = .ok (.iconst 0, 1) := by decide +kernel
theorem dX6_see_2 : decode cX6_see 2 = .ok (.bipush 40, 2) := by decide +kernel
theorem dX6_see_4 : decode cX6_see 4 = .ok (.invokestatic 69, 3) := by decide +kernel
theorem dX6_see_7 : decode cX6_see 7 = .ok (.ifCond .eq 25, 3) := by decide +kernel
theorem dX6_see_10 : decode cX6_see 10 = .ok (.aload_n 0, 1) := by decide +kernel
theorem dX6_see_11 : decode cX6_see 11 = .ok (.getfield 10, 3) := by decide +kernel
theorem dX6_see_14 : decode cX6_see 14 = .ok (.iload_n 2, 1) := by decide +kernel
theorem dX6_see_15 : decode cX6_see 15 = .ok (.invokevirtual 138, 3) := by decide +kernel
theorem dX6_see_18 : decode cX6_see 18 = .ok (.ifCond .eq 14, 3) := by decide +kernel
theorem dX6_see_21 : decode cX6_see 21 = .ok (.aload_n 0, 1) := by decide +kernel
theorem dX6_see_22 : decode cX6_see 22 = .ok (.getfield 10, 3) := by decide +kernel
theorem dX6_see_25 : decode cX6_see 25 = .ok (.iload_n 3, 1) := by decide +kernel
theorem dX6_see_26 : decode cX6_see 26 = .ok (.invokevirtual 151, 3) := by decide +kernel
theorem dX6_see_29 : decode cX6_see 29 = .ok (.ifCond .ne 5, 3) := by decide +kernel
theorem dX6_see_32 : decode cX6_see 32 = .ok (.iconst (-1), 1) := by decide +kernel
theorem dX6_see_33 : decode cX6_see 33 = .ok (.ireturn, 1) := by decide +kernel
theorem dX6_see_34 : decode cX6_see 34 = .ok (.aload_n 0, 1) := by decide +kernel
theorem dX6_see_35 : decode cX6_see 35 = .ok (.getfield 37, 3) := by decide +kernel
theorem dX6_see_38 : decode cX6_see 38 = .ok (.iload_n 1, 1) := by decide +kernel
theorem dX6_see_39 : decode cX6_see 39 = .ok (.iload_n 2, 1) := by decide +kernel
theorem dX6_see_40 : decode cX6_see 40 = .ok (.iload_n 3, 1) := by decide +kernel
theorem dX6_see_41 : decode cX6_see 41 = .ok (.invokevirtual 256, 3) := by decide +kernel
theorem dX6_see_44 : decode cX6_see 44 = .ok (.ifCond .eq 13, 3) := by decide +kernel
theorem dX6_see_47 : decode cX6_see 47 = .ok (.aload_n 0, 1) := by decide +kernel
theorem dX6_see_48 : decode cX6_see 48 = .ok (.getfield 37, 3) := by decide +kernel
theorem dX6_see_51 : decode cX6_see 51 = .ok (.getfield 94, 3) := by decide +kernel
theorem dX6_see_54 : decode cX6_see 54 = .ok (.goto 5, 3) := by decide +kernel
theorem dX6_see_57 : decode cX6_see 57 = .ok (.bipush (-3), 2) := by decide +kernel
theorem dX6_see_59 : decode cX6_see 59 = .ok (.ireturn, 1) := by decide +kernel
theorem dX6_forget_0 : decode cX6_forget 0 = .ok (.iload_n 1, 1) := by decide +kernel
theorem dX6_forget_1 : decode cX6_forget 1 = .ok (.iconst 0, 1) := by decide +kernel
theorem dX6_forget_2 : decode cX6_forget 2 = .ok (.aload_n 0, 1) := by decide +kernel
theorem dX6_forget_3 : decode cX6_forget 3 = .ok (.getfield 37, 3) := by decide +kernel
theorem dX6_forget_6 : decode cX6_forget 6 = .ok (.getfield 94, 3) := by decide +kernel
theorem dX6_forget_9 : decode cX6_forget 9 = .ok (.invokestatic 69, 3) := by decide +kernel
theorem dX6_forget_12 : decode cX6_forget 12 = .ok (.ifCond .ne 5, 3) := by decide +kernel
theorem dX6_forget_15 : decode cX6_forget 15 = .ok (.iconst (-1), 1) := by decide +kernel
theorem dX6_forget_16 : decode cX6_forget 16 = .ok (.ireturn, 1) := by decide +kernel
theorem dX6_forget_17 : decode cX6_forget 17 = .ok (.aload_n 0, 1) := by decide +kernel
theorem dX6_forget_18 : decode cX6_forget 18 = .ok (.getfield 37, 3) := by decide +kernel
theorem dX6_forget_21 : decode cX6_forget 21 = .ok (.getfield 94, 3) := by decide +kernel
theorem dX6_forget_24 : decode cX6_forget 24 = .ok (.istore_n 2, 1) := by decide +kernel
theorem dX6_forget_25 : decode cX6_forget 25 = .ok (.aload_n 0, 1) := by decide +kernel
theorem dX6_forget_26 : decode cX6_forget 26 = .ok (.getfield 37, 3) := by decide +kernel
theorem dX6_forget_29 : decode cX6_forget 29 = .ok (.iload_n 1, 1) := by decide +kernel
theorem dX6_forget_30 : decode cX6_forget 30 = .ok (.putfield 94, 3) := by decide +kernel
theorem dX6_forget_33 : decode cX6_forget 33 = .ok (.iload_n 2, 1) := by decide +kernel
theorem dX6_forget_34 : decode cX6_forget 34 = .ok (.ireturn, 1) := by decide +kernel
theorem dX6_kinds_0 : decode cX6_kinds 0 = .ok (.aload_n 0, 1) := by decide +kernel
theorem dX6_kinds_1 : decode cX6_kinds 1 = .ok (.getfield 10, 3) := by decide +kernel
theorem dX6_kinds_4 : decode cX6_kinds 4 = .ok (.iload_n 1, 1) := by decide +kernel
theorem dX6_kinds_5 : decode cX6_kinds 5 = .ok (.invokevirtual 138, 3) := by decide +kernel
theorem dX6_kinds_8 : decode cX6_kinds 8 = .ok (.ifCond .ne 5, 3) := by decide +kernel
theorem dX6_kinds_11 : decode cX6_kinds 11 = .ok (.iconst (-1), 1) := by decide +kernel
theorem dX6_kinds_12 : decode cX6_kinds 12 = .ok (.ireturn, 1) := by decide +kernel
theorem dX6_kinds_13 : decode cX6_kinds 13 = .ok (.iconst 0, 1) := by decide +kernel
theorem dX6_kinds_14 : decode cX6_kinds 14 = .ok (.istore_n 2, 1) := by decide +kernel
theorem dX6_kinds_15 : decode cX6_kinds 15 = .ok (.iconst 0, 1) := by decide +kernel
theorem dX6_kinds_16 : decode cX6_kinds 16 = .ok (.istore_n 3, 1) := by decide +kernel
theorem dX6_kinds_17 : decode cX6_kinds 17 = .ok (.iload_n 3, 1) := by decide +kernel
theorem dX6_kinds_18 : decode cX6_kinds 18 = .ok (.iconst 3, 1) := by decide +kernel
theorem dX6_kinds_19 : decode cX6_kinds 19 = .ok (.if_icmp .gt 57, 3) := by decide +kernel
theorem dX6_kinds_22 : decode cX6_kinds 22 = .ok (.aload_n 0, 1) := by decide +kernel
theorem dX6_kinds_23 : decode cX6_kinds 23 = .ok (.getfield 16, 3) := by decide +kernel
theorem dX6_kinds_26 : decode cX6_kinds 26 = .ok (.aload_n 0, 1) := by decide +kernel
theorem dX6_kinds_27 : decode cX6_kinds 27 = .ok (.getfield 10, 3) := by decide +kernel
theorem dX6_kinds_30 : decode cX6_kinds 30 = .ok (.invokevirtual 90, 3) := by decide +kernel
theorem dX6_kinds_33 : decode cX6_kinds 33 = .ok (.aload_n 0, 1) := by decide +kernel
theorem dX6_kinds_34 : decode cX6_kinds 34 = .ok (.getfield 16, 3) := by decide +kernel
theorem dX6_kinds_37 : decode cX6_kinds 37 = .ok (.getfield 122, 3) := by decide +kernel
theorem dX6_kinds_40 : decode cX6_kinds 40 = .ok (.iload_n 1, 1) := by decide +kernel
theorem dX6_kinds_41 : decode cX6_kinds 41 = .ok (.aaload, 1) := by decide +kernel
theorem dX6_kinds_42 : decode cX6_kinds 42 = .ok (.iload_n 3, 1) := by decide +kernel
theorem dX6_kinds_43 : decode cX6_kinds 43 = .ok (.putfield 142, 3) := by decide +kernel
theorem dX6_kinds_46 : decode cX6_kinds 46 = .ok (.iload_n 2, 1) := by decide +kernel
theorem dX6_kinds_47 : decode cX6_kinds 47 = .ok (.aload_n 0, 1) := by decide +kernel
theorem dX6_kinds_48 : decode cX6_kinds 48 = .ok (.getfield 37, 3) := by decide +kernel
theorem dX6_kinds_51 : decode cX6_kinds 51 = .ok (.aload_n 0, 1) := by decide +kernel
theorem dX6_kinds_52 : decode cX6_kinds 52 = .ok (.getfield 16, 3) := by decide +kernel
theorem dX6_kinds_55 : decode cX6_kinds 55 = .ok (.invokevirtual 259, 3) := by decide +kernel
theorem dX6_kinds_58 : decode cX6_kinds 58 = .ok (.ifCond .eq 9, 3) := by decide +kernel
theorem dX6_kinds_61 : decode cX6_kinds 61 = .ok (.iconst 1, 1) := by decide +kernel
theorem dX6_kinds_62 : decode cX6_kinds 62 = .ok (.iload_n 3, 1) := by decide +kernel
theorem dX6_kinds_63 : decode cX6_kinds 63 = .ok (.ishl, 1) := by decide +kernel
theorem dX6_kinds_64 : decode cX6_kinds 64 = .ok (.goto 4, 3) := by decide +kernel
theorem dX6_kinds_67 : decode cX6_kinds 67 = .ok (.iconst 0, 1) := by decide +kernel
theorem dX6_kinds_68 : decode cX6_kinds 68 = .ok (.ior, 1) := by decide +kernel
theorem dX6_kinds_69 : decode cX6_kinds 69 = .ok (.istore_n 2, 1) := by decide +kernel
theorem dX6_kinds_70 : decode cX6_kinds 70 = .ok (.iinc 3 1, 3) := by decide +kernel
theorem dX6_kinds_73 : decode cX6_kinds 73 = .ok (.goto (-56), 3) := by decide +kernel
theorem dX6_kinds_76 : decode cX6_kinds 76 = .ok (.iload_n 2, 1) := by decide +kernel
theorem dX6_kinds_77 : decode cX6_kinds 77 = .ok (.ireturn, 1) := by decide +kernel
theorem dX6_books_0 : decode cX6_books 0 = .ok (.aload_n 0, 1) := by decide +kernel
theorem dX6_books_1 : decode cX6_books 1 = .ok (.getfield 10, 3) := by decide +kernel
theorem dX6_books_4 : decode cX6_books 4 = .ok (.iload_n 1, 1) := by decide +kernel
theorem dX6_books_5 : decode cX6_books 5 = .ok (.invokevirtual 157, 3) := by decide +kernel
theorem dX6_books_8 : decode cX6_books 8 = .ok (.ifCond .eq 11, 3) := by decide +kernel
theorem dX6_books_11 : decode cX6_books 11 = .ok (.aload_n 0, 1) := by decide +kernel
theorem dX6_books_12 : decode cX6_books 12 = .ok (.iload_n 1, 1) := by decide +kernel
theorem dX6_books_13 : decode cX6_books 13 = .ok (.invokevirtual 262, 3) := by decide +kernel
theorem dX6_books_16 : decode cX6_books 16 = .ok (.goto 4, 3) := by decide +kernel
theorem dX6_books_19 : decode cX6_books 19 = .ok (.iconst (-1), 1) := by decide +kernel
theorem dX6_books_20 : decode cX6_books 20 = .ok (.ireturn, 1) := by decide +kernel
theorem dX6_candidates_0 : decode cX6_candidates 0 = .ok (.iconst 0, 1) := by decide +kernel
theorem dX6_candidates_1 : decode cX6_candidates 1 = .ok (.istore_n 2, 1) := by decide +kernel
theorem dX6_candidates_2 : decode cX6_candidates 2 = .ok (.iconst 0, 1) := by decide +kernel
theorem dX6_candidates_3 : decode cX6_candidates 3 = .ok (.istore_n 3, 1) := by decide +kernel
theorem dX6_candidates_4 : decode cX6_candidates 4 = .ok (.iload_n 3, 1) := by decide +kernel
theorem dX6_candidates_5 : decode cX6_candidates 5 = .ok (.aload_n 0, 1) := by decide +kernel
theorem dX6_candidates_6 : decode cX6_candidates 6 = .ok (.getfield 10, 3) := by decide +kernel
theorem dX6_candidates_9 : decode cX6_candidates 9 = .ok (.getfield 97, 3) := by decide +kernel
theorem dX6_candidates_12 : decode cX6_candidates 12 = .ok (.if_icmp .ge 54, 3) := by decide +kernel
theorem dX6_candidates_15 : decode cX6_candidates 15 = .ok (.aload_n 0, 1) := by decide +kernel
theorem dX6_candidates_16 : decode cX6_candidates 16 = .ok (.getfield 16, 3) := by decide +kernel
theorem dX6_candidates_19 : decode cX6_candidates 19 = .ok (.aload_n 0, 1) := by decide +kernel
theorem dX6_candidates_20 : decode cX6_candidates 20 = .ok (.getfield 10, 3) := by decide +kernel
theorem dX6_candidates_23 : decode cX6_candidates 23 = .ok (.invokevirtual 90, 3) := by decide +kernel
theorem dX6_candidates_26 : decode cX6_candidates 26 = .ok (.aload_n 0, 1) := by decide +kernel
theorem dX6_candidates_27 : decode cX6_candidates 27 = .ok (.getfield 16, 3) := by decide +kernel
theorem dX6_candidates_30 : decode cX6_candidates 30 = .ok (.getfield 160, 3) := by decide +kernel
theorem dX6_candidates_33 : decode cX6_candidates 33 = .ok (.iload_n 1, 1) := by decide +kernel
theorem dX6_candidates_34 : decode cX6_candidates 34 = .ok (.iload_n 3, 1) := by decide +kernel
theorem dX6_candidates_35 : decode cX6_candidates 35 = .ok (.iastore, 1) := by decide +kernel
theorem dX6_candidates_36 : decode cX6_candidates 36 = .ok (.iload_n 2, 1) := by decide +kernel
theorem dX6_candidates_37 : decode cX6_candidates 37 = .ok (.aload_n 0, 1) := by decide +kernel
theorem dX6_candidates_38 : decode cX6_candidates 38 = .ok (.getfield 37, 3) := by decide +kernel
theorem dX6_candidates_41 : decode cX6_candidates 41 = .ok (.aload_n 0, 1) := by decide +kernel
theorem dX6_candidates_42 : decode cX6_candidates 42 = .ok (.getfield 16, 3) := by decide +kernel
theorem dX6_candidates_45 : decode cX6_candidates 45 = .ok (.invokevirtual 259, 3) := by decide +kernel
theorem dX6_candidates_48 : decode cX6_candidates 48 = .ok (.ifCond .eq 9, 3) := by decide +kernel
theorem dX6_candidates_51 : decode cX6_candidates 51 = .ok (.iconst 1, 1) := by decide +kernel
theorem dX6_candidates_52 : decode cX6_candidates 52 = .ok (.iload_n 3, 1) := by decide +kernel
theorem dX6_candidates_53 : decode cX6_candidates 53 = .ok (.ishl, 1) := by decide +kernel
theorem dX6_candidates_54 : decode cX6_candidates 54 = .ok (.goto 4, 3) := by decide +kernel
theorem dX6_candidates_57 : decode cX6_candidates 57 = .ok (.iconst 0, 1) := by decide +kernel
theorem dX6_candidates_58 : decode cX6_candidates 58 = .ok (.ior, 1) := by decide +kernel
theorem dX6_candidates_59 : decode cX6_candidates 59 = .ok (.istore_n 2, 1) := by decide +kernel
theorem dX6_candidates_60 : decode cX6_candidates 60 = .ok (.iinc 3 1, 3) := by decide +kernel
theorem dX6_candidates_63 : decode cX6_candidates 63 = .ok (.goto (-59), 3) := by decide +kernel
theorem dX6_candidates_66 : decode cX6_candidates 66 = .ok (.iload_n 2, 1) := by decide +kernel
theorem dX6_candidates_67 : decode cX6_candidates 67 = .ok (.ireturn, 1) := by decide +kernel
theorem dX6_ask_0 : decode cX6_ask 0 = .ok (.aload_n 0, 1) := by decide +kernel
theorem dX6_ask_1 : decode cX6_ask 1 = .ok (.getfield 10, 3) := by decide +kernel
theorem dX6_ask_4 : decode cX6_ask 4 = .ok (.iload_n 1, 1) := by decide +kernel
theorem dX6_ask_5 : decode cX6_ask 5 = .ok (.invokevirtual 157, 3) := by decide +kernel
theorem dX6_ask_8 : decode cX6_ask 8 = .ok (.ifCond .eq 12, 3) := by decide +kernel
theorem dX6_ask_11 : decode cX6_ask 11 = .ok (.iload_n 2, 1) := by decide +kernel
theorem dX6_ask_12 : decode cX6_ask 12 = .ok (.iconst 0, 1) := by decide +kernel
theorem dX6_ask_13 : decode cX6_ask 13 = .ok (.iconst 1, 1) := by decide +kernel
theorem dX6_ask_14 : decode cX6_ask 14 = .ok (.invokestatic 69, 3) := by decide +kernel
theorem dX6_ask_17 : decode cX6_ask 17 = .ok (.ifCond .ne 5, 3) := by decide +kernel
theorem dX6_ask_20 : decode cX6_ask 20 = .ok (.iconst (-1), 1) := by decide +kernel
theorem dX6_ask_21 : decode cX6_ask 21 = .ok (.ireturn, 1) := by decide +kernel
theorem dX6_ask_22 : decode cX6_ask 22 = .ok (.aload_n 0, 1) := by decide +kernel
theorem dX6_ask_23 : decode cX6_ask 23 = .ok (.iload_n 1, 1) := by decide +kernel
theorem dX6_ask_24 : decode cX6_ask 24 = .ok (.invokevirtual 262, 3) := by decide +kernel
theorem dX6_ask_27 : decode cX6_ask 27 = .ok (.istore_n 3, 1) := by decide +kernel
theorem dX6_ask_28 : decode cX6_ask 28 = .ok (.aload_n 0, 1) := by decide +kernel
theorem dX6_ask_29 : decode cX6_ask 29 = .ok (.iload_n 1, 1) := by decide +kernel
theorem dX6_ask_30 : decode cX6_ask 30 = .ok (.iload_n 3, 1) := by decide +kernel
theorem dX6_ask_31 : decode cX6_ask 31 = .ok (.invokevirtual 265, 3) := by decide +kernel
theorem dX6_ask_34 : decode cX6_ask 34 = .ok (.aload_n 0, 1) := by decide +kernel
theorem dX6_ask_35 : decode cX6_ask 35 = .ok (.getfield 50, 3) := by decide +kernel
theorem dX6_ask_38 : decode cX6_ask 38 = .ok (.iload_n 3, 1) := by decide +kernel
theorem dX6_ask_39 : decode cX6_ask 39 = .ok (.invokestatic 251, 3) := by decide +kernel
theorem dX6_ask_42 : decode cX6_ask 42 = .ok (.invokevirtual 118, 3) := by decide +kernel
theorem dX6_ask_45 : decode cX6_ask 45 = .ok (.iconst 0, 1) := by decide +kernel
theorem dX6_ask_46 : decode cX6_ask 46 = .ok (.istore 4, 2) := by decide +kernel
theorem dX6_ask_48 : decode cX6_ask 48 = .ok (.iload 4, 2) := by decide +kernel
theorem dX6_ask_50 : decode cX6_ask 50 = .ok (.bipush 40, 2) := by decide +kernel
theorem dX6_ask_52 : decode cX6_ask 52 = .ok (.if_icmp .gt 60, 3) := by decide +kernel
theorem dX6_ask_55 : decode cX6_ask 55 = .ok (.iconst 0, 1) := by decide +kernel
theorem dX6_ask_56 : decode cX6_ask 56 = .ok (.istore 5, 2) := by decide +kernel
theorem dX6_ask_58 : decode cX6_ask 58 = .ok (.iload 5, 2) := by decide +kernel
theorem dX6_ask_60 : decode cX6_ask 60 = .ok (.aload_n 0, 1) := by decide +kernel
theorem dX6_ask_61 : decode cX6_ask 61 = .ok (.getfield 10, 3) := by decide +kernel
theorem dX6_ask_64 : decode cX6_ask 64 = .ok (.getfield 100, 3) := by decide +kernel
theorem dX6_ask_67 : decode cX6_ask 67 = .ok (.if_icmp .ge 39, 3) := by decide +kernel
theorem dX6_ask_70 : decode cX6_ask 70 = .ok (.aload_n 0, 1) := by decide +kernel
theorem dX6_ask_71 : decode cX6_ask 71 = .ok (.getfield 50, 3) := by decide +kernel
theorem dX6_ask_74 : decode cX6_ask 74 = .ok (.bipush 10, 2) := by decide +kernel
theorem dX6_ask_76 : decode cX6_ask 76 = .ok (.iload 4, 2) := by decide +kernel
theorem dX6_ask_78 : decode cX6_ask 78 = .ok (.imul, 1) := by decide +kernel
theorem dX6_ask_79 : decode cX6_ask 79 = .ok (.iload 5, 2) := by decide +kernel
theorem dX6_ask_81 : decode cX6_ask 81 = .ok (.iadd, 1) := by decide +kernel
theorem dX6_ask_82 : decode cX6_ask 82 = .ok (.aload_n 0, 1) := by decide +kernel
theorem dX6_ask_83 : decode cX6_ask 83 = .ok (.getfield 61, 3) := by decide +kernel
theorem dX6_ask_86 : decode cX6_ask 86 = .ok (.iload 4, 2) := by decide +kernel
theorem dX6_ask_88 : decode cX6_ask 88 = .ok (.iconst 4, 1) := by decide +kernel
theorem dX6_ask_89 : decode cX6_ask 89 = .ok (.imul, 1) := by decide +kernel
theorem dX6_ask_90 : decode cX6_ask 90 = .ok (.iload 5, 2) := by decide +kernel
theorem dX6_ask_92 : decode cX6_ask 92 = .ok (.iadd, 1) := by decide +kernel
theorem dX6_ask_93 : decode cX6_ask 93 = .ok (.iaload, 1) := by decide +kernel
theorem dX6_ask_94 : decode cX6_ask 94 = .ok (.invokestatic 268, 3) := by decide +kernel
theorem dX6_ask_97 : decode cX6_ask 97 = .ok (.invokevirtual 131, 3) := by decide +kernel
theorem dX6_ask_100 : decode cX6_ask 100 = .ok (.iinc 5 1, 3) := by decide +kernel
theorem dX6_ask_103 : decode cX6_ask 103 = .ok (.goto (-45), 3) := by decide +kernel
theorem dX6_ask_106 : decode cX6_ask 106 = .ok (.iinc 4 1, 3) := by decide +kernel
theorem dX6_ask_109 : decode cX6_ask 109 = .ok (.goto (-61), 3) := by decide +kernel
theorem dX6_ask_112 : decode cX6_ask 112 = .ok (.aload_n 0, 1) := by decide +kernel
theorem dX6_ask_113 : decode cX6_ask 113 = .ok (.getfield 50, 3) := by decide +kernel
theorem dX6_ask_116 : decode cX6_ask 116 = .ok (.iload_n 2, 1) := by decide +kernel
theorem dX6_ask_117 : decode cX6_ask 117 = .ok (.invokevirtual 225, 3) := by decide +kernel
theorem dX6_ask_120 : decode cX6_ask 120 = .ok (.ireturn, 1) := by decide +kernel
theorem dX6_countLooks_0 : decode cX6_countLooks 0 = .ok (.iconst 0, 1) := by decide +kernel
theorem dX6_countLooks_1 : decode cX6_countLooks 1 = .ok (.istore_n 3, 1) := by decide +kernel
theorem dX6_countLooks_2 : decode cX6_countLooks 2 = .ok (.iload_n 3, 1) := by decide +kernel
theorem dX6_countLooks_3 : decode cX6_countLooks 3 = .ok (.aload_n 0, 1) := by decide +kernel
theorem dX6_countLooks_4 : decode cX6_countLooks 4 = .ok (.getfield 61, 3) := by decide +kernel
theorem dX6_countLooks_7 : decode cX6_countLooks 7 = .ok (.arraylength, 1) := by decide +kernel
theorem dX6_countLooks_8 : decode cX6_countLooks 8 = .ok (.if_icmp .ge 16, 3) := by decide +kernel
theorem dX6_countLooks_11 : decode cX6_countLooks 11 = .ok (.aload_n 0, 1) := by decide +kernel
theorem dX6_countLooks_12 : decode cX6_countLooks 12 = .ok (.getfield 61, 3) := by decide +kernel
theorem dX6_countLooks_15 : decode cX6_countLooks 15 = .ok (.iload_n 3, 1) := by decide +kernel
theorem dX6_countLooks_16 : decode cX6_countLooks 16 = .ok (.iconst 0, 1) := by decide +kernel
theorem dX6_countLooks_17 : decode cX6_countLooks 17 = .ok (.iastore, 1) := by decide +kernel
theorem dX6_countLooks_18 : decode cX6_countLooks 18 = .ok (.iinc 3 1, 3) := by decide +kernel
theorem dX6_countLooks_21 : decode cX6_countLooks 21 = .ok (.goto (-19), 3) := by decide +kernel
theorem dX6_countLooks_24 : decode cX6_countLooks 24 = .ok (.iconst 0, 1) := by decide +kernel
theorem dX6_countLooks_25 : decode cX6_countLooks 25 = .ok (.istore_n 3, 1) := by decide +kernel
theorem dX6_countLooks_26 : decode cX6_countLooks 26 = .ok (.iload_n 3, 1) := by decide +kernel
theorem dX6_countLooks_27 : decode cX6_countLooks 27 = .ok (.aload_n 0, 1) := by decide +kernel
theorem dX6_countLooks_28 : decode cX6_countLooks 28 = .ok (.getfield 10, 3) := by decide +kernel
theorem dX6_countLooks_31 : decode cX6_countLooks 31 = .ok (.getfield 97, 3) := by decide +kernel
theorem dX6_countLooks_34 : decode cX6_countLooks 34 = .ok (.if_icmp .ge 43, 3) := by decide +kernel
theorem dX6_countLooks_37 : decode cX6_countLooks 37 = .ok (.iload_n 2, 1) := by decide +kernel
theorem dX6_countLooks_38 : decode cX6_countLooks 38 = .ok (.iload_n 3, 1) := by decide +kernel
theorem dX6_countLooks_39 : decode cX6_countLooks 39 = .ok (.ishr, 1) := by decide +kernel
theorem dX6_countLooks_40 : decode cX6_countLooks 40 = .ok (.iconst 1, 1) := by decide +kernel
theorem dX6_countLooks_41 : decode cX6_countLooks 41 = .ok (.iand, 1) := by decide +kernel
theorem dX6_countLooks_42 : decode cX6_countLooks 42 = .ok (.iconst 1, 1) := by decide +kernel
theorem dX6_countLooks_43 : decode cX6_countLooks 43 = .ok (.if_icmp .ne 28, 3) := by decide +kernel
theorem dX6_countLooks_46 : decode cX6_countLooks 46 = .ok (.aload_n 0, 1) := by decide +kernel
theorem dX6_countLooks_47 : decode cX6_countLooks 47 = .ok (.getfield 16, 3) := by decide +kernel
theorem dX6_countLooks_50 : decode cX6_countLooks 50 = .ok (.aload_n 0, 1) := by decide +kernel
theorem dX6_countLooks_51 : decode cX6_countLooks 51 = .ok (.getfield 10, 3) := by decide +kernel
theorem dX6_countLooks_54 : decode cX6_countLooks 54 = .ok (.invokevirtual 90, 3) := by decide +kernel
theorem dX6_countLooks_57 : decode cX6_countLooks 57 = .ok (.aload_n 0, 1) := by decide +kernel
theorem dX6_countLooks_58 : decode cX6_countLooks 58 = .ok (.getfield 16, 3) := by decide +kernel
theorem dX6_countLooks_61 : decode cX6_countLooks 61 = .ok (.getfield 160, 3) := by decide +kernel
theorem dX6_countLooks_64 : decode cX6_countLooks 64 = .ok (.iload_n 1, 1) := by decide +kernel
theorem dX6_countLooks_65 : decode cX6_countLooks 65 = .ok (.iload_n 3, 1) := by decide +kernel
theorem dX6_countLooks_66 : decode cX6_countLooks 66 = .ok (.iastore, 1) := by decide +kernel
theorem dX6_countLooks_67 : decode cX6_countLooks 67 = .ok (.aload_n 0, 1) := by decide +kernel
theorem dX6_countLooks_68 : decode cX6_countLooks 68 = .ok (.invokevirtual 271, 3) := by decide +kernel
theorem dX6_countLooks_71 : decode cX6_countLooks 71 = .ok (.iinc 3 1, 3) := by decide +kernel
theorem dX6_countLooks_74 : decode cX6_countLooks 74 = .ok (.goto (-48), 3) := by decide +kernel
theorem dX6_countLooks_77 : decode cX6_countLooks 77 = .ok (.return_, 1) := by decide +kernel
theorem dX6_countLooksOfTrial_0 : decode cX6_countLooksOfTrial 0 = .ok (.iconst 0, 1) := by decide +kernel
theorem dX6_countLooksOfTrial_1 : decode cX6_countLooksOfTrial 1 = .ok (.istore_n 1, 1) := by decide +kernel
theorem dX6_countLooksOfTrial_2 : decode cX6_countLooksOfTrial 2 = .ok (.iload_n 1, 1) := by decide +kernel
theorem dX6_countLooksOfTrial_3 : decode cX6_countLooksOfTrial 3 = .ok (.bipush 40, 2) := by decide +kernel
theorem dX6_countLooksOfTrial_5 : decode cX6_countLooksOfTrial 5 = .ok (.if_icmp .gt 67, 3) := by decide +kernel
theorem dX6_countLooksOfTrial_8 : decode cX6_countLooksOfTrial 8 = .ok (.iconst 0, 1) := by decide +kernel
theorem dX6_countLooksOfTrial_9 : decode cX6_countLooksOfTrial 9 = .ok (.istore_n 2, 1) := by decide +kernel
theorem dX6_countLooksOfTrial_10 : decode cX6_countLooksOfTrial 10 = .ok (.iload_n 2, 1) := by decide +kernel
theorem dX6_countLooksOfTrial_11 : decode cX6_countLooksOfTrial 11 = .ok (.aload_n 0, 1) := by decide +kernel
theorem dX6_countLooksOfTrial_12 : decode cX6_countLooksOfTrial 12 = .ok (.getfield 16, 3) := by decide +kernel
theorem dX6_countLooksOfTrial_15 : decode cX6_countLooksOfTrial 15 = .ok (.getfield 100, 3) := by decide +kernel
theorem dX6_countLooksOfTrial_18 : decode cX6_countLooksOfTrial 18 = .ok (.if_icmp .ge 40, 3) := by decide +kernel
theorem dX6_countLooksOfTrial_21 : decode cX6_countLooksOfTrial 21 = .ok (.aload_n 0, 1) := by decide +kernel
theorem dX6_countLooksOfTrial_22 : decode cX6_countLooksOfTrial 22 = .ok (.getfield 61, 3) := by decide +kernel
theorem dX6_countLooksOfTrial_25 : decode cX6_countLooksOfTrial 25 = .ok (.iload_n 1, 1) := by decide +kernel
theorem dX6_countLooksOfTrial_26 : decode cX6_countLooksOfTrial 26 = .ok (.iconst 4, 1) := by decide +kernel
theorem dX6_countLooksOfTrial_27 : decode cX6_countLooksOfTrial 27 = .ok (.imul, 1) := by decide +kernel
theorem dX6_countLooksOfTrial_28 : decode cX6_countLooksOfTrial 28 = .ok (.iload_n 2, 1) := by decide +kernel
theorem dX6_countLooksOfTrial_29 : decode cX6_countLooksOfTrial 29 = .ok (.iadd, 1) := by decide +kernel
theorem dX6_countLooksOfTrial_30 : decode cX6_countLooksOfTrial 30 = .ok (.dup2, 1) := by decide +kernel
theorem dX6_countLooksOfTrial_31 : decode cX6_countLooksOfTrial 31 = .ok (.iaload, 1) := by decide +kernel
theorem dX6_countLooksOfTrial_32 : decode cX6_countLooksOfTrial 32 = .ok (.iconst 1, 1) := by decide +kernel
theorem dX6_countLooksOfTrial_33 : decode cX6_countLooksOfTrial 33 = .ok (.iconst 4, 1) := by decide +kernel
theorem dX6_countLooksOfTrial_34 : decode cX6_countLooksOfTrial 34 = .ok (.aload_n 0, 1) := by decide +kernel
theorem dX6_countLooksOfTrial_35 : decode cX6_countLooksOfTrial 35 = .ok (.getfield 16, 3) := by decide +kernel
theorem dX6_countLooksOfTrial_38 : decode cX6_countLooksOfTrial 38 = .ok (.getfield 122, 3) := by decide +kernel
theorem dX6_countLooksOfTrial_41 : decode cX6_countLooksOfTrial 41 = .ok (.iload_n 2, 1) := by decide +kernel
theorem dX6_countLooksOfTrial_42 : decode cX6_countLooksOfTrial 42 = .ok (.aaload, 1) := by decide +kernel
theorem dX6_countLooksOfTrial_43 : decode cX6_countLooksOfTrial 43 = .ok (.getfield 145, 3) := by decide +kernel
theorem dX6_countLooksOfTrial_46 : decode cX6_countLooksOfTrial 46 = .ok (.iconst 0, 1) := by decide +kernel
theorem dX6_countLooksOfTrial_47 : decode cX6_countLooksOfTrial 47 = .ok (.iaload, 1) := by decide +kernel
theorem dX6_countLooksOfTrial_48 : decode cX6_countLooksOfTrial 48 = .ok (.imul, 1) := by decide +kernel
theorem dX6_countLooksOfTrial_49 : decode cX6_countLooksOfTrial 49 = .ok (.ishl, 1) := by decide +kernel
theorem dX6_countLooksOfTrial_50 : decode cX6_countLooksOfTrial 50 = .ok (.iadd, 1) := by decide +kernel
theorem dX6_countLooksOfTrial_51 : decode cX6_countLooksOfTrial 51 = .ok (.iastore, 1) := by decide +kernel
theorem dX6_countLooksOfTrial_52 : decode cX6_countLooksOfTrial 52 = .ok (.iinc 2 1, 3) := by decide +kernel
theorem dX6_countLooksOfTrial_55 : decode cX6_countLooksOfTrial 55 = .ok (.goto (-45), 3) := by decide +kernel
theorem dX6_countLooksOfTrial_58 : decode cX6_countLooksOfTrial 58 = .ok (.aload_n 0, 1) := by decide +kernel
theorem dX6_countLooksOfTrial_59 : decode cX6_countLooksOfTrial 59 = .ok (.getfield 16, 3) := by decide +kernel
theorem dX6_countLooksOfTrial_62 : decode cX6_countLooksOfTrial 62 = .ok (.invokevirtual 175, 3) := by decide +kernel
theorem dX6_countLooksOfTrial_65 : decode cX6_countLooksOfTrial 65 = .ok (.pop, 1) := by decide +kernel
theorem dX6_countLooksOfTrial_66 : decode cX6_countLooksOfTrial 66 = .ok (.iinc 1 1, 3) := by decide +kernel
theorem dX6_countLooksOfTrial_69 : decode cX6_countLooksOfTrial 69 = .ok (.goto (-67), 3) := by decide +kernel
theorem dX6_countLooksOfTrial_72 : decode cX6_countLooksOfTrial 72 = .ok (.return_, 1) := by decide +kernel
theorem dX6_mostShowingOne_0 : decode cX6_mostShowingOne 0 = .ok (.iconst 0, 1) := by decide +kernel
theorem dX6_mostShowingOne_1 : decode cX6_mostShowingOne 1 = .ok (.istore_n 1, 1) := by decide +kernel
theorem dX6_mostShowingOne_2 : decode cX6_mostShowingOne 2 = .ok (.iconst 0, 1) := by decide +kernel
theorem dX6_mostShowingOne_3 : decode cX6_mostShowingOne 3 = .ok (.istore_n 2, 1) := by decide +kernel
theorem dX6_mostShowingOne_4 : decode cX6_mostShowingOne 4 = .ok (.iload_n 2, 1) := by decide +kernel
theorem dX6_mostShowingOne_5 : decode cX6_mostShowingOne 5 = .ok (.bipush 6, 2) := by decide +kernel
theorem dX6_mostShowingOne_7 : decode cX6_mostShowingOne 7 = .ok (.if_icmp .ge 22, 3) := by decide +kernel
theorem dX6_mostShowingOne_10 : decode cX6_mostShowingOne 10 = .ok (.iload_n 1, 1) := by decide +kernel
theorem dX6_mostShowingOne_11 : decode cX6_mostShowingOne 11 = .ok (.iload_n 0, 1) := by decide +kernel
theorem dX6_mostShowingOne_12 : decode cX6_mostShowingOne 12 = .ok (.iconst 4, 1) := by decide +kernel
theorem dX6_mostShowingOne_13 : decode cX6_mostShowingOne 13 = .ok (.iload_n 2, 1) := by decide +kernel
theorem dX6_mostShowingOne_14 : decode cX6_mostShowingOne 14 = .ok (.imul, 1) := by decide +kernel
theorem dX6_mostShowingOne_15 : decode cX6_mostShowingOne 15 = .ok (.ishr, 1) := by decide +kernel
theorem dX6_mostShowingOne_16 : decode cX6_mostShowingOne 16 = .ok (.bipush 15, 2) := by decide +kernel
theorem dX6_mostShowingOne_18 : decode cX6_mostShowingOne 18 = .ok (.iand, 1) := by decide +kernel
theorem dX6_mostShowingOne_19 : decode cX6_mostShowingOne 19 = .ok (.invokestatic 274, 3) := by decide +kernel
theorem dX6_mostShowingOne_22 : decode cX6_mostShowingOne 22 = .ok (.istore_n 1, 1) := by decide +kernel
theorem dX6_mostShowingOne_23 : decode cX6_mostShowingOne 23 = .ok (.iinc 2 1, 3) := by decide +kernel
theorem dX6_mostShowingOne_26 : decode cX6_mostShowingOne 26 = .ok (.goto (-22), 3) := by decide +kernel
theorem dX6_mostShowingOne_29 : decode cX6_mostShowingOne 29 = .ok (.iload_n 1, 1) := by decide +kernel
theorem dX6_mostShowingOne_30 : decode cX6_mostShowingOne 30 = .ok (.ireturn, 1) := by decide +kernel
theorem dX6_drift_0 : decode cX6_drift 0 = .ok (.iload_n 2, 1) := by decide +kernel
theorem dX6_drift_1 : decode cX6_drift 1 = .ok (.iconst 1, 1) := by decide +kernel
theorem dX6_drift_2 : decode cX6_drift 2 = .ok (.sipush 200, 3) := by decide +kernel
theorem dX6_drift_5 : decode cX6_drift 5 = .ok (.invokestatic 69, 3) := by decide +kernel
theorem dX6_drift_8 : decode cX6_drift 8 = .ok (.ifCond .eq 12, 3) := by decide +kernel
theorem dX6_drift_11 : decode cX6_drift 11 = .ok (.iload_n 3, 1) := by decide +kernel
theorem dX6_drift_12 : decode cX6_drift 12 = .ok (.iconst 0, 1) := by decide +kernel
theorem dX6_drift_13 : decode cX6_drift 13 = .ok (.iconst 1, 1) := by decide +kernel
theorem dX6_drift_14 : decode cX6_drift 14 = .ok (.invokestatic 69, 3) := by decide +kernel
theorem dX6_drift_17 : decode cX6_drift 17 = .ok (.ifCond .ne 5, 3) := by decide +kernel
theorem dX6_drift_20 : decode cX6_drift 20 = .ok (.iconst (-1), 1) := by decide +kernel
theorem dX6_drift_21 : decode cX6_drift 21 = .ok (.ireturn, 1) := by decide +kernel
theorem dX6_drift_22 : decode cX6_drift 22 = .ok (.aload_n 0, 1) := by decide +kernel
theorem dX6_drift_23 : decode cX6_drift 23 = .ok (.getfield 10, 3) := by decide +kernel
theorem dX6_drift_26 : decode cX6_drift 26 = .ok (.getfield 100, 3) := by decide +kernel
theorem dX6_drift_29 : decode cX6_drift 29 = .ok (.ifCond .ne 6, 3) := by decide +kernel
theorem dX6_drift_32 : decode cX6_drift 32 = .ok (.bipush (-2), 2) := by decide +kernel
theorem dX6_drift_34 : decode cX6_drift 34 = .ok (.ireturn, 1) := by decide +kernel
theorem dX6_drift_35 : decode cX6_drift 35 = .ok (.aload_n 0, 1) := by decide +kernel
theorem dX6_drift_36 : decode cX6_drift 36 = .ok (.getfield 16, 3) := by decide +kernel
theorem dX6_drift_39 : decode cX6_drift 39 = .ok (.aload_n 0, 1) := by decide +kernel
theorem dX6_drift_40 : decode cX6_drift 40 = .ok (.getfield 10, 3) := by decide +kernel
theorem dX6_drift_43 : decode cX6_drift 43 = .ok (.invokevirtual 90, 3) := by decide +kernel
theorem dX6_drift_46 : decode cX6_drift 46 = .ok (.aload_n 0, 1) := by decide +kernel
theorem dX6_drift_47 : decode cX6_drift 47 = .ok (.getfield 50, 3) := by decide +kernel
theorem dX6_drift_50 : decode cX6_drift 50 = .ok (.ldc 117, 2) := by decide +kernel
theorem dX6_drift_52 : decode cX6_drift 52 = .ok (.invokevirtual 118, 3) := by decide +kernel
theorem dX6_drift_55 : decode cX6_drift 55 = .ok (.iconst 0, 1) := by decide +kernel
theorem dX6_drift_56 : decode cX6_drift 56 = .ok (.istore 4, 2) := by decide +kernel
theorem dX6_drift_58 : decode cX6_drift 58 = .ok (.iconst 0, 1) := by decide +kernel
theorem dX6_drift_59 : decode cX6_drift 59 = .ok (.istore 5, 2) := by decide +kernel
theorem dX6_drift_61 : decode cX6_drift 61 = .ok (.iload 5, 2) := by decide +kernel
theorem dX6_drift_63 : decode cX6_drift 63 = .ok (.aload_n 0, 1) := by decide +kernel
theorem dX6_drift_64 : decode cX6_drift 64 = .ok (.getfield 16, 3) := by decide +kernel
theorem dX6_drift_67 : decode cX6_drift 67 = .ok (.getfield 100, 3) := by decide +kernel
theorem dX6_drift_70 : decode cX6_drift 70 = .ok (.if_icmp .ge 45, 3) := by decide +kernel
theorem dX6_drift_73 : decode cX6_drift 73 = .ok (.aload_n 0, 1) := by decide +kernel
theorem dX6_drift_74 : decode cX6_drift 74 = .ok (.aload_n 0, 1) := by decide +kernel
theorem dX6_drift_75 : decode cX6_drift 75 = .ok (.getfield 16, 3) := by decide +kernel
theorem dX6_drift_78 : decode cX6_drift 78 = .ok (.getfield 122, 3) := by decide +kernel
theorem dX6_drift_81 : decode cX6_drift 81 = .ok (.iload 5, 2) := by decide +kernel
theorem dX6_drift_83 : decode cX6_drift 83 = .ok (.aaload, 1) := by decide +kernel
theorem dX6_drift_84 : decode cX6_drift 84 = .ok (.iload_n 1, 1) := by decide +kernel
theorem dX6_drift_85 : decode cX6_drift 85 = .ok (.iload_n 2, 1) := by decide +kernel
theorem dX6_drift_86 : decode cX6_drift 86 = .ok (.invokevirtual 279, 3) := by decide +kernel
theorem dX6_drift_89 : decode cX6_drift 89 = .ok (.istore 6, 2) := by decide +kernel
theorem dX6_drift_91 : decode cX6_drift 91 = .ok (.aload_n 0, 1) := by decide +kernel
theorem dX6_drift_92 : decode cX6_drift 92 = .ok (.getfield 50, 3) := by decide +kernel
theorem dX6_drift_95 : decode cX6_drift 95 = .ok (.iload 5, 2) := by decide +kernel
theorem dX6_drift_97 : decode cX6_drift 97 = .ok (.iload 6, 2) := by decide +kernel
theorem dX6_drift_99 : decode cX6_drift 99 = .ok (.invokevirtual 131, 3) := by decide +kernel
theorem dX6_drift_102 : decode cX6_drift 102 = .ok (.iload 4, 2) := by decide +kernel
theorem dX6_drift_104 : decode cX6_drift 104 = .ok (.iload 6, 2) := by decide +kernel
theorem dX6_drift_106 : decode cX6_drift 106 = .ok (.iadd, 1) := by decide +kernel
theorem dX6_drift_107 : decode cX6_drift 107 = .ok (.istore 4, 2) := by decide +kernel
theorem dX6_drift_109 : decode cX6_drift 109 = .ok (.iinc 5 1, 3) := by decide +kernel
theorem dX6_drift_112 : decode cX6_drift 112 = .ok (.goto (-51), 3) := by decide +kernel
theorem dX6_drift_115 : decode cX6_drift 115 = .ok (.iload_n 3, 1) := by decide +kernel
theorem dX6_drift_116 : decode cX6_drift 116 = .ok (.ifCond .ne 8, 3) := by decide +kernel
theorem dX6_drift_119 : decode cX6_drift 119 = .ok (.iload 4, 2) := by decide +kernel
theorem dX6_drift_121 : decode cX6_drift 121 = .ok (.goto 10, 3) := by decide +kernel
theorem dX6_drift_124 : decode cX6_drift 124 = .ok (.aload_n 0, 1) := by decide +kernel
theorem dX6_drift_125 : decode cX6_drift 125 = .ok (.getfield 50, 3) := by decide +kernel
theorem dX6_drift_128 : decode cX6_drift 128 = .ok (.getfield 135, 3) := by decide +kernel
theorem dX6_drift_131 : decode cX6_drift 131 = .ok (.ireturn, 1) := by decide +kernel
theorem dX6_paidBySeed_0 : decode cX6_paidBySeed 0 = .ok (.iload_n 2, 1) := by decide +kernel
theorem dX6_paidBySeed_1 : decode cX6_paidBySeed 1 = .ok (.istore 4, 2) := by decide +kernel
theorem dX6_paidBySeed_3 : decode cX6_paidBySeed 3 = .ok (.iconst 0, 1) := by decide +kernel
theorem dX6_paidBySeed_4 : decode cX6_paidBySeed 4 = .ok (.istore 5, 2) := by decide +kernel
theorem dX6_paidBySeed_6 : decode cX6_paidBySeed 6 = .ok (.iconst 0, 1) := by decide +kernel
theorem dX6_paidBySeed_7 : decode cX6_paidBySeed 7 = .ok (.istore 6, 2) := by decide +kernel
theorem dX6_paidBySeed_9 : decode cX6_paidBySeed 9 = .ok (.iload 6, 2) := by decide +kernel
theorem dX6_paidBySeed_11 : decode cX6_paidBySeed 11 = .ok (.iload_n 3, 1) := by decide +kernel
theorem dX6_paidBySeed_12 : decode cX6_paidBySeed 12 = .ok (.if_icmp .ge 55, 3) := by decide +kernel
theorem dX6_paidBySeed_15 : decode cX6_paidBySeed 15 = .ok (.iload 4, 2) := by decide +kernel
theorem dX6_paidBySeed_17 : decode cX6_paidBySeed 17 = .ok (.ldc_w 283, 3) := by decide +kernel
theorem dX6_paidBySeed_20 : decode cX6_paidBySeed 20 = .ok (.imul, 1) := by decide +kernel
theorem dX6_paidBySeed_21 : decode cX6_paidBySeed 21 = .ok (.sipush 12345, 3) := by decide +kernel
theorem dX6_paidBySeed_24 : decode cX6_paidBySeed 24 = .ok (.iadd, 1) := by decide +kernel
theorem dX6_paidBySeed_25 : decode cX6_paidBySeed 25 = .ok (.istore 4, 2) := by decide +kernel
theorem dX6_paidBySeed_27 : decode cX6_paidBySeed 27 = .ok (.iload 4, 2) := by decide +kernel
theorem dX6_paidBySeed_29 : decode cX6_paidBySeed 29 = .ok (.bipush 16, 2) := by decide +kernel
theorem dX6_paidBySeed_31 : decode cX6_paidBySeed 31 = .ok (.iushr, 1) := by decide +kernel
theorem dX6_paidBySeed_32 : decode cX6_paidBySeed 32 = .ok (.sipush 32767, 3) := by decide +kernel
theorem dX6_paidBySeed_35 : decode cX6_paidBySeed 35 = .ok (.iand, 1) := by decide +kernel
theorem dX6_paidBySeed_36 : decode cX6_paidBySeed 36 = .ok (.istore 7, 2) := by decide +kernel
theorem dX6_paidBySeed_38 : decode cX6_paidBySeed 38 = .ok (.iload 5, 2) := by decide +kernel
theorem dX6_paidBySeed_40 : decode cX6_paidBySeed 40 = .ok (.aload_n 1, 1) := by decide +kernel
theorem dX6_paidBySeed_41 : decode cX6_paidBySeed 41 = .ok (.iload 7, 2) := by decide +kernel
theorem dX6_paidBySeed_43 : decode cX6_paidBySeed 43 = .ok (.iconst 1, 1) := by decide +kernel
theorem dX6_paidBySeed_44 : decode cX6_paidBySeed 44 = .ok (.aload_n 0, 1) := by decide +kernel
theorem dX6_paidBySeed_45 : decode cX6_paidBySeed 45 = .ok (.getfield 10, 3) := by decide +kernel
theorem dX6_paidBySeed_48 : decode cX6_paidBySeed 48 = .ok (.getfield 97, 3) := by decide +kernel
theorem dX6_paidBySeed_51 : decode cX6_paidBySeed 51 = .ok (.invokestatic 274, 3) := by decide +kernel
theorem dX6_paidBySeed_54 : decode cX6_paidBySeed 54 = .ok (.irem, 1) := by decide +kernel
theorem dX6_paidBySeed_55 : decode cX6_paidBySeed 55 = .ok (.invokevirtual 284, 3) := by decide +kernel
theorem dX6_paidBySeed_58 : decode cX6_paidBySeed 58 = .ok (.iadd, 1) := by decide +kernel
theorem dX6_paidBySeed_59 : decode cX6_paidBySeed 59 = .ok (.istore 5, 2) := by decide +kernel
theorem dX6_paidBySeed_61 : decode cX6_paidBySeed 61 = .ok (.iinc 6 1, 3) := by decide +kernel
theorem dX6_paidBySeed_64 : decode cX6_paidBySeed 64 = .ok (.goto (-55), 3) := by decide +kernel
theorem dX6_paidBySeed_67 : decode cX6_paidBySeed 67 = .ok (.iload 5, 2) := by decide +kernel
theorem dX6_paidBySeed_69 : decode cX6_paidBySeed 69 = .ok (.ireturn, 1) := by decide +kernel
theorem dX6_keep_0 : decode cX6_keep 0 = .ok (.iload_n 1, 1) := by decide +kernel
theorem dX6_keep_1 : decode cX6_keep 1 = .ok (.iconst 0, 1) := by decide +kernel
theorem dX6_keep_2 : decode cX6_keep 2 = .ok (.iconst 1, 1) := by decide +kernel
theorem dX6_keep_3 : decode cX6_keep 3 = .ok (.invokestatic 69, 3) := by decide +kernel
theorem dX6_keep_6 : decode cX6_keep 6 = .ok (.ifCond .ne 5, 3) := by decide +kernel
theorem dX6_keep_9 : decode cX6_keep 9 = .ok (.iconst (-1), 1) := by decide +kernel
theorem dX6_keep_10 : decode cX6_keep 10 = .ok (.ireturn, 1) := by decide +kernel
theorem dX6_keep_11 : decode cX6_keep 11 = .ok (.aload_n 0, 1) := by decide +kernel
theorem dX6_keep_12 : decode cX6_keep 12 = .ok (.getfield 23, 3) := by decide +kernel
theorem dX6_keep_15 : decode cX6_keep 15 = .ok (.iload_n 1, 1) := by decide +kernel
theorem dX6_keep_16 : decode cX6_keep 16 = .ok (.baload, 1) := by decide +kernel
theorem dX6_keep_17 : decode cX6_keep 17 = .ok (.ifCond .eq 7, 3) := by decide +kernel
theorem dX6_keep_20 : decode cX6_keep 20 = .ok (.iconst 1, 1) := by decide +kernel
theorem dX6_keep_21 : decode cX6_keep 21 = .ok (.goto 4, 3) := by decide +kernel
theorem dX6_keep_24 : decode cX6_keep 24 = .ok (.iconst 0, 1) := by decide +kernel
theorem dX6_keep_25 : decode cX6_keep 25 = .ok (.istore_n 2, 1) := by decide +kernel
theorem dX6_keep_26 : decode cX6_keep 26 = .ok (.aload_n 0, 1) := by decide +kernel
theorem dX6_keep_27 : decode cX6_keep 27 = .ok (.getfield 19, 3) := by decide +kernel
theorem dX6_keep_30 : decode cX6_keep 30 = .ok (.iload_n 1, 1) := by decide +kernel
theorem dX6_keep_31 : decode cX6_keep 31 = .ok (.aaload, 1) := by decide +kernel
theorem dX6_keep_32 : decode cX6_keep 32 = .ok (.aload_n 0, 1) := by decide +kernel
theorem dX6_keep_33 : decode cX6_keep 33 = .ok (.getfield 10, 3) := by decide +kernel
theorem dX6_keep_36 : decode cX6_keep 36 = .ok (.invokevirtual 90, 3) := by decide +kernel
theorem dX6_keep_39 : decode cX6_keep 39 = .ok (.aload_n 0, 1) := by decide +kernel
theorem dX6_keep_40 : decode cX6_keep 40 = .ok (.getfield 23, 3) := by decide +kernel
theorem dX6_keep_43 : decode cX6_keep 43 = .ok (.iload_n 1, 1) := by decide +kernel
theorem dX6_keep_44 : decode cX6_keep 44 = .ok (.iconst 1, 1) := by decide +kernel
theorem dX6_keep_45 : decode cX6_keep 45 = .ok (.bastore, 1) := by decide +kernel
theorem dX6_keep_46 : decode cX6_keep 46 = .ok (.iload_n 2, 1) := by decide +kernel
theorem dX6_keep_47 : decode cX6_keep 47 = .ok (.ireturn, 1) := by decide +kernel
theorem dX6_back_0 : decode cX6_back 0 = .ok (.iload_n 1, 1) := by decide +kernel
theorem dX6_back_1 : decode cX6_back 1 = .ok (.iconst 0, 1) := by decide +kernel
theorem dX6_back_2 : decode cX6_back 2 = .ok (.iconst 1, 1) := by decide +kernel
theorem dX6_back_3 : decode cX6_back 3 = .ok (.invokestatic 69, 3) := by decide +kernel
theorem dX6_back_6 : decode cX6_back 6 = .ok (.ifCond .ne 5, 3) := by decide +kernel
theorem dX6_back_9 : decode cX6_back 9 = .ok (.iconst (-1), 1) := by decide +kernel
theorem dX6_back_10 : decode cX6_back 10 = .ok (.ireturn, 1) := by decide +kernel
theorem dX6_back_11 : decode cX6_back 11 = .ok (.aload_n 0, 1) := by decide +kernel
theorem dX6_back_12 : decode cX6_back 12 = .ok (.getfield 23, 3) := by decide +kernel
theorem dX6_back_15 : decode cX6_back 15 = .ok (.iload_n 1, 1) := by decide +kernel
theorem dX6_back_16 : decode cX6_back 16 = .ok (.baload, 1) := by decide +kernel
theorem dX6_back_17 : decode cX6_back 17 = .ok (.ifCond .ne 6, 3) := by decide +kernel
theorem dX6_back_20 : decode cX6_back 20 = .ok (.bipush (-2), 2) := by decide +kernel
theorem dX6_back_22 : decode cX6_back 22 = .ok (.ireturn, 1) := by decide +kernel
theorem dX6_back_23 : decode cX6_back 23 = .ok (.aload_n 0, 1) := by decide +kernel
theorem dX6_back_24 : decode cX6_back 24 = .ok (.getfield 10, 3) := by decide +kernel
theorem dX6_back_27 : decode cX6_back 27 = .ok (.aload_n 0, 1) := by decide +kernel
theorem dX6_back_28 : decode cX6_back 28 = .ok (.getfield 19, 3) := by decide +kernel
theorem dX6_back_31 : decode cX6_back 31 = .ok (.iload_n 1, 1) := by decide +kernel
theorem dX6_back_32 : decode cX6_back 32 = .ok (.aaload, 1) := by decide +kernel
theorem dX6_back_33 : decode cX6_back 33 = .ok (.invokevirtual 90, 3) := by decide +kernel
theorem dX6_back_36 : decode cX6_back 36 = .ok (.aload_n 0, 1) := by decide +kernel
theorem dX6_back_37 : decode cX6_back 37 = .ok (.getfield 10, 3) := by decide +kernel
theorem dX6_back_40 : decode cX6_back 40 = .ok (.getfield 106, 3) := by decide +kernel
theorem dX6_back_43 : decode cX6_back 43 = .ok (.ireturn, 1) := by decide +kernel
theorem dX6_sheet_0 : decode cX6_sheet 0 = .ok (.iload_n 1, 1) := by decide +kernel
theorem dX6_sheet_1 : decode cX6_sheet 1 = .ok (.iconst 0, 1) := by decide +kernel
theorem dX6_sheet_2 : decode cX6_sheet 2 = .ok (.iconst 3, 1) := by decide +kernel
theorem dX6_sheet_3 : decode cX6_sheet 3 = .ok (.invokestatic 69, 3) := by decide +kernel
theorem dX6_sheet_6 : decode cX6_sheet 6 = .ok (.ifCond .eq 18, 3) := by decide +kernel
theorem dX6_sheet_9 : decode cX6_sheet 9 = .ok (.iload_n 2, 1) := by decide +kernel
theorem dX6_sheet_10 : decode cX6_sheet 10 = .ok (.iconst 0, 1) := by decide +kernel
theorem dX6_sheet_11 : decode cX6_sheet 11 = .ok (.iconst 2, 1) := by decide +kernel
theorem dX6_sheet_12 : decode cX6_sheet 12 = .ok (.invokestatic 69, 3) := by decide +kernel
theorem dX6_sheet_15 : decode cX6_sheet 15 = .ok (.ifCond .eq 9, 3) := by decide +kernel
theorem dX6_sheet_18 : decode cX6_sheet 18 = .ok (.iload_n 3, 1) := by decide +kernel
theorem dX6_sheet_19 : decode cX6_sheet 19 = .ok (.bipush 40, 2) := by decide +kernel
theorem dX6_sheet_21 : decode cX6_sheet 21 = .ok (.if_icmp .le 5, 3) := by decide +kernel
theorem dX6_sheet_24 : decode cX6_sheet 24 = .ok (.iconst (-1), 1) := by decide +kernel
theorem dX6_sheet_25 : decode cX6_sheet 25 = .ok (.ireturn, 1) := by decide +kernel
theorem dX6_sheet_26 : decode cX6_sheet 26 = .ok (.iload_n 3, 1) := by decide +kernel
theorem dX6_sheet_27 : decode cX6_sheet 27 = .ok (.ifCond .ge 6, 3) := by decide +kernel
theorem dX6_sheet_30 : decode cX6_sheet 30 = .ok (.bipush (-14), 2) := by decide +kernel
theorem dX6_sheet_32 : decode cX6_sheet 32 = .ok (.ireturn, 1) := by decide +kernel
theorem dX6_sheet_33 : decode cX6_sheet 33 = .ok (.aload_n 0, 1) := by decide +kernel
theorem dX6_sheet_34 : decode cX6_sheet 34 = .ok (.getfield 43, 3) := by decide +kernel
theorem dX6_sheet_37 : decode cX6_sheet 37 = .ok (.iload_n 1, 1) := by decide +kernel
theorem dX6_sheet_38 : decode cX6_sheet 38 = .ok (.aaload, 1) := by decide +kernel
theorem dX6_sheet_39 : decode cX6_sheet 39 = .ok (.iload_n 2, 1) := by decide +kernel
theorem dX6_sheet_40 : decode cX6_sheet 40 = .ok (.iload_n 3, 1) := by decide +kernel
theorem dX6_sheet_41 : decode cX6_sheet 41 = .ok (.invokevirtual 287, 3) := by decide +kernel
theorem dX6_sheet_44 : decode cX6_sheet 44 = .ok (.iconst 1, 1) := by decide +kernel
theorem dX6_sheet_45 : decode cX6_sheet 45 = .ok (.ireturn, 1) := by decide +kernel
theorem dX6_lay_0 : decode cX6_lay 0 = .ok (.iload_n 1, 1) := by decide +kernel
theorem dX6_lay_1 : decode cX6_lay 1 = .ok (.iconst 0, 1) := by decide +kernel
theorem dX6_lay_2 : decode cX6_lay 2 = .ok (.iconst 3, 1) := by decide +kernel
theorem dX6_lay_3 : decode cX6_lay 3 = .ok (.invokestatic 69, 3) := by decide +kernel
theorem dX6_lay_6 : decode cX6_lay 6 = .ok (.ifCond .ne 5, 3) := by decide +kernel
theorem dX6_lay_9 : decode cX6_lay 9 = .ok (.iconst (-1), 1) := by decide +kernel
theorem dX6_lay_10 : decode cX6_lay 10 = .ok (.ireturn, 1) := by decide +kernel
theorem dX6_lay_11 : decode cX6_lay 11 = .ok (.aload_n 0, 1) := by decide +kernel
theorem dX6_lay_12 : decode cX6_lay 12 = .ok (.getfield 43, 3) := by decide +kernel
theorem dX6_lay_15 : decode cX6_lay 15 = .ok (.iload_n 1, 1) := by decide +kernel
theorem dX6_lay_16 : decode cX6_lay 16 = .ok (.aaload, 1) := by decide +kernel
theorem dX6_lay_17 : decode cX6_lay 17 = .ok (.aload_n 0, 1) := by decide +kernel
theorem dX6_lay_18 : decode cX6_lay 18 = .ok (.getfield 43, 3) := by decide +kernel
theorem dX6_lay_21 : decode cX6_lay 21 = .ok (.iload_n 1, 1) := by decide +kernel
theorem dX6_lay_22 : decode cX6_lay 22 = .ok (.aaload, 1) := by decide +kernel
theorem dX6_lay_23 : decode cX6_lay 23 = .ok (.getfield 290, 3) := by decide +kernel
theorem dX6_lay_26 : decode cX6_lay 26 = .ok (.iload_n 2, 1) := by decide +kernel
theorem dX6_lay_27 : decode cX6_lay 27 = .ok (.invokevirtual 293, 3) := by decide +kernel
theorem dX6_lay_30 : decode cX6_lay 30 = .ok (.istore 4, 2) := by decide +kernel
theorem dX6_lay_32 : decode cX6_lay 32 = .ok (.iload 4, 2) := by decide +kernel
theorem dX6_lay_34 : decode cX6_lay 34 = .ok (.ifCond .eq 9, 3) := by decide +kernel
theorem dX6_lay_37 : decode cX6_lay 37 = .ok (.bipush (-10), 2) := by decide +kernel
theorem dX6_lay_39 : decode cX6_lay 39 = .ok (.iload 4, 2) := by decide +kernel
theorem dX6_lay_41 : decode cX6_lay 41 = .ok (.isub, 1) := by decide +kernel
theorem dX6_lay_42 : decode cX6_lay 42 = .ok (.ireturn, 1) := by decide +kernel
theorem dX6_lay_43 : decode cX6_lay 43 = .ok (.aload_n 0, 1) := by decide +kernel
theorem dX6_lay_44 : decode cX6_lay 44 = .ok (.getfield 43, 3) := by decide +kernel
theorem dX6_lay_47 : decode cX6_lay 47 = .ok (.iload_n 1, 1) := by decide +kernel
theorem dX6_lay_48 : decode cX6_lay 48 = .ok (.aaload, 1) := by decide +kernel
theorem dX6_lay_49 : decode cX6_lay 49 = .ok (.iload_n 2, 1) := by decide +kernel
theorem dX6_lay_50 : decode cX6_lay 50 = .ok (.iload_n 3, 1) := by decide +kernel
theorem dX6_lay_51 : decode cX6_lay 51 = .ok (.invokevirtual 296, 3) := by decide +kernel
theorem dX6_lay_54 : decode cX6_lay 54 = .ok (.iconst 1, 1) := by decide +kernel
theorem dX6_lay_55 : decode cX6_lay 55 = .ok (.ireturn, 1) := by decide +kernel
theorem dX6_read_0 : decode cX6_read 0 = .ok (.iload_n 1, 1) := by decide +kernel
theorem dX6_read_1 : decode cX6_read 1 = .ok (.iconst 0, 1) := by decide +kernel
theorem dX6_read_2 : decode cX6_read 2 = .ok (.iconst 3, 1) := by decide +kernel
theorem dX6_read_3 : decode cX6_read 3 = .ok (.invokestatic 69, 3) := by decide +kernel
theorem dX6_read_6 : decode cX6_read 6 = .ok (.ifCond .eq 23, 3) := by decide +kernel
theorem dX6_read_9 : decode cX6_read 9 = .ok (.iload_n 2, 1) := by decide +kernel
theorem dX6_read_10 : decode cX6_read 10 = .ok (.iconst 0, 1) := by decide +kernel
theorem dX6_read_11 : decode cX6_read 11 = .ok (.iconst 2, 1) := by decide +kernel
theorem dX6_read_12 : decode cX6_read 12 = .ok (.invokestatic 69, 3) := by decide +kernel
theorem dX6_read_15 : decode cX6_read 15 = .ok (.ifCond .eq 14, 3) := by decide +kernel
theorem dX6_read_18 : decode cX6_read 18 = .ok (.iload 4, 2) := by decide +kernel
theorem dX6_read_20 : decode cX6_read 20 = .ok (.iconst 0, 1) := by decide +kernel
theorem dX6_read_21 : decode cX6_read 21 = .ok (.bipush 40, 2) := by decide +kernel
theorem dX6_read_23 : decode cX6_read 23 = .ok (.invokestatic 69, 3) := by decide +kernel
theorem dX6_read_26 : decode cX6_read 26 = .ok (.ifCond .ne 5, 3) := by decide +kernel
theorem dX6_read_29 : decode cX6_read 29 = .ok (.iconst (-1), 1) := by decide +kernel
theorem dX6_read_30 : decode cX6_read 30 = .ok (.ireturn, 1) := by decide +kernel
theorem dX6_read_31 : decode cX6_read 31 = .ok (.aload_n 0, 1) := by decide +kernel
theorem dX6_read_32 : decode cX6_read 32 = .ok (.getfield 43, 3) := by decide +kernel
theorem dX6_read_35 : decode cX6_read 35 = .ok (.iload_n 1, 1) := by decide +kernel
theorem dX6_read_36 : decode cX6_read 36 = .ok (.aaload, 1) := by decide +kernel
theorem dX6_read_37 : decode cX6_read 37 = .ok (.astore 5, 2) := by decide +kernel
theorem dX6_read_39 : decode cX6_read 39 = .ok (.aload_n 0, 1) := by decide +kernel
theorem dX6_read_40 : decode cX6_read 40 = .ok (.getfield 10, 3) := by decide +kernel
theorem dX6_read_43 : decode cX6_read 43 = .ok (.getfield 103, 3) := by decide +kernel
theorem dX6_read_46 : decode cX6_read 46 = .ok (.istore 6, 2) := by decide +kernel
theorem dX6_read_48 : decode cX6_read 48 = .ok (.iconst 0, 1) := by decide +kernel
theorem dX6_read_49 : decode cX6_read 49 = .ok (.istore 7, 2) := by decide +kernel
theorem dX6_read_51 : decode cX6_read 51 = .ok (.iconst 0, 1) := by decide +kernel
theorem dX6_read_52 : decode cX6_read 52 = .ok (.istore 8, 2) := by decide +kernel
theorem dX6_read_54 : decode cX6_read 54 = .ok (.iload 8, 2) := by decide +kernel
theorem dX6_read_56 : decode cX6_read 56 = .ok (.iload 4, 2) := by decide +kernel
theorem dX6_read_58 : decode cX6_read 58 = .ok (.if_icmp .ge 63, 3) := by decide +kernel
theorem dX6_read_61 : decode cX6_read 61 = .ok (.iload 7, 2) := by decide +kernel
theorem dX6_read_63 : decode cX6_read 63 = .ok (.ifCond .ne 58, 3) := by decide +kernel
theorem dX6_read_66 : decode cX6_read 66 = .ok (.aload 5, 2) := by decide +kernel
theorem dX6_read_68 : decode cX6_read 68 = .ok (.iload_n 2, 1) := by decide +kernel
theorem dX6_read_69 : decode cX6_read 69 = .ok (.iload_n 3, 1) := by decide +kernel
theorem dX6_read_70 : decode cX6_read 70 = .ok (.iload 8, 2) := by decide +kernel
theorem dX6_read_72 : decode cX6_read 72 = .ok (.iadd, 1) := by decide +kernel
theorem dX6_read_73 : decode cX6_read 73 = .ok (.invokevirtual 293, 3) := by decide +kernel
theorem dX6_read_76 : decode cX6_read 76 = .ok (.istore 7, 2) := by decide +kernel
theorem dX6_read_78 : decode cX6_read 78 = .ok (.iload 7, 2) := by decide +kernel
theorem dX6_read_80 : decode cX6_read 80 = .ok (.ifCond .ne (-26), 3) := by decide +kernel
theorem dX6_read_83 : decode cX6_read 83 = .ok (.aload_n 0, 1) := by decide +kernel
theorem dX6_read_84 : decode cX6_read 84 = .ok (.aload 5, 2) := by decide +kernel
theorem dX6_read_86 : decode cX6_read 86 = .ok (.getfield 299, 3) := by decide +kernel
theorem dX6_read_89 : decode cX6_read 89 = .ok (.iload_n 3, 1) := by decide +kernel
theorem dX6_read_90 : decode cX6_read 90 = .ok (.iload 8, 2) := by decide +kernel
theorem dX6_read_92 : decode cX6_read 92 = .ok (.iadd, 1) := by decide +kernel
theorem dX6_read_93 : decode cX6_read 93 = .ok (.iaload, 1) := by decide +kernel
theorem dX6_read_94 : decode cX6_read 94 = .ok (.invokevirtual 302, 3) := by decide +kernel
theorem dX6_read_97 : decode cX6_read 97 = .ok (.ifCond .ge 18, 3) := by decide +kernel
theorem dX6_read_100 : decode cX6_read 100 = .ok (.aload_n 0, 1) := by decide +kernel
theorem dX6_read_101 : decode cX6_read 101 = .ok (.getfield 10, 3) := by decide +kernel
theorem dX6_read_104 : decode cX6_read 104 = .ok (.iload 6, 2) := by decide +kernel
theorem dX6_read_106 : decode cX6_read 106 = .ok (.putfield 103, 3) := by decide +kernel
theorem dX6_read_109 : decode cX6_read 109 = .ok (.bipush (-20), 2) := by decide +kernel
theorem dX6_read_111 : decode cX6_read 111 = .ok (.iload 8, 2) := by decide +kernel
theorem dX6_read_113 : decode cX6_read 113 = .ok (.isub, 1) := by decide +kernel
theorem dX6_read_114 : decode cX6_read 114 = .ok (.ireturn, 1) := by decide +kernel
theorem dX6_read_115 : decode cX6_read 115 = .ok (.iinc 8 1, 3) := by decide +kernel
theorem dX6_read_118 : decode cX6_read 118 = .ok (.goto (-64), 3) := by decide +kernel
theorem dX6_read_121 : decode cX6_read 121 = .ok (.aload_n 0, 1) := by decide +kernel
theorem dX6_read_122 : decode cX6_read 122 = .ok (.iload 7, 2) := by decide +kernel
theorem dX6_read_124 : decode cX6_read 124 = .ok (.putfield 64, 3) := by decide +kernel
theorem dX6_read_127 : decode cX6_read 127 = .ok (.iload 8, 2) := by decide +kernel
theorem dX6_read_129 : decode cX6_read 129 = .ok (.ireturn, 1) := by decide +kernel
theorem dX6_torn_0 : decode cX6_torn 0 = .ok (.aload_n 0, 1) := by decide +kernel
theorem dX6_torn_1 : decode cX6_torn 1 = .ok (.getfield 64, 3) := by decide +kernel
theorem dX6_torn_4 : decode cX6_torn 4 = .ok (.ireturn, 1) := by decide +kernel
theorem dX6_count_0 : decode cX6_count 0 = .ok (.iload_n 1, 1) := by decide +kernel
theorem dX6_count_1 : decode cX6_count 1 = .ok (.tableswitch 104 0 5 #[39, 47, 52, 60, 88, 96], 39) := by decide +kernel
theorem dX6_count_40 : decode cX6_count 40 = .ok (.aload_n 0, 1) := by decide +kernel
theorem dX6_count_41 : decode cX6_count 41 = .ok (.getfield 37, 3) := by decide +kernel
theorem dX6_count_44 : decode cX6_count 44 = .ok (.getfield 94, 3) := by decide +kernel
theorem dX6_count_47 : decode cX6_count 47 = .ok (.ireturn, 1) := by decide +kernel
theorem dX6_count_48 : decode cX6_count 48 = .ok (.aload_n 0, 1) := by decide +kernel
theorem dX6_count_49 : decode cX6_count 49 = .ok (.invokevirtual 305, 3) := by decide +kernel
theorem dX6_count_52 : decode cX6_count 52 = .ok (.ireturn, 1) := by decide +kernel
theorem dX6_count_53 : decode cX6_count 53 = .ok (.aload_n 0, 1) := by decide +kernel
theorem dX6_count_54 : decode cX6_count 54 = .ok (.getfield 30, 3) := by decide +kernel
theorem dX6_count_57 : decode cX6_count 57 = .ok (.getfield 73, 3) := by decide +kernel
theorem dX6_count_60 : decode cX6_count 60 = .ok (.ireturn, 1) := by decide +kernel
theorem dX6_count_61 : decode cX6_count 61 = .ok (.aload_n 0, 1) := by decide +kernel
theorem dX6_count_62 : decode cX6_count 62 = .ok (.getfield 43, 3) := by decide +kernel
theorem dX6_count_65 : decode cX6_count 65 = .ok (.iconst 0, 1) := by decide +kernel
theorem dX6_count_66 : decode cX6_count 66 = .ok (.aaload, 1) := by decide +kernel
theorem dX6_count_67 : decode cX6_count 67 = .ok (.getfield 290, 3) := by decide +kernel
theorem dX6_count_70 : decode cX6_count 70 = .ok (.iconst (-1), 1) := by decide +kernel
theorem dX6_count_71 : decode cX6_count 71 = .ok (.if_icmp .ne 8, 3) := by decide +kernel
theorem dX6_count_74 : decode cX6_count 74 = .ok (.bipush (-4), 2) := by decide +kernel
theorem dX6_count_76 : decode cX6_count 76 = .ok (.goto 12, 3) := by decide +kernel
theorem dX6_count_79 : decode cX6_count 79 = .ok (.aload_n 0, 1) := by decide +kernel
theorem dX6_count_80 : decode cX6_count 80 = .ok (.getfield 43, 3) := by decide +kernel
theorem dX6_count_83 : decode cX6_count 83 = .ok (.iconst 0, 1) := by decide +kernel
theorem dX6_count_84 : decode cX6_count 84 = .ok (.aaload, 1) := by decide +kernel
theorem dX6_count_85 : decode cX6_count 85 = .ok (.getfield 308, 3) := by decide +kernel
theorem dX6_count_88 : decode cX6_count 88 = .ok (.ireturn, 1) := by decide +kernel
theorem dX6_count_89 : decode cX6_count 89 = .ok (.aload_n 0, 1) := by decide +kernel
theorem dX6_count_90 : decode cX6_count 90 = .ok (.getfield 10, 3) := by decide +kernel
theorem dX6_count_93 : decode cX6_count 93 = .ok (.invokevirtual 309, 3) := by decide +kernel
theorem dX6_count_96 : decode cX6_count 96 = .ok (.ireturn, 1) := by decide +kernel
theorem dX6_count_97 : decode cX6_count 97 = .ok (.aload_n 0, 1) := by decide +kernel
theorem dX6_count_98 : decode cX6_count 98 = .ok (.getfield 10, 3) := by decide +kernel
theorem dX6_count_101 : decode cX6_count 101 = .ok (.invokevirtual 312, 3) := by decide +kernel
theorem dX6_count_104 : decode cX6_count 104 = .ok (.ireturn, 1) := by decide +kernel
theorem dX6_count_105 : decode cX6_count 105 = .ok (.iconst (-1), 1) := by decide +kernel
theorem dX6_count_106 : decode cX6_count 106 = .ok (.ireturn, 1) := by decide +kernel
theorem dX6_imagesKept_0 : decode cX6_imagesKept 0 = .ok (.iconst 0, 1) := by decide +kernel
theorem dX6_imagesKept_1 : decode cX6_imagesKept 1 = .ok (.istore_n 1, 1) := by decide +kernel
theorem dX6_imagesKept_2 : decode cX6_imagesKept 2 = .ok (.iconst 0, 1) := by decide +kernel
theorem dX6_imagesKept_3 : decode cX6_imagesKept 3 = .ok (.istore_n 2, 1) := by decide +kernel
theorem dX6_imagesKept_4 : decode cX6_imagesKept 4 = .ok (.iload_n 2, 1) := by decide +kernel
theorem dX6_imagesKept_5 : decode cX6_imagesKept 5 = .ok (.iconst 2, 1) := by decide +kernel
theorem dX6_imagesKept_6 : decode cX6_imagesKept 6 = .ok (.if_icmp .ge 26, 3) := by decide +kernel
theorem dX6_imagesKept_9 : decode cX6_imagesKept 9 = .ok (.iload_n 1, 1) := by decide +kernel
theorem dX6_imagesKept_10 : decode cX6_imagesKept 10 = .ok (.aload_n 0, 1) := by decide +kernel
theorem dX6_imagesKept_11 : decode cX6_imagesKept 11 = .ok (.getfield 23, 3) := by decide +kernel
theorem dX6_imagesKept_14 : decode cX6_imagesKept 14 = .ok (.iload_n 2, 1) := by decide +kernel
theorem dX6_imagesKept_15 : decode cX6_imagesKept 15 = .ok (.baload, 1) := by decide +kernel
theorem dX6_imagesKept_16 : decode cX6_imagesKept 16 = .ok (.ifCond .eq 7, 3) := by decide +kernel
theorem dX6_imagesKept_19 : decode cX6_imagesKept 19 = .ok (.iconst 1, 1) := by decide +kernel
theorem dX6_imagesKept_20 : decode cX6_imagesKept 20 = .ok (.goto 4, 3) := by decide +kernel
theorem dX6_imagesKept_23 : decode cX6_imagesKept 23 = .ok (.iconst 0, 1) := by decide +kernel
theorem dX6_imagesKept_24 : decode cX6_imagesKept 24 = .ok (.iadd, 1) := by decide +kernel
theorem dX6_imagesKept_25 : decode cX6_imagesKept 25 = .ok (.istore_n 1, 1) := by decide +kernel
theorem dX6_imagesKept_26 : decode cX6_imagesKept 26 = .ok (.iinc 2 1, 3) := by decide +kernel
theorem dX6_imagesKept_29 : decode cX6_imagesKept 29 = .ok (.goto (-25), 3) := by decide +kernel
theorem dX6_imagesKept_32 : decode cX6_imagesKept 32 = .ok (.iload_n 1, 1) := by decide +kernel
theorem dX6_imagesKept_33 : decode cX6_imagesKept 33 = .ok (.ireturn, 1) := by decide +kernel
theorem dX6_within_0 : decode cX6_within 0 = .ok (.iload_n 0, 1) := by decide +kernel
theorem dX6_within_1 : decode cX6_within 1 = .ok (.iload_n 1, 1) := by decide +kernel
theorem dX6_within_2 : decode cX6_within 2 = .ok (.if_icmp .lt 12, 3) := by decide +kernel
theorem dX6_within_5 : decode cX6_within 5 = .ok (.iload_n 0, 1) := by decide +kernel
theorem dX6_within_6 : decode cX6_within 6 = .ok (.iload_n 2, 1) := by decide +kernel
theorem dX6_within_7 : decode cX6_within 7 = .ok (.if_icmp .gt 7, 3) := by decide +kernel
theorem dX6_within_10 : decode cX6_within 10 = .ok (.iconst 1, 1) := by decide +kernel
theorem dX6_within_11 : decode cX6_within 11 = .ok (.goto 4, 3) := by decide +kernel
theorem dX6_within_14 : decode cX6_within 14 = .ok (.iconst 0, 1) := by decide +kernel
theorem dX6_within_15 : decode cX6_within 15 = .ok (.ireturn, 1) := by decide +kernel
theorem dX7_init_0 : decode cX7_init 0 = .ok (.aload_n 0, 1) := by decide +kernel
theorem dX7_init_1 : decode cX7_init 1 = .ok (.invokespecial 1, 3) := by decide +kernel
theorem dX7_init_4 : decode cX7_init 4 = .ok (.aload_n 0, 1) := by decide +kernel
theorem dX7_init_5 : decode cX7_init 5 = .ok (.sipush 450, 3) := by decide +kernel
theorem dX7_init_8 : decode cX7_init 8 = .ok (.newarray .int, 2) := by decide +kernel
theorem dX7_init_10 : decode cX7_init 10 = .ok (.putfield 7, 3) := by decide +kernel
theorem dX7_init_13 : decode cX7_init 13 = .ok (.aload_n 0, 1) := by decide +kernel
theorem dX7_init_14 : decode cX7_init 14 = .ok (.iconst 4, 1) := by decide +kernel
theorem dX7_init_15 : decode cX7_init 15 = .ok (.putfield 13, 3) := by decide +kernel
theorem dX7_init_18 : decode cX7_init 18 = .ok (.aload_n 0, 1) := by decide +kernel
theorem dX7_init_19 : decode cX7_init 19 = .ok (.bipush 75, 2) := by decide +kernel
theorem dX7_init_21 : decode cX7_init 21 = .ok (.newarray .int, 2) := by decide +kernel
theorem dX7_init_23 : decode cX7_init 23 = .ok (.putfield 17, 3) := by decide +kernel
theorem dX7_init_26 : decode cX7_init 26 = .ok (.aload_n 0, 1) := by decide +kernel
theorem dX7_init_27 : decode cX7_init 27 = .ok (.sipush 160, 3) := by decide +kernel
theorem dX7_init_30 : decode cX7_init 30 = .ok (.newarray .int, 2) := by decide +kernel
theorem dX7_init_32 : decode cX7_init 32 = .ok (.putfield 20, 3) := by decide +kernel
theorem dX7_init_35 : decode cX7_init 35 = .ok (.aload_n 0, 1) := by decide +kernel
theorem dX7_init_36 : decode cX7_init 36 = .ok (.bipush 7, 2) := by decide +kernel
theorem dX7_init_38 : decode cX7_init 38 = .ok (.newarray .int, 2) := by decide +kernel
theorem dX7_init_40 : decode cX7_init 40 = .ok (.dup, 1) := by decide +kernel
theorem dX7_init_41 : decode cX7_init 41 = .ok (.iconst 0, 1) := by decide +kernel
theorem dX7_init_42 : decode cX7_init 42 = .ok (.iconst 0, 1) := by decide +kernel
theorem dX7_init_43 : decode cX7_init 43 = .ok (.iastore, 1) := by decide +kernel
theorem dX7_init_44 : decode cX7_init 44 = .ok (.dup, 1) := by decide +kernel
theorem dX7_init_45 : decode cX7_init 45 = .ok (.iconst 1, 1) := by decide +kernel
theorem dX7_init_46 : decode cX7_init 46 = .ok (.iconst 4, 1) := by decide +kernel
theorem dX7_init_47 : decode cX7_init 47 = .ok (.iastore, 1) := by decide +kernel
theorem dX7_init_48 : decode cX7_init 48 = .ok (.dup, 1) := by decide +kernel
theorem dX7_init_49 : decode cX7_init 49 = .ok (.iconst 2, 1) := by decide +kernel
theorem dX7_init_50 : decode cX7_init 50 = .ok (.bipush 8, 2) := by decide +kernel
theorem dX7_init_52 : decode cX7_init 52 = .ok (.iastore, 1) := by decide +kernel
theorem dX7_init_53 : decode cX7_init 53 = .ok (.dup, 1) := by decide +kernel
theorem dX7_init_54 : decode cX7_init 54 = .ok (.iconst 3, 1) := by decide +kernel
theorem dX7_init_55 : decode cX7_init 55 = .ok (.bipush 13, 2) := by decide +kernel
theorem dX7_init_57 : decode cX7_init 57 = .ok (.iastore, 1) := by decide +kernel
theorem dX7_init_58 : decode cX7_init 58 = .ok (.dup, 1) := by decide +kernel
theorem dX7_init_59 : decode cX7_init 59 = .ok (.iconst 4, 1) := by decide +kernel
theorem dX7_init_60 : decode cX7_init 60 = .ok (.bipush 18, 2) := by decide +kernel
theorem dX7_init_62 : decode cX7_init 62 = .ok (.iastore, 1) := by decide +kernel
theorem dX7_init_63 : decode cX7_init 63 = .ok (.dup, 1) := by decide +kernel
theorem dX7_init_64 : decode cX7_init 64 = .ok (.iconst 5, 1) := by decide +kernel
theorem dX7_init_65 : decode cX7_init 65 = .ok (.bipush 23, 2) := by decide +kernel
theorem dX7_init_67 : decode cX7_init 67 = .ok (.iastore, 1) := by decide +kernel
theorem dX7_init_68 : decode cX7_init 68 = .ok (.dup, 1) := by decide +kernel
theorem dX7_init_69 : decode cX7_init 69 = .ok (.bipush 6, 2) := by decide +kernel
theorem dX7_init_71 : decode cX7_init 71 = .ok (.bipush 27, 2) := by decide +kernel
theorem dX7_init_73 : decode cX7_init 73 = .ok (.iastore, 1) := by decide +kernel
theorem dX7_init_74 : decode cX7_init 74 = .ok (.putfield 23, 3) := by decide +kernel
theorem dX7_init_77 : decode cX7_init 77 = .ok (.aload_n 0, 1) := by decide +kernel
theorem dX7_init_78 : decode cX7_init 78 = .ok (.bipush 27, 2) := by decide +kernel
theorem dX7_init_80 : decode cX7_init 80 = .ok (.newarray .int, 2) := by decide +kernel
theorem dX7_init_82 : decode cX7_init 82 = .ok (.dup, 1) := by decide +kernel
theorem dX7_init_83 : decode cX7_init 83 = .ok (.iconst 0, 1) := by decide +kernel
theorem dX7_init_84 : decode cX7_init 84 = .ok (.bipush 115, 2) := by decide +kernel
theorem dX7_init_86 : decode cX7_init 86 = .ok (.iastore, 1) := by decide +kernel
theorem dX7_init_87 : decode cX7_init 87 = .ok (.dup, 1) := by decide +kernel
theorem dX7_init_88 : decode cX7_init 88 = .ok (.iconst 1, 1) := by decide +kernel
theorem dX7_init_89 : decode cX7_init 89 = .ok (.bipush 116, 2) := by decide +kernel
theorem dX7_init_91 : decode cX7_init 91 = .ok (.iastore, 1) := by decide +kernel
theorem dX7_init_92 : decode cX7_init 92 = .ok (.dup, 1) := by decide +kernel
theorem dX7_init_93 : decode cX7_init 93 = .ok (.iconst 2, 1) := by decide +kernel
theorem dX7_init_94 : decode cX7_init 94 = .ok (.bipush 97, 2) := by decide +kernel
theorem dX7_init_96 : decode cX7_init 96 = .ok (.iastore, 1) := by decide +kernel
theorem dX7_init_97 : decode cX7_init 97 = .ok (.dup, 1) := by decide +kernel
theorem dX7_init_98 : decode cX7_init 98 = .ok (.iconst 3, 1) := by decide +kernel
theorem dX7_init_99 : decode cX7_init 99 = .ok (.bipush 121, 2) := by decide +kernel
theorem dX7_init_101 : decode cX7_init 101 = .ok (.iastore, 1) := by decide +kernel
theorem dX7_init_102 : decode cX7_init 102 = .ok (.dup, 1) := by decide +kernel
theorem dX7_init_103 : decode cX7_init 103 = .ok (.iconst 4, 1) := by decide +kernel
theorem dX7_init_104 : decode cX7_init 104 = .ok (.bipush 115, 2) := by decide +kernel
theorem dX7_init_106 : decode cX7_init 106 = .ok (.iastore, 1) := by decide +kernel
theorem dX7_init_107 : decode cX7_init 107 = .ok (.dup, 1) := by decide +kernel
theorem dX7_init_108 : decode cX7_init 108 = .ok (.iconst 5, 1) := by decide +kernel
theorem dX7_init_109 : decode cX7_init 109 = .ok (.bipush 116, 2) := by decide +kernel
theorem dX7_init_111 : decode cX7_init 111 = .ok (.iastore, 1) := by decide +kernel
theorem dX7_init_112 : decode cX7_init 112 = .ok (.dup, 1) := by decide +kernel
theorem dX7_init_113 : decode cX7_init 113 = .ok (.bipush 6, 2) := by decide +kernel
theorem dX7_init_115 : decode cX7_init 115 = .ok (.bipush 101, 2) := by decide +kernel
theorem dX7_init_117 : decode cX7_init 117 = .ok (.iastore, 1) := by decide +kernel
theorem dX7_init_118 : decode cX7_init 118 = .ok (.dup, 1) := by decide +kernel
theorem dX7_init_119 : decode cX7_init 119 = .ok (.bipush 7, 2) := by decide +kernel
theorem dX7_init_121 : decode cX7_init 121 = .ok (.bipush 112, 2) := by decide +kernel
theorem dX7_init_123 : decode cX7_init 123 = .ok (.iastore, 1) := by decide +kernel
theorem dX7_init_124 : decode cX7_init 124 = .ok (.dup, 1) := by decide +kernel
theorem dX7_init_125 : decode cX7_init 125 = .ok (.bipush 8, 2) := by decide +kernel
theorem dX7_init_127 : decode cX7_init 127 = .ok (.bipush 102, 2) := by decide +kernel
theorem dX7_init_129 : decode cX7_init 129 = .ok (.iastore, 1) := by decide +kernel
theorem dX7_init_130 : decode cX7_init 130 = .ok (.dup, 1) := by decide +kernel
theorem dX7_init_131 : decode cX7_init 131 = .ok (.bipush 9, 2) := by decide +kernel
theorem dX7_init_133 : decode cX7_init 133 = .ok (.bipush 114, 2) := by decide +kernel
theorem dX7_init_135 : decode cX7_init 135 = .ok (.iastore, 1) := by decide +kernel
theorem dX7_init_136 : decode cX7_init 136 = .ok (.dup, 1) := by decide +kernel
theorem dX7_init_137 : decode cX7_init 137 = .ok (.bipush 10, 2) := by decide +kernel
theorem dX7_init_139 : decode cX7_init 139 = .ok (.bipush 111, 2) := by decide +kernel
theorem dX7_init_141 : decode cX7_init 141 = .ok (.iastore, 1) := by decide +kernel
theorem dX7_init_142 : decode cX7_init 142 = .ok (.dup, 1) := by decide +kernel
theorem dX7_init_143 : decode cX7_init 143 = .ok (.bipush 11, 2) := by decide +kernel
theorem dX7_init_145 : decode cX7_init 145 = .ok (.bipush 110, 2) := by decide +kernel
theorem dX7_init_147 : decode cX7_init 147 = .ok (.iastore, 1) := by decide +kernel
theorem dX7_init_148 : decode cX7_init 148 = .ok (.dup, 1) := by decide +kernel
theorem dX7_init_149 : decode cX7_init 149 = .ok (.bipush 12, 2) := by decide +kernel
theorem dX7_init_151 : decode cX7_init 151 = .ok (.bipush 116, 2) := by decide +kernel
theorem dX7_init_153 : decode cX7_init 153 = .ok (.iastore, 1) := by decide +kernel
theorem dX7_init_154 : decode cX7_init 154 = .ok (.dup, 1) := by decide +kernel
theorem dX7_init_155 : decode cX7_init 155 = .ok (.bipush 13, 2) := by decide +kernel
theorem dX7_init_157 : decode cX7_init 157 = .ok (.bipush 111, 2) := by decide +kernel
theorem dX7_init_159 : decode cX7_init 159 = .ok (.iastore, 1) := by decide +kernel
theorem dX7_init_160 : decode cX7_init 160 = .ok (.dup, 1) := by decide +kernel
theorem dX7_init_161 : decode cX7_init 161 = .ok (.bipush 14, 2) := by decide +kernel
theorem dX7_init_163 : decode cX7_init 163 = .ok (.bipush 102, 2) := by decide +kernel
theorem dX7_init_165 : decode cX7_init 165 = .ok (.iastore, 1) := by decide +kernel
theorem dX7_init_166 : decode cX7_init 166 = .ok (.dup, 1) := by decide +kernel
theorem dX7_init_167 : decode cX7_init 167 = .ok (.bipush 15, 2) := by decide +kernel
theorem dX7_init_169 : decode cX7_init 169 = .ok (.bipush 116, 2) := by decide +kernel
theorem dX7_init_171 : decode cX7_init 171 = .ok (.iastore, 1) := by decide +kernel
theorem dX7_init_172 : decode cX7_init 172 = .ok (.dup, 1) := by decide +kernel
theorem dX7_init_173 : decode cX7_init 173 = .ok (.bipush 16, 2) := by decide +kernel
theorem dX7_init_175 : decode cX7_init 175 = .ok (.bipush 101, 2) := by decide +kernel
theorem dX7_init_177 : decode cX7_init 177 = .ok (.iastore, 1) := by decide +kernel
theorem dX7_init_178 : decode cX7_init 178 = .ok (.dup, 1) := by decide +kernel
theorem dX7_init_179 : decode cX7_init 179 = .ok (.bipush 17, 2) := by decide +kernel
theorem dX7_init_181 : decode cX7_init 181 = .ok (.bipush 110, 2) := by decide +kernel
theorem dX7_init_183 : decode cX7_init 183 = .ok (.iastore, 1) := by decide +kernel
theorem dX7_init_184 : decode cX7_init 184 = .ok (.dup, 1) := by decide +kernel
theorem dX7_init_185 : decode cX7_init 185 = .ok (.bipush 18, 2) := by decide +kernel
theorem dX7_init_187 : decode cX7_init 187 = .ok (.bipush 98, 2) := by decide +kernel
theorem dX7_init_189 : decode cX7_init 189 = .ok (.iastore, 1) := by decide +kernel
theorem dX7_init_190 : decode cX7_init 190 = .ok (.dup, 1) := by decide +kernel
theorem dX7_init_191 : decode cX7_init 191 = .ok (.bipush 19, 2) := by decide +kernel
theorem dX7_init_193 : decode cX7_init 193 = .ok (.bipush 111, 2) := by decide +kernel
theorem dX7_init_195 : decode cX7_init 195 = .ok (.iastore, 1) := by decide +kernel
theorem dX7_init_196 : decode cX7_init 196 = .ok (.dup, 1) := by decide +kernel
theorem dX7_init_197 : decode cX7_init 197 = .ok (.bipush 20, 2) := by decide +kernel
theorem dX7_init_199 : decode cX7_init 199 = .ok (.bipush 111, 2) := by decide +kernel
theorem dX7_init_201 : decode cX7_init 201 = .ok (.iastore, 1) := by decide +kernel
theorem dX7_init_202 : decode cX7_init 202 = .ok (.dup, 1) := by decide +kernel
theorem dX7_init_203 : decode cX7_init 203 = .ok (.bipush 21, 2) := by decide +kernel
theorem dX7_init_205 : decode cX7_init 205 = .ok (.bipush 107, 2) := by decide +kernel
theorem dX7_init_207 : decode cX7_init 207 = .ok (.iastore, 1) := by decide +kernel
theorem dX7_init_208 : decode cX7_init 208 = .ok (.dup, 1) := by decide +kernel
theorem dX7_init_209 : decode cX7_init 209 = .ok (.bipush 22, 2) := by decide +kernel
theorem dX7_init_211 : decode cX7_init 211 = .ok (.bipush 115, 2) := by decide +kernel
theorem dX7_init_213 : decode cX7_init 213 = .ok (.iastore, 1) := by decide +kernel
theorem dX7_init_214 : decode cX7_init 214 = .ok (.dup, 1) := by decide +kernel
theorem dX7_init_215 : decode cX7_init 215 = .ok (.bipush 23, 2) := by decide +kernel
theorem dX7_init_217 : decode cX7_init 217 = .ok (.bipush 119, 2) := by decide +kernel
theorem dX7_init_219 : decode cX7_init 219 = .ok (.iastore, 1) := by decide +kernel
theorem dX7_init_220 : decode cX7_init 220 = .ok (.dup, 1) := by decide +kernel
theorem dX7_init_221 : decode cX7_init 221 = .ok (.bipush 24, 2) := by decide +kernel
theorem dX7_init_223 : decode cX7_init 223 = .ok (.bipush 97, 2) := by decide +kernel
theorem dX7_init_225 : decode cX7_init 225 = .ok (.iastore, 1) := by decide +kernel
theorem dX7_init_226 : decode cX7_init 226 = .ok (.dup, 1) := by decide +kernel
theorem dX7_init_227 : decode cX7_init 227 = .ok (.bipush 25, 2) := by decide +kernel
theorem dX7_init_229 : decode cX7_init 229 = .ok (.bipush 110, 2) := by decide +kernel
theorem dX7_init_231 : decode cX7_init 231 = .ok (.iastore, 1) := by decide +kernel
theorem dX7_init_232 : decode cX7_init 232 = .ok (.dup, 1) := by decide +kernel
theorem dX7_init_233 : decode cX7_init 233 = .ok (.bipush 26, 2) := by decide +kernel
theorem dX7_init_235 : decode cX7_init 235 = .ok (.bipush 116, 2) := by decide +kernel
theorem dX7_init_237 : decode cX7_init 237 = .ok (.iastore, 1) := by decide +kernel
theorem dX7_init_238 : decode cX7_init 238 = .ok (.putfield 26, 3) := by decide +kernel
theorem dX7_init_241 : decode cX7_init 241 = .ok (.aload_n 0, 1) := by decide +kernel
theorem dX7_init_242 : decode cX7_init 242 = .ok (.iconst 4, 1) := by decide +kernel
theorem dX7_init_243 : decode cX7_init 243 = .ok (.newarray .int, 2) := by decide +kernel
theorem dX7_init_245 : decode cX7_init 245 = .ok (.putfield 29, 3) := by decide +kernel
theorem dX7_init_248 : decode cX7_init 248 = .ok (.aload_n 0, 1) := by decide +kernel
theorem dX7_init_249 : decode cX7_init 249 = .ok (.bipush (-4), 2) := by decide +kernel
theorem dX7_init_251 : decode cX7_init 251 = .ok (.putfield 32, 3) := by decide +kernel
theorem dX7_init_254 : decode cX7_init 254 = .ok (.aload_n 0, 1) := by decide +kernel
theorem dX7_init_255 : decode cX7_init 255 = .ok (.bipush 18, 2) := by decide +kernel
theorem dX7_init_257 : decode cX7_init 257 = .ok (.newarray .int, 2) := by decide +kernel
theorem dX7_init_259 : decode cX7_init 259 = .ok (.putfield 35, 3) := by decide +kernel
theorem dX7_init_262 : decode cX7_init 262 = .ok (.aload_n 0, 1) := by decide +kernel
theorem dX7_init_263 : decode cX7_init 263 = .ok (.sipush 984, 3) := by decide +kernel
theorem dX7_init_266 : decode cX7_init 266 = .ok (.newarray .int, 2) := by decide +kernel
theorem dX7_init_268 : decode cX7_init 268 = .ok (.putfield 38, 3) := by decide +kernel
theorem dX7_init_271 : decode cX7_init 271 = .ok (.aload_n 0, 1) := by decide +kernel
theorem dX7_init_272 : decode cX7_init 272 = .ok (.iconst 2, 1) := by decide +kernel
theorem dX7_init_273 : decode cX7_init 273 = .ok (.newarray .boolean, 2) := by decide +kernel
theorem dX7_init_275 : decode cX7_init 275 = .ok (.putfield 41, 3) := by decide +kernel
theorem dX7_init_278 : decode cX7_init 278 = .ok (.aload_n 0, 1) := by decide +kernel
theorem dX7_init_279 : decode cX7_init 279 = .ok (.iconst 4, 1) := by decide +kernel
theorem dX7_init_280 : decode cX7_init 280 = .ok (.newarray .int, 2) := by decide +kernel
theorem dX7_init_282 : decode cX7_init 282 = .ok (.dup, 1) := by decide +kernel
theorem dX7_init_283 : decode cX7_init 283 = .ok (.iconst 0, 1) := by decide +kernel
theorem dX7_init_284 : decode cX7_init 284 = .ok (.bipush (-4), 2) := by decide +kernel
theorem dX7_init_286 : decode cX7_init 286 = .ok (.iastore, 1) := by decide +kernel
theorem dX7_init_287 : decode cX7_init 287 = .ok (.dup, 1) := by decide +kernel
theorem dX7_init_288 : decode cX7_init 288 = .ok (.iconst 1, 1) := by decide +kernel
theorem dX7_init_289 : decode cX7_init 289 = .ok (.bipush (-4), 2) := by decide +kernel
theorem dX7_init_291 : decode cX7_init 291 = .ok (.iastore, 1) := by decide +kernel
theorem dX7_init_292 : decode cX7_init 292 = .ok (.dup, 1) := by decide +kernel
theorem dX7_init_293 : decode cX7_init 293 = .ok (.iconst 2, 1) := by decide +kernel
theorem dX7_init_294 : decode cX7_init 294 = .ok (.bipush (-4), 2) := by decide +kernel
theorem dX7_init_296 : decode cX7_init 296 = .ok (.iastore, 1) := by decide +kernel
theorem dX7_init_297 : decode cX7_init 297 = .ok (.dup, 1) := by decide +kernel
theorem dX7_init_298 : decode cX7_init 298 = .ok (.iconst 3, 1) := by decide +kernel
theorem dX7_init_299 : decode cX7_init 299 = .ok (.bipush (-4), 2) := by decide +kernel
theorem dX7_init_301 : decode cX7_init 301 = .ok (.iastore, 1) := by decide +kernel
theorem dX7_init_302 : decode cX7_init 302 = .ok (.putfield 45, 3) := by decide +kernel
theorem dX7_init_305 : decode cX7_init 305 = .ok (.aload_n 0, 1) := by decide +kernel
theorem dX7_init_306 : decode cX7_init 306 = .ok (.iconst 4, 1) := by decide +kernel
theorem dX7_init_307 : decode cX7_init 307 = .ok (.newarray .int, 2) := by decide +kernel
theorem dX7_init_309 : decode cX7_init 309 = .ok (.putfield 48, 3) := by decide +kernel
theorem dX7_init_312 : decode cX7_init 312 = .ok (.aload_n 0, 1) := by decide +kernel
theorem dX7_init_313 : decode cX7_init 313 = .ok (.sipush 160, 3) := by decide +kernel
theorem dX7_init_316 : decode cX7_init 316 = .ok (.newarray .int, 2) := by decide +kernel
theorem dX7_init_318 : decode cX7_init 318 = .ok (.putfield 51, 3) := by decide +kernel
theorem dX7_init_321 : decode cX7_init 321 = .ok (.return_, 1) := by decide +kernel
theorem dX7_in_0 : decode cX7_in 0 = .ok (.lload_n 0, 1) := by decide +kernel
theorem dX7_in_1 : decode cX7_in 1 = .ok (.lload_n 2, 1) := by decide +kernel
theorem dX7_in_2 : decode cX7_in 2 = .ok (.lcmp, 1) := by decide +kernel
theorem dX7_in_3 : decode cX7_in 3 = .ok (.ifCond .lt 14, 3) := by decide +kernel
theorem dX7_in_6 : decode cX7_in 6 = .ok (.lload_n 0, 1) := by decide +kernel
theorem dX7_in_7 : decode cX7_in 7 = .ok (.lload 4, 2) := by decide +kernel
theorem dX7_in_9 : decode cX7_in 9 = .ok (.lcmp, 1) := by decide +kernel
theorem dX7_in_10 : decode cX7_in 10 = .ok (.ifCond .gt 7, 3) := by decide +kernel
theorem dX7_in_13 : decode cX7_in 13 = .ok (.iconst 1, 1) := by decide +kernel
theorem dX7_in_14 : decode cX7_in 14 = .ok (.goto 4, 3) := by decide +kernel
theorem dX7_in_17 : decode cX7_in 17 = .ok (.iconst 0, 1) := by decide +kernel
theorem dX7_in_18 : decode cX7_in 18 = .ok (.ireturn, 1) := by decide +kernel
theorem dX7_feed_0 : decode cX7_feed 0 = .ok (.iload_n 1, 1) := by decide +kernel
theorem dX7_feed_1 : decode cX7_feed 1 = .ok (.i2l, 1) := by decide +kernel
theorem dX7_feed_2 : decode cX7_feed 2 = .ok (.lconst 0, 1) := by decide +kernel
theorem dX7_feed_3 : decode cX7_feed 3 = .ok (.ldc2_w 54, 3) := by decide +kernel
theorem dX7_feed_6 : decode cX7_feed 6 = .ok (.invokestatic 56, 3) := by decide +kernel
theorem dX7_feed_9 : decode cX7_feed 9 = .ok (.ifCond .ne 5, 3) := by decide +kernel
theorem dX7_feed_12 : decode cX7_feed 12 = .ok (.iconst (-1), 1) := by decide +kernel
theorem dX7_feed_13 : decode cX7_feed 13 = .ok (.ireturn, 1) := by decide +kernel
theorem dX7_feed_14 : decode cX7_feed 14 = .ok (.aload_n 0, 1) := by decide +kernel
theorem dX7_feed_15 : decode cX7_feed 15 = .ok (.getfield 60, 3) := by decide +kernel
theorem dX7_feed_18 : decode cX7_feed 18 = .ok (.sipush 160, 3) := by decide +kernel
theorem dX7_feed_21 : decode cX7_feed 21 = .ok (.if_icmp .ne 6, 3) := by decide +kernel
theorem dX7_feed_24 : decode cX7_feed 24 = .ok (.bipush (-3), 2) := by decide +kernel
theorem dX7_feed_26 : decode cX7_feed 26 = .ok (.ireturn, 1) := by decide +kernel
theorem dX7_feed_27 : decode cX7_feed 27 = .ok (.aload_n 0, 1) := by decide +kernel
theorem dX7_feed_28 : decode cX7_feed 28 = .ok (.getfield 20, 3) := by decide +kernel
theorem dX7_feed_31 : decode cX7_feed 31 = .ok (.aload_n 0, 1) := by decide +kernel
theorem dX7_feed_32 : decode cX7_feed 32 = .ok (.getfield 60, 3) := by decide +kernel
theorem dX7_feed_35 : decode cX7_feed 35 = .ok (.iload_n 1, 1) := by decide +kernel
theorem dX7_feed_36 : decode cX7_feed 36 = .ok (.iastore, 1) := by decide +kernel
theorem dX7_feed_37 : decode cX7_feed 37 = .ok (.aload_n 0, 1) := by decide +kernel
theorem dX7_feed_38 : decode cX7_feed 38 = .ok (.dup, 1) := by decide +kernel
theorem dX7_feed_39 : decode cX7_feed 39 = .ok (.getfield 60, 3) := by decide +kernel
theorem dX7_feed_42 : decode cX7_feed 42 = .ok (.iconst 1, 1) := by decide +kernel
theorem dX7_feed_43 : decode cX7_feed 43 = .ok (.iadd, 1) := by decide +kernel
theorem dX7_feed_44 : decode cX7_feed 44 = .ok (.putfield 60, 3) := by decide +kernel
theorem dX7_feed_47 : decode cX7_feed 47 = .ok (.aload_n 0, 1) := by decide +kernel
theorem dX7_feed_48 : decode cX7_feed 48 = .ok (.getfield 60, 3) := by decide +kernel
theorem dX7_feed_51 : decode cX7_feed 51 = .ok (.ireturn, 1) := by decide +kernel
theorem dX7_end_0 : decode cX7_end 0 = .ok (.iload_n 1, 1) := by decide +kernel
theorem dX7_end_1 : decode cX7_end 1 = .ok (.i2l, 1) := by decide +kernel
theorem dX7_end_2 : decode cX7_end 2 = .ok (.lconst 0, 1) := by decide +kernel
theorem dX7_end_3 : decode cX7_end 3 = .ok (.aload_n 0, 1) := by decide +kernel
theorem dX7_end_4 : decode cX7_end 4 = .ok (.getfield 60, 3) := by decide +kernel
theorem dX7_end_7 : decode cX7_end 7 = .ok (.i2l, 1) := by decide +kernel
theorem dX7_end_8 : decode cX7_end 8 = .ok (.invokestatic 56, 3) := by decide +kernel
theorem dX7_end_11 : decode cX7_end 11 = .ok (.ifCond .ne 5, 3) := by decide +kernel
theorem dX7_end_14 : decode cX7_end 14 = .ok (.iconst (-1), 1) := by decide +kernel
theorem dX7_end_15 : decode cX7_end 15 = .ok (.ireturn, 1) := by decide +kernel
theorem dX7_end_16 : decode cX7_end 16 = .ok (.aload_n 0, 1) := by decide +kernel
theorem dX7_end_17 : decode cX7_end 17 = .ok (.getfield 60, 3) := by decide +kernel
theorem dX7_end_20 : decode cX7_end 20 = .ok (.istore_n 2, 1) := by decide +kernel
theorem dX7_end_21 : decode cX7_end 21 = .ok (.aload_n 0, 1) := by decide +kernel
theorem dX7_end_22 : decode cX7_end 22 = .ok (.iload_n 1, 1) := by decide +kernel
theorem dX7_end_23 : decode cX7_end 23 = .ok (.putfield 60, 3) := by decide +kernel
theorem dX7_end_26 : decode cX7_end 26 = .ok (.iload_n 2, 1) := by decide +kernel
theorem dX7_end_27 : decode cX7_end 27 = .ok (.ireturn, 1) := by decide +kernel
theorem dX7_byteAt_0 : decode cX7_byteAt 0 = .ok (.iload_n 1, 1) := by decide +kernel
theorem dX7_byteAt_1 : decode cX7_byteAt 1 = .ok (.aload_n 0, 1) := by decide +kernel
theorem dX7_byteAt_2 : decode cX7_byteAt 2 = .ok (.getfield 60, 3) := by decide +kernel
theorem dX7_byteAt_5 : decode cX7_byteAt 5 = .ok (.if_icmp .ge 12, 3) := by decide +kernel
theorem dX7_byteAt_8 : decode cX7_byteAt 8 = .ok (.aload_n 0, 1) := by decide +kernel
theorem dX7_byteAt_9 : decode cX7_byteAt 9 = .ok (.getfield 20, 3) := by decide +kernel
theorem dX7_byteAt_12 : decode cX7_byteAt 12 = .ok (.iload_n 1, 1) := by decide +kernel
theorem dX7_byteAt_13 : decode cX7_byteAt 13 = .ok (.iaload, 1) := by decide +kernel
theorem dX7_byteAt_14 : decode cX7_byteAt 14 = .ok (.goto 5, 3) := by decide +kernel
theorem dX7_byteAt_17 : decode cX7_byteAt 17 = .ok (.bipush (-4), 2) := by decide +kernel
theorem dX7_byteAt_19 : decode cX7_byteAt 19 = .ok (.ireturn, 1) := by decide +kernel
theorem dX7_fails_0 : decode cX7_fails 0 = .ok (.aload_n 0, 1) := by decide +kernel
theorem dX7_fails_1 : decode cX7_fails 1 = .ok (.getfield 63, 3) := by decide +kernel
theorem dX7_fails_4 : decode cX7_fails 4 = .ok (.ifCond .ne 16, 3) := by decide +kernel
theorem dX7_fails_7 : decode cX7_fails 7 = .ok (.aload_n 0, 1) := by decide +kernel
theorem dX7_fails_8 : decode cX7_fails 8 = .ok (.iload_n 1, 1) := by decide +kernel
theorem dX7_fails_9 : decode cX7_fails 9 = .ok (.putfield 63, 3) := by decide +kernel
theorem dX7_fails_12 : decode cX7_fails 12 = .ok (.aload_n 0, 1) := by decide +kernel
theorem dX7_fails_13 : decode cX7_fails 13 = .ok (.aload_n 0, 1) := by decide +kernel
theorem dX7_fails_14 : decode cX7_fails 14 = .ok (.getfield 66, 3) := by decide +kernel
theorem dX7_fails_17 : decode cX7_fails 17 = .ok (.putfield 69, 3) := by decide +kernel
theorem dX7_fails_20 : decode cX7_fails 20 = .ok (.return_, 1) := by decide +kernel
theorem dX7_nameHere_0 : decode cX7_nameHere 0 = .ok (.iconst 0, 1) := by decide +kernel
theorem dX7_nameHere_1 : decode cX7_nameHere 1 = .ok (.istore_n 1, 1) := by decide +kernel
theorem dX7_nameHere_2 : decode cX7_nameHere 2 = .ok (.iload_n 1, 1) := by decide +kernel
theorem dX7_nameHere_3 : decode cX7_nameHere 3 = .ok (.bipush 6, 2) := by decide +kernel
theorem dX7_nameHere_5 : decode cX7_nameHere 5 = .ok (.if_icmp .ge 113, 3) := by decide +kernel
theorem dX7_nameHere_8 : decode cX7_nameHere 8 = .ok (.aload_n 0, 1) := by decide +kernel
theorem dX7_nameHere_9 : decode cX7_nameHere 9 = .ok (.getfield 72, 3) := by decide +kernel
theorem dX7_nameHere_12 : decode cX7_nameHere 12 = .ok (.iconst 1, 1) := by decide +kernel
theorem dX7_nameHere_13 : decode cX7_nameHere 13 = .ok (.if_icmp .ne 105, 3) := by decide +kernel
theorem dX7_nameHere_16 : decode cX7_nameHere 16 = .ok (.aload_n 0, 1) := by decide +kernel
theorem dX7_nameHere_17 : decode cX7_nameHere 17 = .ok (.getfield 75, 3) := by decide +kernel
theorem dX7_nameHere_20 : decode cX7_nameHere 20 = .ok (.aload_n 0, 1) := by decide +kernel
theorem dX7_nameHere_21 : decode cX7_nameHere 21 = .ok (.getfield 66, 3) := by decide +kernel
theorem dX7_nameHere_24 : decode cX7_nameHere 24 = .ok (.isub, 1) := by decide +kernel
theorem dX7_nameHere_25 : decode cX7_nameHere 25 = .ok (.aload_n 0, 1) := by decide +kernel
theorem dX7_nameHere_26 : decode cX7_nameHere 26 = .ok (.getfield 23, 3) := by decide +kernel
theorem dX7_nameHere_29 : decode cX7_nameHere 29 = .ok (.iload_n 1, 1) := by decide +kernel
theorem dX7_nameHere_30 : decode cX7_nameHere 30 = .ok (.iconst 1, 1) := by decide +kernel
theorem dX7_nameHere_31 : decode cX7_nameHere 31 = .ok (.iadd, 1) := by decide +kernel
theorem dX7_nameHere_32 : decode cX7_nameHere 32 = .ok (.iaload, 1) := by decide +kernel
theorem dX7_nameHere_33 : decode cX7_nameHere 33 = .ok (.aload_n 0, 1) := by decide +kernel
theorem dX7_nameHere_34 : decode cX7_nameHere 34 = .ok (.getfield 23, 3) := by decide +kernel
theorem dX7_nameHere_37 : decode cX7_nameHere 37 = .ok (.iload_n 1, 1) := by decide +kernel
theorem dX7_nameHere_38 : decode cX7_nameHere 38 = .ok (.iaload, 1) := by decide +kernel
theorem dX7_nameHere_39 : decode cX7_nameHere 39 = .ok (.isub, 1) := by decide +kernel
theorem dX7_nameHere_40 : decode cX7_nameHere 40 = .ok (.if_icmp .ne 7, 3) := by decide +kernel
theorem dX7_nameHere_43 : decode cX7_nameHere 43 = .ok (.iconst 1, 1) := by decide +kernel
theorem dX7_nameHere_44 : decode cX7_nameHere 44 = .ok (.goto 4, 3) := by decide +kernel
theorem dX7_nameHere_47 : decode cX7_nameHere 47 = .ok (.iconst 0, 1) := by decide +kernel
theorem dX7_nameHere_48 : decode cX7_nameHere 48 = .ok (.istore_n 2, 1) := by decide +kernel
theorem dX7_nameHere_49 : decode cX7_nameHere 49 = .ok (.iconst 0, 1) := by decide +kernel
theorem dX7_nameHere_50 : decode cX7_nameHere 50 = .ok (.istore_n 3, 1) := by decide +kernel
theorem dX7_nameHere_51 : decode cX7_nameHere 51 = .ok (.iload_n 2, 1) := by decide +kernel
theorem dX7_nameHere_52 : decode cX7_nameHere 52 = .ok (.ifCond .eq 54, 3) := by decide +kernel
theorem dX7_nameHere_55 : decode cX7_nameHere 55 = .ok (.iload_n 3, 1) := by decide +kernel
theorem dX7_nameHere_56 : decode cX7_nameHere 56 = .ok (.aload_n 0, 1) := by decide +kernel
theorem dX7_nameHere_57 : decode cX7_nameHere 57 = .ok (.getfield 75, 3) := by decide +kernel
theorem dX7_nameHere_60 : decode cX7_nameHere 60 = .ok (.aload_n 0, 1) := by decide +kernel
theorem dX7_nameHere_61 : decode cX7_nameHere 61 = .ok (.getfield 66, 3) := by decide +kernel
theorem dX7_nameHere_64 : decode cX7_nameHere 64 = .ok (.isub, 1) := by decide +kernel
theorem dX7_nameHere_65 : decode cX7_nameHere 65 = .ok (.if_icmp .ge 41, 3) := by decide +kernel
theorem dX7_nameHere_68 : decode cX7_nameHere 68 = .ok (.aload_n 0, 1) := by decide +kernel
theorem dX7_nameHere_69 : decode cX7_nameHere 69 = .ok (.aload_n 0, 1) := by decide +kernel
theorem dX7_nameHere_70 : decode cX7_nameHere 70 = .ok (.getfield 66, 3) := by decide +kernel
theorem dX7_nameHere_73 : decode cX7_nameHere 73 = .ok (.iload_n 3, 1) := by decide +kernel
theorem dX7_nameHere_74 : decode cX7_nameHere 74 = .ok (.iadd, 1) := by decide +kernel
theorem dX7_nameHere_75 : decode cX7_nameHere 75 = .ok (.invokevirtual 78, 3) := by decide +kernel
theorem dX7_nameHere_78 : decode cX7_nameHere 78 = .ok (.aload_n 0, 1) := by decide +kernel
theorem dX7_nameHere_79 : decode cX7_nameHere 79 = .ok (.getfield 26, 3) := by decide +kernel
theorem dX7_nameHere_82 : decode cX7_nameHere 82 = .ok (.aload_n 0, 1) := by decide +kernel
theorem dX7_nameHere_83 : decode cX7_nameHere 83 = .ok (.getfield 23, 3) := by decide +kernel
theorem dX7_nameHere_86 : decode cX7_nameHere 86 = .ok (.iload_n 1, 1) := by decide +kernel
theorem dX7_nameHere_87 : decode cX7_nameHere 87 = .ok (.iaload, 1) := by decide +kernel
theorem dX7_nameHere_88 : decode cX7_nameHere 88 = .ok (.iload_n 3, 1) := by decide +kernel
theorem dX7_nameHere_89 : decode cX7_nameHere 89 = .ok (.iadd, 1) := by decide +kernel
theorem dX7_nameHere_90 : decode cX7_nameHere 90 = .ok (.iaload, 1) := by decide +kernel
theorem dX7_nameHere_91 : decode cX7_nameHere 91 = .ok (.if_icmp .ne 7, 3) := by decide +kernel
theorem dX7_nameHere_94 : decode cX7_nameHere 94 = .ok (.iconst 1, 1) := by decide +kernel
theorem dX7_nameHere_95 : decode cX7_nameHere 95 = .ok (.goto 4, 3) := by decide +kernel
theorem dX7_nameHere_98 : decode cX7_nameHere 98 = .ok (.iconst 0, 1) := by decide +kernel
theorem dX7_nameHere_99 : decode cX7_nameHere 99 = .ok (.istore_n 2, 1) := by decide +kernel
theorem dX7_nameHere_100 : decode cX7_nameHere 100 = .ok (.iinc 3 1, 3) := by decide +kernel
theorem dX7_nameHere_103 : decode cX7_nameHere 103 = .ok (.goto (-52), 3) := by decide +kernel
theorem dX7_nameHere_106 : decode cX7_nameHere 106 = .ok (.iload_n 2, 1) := by decide +kernel
theorem dX7_nameHere_107 : decode cX7_nameHere 107 = .ok (.ifCond .eq 5, 3) := by decide +kernel
theorem dX7_nameHere_110 : decode cX7_nameHere 110 = .ok (.iload_n 1, 1) := by decide +kernel
theorem dX7_nameHere_111 : decode cX7_nameHere 111 = .ok (.ireturn, 1) := by decide +kernel
theorem dX7_nameHere_112 : decode cX7_nameHere 112 = .ok (.iinc 1 1, 3) := by decide +kernel
theorem dX7_nameHere_115 : decode cX7_nameHere 115 = .ok (.goto (-113), 3) := by decide +kernel
theorem dX7_nameHere_118 : decode cX7_nameHere 118 = .ok (.bipush (-4), 2) := by decide +kernel
theorem dX7_nameHere_120 : decode cX7_nameHere 120 = .ok (.ireturn, 1) := by decide +kernel
theorem dX7_readsOn_0 : decode cX7_readsOn 0 = .ok (.aload_n 0, 1) := by decide +kernel
theorem dX7_readsOn_1 : decode cX7_readsOn 1 = .ok (.getfield 63, 3) := by decide +kernel
theorem dX7_readsOn_4 : decode cX7_readsOn 4 = .ok (.ifCond .le 4, 3) := by decide +kernel
theorem dX7_readsOn_7 : decode cX7_readsOn 7 = .ok (.return_, 1) := by decide +kernel
theorem dX7_readsOn_8 : decode cX7_readsOn 8 = .ok (.aload_n 0, 1) := by decide +kernel
theorem dX7_readsOn_9 : decode cX7_readsOn 9 = .ok (.aload_n 0, 1) := by decide +kernel
theorem dX7_readsOn_10 : decode cX7_readsOn 10 = .ok (.getfield 75, 3) := by decide +kernel
theorem dX7_readsOn_13 : decode cX7_readsOn 13 = .ok (.invokevirtual 78, 3) := by decide +kernel
theorem dX7_readsOn_16 : decode cX7_readsOn 16 = .ok (.bipush 32, 2) := by decide +kernel
theorem dX7_readsOn_18 : decode cX7_readsOn 18 = .ok (.if_icmp .ne 16, 3) := by decide +kernel
theorem dX7_readsOn_21 : decode cX7_readsOn 21 = .ok (.aload_n 0, 1) := by decide +kernel
theorem dX7_readsOn_22 : decode cX7_readsOn 22 = .ok (.dup, 1) := by decide +kernel
theorem dX7_readsOn_23 : decode cX7_readsOn 23 = .ok (.getfield 75, 3) := by decide +kernel
theorem dX7_readsOn_26 : decode cX7_readsOn 26 = .ok (.iconst 1, 1) := by decide +kernel
theorem dX7_readsOn_27 : decode cX7_readsOn 27 = .ok (.iadd, 1) := by decide +kernel
theorem dX7_readsOn_28 : decode cX7_readsOn 28 = .ok (.putfield 75, 3) := by decide +kernel
theorem dX7_readsOn_31 : decode cX7_readsOn 31 = .ok (.goto (-23), 3) := by decide +kernel
theorem dX7_readsOn_34 : decode cX7_readsOn 34 = .ok (.aload_n 0, 1) := by decide +kernel
theorem dX7_readsOn_35 : decode cX7_readsOn 35 = .ok (.aload_n 0, 1) := by decide +kernel
theorem dX7_readsOn_36 : decode cX7_readsOn 36 = .ok (.getfield 75, 3) := by decide +kernel
theorem dX7_readsOn_39 : decode cX7_readsOn 39 = .ok (.putfield 66, 3) := by decide +kernel
theorem dX7_readsOn_42 : decode cX7_readsOn 42 = .ok (.aload_n 0, 1) := by decide +kernel
theorem dX7_readsOn_43 : decode cX7_readsOn 43 = .ok (.aload_n 0, 1) := by decide +kernel
theorem dX7_readsOn_44 : decode cX7_readsOn 44 = .ok (.getfield 75, 3) := by decide +kernel
theorem dX7_readsOn_47 : decode cX7_readsOn 47 = .ok (.invokevirtual 78, 3) := by decide +kernel
theorem dX7_readsOn_50 : decode cX7_readsOn 50 = .ok (.istore_n 1, 1) := by decide +kernel
theorem dX7_readsOn_51 : decode cX7_readsOn 51 = .ok (.aload_n 0, 1) := by decide +kernel
theorem dX7_readsOn_52 : decode cX7_readsOn 52 = .ok (.iconst 0, 1) := by decide +kernel
theorem dX7_readsOn_53 : decode cX7_readsOn 53 = .ok (.putfield 82, 3) := by decide +kernel
theorem dX7_readsOn_56 : decode cX7_readsOn 56 = .ok (.iload_n 1, 1) := by decide +kernel
theorem dX7_readsOn_57 : decode cX7_readsOn 57 = .ok (.bipush (-4), 2) := by decide +kernel
theorem dX7_readsOn_59 : decode cX7_readsOn 59 = .ok (.if_icmp .ne 11, 3) := by decide +kernel
theorem dX7_readsOn_62 : decode cX7_readsOn 62 = .ok (.aload_n 0, 1) := by decide +kernel
theorem dX7_readsOn_63 : decode cX7_readsOn 63 = .ok (.iconst 0, 1) := by decide +kernel
theorem dX7_readsOn_64 : decode cX7_readsOn 64 = .ok (.putfield 72, 3) := by decide +kernel
theorem dX7_readsOn_67 : decode cX7_readsOn 67 = .ok (.goto 202, 3) := by decide +kernel
theorem dX7_readsOn_70 : decode cX7_readsOn 70 = .ok (.iload_n 1, 1) := by decide +kernel
theorem dX7_readsOn_71 : decode cX7_readsOn 71 = .ok (.i2l, 1) := by decide +kernel
theorem dX7_readsOn_72 : decode cX7_readsOn 72 = .ok (.ldc2_w 85, 3) := by decide +kernel
theorem dX7_readsOn_75 : decode cX7_readsOn 75 = .ok (.ldc2_w 87, 3) := by decide +kernel
theorem dX7_readsOn_78 : decode cX7_readsOn 78 = .ok (.invokestatic 56, 3) := by decide +kernel
theorem dX7_readsOn_81 : decode cX7_readsOn 81 = .ok (.ifCond .eq 45, 3) := by decide +kernel
theorem dX7_readsOn_84 : decode cX7_readsOn 84 = .ok (.aload_n 0, 1) := by decide +kernel
theorem dX7_readsOn_85 : decode cX7_readsOn 85 = .ok (.aload_n 0, 1) := by decide +kernel
theorem dX7_readsOn_86 : decode cX7_readsOn 86 = .ok (.getfield 75, 3) := by decide +kernel
theorem dX7_readsOn_89 : decode cX7_readsOn 89 = .ok (.invokevirtual 78, 3) := by decide +kernel
theorem dX7_readsOn_92 : decode cX7_readsOn 92 = .ok (.i2l, 1) := by decide +kernel
theorem dX7_readsOn_93 : decode cX7_readsOn 93 = .ok (.ldc2_w 85, 3) := by decide +kernel
theorem dX7_readsOn_96 : decode cX7_readsOn 96 = .ok (.ldc2_w 87, 3) := by decide +kernel
theorem dX7_readsOn_99 : decode cX7_readsOn 99 = .ok (.invokestatic 56, 3) := by decide +kernel
theorem dX7_readsOn_102 : decode cX7_readsOn 102 = .ok (.ifCond .eq 16, 3) := by decide +kernel
theorem dX7_readsOn_105 : decode cX7_readsOn 105 = .ok (.aload_n 0, 1) := by decide +kernel
theorem dX7_readsOn_106 : decode cX7_readsOn 106 = .ok (.dup, 1) := by decide +kernel
theorem dX7_readsOn_107 : decode cX7_readsOn 107 = .ok (.getfield 75, 3) := by decide +kernel
theorem dX7_readsOn_110 : decode cX7_readsOn 110 = .ok (.iconst 1, 1) := by decide +kernel
theorem dX7_readsOn_111 : decode cX7_readsOn 111 = .ok (.iadd, 1) := by decide +kernel
theorem dX7_readsOn_112 : decode cX7_readsOn 112 = .ok (.putfield 75, 3) := by decide +kernel
theorem dX7_readsOn_115 : decode cX7_readsOn 115 = .ok (.goto (-31), 3) := by decide +kernel
theorem dX7_readsOn_118 : decode cX7_readsOn 118 = .ok (.aload_n 0, 1) := by decide +kernel
theorem dX7_readsOn_119 : decode cX7_readsOn 119 = .ok (.iconst 1, 1) := by decide +kernel
theorem dX7_readsOn_120 : decode cX7_readsOn 120 = .ok (.putfield 72, 3) := by decide +kernel
theorem dX7_readsOn_123 : decode cX7_readsOn 123 = .ok (.goto 146, 3) := by decide +kernel
theorem dX7_readsOn_126 : decode cX7_readsOn 126 = .ok (.iload_n 1, 1) := by decide +kernel
theorem dX7_readsOn_127 : decode cX7_readsOn 127 = .ok (.i2l, 1) := by decide +kernel
theorem dX7_readsOn_128 : decode cX7_readsOn 128 = .ok (.ldc2_w 89, 3) := by decide +kernel
theorem dX7_readsOn_131 : decode cX7_readsOn 131 = .ok (.ldc2_w 91, 3) := by decide +kernel
theorem dX7_readsOn_134 : decode cX7_readsOn 134 = .ok (.invokestatic 56, 3) := by decide +kernel
theorem dX7_readsOn_137 : decode cX7_readsOn 137 = .ok (.ifCond .eq 106, 3) := by decide +kernel
theorem dX7_readsOn_140 : decode cX7_readsOn 140 = .ok (.aload_n 0, 1) := by decide +kernel
theorem dX7_readsOn_141 : decode cX7_readsOn 141 = .ok (.aload_n 0, 1) := by decide +kernel
theorem dX7_readsOn_142 : decode cX7_readsOn 142 = .ok (.getfield 75, 3) := by decide +kernel
theorem dX7_readsOn_145 : decode cX7_readsOn 145 = .ok (.invokevirtual 78, 3) := by decide +kernel
theorem dX7_readsOn_148 : decode cX7_readsOn 148 = .ok (.i2l, 1) := by decide +kernel
theorem dX7_readsOn_149 : decode cX7_readsOn 149 = .ok (.ldc2_w 89, 3) := by decide +kernel
theorem dX7_readsOn_152 : decode cX7_readsOn 152 = .ok (.ldc2_w 91, 3) := by decide +kernel
theorem dX7_readsOn_155 : decode cX7_readsOn 155 = .ok (.invokestatic 56, 3) := by decide +kernel
theorem dX7_readsOn_158 : decode cX7_readsOn 158 = .ok (.ifCond .eq 59, 3) := by decide +kernel
theorem dX7_readsOn_161 : decode cX7_readsOn 161 = .ok (.aload_n 0, 1) := by decide +kernel
theorem dX7_readsOn_162 : decode cX7_readsOn 162 = .ok (.aload_n 0, 1) := by decide +kernel
theorem dX7_readsOn_163 : decode cX7_readsOn 163 = .ok (.getfield 75, 3) := by decide +kernel
theorem dX7_readsOn_166 : decode cX7_readsOn 166 = .ok (.aload_n 0, 1) := by decide +kernel
theorem dX7_readsOn_167 : decode cX7_readsOn 167 = .ok (.getfield 66, 3) := by decide +kernel
theorem dX7_readsOn_170 : decode cX7_readsOn 170 = .ok (.isub, 1) := by decide +kernel
theorem dX7_readsOn_171 : decode cX7_readsOn 171 = .ok (.iconst 2, 1) := by decide +kernel
theorem dX7_readsOn_172 : decode cX7_readsOn 172 = .ok (.if_icmp .ge 25, 3) := by decide +kernel
theorem dX7_readsOn_175 : decode cX7_readsOn 175 = .ok (.bipush 10, 2) := by decide +kernel
theorem dX7_readsOn_177 : decode cX7_readsOn 177 = .ok (.aload_n 0, 1) := by decide +kernel
theorem dX7_readsOn_178 : decode cX7_readsOn 178 = .ok (.getfield 82, 3) := by decide +kernel
theorem dX7_readsOn_181 : decode cX7_readsOn 181 = .ok (.imul, 1) := by decide +kernel
theorem dX7_readsOn_182 : decode cX7_readsOn 182 = .ok (.aload_n 0, 1) := by decide +kernel
theorem dX7_readsOn_183 : decode cX7_readsOn 183 = .ok (.aload_n 0, 1) := by decide +kernel
theorem dX7_readsOn_184 : decode cX7_readsOn 184 = .ok (.getfield 75, 3) := by decide +kernel
theorem dX7_readsOn_187 : decode cX7_readsOn 187 = .ok (.invokevirtual 78, 3) := by decide +kernel
theorem dX7_readsOn_190 : decode cX7_readsOn 190 = .ok (.iadd, 1) := by decide +kernel
theorem dX7_readsOn_191 : decode cX7_readsOn 191 = .ok (.bipush 48, 2) := by decide +kernel
theorem dX7_readsOn_193 : decode cX7_readsOn 193 = .ok (.isub, 1) := by decide +kernel
theorem dX7_readsOn_194 : decode cX7_readsOn 194 = .ok (.goto 7, 3) := by decide +kernel
theorem dX7_readsOn_197 : decode cX7_readsOn 197 = .ok (.aload_n 0, 1) := by decide +kernel
theorem dX7_readsOn_198 : decode cX7_readsOn 198 = .ok (.getfield 82, 3) := by decide +kernel
theorem dX7_readsOn_201 : decode cX7_readsOn 201 = .ok (.putfield 82, 3) := by decide +kernel
theorem dX7_readsOn_204 : decode cX7_readsOn 204 = .ok (.aload_n 0, 1) := by decide +kernel
theorem dX7_readsOn_205 : decode cX7_readsOn 205 = .ok (.dup, 1) := by decide +kernel
theorem dX7_readsOn_206 : decode cX7_readsOn 206 = .ok (.getfield 75, 3) := by decide +kernel
theorem dX7_readsOn_209 : decode cX7_readsOn 209 = .ok (.iconst 1, 1) := by decide +kernel
theorem dX7_readsOn_210 : decode cX7_readsOn 210 = .ok (.iadd, 1) := by decide +kernel
theorem dX7_readsOn_211 : decode cX7_readsOn 211 = .ok (.putfield 75, 3) := by decide +kernel
theorem dX7_readsOn_214 : decode cX7_readsOn 214 = .ok (.goto (-74), 3) := by decide +kernel
theorem dX7_readsOn_217 : decode cX7_readsOn 217 = .ok (.aload_n 0, 1) := by decide +kernel
theorem dX7_readsOn_218 : decode cX7_readsOn 218 = .ok (.iconst 2, 1) := by decide +kernel
theorem dX7_readsOn_219 : decode cX7_readsOn 219 = .ok (.putfield 72, 3) := by decide +kernel
theorem dX7_readsOn_222 : decode cX7_readsOn 222 = .ok (.aload_n 0, 1) := by decide +kernel
theorem dX7_readsOn_223 : decode cX7_readsOn 223 = .ok (.getfield 75, 3) := by decide +kernel
theorem dX7_readsOn_226 : decode cX7_readsOn 226 = .ok (.aload_n 0, 1) := by decide +kernel
theorem dX7_readsOn_227 : decode cX7_readsOn 227 = .ok (.getfield 66, 3) := by decide +kernel
theorem dX7_readsOn_230 : decode cX7_readsOn 230 = .ok (.isub, 1) := by decide +kernel
theorem dX7_readsOn_231 : decode cX7_readsOn 231 = .ok (.iconst 2, 1) := by decide +kernel
theorem dX7_readsOn_232 : decode cX7_readsOn 232 = .ok (.if_icmp .le 37, 3) := by decide +kernel
theorem dX7_readsOn_235 : decode cX7_readsOn 235 = .ok (.aload_n 0, 1) := by decide +kernel
theorem dX7_readsOn_236 : decode cX7_readsOn 236 = .ok (.iconst 1, 1) := by decide +kernel
theorem dX7_readsOn_237 : decode cX7_readsOn 237 = .ok (.invokevirtual 93, 3) := by decide +kernel
theorem dX7_readsOn_240 : decode cX7_readsOn 240 = .ok (.goto 29, 3) := by decide +kernel
theorem dX7_readsOn_243 : decode cX7_readsOn 243 = .ok (.aload_n 0, 1) := by decide +kernel
theorem dX7_readsOn_244 : decode cX7_readsOn 244 = .ok (.iconst 3, 1) := by decide +kernel
theorem dX7_readsOn_245 : decode cX7_readsOn 245 = .ok (.putfield 72, 3) := by decide +kernel
theorem dX7_readsOn_248 : decode cX7_readsOn 248 = .ok (.aload_n 0, 1) := by decide +kernel
theorem dX7_readsOn_249 : decode cX7_readsOn 249 = .ok (.dup, 1) := by decide +kernel
theorem dX7_readsOn_250 : decode cX7_readsOn 250 = .ok (.getfield 75, 3) := by decide +kernel
theorem dX7_readsOn_253 : decode cX7_readsOn 253 = .ok (.iconst 1, 1) := by decide +kernel
theorem dX7_readsOn_254 : decode cX7_readsOn 254 = .ok (.iadd, 1) := by decide +kernel
theorem dX7_readsOn_255 : decode cX7_readsOn 255 = .ok (.putfield 75, 3) := by decide +kernel
theorem dX7_readsOn_258 : decode cX7_readsOn 258 = .ok (.iload_n 1, 1) := by decide +kernel
theorem dX7_readsOn_259 : decode cX7_readsOn 259 = .ok (.bipush 59, 2) := by decide +kernel
theorem dX7_readsOn_261 : decode cX7_readsOn 261 = .ok (.if_icmp .eq 8, 3) := by decide +kernel
theorem dX7_readsOn_264 : decode cX7_readsOn 264 = .ok (.aload_n 0, 1) := by decide +kernel
theorem dX7_readsOn_265 : decode cX7_readsOn 265 = .ok (.iconst 1, 1) := by decide +kernel
theorem dX7_readsOn_266 : decode cX7_readsOn 266 = .ok (.invokevirtual 93, 3) := by decide +kernel
theorem dX7_readsOn_269 : decode cX7_readsOn 269 = .ok (.return_, 1) := by decide +kernel
theorem dX7_number_0 : decode cX7_number 0 = .ok (.aload_n 0, 1) := by decide +kernel
theorem dX7_number_1 : decode cX7_number 1 = .ok (.getfield 63, 3) := by decide +kernel
theorem dX7_number_4 : decode cX7_number 4 = .ok (.ifCond .ne 16, 3) := by decide +kernel
theorem dX7_number_7 : decode cX7_number 7 = .ok (.aload_n 0, 1) := by decide +kernel
theorem dX7_number_8 : decode cX7_number 8 = .ok (.getfield 72, 3) := by decide +kernel
theorem dX7_number_11 : decode cX7_number 11 = .ok (.iconst 2, 1) := by decide +kernel
theorem dX7_number_12 : decode cX7_number 12 = .ok (.if_icmp .eq 8, 3) := by decide +kernel
theorem dX7_number_15 : decode cX7_number 15 = .ok (.aload_n 0, 1) := by decide +kernel
theorem dX7_number_16 : decode cX7_number 16 = .ok (.iconst 2, 1) := by decide +kernel
theorem dX7_number_17 : decode cX7_number 17 = .ok (.invokevirtual 93, 3) := by decide +kernel
theorem dX7_number_20 : decode cX7_number 20 = .ok (.aload_n 0, 1) := by decide +kernel
theorem dX7_number_21 : decode cX7_number 21 = .ok (.getfield 63, 3) := by decide +kernel
theorem dX7_number_24 : decode cX7_number 24 = .ok (.ifCond .ne 23, 3) := by decide +kernel
theorem dX7_number_27 : decode cX7_number 27 = .ok (.aload_n 0, 1) := by decide +kernel
theorem dX7_number_28 : decode cX7_number 28 = .ok (.getfield 82, 3) := by decide +kernel
theorem dX7_number_31 : decode cX7_number 31 = .ok (.i2l, 1) := by decide +kernel
theorem dX7_number_32 : decode cX7_number 32 = .ok (.iload_n 1, 1) := by decide +kernel
theorem dX7_number_33 : decode cX7_number 33 = .ok (.i2l, 1) := by decide +kernel
theorem dX7_number_34 : decode cX7_number 34 = .ok (.iload_n 2, 1) := by decide +kernel
theorem dX7_number_35 : decode cX7_number 35 = .ok (.i2l, 1) := by decide +kernel
theorem dX7_number_36 : decode cX7_number 36 = .ok (.invokestatic 56, 3) := by decide +kernel
theorem dX7_number_39 : decode cX7_number 39 = .ok (.ifCond .ne 8, 3) := by decide +kernel
theorem dX7_number_42 : decode cX7_number 42 = .ok (.aload_n 0, 1) := by decide +kernel
theorem dX7_number_43 : decode cX7_number 43 = .ok (.iconst 3, 1) := by decide +kernel
theorem dX7_number_44 : decode cX7_number 44 = .ok (.invokevirtual 93, 3) := by decide +kernel
theorem dX7_number_47 : decode cX7_number 47 = .ok (.aload_n 0, 1) := by decide +kernel
theorem dX7_number_48 : decode cX7_number 48 = .ok (.getfield 63, 3) := by decide +kernel
theorem dX7_number_51 : decode cX7_number 51 = .ok (.ifCond .ne 10, 3) := by decide +kernel
theorem dX7_number_54 : decode cX7_number 54 = .ok (.aload_n 0, 1) := by decide +kernel
theorem dX7_number_55 : decode cX7_number 55 = .ok (.getfield 82, 3) := by decide +kernel
theorem dX7_number_58 : decode cX7_number 58 = .ok (.goto 4, 3) := by decide +kernel
theorem dX7_number_61 : decode cX7_number 61 = .ok (.iload_n 1, 1) := by decide +kernel
theorem dX7_number_62 : decode cX7_number 62 = .ok (.istore_n 3, 1) := by decide +kernel
theorem dX7_number_63 : decode cX7_number 63 = .ok (.aload_n 0, 1) := by decide +kernel
theorem dX7_number_64 : decode cX7_number 64 = .ok (.invokevirtual 97, 3) := by decide +kernel
theorem dX7_number_67 : decode cX7_number 67 = .ok (.iload_n 3, 1) := by decide +kernel
theorem dX7_number_68 : decode cX7_number 68 = .ok (.ireturn, 1) := by decide +kernel
theorem dX7_readWants_0 : decode cX7_readWants 0 = .ok (.aload_n 0, 1) := by decide +kernel
theorem dX7_readWants_1 : decode cX7_readWants 1 = .ok (.getfield 63, 3) := by decide +kernel
theorem dX7_readWants_4 : decode cX7_readWants 4 = .ok (.ifCond .ne 82, 3) := by decide +kernel
theorem dX7_readWants_7 : decode cX7_readWants 7 = .ok (.aload_n 0, 1) := by decide +kernel
theorem dX7_readWants_8 : decode cX7_readWants 8 = .ok (.getfield 72, 3) := by decide +kernel
theorem dX7_readWants_11 : decode cX7_readWants 11 = .ok (.iconst 2, 1) := by decide +kernel
theorem dX7_readWants_12 : decode cX7_readWants 12 = .ok (.if_icmp .ne 74, 3) := by decide +kernel
theorem dX7_readWants_15 : decode cX7_readWants 15 = .ok (.aload_n 0, 1) := by decide +kernel
theorem dX7_readWants_16 : decode cX7_readWants 16 = .ok (.getfield 17, 3) := by decide +kernel
theorem dX7_readWants_19 : decode cX7_readWants 19 = .ok (.bipush 25, 2) := by decide +kernel
theorem dX7_readWants_21 : decode cX7_readWants 21 = .ok (.iaload, 1) := by decide +kernel
theorem dX7_readWants_22 : decode cX7_readWants 22 = .ok (.istore_n 1, 1) := by decide +kernel
theorem dX7_readWants_23 : decode cX7_readWants 23 = .ok (.iload_n 1, 1) := by decide +kernel
theorem dX7_readWants_24 : decode cX7_readWants 24 = .ok (.bipush 16, 2) := by decide +kernel
theorem dX7_readWants_26 : decode cX7_readWants 26 = .ok (.if_icmp .ne 9, 3) := by decide +kernel
theorem dX7_readWants_29 : decode cX7_readWants 29 = .ok (.aload_n 0, 1) := by decide +kernel
theorem dX7_readWants_30 : decode cX7_readWants 30 = .ok (.iconst 5, 1) := by decide +kernel
theorem dX7_readWants_31 : decode cX7_readWants 31 = .ok (.invokevirtual 93, 3) := by decide +kernel
theorem dX7_readWants_34 : decode cX7_readWants 34 = .ok (.return_, 1) := by decide +kernel
theorem dX7_readWants_35 : decode cX7_readWants 35 = .ok (.aload_n 0, 1) := by decide +kernel
theorem dX7_readWants_36 : decode cX7_readWants 36 = .ok (.iconst 0, 1) := by decide +kernel
theorem dX7_readWants_37 : decode cX7_readWants 37 = .ok (.iconst 5, 1) := by decide +kernel
theorem dX7_readWants_38 : decode cX7_readWants 38 = .ok (.invokevirtual 100, 3) := by decide +kernel
theorem dX7_readWants_41 : decode cX7_readWants 41 = .ok (.istore_n 2, 1) := by decide +kernel
theorem dX7_readWants_42 : decode cX7_readWants 42 = .ok (.aload_n 0, 1) := by decide +kernel
theorem dX7_readWants_43 : decode cX7_readWants 43 = .ok (.iload_n 2, 1) := by decide +kernel
theorem dX7_readWants_44 : decode cX7_readWants 44 = .ok (.aload_n 0, 1) := by decide +kernel
theorem dX7_readWants_45 : decode cX7_readWants 45 = .ok (.getfield 104, 3) := by decide +kernel
theorem dX7_readWants_48 : decode cX7_readWants 48 = .ok (.if_icmp .le 7, 3) := by decide +kernel
theorem dX7_readWants_51 : decode cX7_readWants 51 = .ok (.iload_n 2, 1) := by decide +kernel
theorem dX7_readWants_52 : decode cX7_readWants 52 = .ok (.goto 7, 3) := by decide +kernel
theorem dX7_readWants_55 : decode cX7_readWants 55 = .ok (.aload_n 0, 1) := by decide +kernel
theorem dX7_readWants_56 : decode cX7_readWants 56 = .ok (.getfield 104, 3) := by decide +kernel
theorem dX7_readWants_59 : decode cX7_readWants 59 = .ok (.putfield 104, 3) := by decide +kernel
theorem dX7_readWants_62 : decode cX7_readWants 62 = .ok (.aload_n 0, 1) := by decide +kernel
theorem dX7_readWants_63 : decode cX7_readWants 63 = .ok (.getfield 17, 3) := by decide +kernel
theorem dX7_readWants_66 : decode cX7_readWants 66 = .ok (.bipush 9, 2) := by decide +kernel
theorem dX7_readWants_68 : decode cX7_readWants 68 = .ok (.iload_n 1, 1) := by decide +kernel
theorem dX7_readWants_69 : decode cX7_readWants 69 = .ok (.iadd, 1) := by decide +kernel
theorem dX7_readWants_70 : decode cX7_readWants 70 = .ok (.iload_n 2, 1) := by decide +kernel
theorem dX7_readWants_71 : decode cX7_readWants 71 = .ok (.iastore, 1) := by decide +kernel
theorem dX7_readWants_72 : decode cX7_readWants 72 = .ok (.aload_n 0, 1) := by decide +kernel
theorem dX7_readWants_73 : decode cX7_readWants 73 = .ok (.getfield 17, 3) := by decide +kernel
theorem dX7_readWants_76 : decode cX7_readWants 76 = .ok (.bipush 25, 2) := by decide +kernel
theorem dX7_readWants_78 : decode cX7_readWants 78 = .ok (.dup2, 1) := by decide +kernel
theorem dX7_readWants_79 : decode cX7_readWants 79 = .ok (.iaload, 1) := by decide +kernel
theorem dX7_readWants_80 : decode cX7_readWants 80 = .ok (.iconst 1, 1) := by decide +kernel
theorem dX7_readWants_81 : decode cX7_readWants 81 = .ok (.iadd, 1) := by decide +kernel
theorem dX7_readWants_82 : decode cX7_readWants 82 = .ok (.iastore, 1) := by decide +kernel
theorem dX7_readWants_83 : decode cX7_readWants 83 = .ok (.goto (-83), 3) := by decide +kernel
theorem dX7_readWants_86 : decode cX7_readWants 86 = .ok (.return_, 1) := by decide +kernel
theorem dX7_readMore_0 : decode cX7_readMore 0 = .ok (.iload_n 1, 1) := by decide +kernel
theorem dX7_readMore_1 : decode cX7_readMore 1 = .ok (.iconst 3, 1) := by decide +kernel
theorem dX7_readMore_2 : decode cX7_readMore 2 = .ok (.if_icmp .gt 30, 3) := by decide +kernel
theorem dX7_readMore_5 : decode cX7_readMore 5 = .ok (.aload_n 0, 1) := by decide +kernel
theorem dX7_readMore_6 : decode cX7_readMore 6 = .ok (.getfield 17, 3) := by decide +kernel
theorem dX7_readMore_9 : decode cX7_readMore 9 = .ok (.aload_n 0, 1) := by decide +kernel
theorem dX7_readMore_10 : decode cX7_readMore 10 = .ok (.getfield 17, 3) := by decide +kernel
theorem dX7_readMore_13 : decode cX7_readMore 13 = .ok (.bipush 8, 2) := by decide +kernel
theorem dX7_readMore_15 : decode cX7_readMore 15 = .ok (.iaload, 1) := by decide +kernel
theorem dX7_readMore_16 : decode cX7_readMore 16 = .ok (.iload_n 1, 1) := by decide +kernel
theorem dX7_readMore_17 : decode cX7_readMore 17 = .ok (.iastore, 1) := by decide +kernel
theorem dX7_readMore_18 : decode cX7_readMore 18 = .ok (.aload_n 0, 1) := by decide +kernel
theorem dX7_readMore_19 : decode cX7_readMore 19 = .ok (.getfield 17, 3) := by decide +kernel
theorem dX7_readMore_22 : decode cX7_readMore 22 = .ok (.bipush 8, 2) := by decide +kernel
theorem dX7_readMore_24 : decode cX7_readMore 24 = .ok (.dup2, 1) := by decide +kernel
theorem dX7_readMore_25 : decode cX7_readMore 25 = .ok (.iaload, 1) := by decide +kernel
theorem dX7_readMore_26 : decode cX7_readMore 26 = .ok (.iconst 1, 1) := by decide +kernel
theorem dX7_readMore_27 : decode cX7_readMore 27 = .ok (.iadd, 1) := by decide +kernel
theorem dX7_readMore_28 : decode cX7_readMore 28 = .ok (.iastore, 1) := by decide +kernel
theorem dX7_readMore_29 : decode cX7_readMore 29 = .ok (.goto 26, 3) := by decide +kernel
theorem dX7_readMore_32 : decode cX7_readMore 32 = .ok (.iload_n 1, 1) := by decide +kernel
theorem dX7_readMore_33 : decode cX7_readMore 33 = .ok (.iconst 4, 1) := by decide +kernel
theorem dX7_readMore_34 : decode cX7_readMore 34 = .ok (.if_icmp .ne 17, 3) := by decide +kernel
theorem dX7_readMore_37 : decode cX7_readMore 37 = .ok (.aload_n 0, 1) := by decide +kernel
theorem dX7_readMore_38 : decode cX7_readMore 38 = .ok (.aload_n 0, 1) := by decide +kernel
theorem dX7_readMore_39 : decode cX7_readMore 39 = .ok (.iconst 1, 1) := by decide +kernel
theorem dX7_readMore_40 : decode cX7_readMore 40 = .ok (.bipush 6, 2) := by decide +kernel
theorem dX7_readMore_42 : decode cX7_readMore 42 = .ok (.invokevirtual 100, 3) := by decide +kernel
theorem dX7_readMore_45 : decode cX7_readMore 45 = .ok (.putfield 107, 3) := by decide +kernel
theorem dX7_readMore_48 : decode cX7_readMore 48 = .ok (.goto 7, 3) := by decide +kernel
theorem dX7_readMore_51 : decode cX7_readMore 51 = .ok (.aload_n 0, 1) := by decide +kernel
theorem dX7_readMore_52 : decode cX7_readMore 52 = .ok (.invokevirtual 110, 3) := by decide +kernel
theorem dX7_readMore_55 : decode cX7_readMore 55 = .ok (.return_, 1) := by decide +kernel
theorem dX7_readLine_0 : decode cX7_readLine 0 = .ok (.aload_n 0, 1) := by decide +kernel
theorem dX7_readLine_1 : decode cX7_readLine 1 = .ok (.invokevirtual 113, 3) := by decide +kernel
theorem dX7_readLine_4 : decode cX7_readLine 4 = .ok (.istore_n 1, 1) := by decide +kernel
theorem dX7_readLine_5 : decode cX7_readLine 5 = .ok (.iload_n 1, 1) := by decide +kernel
theorem dX7_readLine_6 : decode cX7_readLine 6 = .ok (.i2l, 1) := by decide +kernel
theorem dX7_readLine_7 : decode cX7_readLine 7 = .ok (.lconst 0, 1) := by decide +kernel
theorem dX7_readLine_8 : decode cX7_readLine 8 = .ok (.ldc2_w 117, 3) := by decide +kernel
theorem dX7_readLine_11 : decode cX7_readLine 11 = .ok (.invokestatic 56, 3) := by decide +kernel
theorem dX7_readLine_14 : decode cX7_readLine 14 = .ok (.ifCond .ne 9, 3) := by decide +kernel
theorem dX7_readLine_17 : decode cX7_readLine 17 = .ok (.aload_n 0, 1) := by decide +kernel
theorem dX7_readLine_18 : decode cX7_readLine 18 = .ok (.iconst 2, 1) := by decide +kernel
theorem dX7_readLine_19 : decode cX7_readLine 19 = .ok (.invokevirtual 93, 3) := by decide +kernel
theorem dX7_readLine_22 : decode cX7_readLine 22 = .ok (.return_, 1) := by decide +kernel
theorem dX7_readLine_23 : decode cX7_readLine 23 = .ok (.iload_n 1, 1) := by decide +kernel
theorem dX7_readLine_24 : decode cX7_readLine 24 = .ok (.iconst 3, 1) := by decide +kernel
theorem dX7_readLine_25 : decode cX7_readLine 25 = .ok (.if_icmp .gt 19, 3) := by decide +kernel
theorem dX7_readLine_28 : decode cX7_readLine 28 = .ok (.aload_n 0, 1) := by decide +kernel
theorem dX7_readLine_29 : decode cX7_readLine 29 = .ok (.getfield 17, 3) := by decide +kernel
theorem dX7_readLine_32 : decode cX7_readLine 32 = .ok (.bipush 8, 2) := by decide +kernel
theorem dX7_readLine_34 : decode cX7_readLine 34 = .ok (.iaload, 1) := by decide +kernel
theorem dX7_readLine_35 : decode cX7_readLine 35 = .ok (.iconst 4, 1) := by decide +kernel
theorem dX7_readLine_36 : decode cX7_readLine 36 = .ok (.if_icmp .ne 8, 3) := by decide +kernel
theorem dX7_readLine_39 : decode cX7_readLine 39 = .ok (.aload_n 0, 1) := by decide +kernel
theorem dX7_readLine_40 : decode cX7_readLine 40 = .ok (.iconst 5, 1) := by decide +kernel
theorem dX7_readLine_41 : decode cX7_readLine 41 = .ok (.invokevirtual 93, 3) := by decide +kernel
theorem dX7_readLine_44 : decode cX7_readLine 44 = .ok (.iload_n 1, 1) := by decide +kernel
theorem dX7_readLine_45 : decode cX7_readLine 45 = .ok (.iconst 4, 1) := by decide +kernel
theorem dX7_readLine_46 : decode cX7_readLine 46 = .ok (.if_icmp .ne 15, 3) := by decide +kernel
theorem dX7_readLine_49 : decode cX7_readLine 49 = .ok (.aload_n 0, 1) := by decide +kernel
theorem dX7_readLine_50 : decode cX7_readLine 50 = .ok (.getfield 119, 3) := by decide +kernel
theorem dX7_readLine_53 : decode cX7_readLine 53 = .ok (.ifCond .eq 8, 3) := by decide +kernel
theorem dX7_readLine_56 : decode cX7_readLine 56 = .ok (.aload_n 0, 1) := by decide +kernel
theorem dX7_readLine_57 : decode cX7_readLine 57 = .ok (.iconst 4, 1) := by decide +kernel
theorem dX7_readLine_58 : decode cX7_readLine 58 = .ok (.invokevirtual 93, 3) := by decide +kernel
theorem dX7_readLine_61 : decode cX7_readLine 61 = .ok (.aload_n 0, 1) := by decide +kernel
theorem dX7_readLine_62 : decode cX7_readLine 62 = .ok (.aload_n 0, 1) := by decide +kernel
theorem dX7_readLine_63 : decode cX7_readLine 63 = .ok (.getfield 119, 3) := by decide +kernel
theorem dX7_readLine_66 : decode cX7_readLine 66 = .ok (.ifCond .ne 8, 3) := by decide +kernel
theorem dX7_readLine_69 : decode cX7_readLine 69 = .ok (.iload_n 1, 1) := by decide +kernel
theorem dX7_readLine_70 : decode cX7_readLine 70 = .ok (.iconst 4, 1) := by decide +kernel
theorem dX7_readLine_71 : decode cX7_readLine 71 = .ok (.if_icmp .ne 7, 3) := by decide +kernel
theorem dX7_readLine_74 : decode cX7_readLine 74 = .ok (.iconst 1, 1) := by decide +kernel
theorem dX7_readLine_75 : decode cX7_readLine 75 = .ok (.goto 4, 3) := by decide +kernel
theorem dX7_readLine_78 : decode cX7_readLine 78 = .ok (.iconst 0, 1) := by decide +kernel
theorem dX7_readLine_79 : decode cX7_readLine 79 = .ok (.putfield 119, 3) := by decide +kernel
theorem dX7_readLine_82 : decode cX7_readLine 82 = .ok (.aload_n 0, 1) := by decide +kernel
theorem dX7_readLine_83 : decode cX7_readLine 83 = .ok (.invokevirtual 97, 3) := by decide +kernel
theorem dX7_readLine_86 : decode cX7_readLine 86 = .ok (.aload_n 0, 1) := by decide +kernel
theorem dX7_readLine_87 : decode cX7_readLine 87 = .ok (.getfield 63, 3) := by decide +kernel
theorem dX7_readLine_90 : decode cX7_readLine 90 = .ok (.ifCond .le 4, 3) := by decide +kernel
theorem dX7_readLine_93 : decode cX7_readLine 93 = .ok (.return_, 1) := by decide +kernel
theorem dX7_readLine_94 : decode cX7_readLine 94 = .ok (.aload_n 0, 1) := by decide +kernel
theorem dX7_readLine_95 : decode cX7_readLine 95 = .ok (.iload_n 1, 1) := by decide +kernel
theorem dX7_readLine_96 : decode cX7_readLine 96 = .ok (.invokevirtual 123, 3) := by decide +kernel
theorem dX7_readLine_99 : decode cX7_readLine 99 = .ok (.aload_n 0, 1) := by decide +kernel
theorem dX7_readLine_100 : decode cX7_readLine 100 = .ok (.getfield 63, 3) := by decide +kernel
theorem dX7_readLine_103 : decode cX7_readLine 103 = .ok (.ifCond .ne 16, 3) := by decide +kernel
theorem dX7_readLine_106 : decode cX7_readLine 106 = .ok (.aload_n 0, 1) := by decide +kernel
theorem dX7_readLine_107 : decode cX7_readLine 107 = .ok (.getfield 72, 3) := by decide +kernel
