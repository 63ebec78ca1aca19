theorem dX11_isOpen_4 : decode cX11_isOpen 4 = .ok (.getfield 171, 3) := by decide +kernel
theorem dX11_isOpen_7 : decode cX11_isOpen 7 = .ok (.iload_n 1, 1) := by decide +kernel
theorem dX11_isOpen_8 : decode cX11_isOpen 8 = .ok (.iaload, 1) := by decide +kernel
theorem dX11_isOpen_9 : decode cX11_isOpen 9 = .ok (.istore_n 2, 1) := by decide +kernel
theorem dX11_isOpen_10 : decode cX11_isOpen 10 = .ok (.aload_n 0, 1) := by decide +kernel
theorem dX11_isOpen_11 : decode cX11_isOpen 11 = .ok (.getfield 26, 3) := by decide +kernel
theorem dX11_isOpen_14 : decode cX11_isOpen 14 = .ok (.getfield 174, 3) := by decide +kernel
theorem dX11_isOpen_17 : decode cX11_isOpen 17 = .ok (.iload_n 1, 1) := by decide +kernel
theorem dX11_isOpen_18 : decode cX11_isOpen 18 = .ok (.iaload, 1) := by decide +kernel
theorem dX11_isOpen_19 : decode cX11_isOpen 19 = .ok (.istore_n 3, 1) := by decide +kernel
theorem dX11_isOpen_20 : decode cX11_isOpen 20 = .ok (.aload_n 0, 1) := by decide +kernel
theorem dX11_isOpen_21 : decode cX11_isOpen 21 = .ok (.getfield 26, 3) := by decide +kernel
theorem dX11_isOpen_24 : decode cX11_isOpen 24 = .ok (.getfield 165, 3) := by decide +kernel
theorem dX11_isOpen_27 : decode cX11_isOpen 27 = .ok (.iload_n 1, 1) := by decide +kernel
theorem dX11_isOpen_28 : decode cX11_isOpen 28 = .ok (.iaload, 1) := by decide +kernel
theorem dX11_isOpen_29 : decode cX11_isOpen 29 = .ok (.istore 4, 2) := by decide +kernel
theorem dX11_isOpen_31 : decode cX11_isOpen 31 = .ok (.aload_n 0, 1) := by decide +kernel
theorem dX11_isOpen_32 : decode cX11_isOpen 32 = .ok (.getfield 10, 3) := by decide +kernel
theorem dX11_isOpen_35 : decode cX11_isOpen 35 = .ok (.iload_n 2, 1) := by decide +kernel
theorem dX11_isOpen_36 : decode cX11_isOpen 36 = .ok (.iload_n 3, 1) := by decide +kernel
theorem dX11_isOpen_37 : decode cX11_isOpen 37 = .ok (.iload 4, 2) := by decide +kernel
theorem dX11_isOpen_39 : decode cX11_isOpen 39 = .ok (.invokevirtual 177, 3) := by decide +kernel
theorem dX11_isOpen_42 : decode cX11_isOpen 42 = .ok (.ifCond .ne 29, 3) := by decide +kernel
theorem dX11_isOpen_45 : decode cX11_isOpen 45 = .ok (.aload_n 0, 1) := by decide +kernel
theorem dX11_isOpen_46 : decode cX11_isOpen 46 = .ok (.getfield 26, 3) := by decide +kernel
theorem dX11_isOpen_49 : decode cX11_isOpen 49 = .ok (.getfield 180, 3) := by decide +kernel
theorem dX11_isOpen_52 : decode cX11_isOpen 52 = .ok (.iload_n 1, 1) := by decide +kernel
theorem dX11_isOpen_53 : decode cX11_isOpen 53 = .ok (.baload, 1) := by decide +kernel
theorem dX11_isOpen_54 : decode cX11_isOpen 54 = .ok (.ifCond .eq 21, 3) := by decide +kernel
theorem dX11_isOpen_57 : decode cX11_isOpen 57 = .ok (.aload_n 0, 1) := by decide +kernel
theorem dX11_isOpen_58 : decode cX11_isOpen 58 = .ok (.getfield 10, 3) := by decide +kernel
theorem dX11_isOpen_61 : decode cX11_isOpen 61 = .ok (.iload_n 3, 1) := by decide +kernel
theorem dX11_isOpen_62 : decode cX11_isOpen 62 = .ok (.iload_n 2, 1) := by decide +kernel
theorem dX11_isOpen_63 : decode cX11_isOpen 63 = .ok (.iload 4, 2) := by decide +kernel
theorem dX11_isOpen_65 : decode cX11_isOpen 65 = .ok (.invokevirtual 177, 3) := by decide +kernel
theorem dX11_isOpen_68 : decode cX11_isOpen 68 = .ok (.ifCond .eq 7, 3) := by decide +kernel
theorem dX11_isOpen_71 : decode cX11_isOpen 71 = .ok (.iconst 1, 1) := by decide +kernel
theorem dX11_isOpen_72 : decode cX11_isOpen 72 = .ok (.goto 4, 3) := by decide +kernel
theorem dX11_isOpen_75 : decode cX11_isOpen 75 = .ok (.iconst 0, 1) := by decide +kernel
theorem dX11_isOpen_76 : decode cX11_isOpen 76 = .ok (.ireturn, 1) := by decide +kernel
theorem dX11_most_0 : decode cX11_most 0 = .ok (.aload_n 0, 1) := by decide +kernel
theorem dX11_most_1 : decode cX11_most 1 = .ok (.getfield 10, 3) := by decide +kernel
theorem dX11_most_4 : decode cX11_most 4 = .ok (.iload_n 1, 1) := by decide +kernel
theorem dX11_most_5 : decode cX11_most 5 = .ok (.iload_n 2, 1) := by decide +kernel
theorem dX11_most_6 : decode cX11_most 6 = .ok (.iload_n 3, 1) := by decide +kernel
theorem dX11_most_7 : decode cX11_most 7 = .ok (.iload 4, 2) := by decide +kernel
theorem dX11_most_9 : decode cX11_most 9 = .ok (.invokevirtual 151, 3) := by decide +kernel
theorem dX11_most_12 : decode cX11_most 12 = .ok (.ifCond .ne 5, 3) := by decide +kernel
theorem dX11_most_15 : decode cX11_most 15 = .ok (.iconst (-1), 1) := by decide +kernel
theorem dX11_most_16 : decode cX11_most 16 = .ok (.ireturn, 1) := by decide +kernel
theorem dX11_most_17 : decode cX11_most 17 = .ok (.aload_n 0, 1) := by decide +kernel
theorem dX11_most_18 : decode cX11_most 18 = .ok (.getfield 35, 3) := by decide +kernel
theorem dX11_most_21 : decode cX11_most 21 = .ok (.aload_n 0, 1) := by decide +kernel
theorem dX11_most_22 : decode cX11_most 22 = .ok (.getfield 10, 3) := by decide +kernel
theorem dX11_most_25 : decode cX11_most 25 = .ok (.getfield 122, 3) := by decide +kernel
theorem dX11_most_28 : decode cX11_most 28 = .ok (.invokevirtual 184, 3) := by decide +kernel
theorem dX11_most_31 : decode cX11_most 31 = .ok (.aload_n 0, 1) := by decide +kernel
theorem dX11_most_32 : decode cX11_most 32 = .ok (.getfield 35, 3) := by decide +kernel
theorem dX11_most_35 : decode cX11_most 35 = .ok (.iload_n 1, 1) := by decide +kernel
theorem dX11_most_36 : decode cX11_most 36 = .ok (.iload_n 2, 1) := by decide +kernel
theorem dX11_most_37 : decode cX11_most 37 = .ok (.iload_n 3, 1) := by decide +kernel
theorem dX11_most_38 : decode cX11_most 38 = .ok (.iload 4, 2) := by decide +kernel
theorem dX11_most_40 : decode cX11_most 40 = .ok (.invokevirtual 188, 3) := by decide +kernel
theorem dX11_most_43 : decode cX11_most 43 = .ok (.ireturn, 1) := by decide +kernel
theorem dX11_cut_0 : decode cX11_cut 0 = .ok (.aload_n 0, 1) := by decide +kernel
theorem dX11_cut_1 : decode cX11_cut 1 = .ok (.getfield 10, 3) := by decide +kernel
theorem dX11_cut_4 : decode cX11_cut 4 = .ok (.iload_n 1, 1) := by decide +kernel
theorem dX11_cut_5 : decode cX11_cut 5 = .ok (.iload_n 2, 1) := by decide +kernel
theorem dX11_cut_6 : decode cX11_cut 6 = .ok (.iload_n 3, 1) := by decide +kernel
theorem dX11_cut_7 : decode cX11_cut 7 = .ok (.iload 4, 2) := by decide +kernel
theorem dX11_cut_9 : decode cX11_cut 9 = .ok (.invokevirtual 151, 3) := by decide +kernel
theorem dX11_cut_12 : decode cX11_cut 12 = .ok (.ifCond .ne 5, 3) := by decide +kernel
theorem dX11_cut_15 : decode cX11_cut 15 = .ok (.iconst (-1), 1) := by decide +kernel
theorem dX11_cut_16 : decode cX11_cut 16 = .ok (.ireturn, 1) := by decide +kernel
theorem dX11_cut_17 : decode cX11_cut 17 = .ok (.aload_n 0, 1) := by decide +kernel
theorem dX11_cut_18 : decode cX11_cut 18 = .ok (.getfield 35, 3) := by decide +kernel
theorem dX11_cut_21 : decode cX11_cut 21 = .ok (.aload_n 0, 1) := by decide +kernel
theorem dX11_cut_22 : decode cX11_cut 22 = .ok (.getfield 10, 3) := by decide +kernel
theorem dX11_cut_25 : decode cX11_cut 25 = .ok (.getfield 122, 3) := by decide +kernel
theorem dX11_cut_28 : decode cX11_cut 28 = .ok (.invokevirtual 184, 3) := by decide +kernel
theorem dX11_cut_31 : decode cX11_cut 31 = .ok (.aload_n 0, 1) := by decide +kernel
theorem dX11_cut_32 : decode cX11_cut 32 = .ok (.getfield 35, 3) := by decide +kernel
theorem dX11_cut_35 : decode cX11_cut 35 = .ok (.iload_n 1, 1) := by decide +kernel
theorem dX11_cut_36 : decode cX11_cut 36 = .ok (.iload_n 2, 1) := by decide +kernel
theorem dX11_cut_37 : decode cX11_cut 37 = .ok (.iload_n 3, 1) := by decide +kernel
theorem dX11_cut_38 : decode cX11_cut 38 = .ok (.iload 4, 2) := by decide +kernel
theorem dX11_cut_40 : decode cX11_cut 40 = .ok (.invokevirtual 188, 3) := by decide +kernel
theorem dX11_cut_43 : decode cX11_cut 43 = .ok (.pop, 1) := by decide +kernel
theorem dX11_cut_44 : decode cX11_cut 44 = .ok (.aload_n 0, 1) := by decide +kernel
theorem dX11_cut_45 : decode cX11_cut 45 = .ok (.getfield 35, 3) := by decide +kernel
theorem dX11_cut_48 : decode cX11_cut 48 = .ok (.iload_n 1, 1) := by decide +kernel
theorem dX11_cut_49 : decode cX11_cut 49 = .ok (.iload_n 2, 1) := by decide +kernel
theorem dX11_cut_50 : decode cX11_cut 50 = .ok (.iload_n 3, 1) := by decide +kernel
theorem dX11_cut_51 : decode cX11_cut 51 = .ok (.iload 4, 2) := by decide +kernel
theorem dX11_cut_53 : decode cX11_cut 53 = .ok (.invokevirtual 191, 3) := by decide +kernel
theorem dX11_cut_56 : decode cX11_cut 56 = .ok (.ireturn, 1) := by decide +kernel
theorem dX11_sawn_0 : decode cX11_sawn 0 = .ok (.iload_n 1, 1) := by decide +kernel
theorem dX11_sawn_1 : decode cX11_sawn 1 = .ok (.bipush 10, 2) := by decide +kernel
theorem dX11_sawn_3 : decode cX11_sawn 3 = .ok (.bipush 9, 2) := by decide +kernel
theorem dX11_sawn_5 : decode cX11_sawn 5 = .ok (.aload_n 0, 1) := by decide +kernel
theorem dX11_sawn_6 : decode cX11_sawn 6 = .ok (.getfield 26, 3) := by decide +kernel
theorem dX11_sawn_9 : decode cX11_sawn 9 = .ok (.getfield 142, 3) := by decide +kernel
theorem dX11_sawn_12 : decode cX11_sawn 12 = .ok (.iadd, 1) := by decide +kernel
theorem dX11_sawn_13 : decode cX11_sawn 13 = .ok (.invokestatic 103, 3) := by decide +kernel
theorem dX11_sawn_16 : decode cX11_sawn 16 = .ok (.istore_n 2, 1) := by decide +kernel
theorem dX11_sawn_17 : decode cX11_sawn 17 = .ok (.iload_n 1, 1) := by decide +kernel
theorem dX11_sawn_18 : decode cX11_sawn 18 = .ok (.iconst 0, 1) := by decide +kernel
theorem dX11_sawn_19 : decode cX11_sawn 19 = .ok (.iconst 3, 1) := by decide +kernel
theorem dX11_sawn_20 : decode cX11_sawn 20 = .ok (.invokestatic 103, 3) := by decide +kernel
theorem dX11_sawn_23 : decode cX11_sawn 23 = .ok (.ifCond .ne 9, 3) := by decide +kernel
theorem dX11_sawn_26 : decode cX11_sawn 26 = .ok (.iload_n 2, 1) := by decide +kernel
theorem dX11_sawn_27 : decode cX11_sawn 27 = .ok (.ifCond .ne 5, 3) := by decide +kernel
theorem dX11_sawn_30 : decode cX11_sawn 30 = .ok (.iconst (-1), 1) := by decide +kernel
theorem dX11_sawn_31 : decode cX11_sawn 31 = .ok (.ireturn, 1) := by decide +kernel
theorem dX11_sawn_32 : decode cX11_sawn 32 = .ok (.aload_n 0, 1) := by decide +kernel
theorem dX11_sawn_33 : decode cX11_sawn 33 = .ok (.aload_n 0, 1) := by decide +kernel
theorem dX11_sawn_34 : decode cX11_sawn 34 = .ok (.getfield 10, 3) := by decide +kernel
theorem dX11_sawn_37 : decode cX11_sawn 37 = .ok (.getfield 122, 3) := by decide +kernel
theorem dX11_sawn_40 : decode cX11_sawn 40 = .ok (.invokevirtual 194, 3) := by decide +kernel
theorem dX11_sawn_43 : decode cX11_sawn 43 = .ok (.istore_n 3, 1) := by decide +kernel
theorem dX11_sawn_44 : decode cX11_sawn 44 = .ok (.iload_n 1, 1) := by decide +kernel
theorem dX11_sawn_45 : decode cX11_sawn 45 = .ok (.ifCond .ne 5, 3) := by decide +kernel
theorem dX11_sawn_48 : decode cX11_sawn 48 = .ok (.iload_n 3, 1) := by decide +kernel
theorem dX11_sawn_49 : decode cX11_sawn 49 = .ok (.ireturn, 1) := by decide +kernel
theorem dX11_sawn_50 : decode cX11_sawn 50 = .ok (.aload_n 0, 1) := by decide +kernel
theorem dX11_sawn_51 : decode cX11_sawn 51 = .ok (.getfield 35, 3) := by decide +kernel
theorem dX11_sawn_54 : decode cX11_sawn 54 = .ok (.invokevirtual 198, 3) := by decide +kernel
theorem dX11_sawn_57 : decode cX11_sawn 57 = .ok (.iload_n 2, 1) := by decide +kernel
theorem dX11_sawn_58 : decode cX11_sawn 58 = .ok (.ifCond .eq 16, 3) := by decide +kernel
theorem dX11_sawn_61 : decode cX11_sawn 61 = .ok (.aload_n 0, 1) := by decide +kernel
theorem dX11_sawn_62 : decode cX11_sawn 62 = .ok (.getfield 35, 3) := by decide +kernel
theorem dX11_sawn_65 : decode cX11_sawn 65 = .ok (.getfield 201, 3) := by decide +kernel
theorem dX11_sawn_68 : decode cX11_sawn 68 = .ok (.iload_n 1, 1) := by decide +kernel
theorem dX11_sawn_69 : decode cX11_sawn 69 = .ok (.bipush 10, 2) := by decide +kernel
theorem dX11_sawn_71 : decode cX11_sawn 71 = .ok (.isub, 1) := by decide +kernel
theorem dX11_sawn_72 : decode cX11_sawn 72 = .ok (.iaload, 1) := by decide +kernel
theorem dX11_sawn_73 : decode cX11_sawn 73 = .ok (.ireturn, 1) := by decide +kernel
theorem dX11_sawn_74 : decode cX11_sawn 74 = .ok (.iload_n 1, 1) := by decide +kernel
theorem dX11_sawn_75 : decode cX11_sawn 75 = .ok (.iconst 1, 1) := by decide +kernel
theorem dX11_sawn_76 : decode cX11_sawn 76 = .ok (.if_icmp .ne 13, 3) := by decide +kernel
theorem dX11_sawn_79 : decode cX11_sawn 79 = .ok (.aload_n 0, 1) := by decide +kernel
theorem dX11_sawn_80 : decode cX11_sawn 80 = .ok (.getfield 35, 3) := by decide +kernel
theorem dX11_sawn_83 : decode cX11_sawn 83 = .ok (.getfield 204, 3) := by decide +kernel
theorem dX11_sawn_86 : decode cX11_sawn 86 = .ok (.goto 25, 3) := by decide +kernel
theorem dX11_sawn_89 : decode cX11_sawn 89 = .ok (.iload_n 1, 1) := by decide +kernel
theorem dX11_sawn_90 : decode cX11_sawn 90 = .ok (.iconst 2, 1) := by decide +kernel
theorem dX11_sawn_91 : decode cX11_sawn 91 = .ok (.if_icmp .ne 13, 3) := by decide +kernel
theorem dX11_sawn_94 : decode cX11_sawn 94 = .ok (.aload_n 0, 1) := by decide +kernel
theorem dX11_sawn_95 : decode cX11_sawn 95 = .ok (.getfield 35, 3) := by decide +kernel
theorem dX11_sawn_98 : decode cX11_sawn 98 = .ok (.getfield 207, 3) := by decide +kernel
theorem dX11_sawn_101 : decode cX11_sawn 101 = .ok (.goto 10, 3) := by decide +kernel
theorem dX11_sawn_104 : decode cX11_sawn 104 = .ok (.aload_n 0, 1) := by decide +kernel
theorem dX11_sawn_105 : decode cX11_sawn 105 = .ok (.getfield 35, 3) := by decide +kernel
theorem dX11_sawn_108 : decode cX11_sawn 108 = .ok (.getfield 210, 3) := by decide +kernel
theorem dX11_sawn_111 : decode cX11_sawn 111 = .ok (.ireturn, 1) := by decide +kernel
theorem dX11_costs_0 : decode cX11_costs 0 = .ok (.aload_n 0, 1) := by decide +kernel
theorem dX11_costs_1 : decode cX11_costs 1 = .ok (.getfield 10, 3) := by decide +kernel
theorem dX11_costs_4 : decode cX11_costs 4 = .ok (.iload_n 1, 1) := by decide +kernel
theorem dX11_costs_5 : decode cX11_costs 5 = .ok (.iload_n 2, 1) := by decide +kernel
theorem dX11_costs_6 : decode cX11_costs 6 = .ok (.invokevirtual 114, 3) := by decide +kernel
theorem dX11_costs_9 : decode cX11_costs 9 = .ok (.ifCond .ne 5, 3) := by decide +kernel
theorem dX11_costs_12 : decode cX11_costs 12 = .ok (.iconst (-1), 1) := by decide +kernel
theorem dX11_costs_13 : decode cX11_costs 13 = .ok (.ireturn, 1) := by decide +kernel
theorem dX11_costs_14 : decode cX11_costs 14 = .ok (.aload_n 0, 1) := by decide +kernel
theorem dX11_costs_15 : decode cX11_costs 15 = .ok (.aload_n 0, 1) := by decide +kernel
theorem dX11_costs_16 : decode cX11_costs 16 = .ok (.getfield 10, 3) := by decide +kernel
theorem dX11_costs_19 : decode cX11_costs 19 = .ok (.getfield 122, 3) := by decide +kernel
theorem dX11_costs_22 : decode cX11_costs 22 = .ok (.invokevirtual 194, 3) := by decide +kernel
theorem dX11_costs_25 : decode cX11_costs 25 = .ok (.aload_n 0, 1) := by decide +kernel
theorem dX11_costs_26 : decode cX11_costs 26 = .ok (.aload_n 0, 1) := by decide +kernel
theorem dX11_costs_27 : decode cX11_costs 27 = .ok (.getfield 10, 3) := by decide +kernel
theorem dX11_costs_30 : decode cX11_costs 30 = .ok (.getfield 122, 3) := by decide +kernel
theorem dX11_costs_33 : decode cX11_costs 33 = .ok (.iload_n 1, 1) := by decide +kernel
theorem dX11_costs_34 : decode cX11_costs 34 = .ok (.iload_n 2, 1) := by decide +kernel
theorem dX11_costs_35 : decode cX11_costs 35 = .ok (.iconst 1, 1) := by decide +kernel
theorem dX11_costs_36 : decode cX11_costs 36 = .ok (.invokestatic 130, 3) := by decide +kernel
theorem dX11_costs_39 : decode cX11_costs 39 = .ok (.invokevirtual 194, 3) := by decide +kernel
theorem dX11_costs_42 : decode cX11_costs 42 = .ok (.isub, 1) := by decide +kernel
theorem dX11_costs_43 : decode cX11_costs 43 = .ok (.ireturn, 1) := by decide +kernel
theorem dX11_undo_0 : decode cX11_undo 0 = .ok (.aload_n 0, 1) := by decide +kernel
theorem dX11_undo_1 : decode cX11_undo 1 = .ok (.getfield 19, 3) := by decide +kernel
theorem dX11_undo_4 : decode cX11_undo 4 = .ok (.getfield 111, 3) := by decide +kernel
theorem dX11_undo_7 : decode cX11_undo 7 = .ok (.ifCond .ne 6, 3) := by decide +kernel
theorem dX11_undo_10 : decode cX11_undo 10 = .ok (.bipush (-4), 2) := by decide +kernel
theorem dX11_undo_12 : decode cX11_undo 12 = .ok (.ireturn, 1) := by decide +kernel
theorem dX11_undo_13 : decode cX11_undo 13 = .ok (.aload_n 0, 1) := by decide +kernel
theorem dX11_undo_14 : decode cX11_undo 14 = .ok (.getfield 19, 3) := by decide +kernel
theorem dX11_undo_17 : decode cX11_undo 17 = .ok (.aload_n 0, 1) := by decide +kernel
theorem dX11_undo_18 : decode cX11_undo 18 = .ok (.getfield 10, 3) := by decide +kernel
theorem dX11_undo_21 : decode cX11_undo 21 = .ok (.invokevirtual 213, 3) := by decide +kernel
theorem dX11_undo_24 : decode cX11_undo 24 = .ok (.aload_n 0, 1) := by decide +kernel
theorem dX11_undo_25 : decode cX11_undo 25 = .ok (.getfield 19, 3) := by decide +kernel
theorem dX11_undo_28 : decode cX11_undo 28 = .ok (.getfield 111, 3) := by decide +kernel
theorem dX11_undo_31 : decode cX11_undo 31 = .ok (.ireturn, 1) := by decide +kernel
theorem dX11_mostWith_0 : decode cX11_mostWith 0 = .ok (.aload_n 0, 1) := by decide +kernel
theorem dX11_mostWith_1 : decode cX11_mostWith 1 = .ok (.getfield 35, 3) := by decide +kernel
theorem dX11_mostWith_4 : decode cX11_mostWith 4 = .ok (.lload_n 1, 1) := by decide +kernel
theorem dX11_mostWith_5 : decode cX11_mostWith 5 = .ok (.invokevirtual 184, 3) := by decide +kernel
theorem dX11_mostWith_8 : decode cX11_mostWith 8 = .ok (.aload_n 0, 1) := by decide +kernel
theorem dX11_mostWith_9 : decode cX11_mostWith 9 = .ok (.getfield 35, 3) := by decide +kernel
theorem dX11_mostWith_12 : decode cX11_mostWith 12 = .ok (.iconst 0, 1) := by decide +kernel
theorem dX11_mostWith_13 : decode cX11_mostWith 13 = .ok (.iconst 0, 1) := by decide +kernel
theorem dX11_mostWith_14 : decode cX11_mostWith 14 = .ok (.aload_n 0, 1) := by decide +kernel
theorem dX11_mostWith_15 : decode cX11_mostWith 15 = .ok (.getfield 10, 3) := by decide +kernel
theorem dX11_mostWith_18 : decode cX11_mostWith 18 = .ok (.getfield 216, 3) := by decide +kernel
theorem dX11_mostWith_21 : decode cX11_mostWith 21 = .ok (.aload_n 0, 1) := by decide +kernel
theorem dX11_mostWith_22 : decode cX11_mostWith 22 = .ok (.getfield 10, 3) := by decide +kernel
theorem dX11_mostWith_25 : decode cX11_mostWith 25 = .ok (.getfield 218, 3) := by decide +kernel
theorem dX11_mostWith_28 : decode cX11_mostWith 28 = .ok (.invokevirtual 188, 3) := by decide +kernel
theorem dX11_mostWith_31 : decode cX11_mostWith 31 = .ok (.ireturn, 1) := by decide +kernel
theorem dX11_world_0 : decode cX11_world 0 = .ok (.aload_n 0, 1) := by decide +kernel
theorem dX11_world_1 : decode cX11_world 1 = .ok (.getfield 43, 3) := by decide +kernel
theorem dX11_world_4 : decode cX11_world 4 = .ok (.iconst 4, 1) := by decide +kernel
theorem dX11_world_5 : decode cX11_world 5 = .ok (.if_icmp .lt 6, 3) := by decide +kernel
theorem dX11_world_8 : decode cX11_world 8 = .ok (.bipush (-3), 2) := by decide +kernel
theorem dX11_world_10 : decode cX11_world 10 = .ok (.ireturn, 1) := by decide +kernel
theorem dX11_world_11 : decode cX11_world 11 = .ok (.aload_n 0, 1) := by decide +kernel
theorem dX11_world_12 : decode cX11_world 12 = .ok (.getfield 39, 3) := by decide +kernel
theorem dX11_world_15 : decode cX11_world 15 = .ok (.aload_n 0, 1) := by decide +kernel
theorem dX11_world_16 : decode cX11_world 16 = .ok (.getfield 43, 3) := by decide +kernel
theorem dX11_world_19 : decode cX11_world 19 = .ok (.lconst 0, 1) := by decide +kernel
theorem dX11_world_20 : decode cX11_world 20 = .ok (.lastore, 1) := by decide +kernel
theorem dX11_world_21 : decode cX11_world 21 = .ok (.aload_n 0, 1) := by decide +kernel
theorem dX11_world_22 : decode cX11_world 22 = .ok (.dup, 1) := by decide +kernel
theorem dX11_world_23 : decode cX11_world 23 = .ok (.getfield 43, 3) := by decide +kernel
theorem dX11_world_26 : decode cX11_world 26 = .ok (.iconst 1, 1) := by decide +kernel
theorem dX11_world_27 : decode cX11_world 27 = .ok (.iadd, 1) := by decide +kernel
theorem dX11_world_28 : decode cX11_world 28 = .ok (.putfield 43, 3) := by decide +kernel
theorem dX11_world_31 : decode cX11_world 31 = .ok (.aload_n 0, 1) := by decide +kernel
theorem dX11_world_32 : decode cX11_world 32 = .ok (.getfield 43, 3) := by decide +kernel
theorem dX11_world_35 : decode cX11_world 35 = .ok (.iconst 1, 1) := by decide +kernel
theorem dX11_world_36 : decode cX11_world 36 = .ok (.isub, 1) := by decide +kernel
theorem dX11_world_37 : decode cX11_world 37 = .ok (.ireturn, 1) := by decide +kernel
theorem dX11_doubt_0 : decode cX11_doubt 0 = .ok (.iload_n 1, 1) := by decide +kernel
theorem dX11_doubt_1 : decode cX11_doubt 1 = .ok (.iconst 0, 1) := by decide +kernel
theorem dX11_doubt_2 : decode cX11_doubt 2 = .ok (.aload_n 0, 1) := by decide +kernel
theorem dX11_doubt_3 : decode cX11_doubt 3 = .ok (.getfield 43, 3) := by decide +kernel
theorem dX11_doubt_6 : decode cX11_doubt 6 = .ok (.iconst 1, 1) := by decide +kernel
theorem dX11_doubt_7 : decode cX11_doubt 7 = .ok (.isub, 1) := by decide +kernel
theorem dX11_doubt_8 : decode cX11_doubt 8 = .ok (.invokestatic 103, 3) := by decide +kernel
theorem dX11_doubt_11 : decode cX11_doubt 11 = .ok (.ifCond .eq 15, 3) := by decide +kernel
theorem dX11_doubt_14 : decode cX11_doubt 14 = .ok (.aload_n 0, 1) := by decide +kernel
theorem dX11_doubt_15 : decode cX11_doubt 15 = .ok (.getfield 10, 3) := by decide +kernel
theorem dX11_doubt_18 : decode cX11_doubt 18 = .ok (.iload_n 2, 1) := by decide +kernel
theorem dX11_doubt_19 : decode cX11_doubt 19 = .ok (.iload_n 3, 1) := by decide +kernel
theorem dX11_doubt_20 : decode cX11_doubt 20 = .ok (.invokevirtual 114, 3) := by decide +kernel
theorem dX11_doubt_23 : decode cX11_doubt 23 = .ok (.ifCond .ne 5, 3) := by decide +kernel
theorem dX11_doubt_26 : decode cX11_doubt 26 = .ok (.iconst (-1), 1) := by decide +kernel
theorem dX11_doubt_27 : decode cX11_doubt 27 = .ok (.ireturn, 1) := by decide +kernel
theorem dX11_doubt_28 : decode cX11_doubt 28 = .ok (.aload_n 0, 1) := by decide +kernel
theorem dX11_doubt_29 : decode cX11_doubt 29 = .ok (.getfield 39, 3) := by decide +kernel
theorem dX11_doubt_32 : decode cX11_doubt 32 = .ok (.iload_n 1, 1) := by decide +kernel
theorem dX11_doubt_33 : decode cX11_doubt 33 = .ok (.laload, 1) := by decide +kernel
theorem dX11_doubt_34 : decode cX11_doubt 34 = .ok (.iload_n 2, 1) := by decide +kernel
theorem dX11_doubt_35 : decode cX11_doubt 35 = .ok (.iload_n 3, 1) := by decide +kernel
theorem dX11_doubt_36 : decode cX11_doubt 36 = .ok (.invokestatic 126, 3) := by decide +kernel
theorem dX11_doubt_39 : decode cX11_doubt 39 = .ok (.istore 5, 2) := by decide +kernel
theorem dX11_doubt_41 : decode cX11_doubt 41 = .ok (.aload_n 0, 1) := by decide +kernel
theorem dX11_doubt_42 : decode cX11_doubt 42 = .ok (.getfield 39, 3) := by decide +kernel
theorem dX11_doubt_45 : decode cX11_doubt 45 = .ok (.iload_n 1, 1) := by decide +kernel
theorem dX11_doubt_46 : decode cX11_doubt 46 = .ok (.aload_n 0, 1) := by decide +kernel
theorem dX11_doubt_47 : decode cX11_doubt 47 = .ok (.getfield 39, 3) := by decide +kernel
theorem dX11_doubt_50 : decode cX11_doubt 50 = .ok (.iload_n 1, 1) := by decide +kernel
theorem dX11_doubt_51 : decode cX11_doubt 51 = .ok (.laload, 1) := by decide +kernel
theorem dX11_doubt_52 : decode cX11_doubt 52 = .ok (.iload_n 2, 1) := by decide +kernel
theorem dX11_doubt_53 : decode cX11_doubt 53 = .ok (.iload_n 3, 1) := by decide +kernel
theorem dX11_doubt_54 : decode cX11_doubt 54 = .ok (.iload 4, 2) := by decide +kernel
theorem dX11_doubt_56 : decode cX11_doubt 56 = .ok (.invokestatic 130, 3) := by decide +kernel
theorem dX11_doubt_59 : decode cX11_doubt 59 = .ok (.lastore, 1) := by decide +kernel
theorem dX11_doubt_60 : decode cX11_doubt 60 = .ok (.iload 5, 2) := by decide +kernel
theorem dX11_doubt_62 : decode cX11_doubt 62 = .ok (.ireturn, 1) := by decide +kernel
theorem dX11_choose_0 : decode cX11_choose 0 = .ok (.iload_n 1, 1) := by decide +kernel
theorem dX11_choose_1 : decode cX11_choose 1 = .ok (.iconst 0, 1) := by decide +kernel
theorem dX11_choose_2 : decode cX11_choose 2 = .ok (.iconst 5, 1) := by decide +kernel
theorem dX11_choose_3 : decode cX11_choose 3 = .ok (.invokestatic 103, 3) := by decide +kernel
theorem dX11_choose_6 : decode cX11_choose 6 = .ok (.ifCond .ne 5, 3) := by decide +kernel
theorem dX11_choose_9 : decode cX11_choose 9 = .ok (.iconst (-1), 1) := by decide +kernel
theorem dX11_choose_10 : decode cX11_choose 10 = .ok (.ireturn, 1) := by decide +kernel
theorem dX11_choose_11 : decode cX11_choose 11 = .ok (.aload_n 0, 1) := by decide +kernel
theorem dX11_choose_12 : decode cX11_choose 12 = .ok (.getfield 43, 3) := by decide +kernel
theorem dX11_choose_15 : decode cX11_choose 15 = .ok (.ifCond .ne 6, 3) := by decide +kernel
theorem dX11_choose_18 : decode cX11_choose 18 = .ok (.bipush (-2), 2) := by decide +kernel
theorem dX11_choose_20 : decode cX11_choose 20 = .ok (.ireturn, 1) := by decide +kernel
theorem dX11_choose_21 : decode cX11_choose 21 = .ok (.iload_n 1, 1) := by decide +kernel
theorem dX11_choose_22 : decode cX11_choose 22 = .ok (.tableswitch 64 0 4 #[34, 39, 44, 54, 59], 34) := by decide +kernel
theorem dX11_choose_56 : decode cX11_choose 56 = .ok (.aload_n 0, 1) := by decide +kernel
theorem dX11_choose_57 : decode cX11_choose 57 = .ok (.invokevirtual 220, 3) := by decide +kernel
theorem dX11_choose_60 : decode cX11_choose 60 = .ok (.ireturn, 1) := by decide +kernel
theorem dX11_choose_61 : decode cX11_choose 61 = .ok (.aload_n 0, 1) := by decide +kernel
theorem dX11_choose_62 : decode cX11_choose 62 = .ok (.invokevirtual 224, 3) := by decide +kernel
theorem dX11_choose_65 : decode cX11_choose 65 = .ok (.ireturn, 1) := by decide +kernel
theorem dX11_choose_66 : decode cX11_choose 66 = .ok (.aload_n 0, 1) := by decide +kernel
theorem dX11_choose_67 : decode cX11_choose 67 = .ok (.invokevirtual 220, 3) := by decide +kernel
theorem dX11_choose_70 : decode cX11_choose 70 = .ok (.aload_n 0, 1) := by decide +kernel
theorem dX11_choose_71 : decode cX11_choose 71 = .ok (.invokevirtual 224, 3) := by decide +kernel
theorem dX11_choose_74 : decode cX11_choose 74 = .ok (.isub, 1) := by decide +kernel
theorem dX11_choose_75 : decode cX11_choose 75 = .ok (.ireturn, 1) := by decide +kernel
theorem dX11_choose_76 : decode cX11_choose 76 = .ok (.aload_n 0, 1) := by decide +kernel
theorem dX11_choose_77 : decode cX11_choose 77 = .ok (.invokevirtual 227, 3) := by decide +kernel
theorem dX11_choose_80 : decode cX11_choose 80 = .ok (.ireturn, 1) := by decide +kernel
theorem dX11_choose_81 : decode cX11_choose 81 = .ok (.aload_n 0, 1) := by decide +kernel
theorem dX11_choose_82 : decode cX11_choose 82 = .ok (.invokevirtual 230, 3) := by decide +kernel
theorem dX11_choose_85 : decode cX11_choose 85 = .ok (.ireturn, 1) := by decide +kernel
theorem dX11_choose_86 : decode cX11_choose 86 = .ok (.aload_n 0, 1) := by decide +kernel
theorem dX11_choose_87 : decode cX11_choose 87 = .ok (.invokevirtual 233, 3) := by decide +kernel
theorem dX11_choose_90 : decode cX11_choose 90 = .ok (.ireturn, 1) := by decide +kernel
theorem dX11_mostInWorld_0 : decode cX11_mostInWorld 0 = .ok (.aload_n 0, 1) := by decide +kernel
theorem dX11_mostInWorld_1 : decode cX11_mostInWorld 1 = .ok (.getfield 35, 3) := by decide +kernel
theorem dX11_mostInWorld_4 : decode cX11_mostInWorld 4 = .ok (.aload_n 0, 1) := by decide +kernel
theorem dX11_mostInWorld_5 : decode cX11_mostInWorld 5 = .ok (.getfield 10, 3) := by decide +kernel
theorem dX11_mostInWorld_8 : decode cX11_mostInWorld 8 = .ok (.getfield 122, 3) := by decide +kernel
theorem dX11_mostInWorld_11 : decode cX11_mostInWorld 11 = .ok (.aload_n 0, 1) := by decide +kernel
theorem dX11_mostInWorld_12 : decode cX11_mostInWorld 12 = .ok (.getfield 39, 3) := by decide +kernel
theorem dX11_mostInWorld_15 : decode cX11_mostInWorld 15 = .ok (.iload_n 1, 1) := by decide +kernel
theorem dX11_mostInWorld_16 : decode cX11_mostInWorld 16 = .ok (.laload, 1) := by decide +kernel
theorem dX11_mostInWorld_17 : decode cX11_mostInWorld 17 = .ok (.lor, 1) := by decide +kernel
theorem dX11_mostInWorld_18 : decode cX11_mostInWorld 18 = .ok (.invokevirtual 184, 3) := by decide +kernel
theorem dX11_mostInWorld_21 : decode cX11_mostInWorld 21 = .ok (.aload_n 0, 1) := by decide +kernel
theorem dX11_mostInWorld_22 : decode cX11_mostInWorld 22 = .ok (.getfield 35, 3) := by decide +kernel
theorem dX11_mostInWorld_25 : decode cX11_mostInWorld 25 = .ok (.iconst 0, 1) := by decide +kernel
theorem dX11_mostInWorld_26 : decode cX11_mostInWorld 26 = .ok (.iconst 0, 1) := by decide +kernel
theorem dX11_mostInWorld_27 : decode cX11_mostInWorld 27 = .ok (.aload_n 0, 1) := by decide +kernel
theorem dX11_mostInWorld_28 : decode cX11_mostInWorld 28 = .ok (.getfield 10, 3) := by decide +kernel
theorem dX11_mostInWorld_31 : decode cX11_mostInWorld 31 = .ok (.getfield 216, 3) := by decide +kernel
theorem dX11_mostInWorld_34 : decode cX11_mostInWorld 34 = .ok (.aload_n 0, 1) := by decide +kernel
theorem dX11_mostInWorld_35 : decode cX11_mostInWorld 35 = .ok (.getfield 10, 3) := by decide +kernel
theorem dX11_mostInWorld_38 : decode cX11_mostInWorld 38 = .ok (.getfield 218, 3) := by decide +kernel
theorem dX11_mostInWorld_41 : decode cX11_mostInWorld 41 = .ok (.invokevirtual 188, 3) := by decide +kernel
theorem dX11_mostInWorld_44 : decode cX11_mostInWorld 44 = .ok (.ireturn, 1) := by decide +kernel
theorem dX11_late_0 : decode cX11_late 0 = .ok (.iconst 0, 1) := by decide +kernel
theorem dX11_late_1 : decode cX11_late 1 = .ok (.istore_n 1, 1) := by decide +kernel
theorem dX11_late_2 : decode cX11_late 2 = .ok (.iconst 0, 1) := by decide +kernel
theorem dX11_late_3 : decode cX11_late 3 = .ok (.istore_n 2, 1) := by decide +kernel
theorem dX11_late_4 : decode cX11_late 4 = .ok (.iload_n 2, 1) := by decide +kernel
theorem dX11_late_5 : decode cX11_late 5 = .ok (.aload_n 0, 1) := by decide +kernel
theorem dX11_late_6 : decode cX11_late 6 = .ok (.getfield 43, 3) := by decide +kernel
theorem dX11_late_9 : decode cX11_late 9 = .ok (.if_icmp .ge 17, 3) := by decide +kernel
theorem dX11_late_12 : decode cX11_late 12 = .ok (.iload_n 1, 1) := by decide +kernel
theorem dX11_late_13 : decode cX11_late 13 = .ok (.aload_n 0, 1) := by decide +kernel
theorem dX11_late_14 : decode cX11_late 14 = .ok (.iload_n 2, 1) := by decide +kernel
theorem dX11_late_15 : decode cX11_late 15 = .ok (.invokevirtual 236, 3) := by decide +kernel
theorem dX11_late_18 : decode cX11_late 18 = .ok (.iadd, 1) := by decide +kernel
theorem dX11_late_19 : decode cX11_late 19 = .ok (.istore_n 1, 1) := by decide +kernel
theorem dX11_late_20 : decode cX11_late 20 = .ok (.iinc 2 1, 3) := by decide +kernel
theorem dX11_late_23 : decode cX11_late 23 = .ok (.goto (-19), 3) := by decide +kernel
theorem dX11_late_26 : decode cX11_late 26 = .ok (.iload_n 1, 1) := by decide +kernel
theorem dX11_late_27 : decode cX11_late 27 = .ok (.ireturn, 1) := by decide +kernel
theorem dX11_early_0 : decode cX11_early 0 = .ok (.aload_n 0, 1) := by decide +kernel
theorem dX11_early_1 : decode cX11_early 1 = .ok (.getfield 35, 3) := by decide +kernel
theorem dX11_early_4 : decode cX11_early 4 = .ok (.aload_n 0, 1) := by decide +kernel
theorem dX11_early_5 : decode cX11_early 5 = .ok (.getfield 10, 3) := by decide +kernel
theorem dX11_early_8 : decode cX11_early 8 = .ok (.getfield 122, 3) := by decide +kernel
theorem dX11_early_11 : decode cX11_early 11 = .ok (.aload_n 0, 1) := by decide +kernel
theorem dX11_early_12 : decode cX11_early 12 = .ok (.getfield 39, 3) := by decide +kernel
theorem dX11_early_15 : decode cX11_early 15 = .ok (.iconst 0, 1) := by decide +kernel
theorem dX11_early_16 : decode cX11_early 16 = .ok (.laload, 1) := by decide +kernel
theorem dX11_early_17 : decode cX11_early 17 = .ok (.lor, 1) := by decide +kernel
theorem dX11_early_18 : decode cX11_early 18 = .ok (.invokevirtual 184, 3) := by decide +kernel
theorem dX11_early_21 : decode cX11_early 21 = .ok (.iconst 1, 1) := by decide +kernel
theorem dX11_early_22 : decode cX11_early 22 = .ok (.istore_n 1, 1) := by decide +kernel
theorem dX11_early_23 : decode cX11_early 23 = .ok (.iload_n 1, 1) := by decide +kernel
theorem dX11_early_24 : decode cX11_early 24 = .ok (.aload_n 0, 1) := by decide +kernel
theorem dX11_early_25 : decode cX11_early 25 = .ok (.getfield 43, 3) := by decide +kernel
theorem dX11_early_28 : decode cX11_early 28 = .ok (.if_icmp .ge 30, 3) := by decide +kernel
theorem dX11_early_31 : decode cX11_early 31 = .ok (.aload_n 0, 1) := by decide +kernel
theorem dX11_early_32 : decode cX11_early 32 = .ok (.getfield 35, 3) := by decide +kernel
theorem dX11_early_35 : decode cX11_early 35 = .ok (.aload_n 0, 1) := by decide +kernel
theorem dX11_early_36 : decode cX11_early 36 = .ok (.getfield 10, 3) := by decide +kernel
theorem dX11_early_39 : decode cX11_early 39 = .ok (.getfield 122, 3) := by decide +kernel
theorem dX11_early_42 : decode cX11_early 42 = .ok (.aload_n 0, 1) := by decide +kernel
theorem dX11_early_43 : decode cX11_early 43 = .ok (.getfield 39, 3) := by decide +kernel
theorem dX11_early_46 : decode cX11_early 46 = .ok (.iload_n 1, 1) := by decide +kernel
theorem dX11_early_47 : decode cX11_early 47 = .ok (.laload, 1) := by decide +kernel
theorem dX11_early_48 : decode cX11_early 48 = .ok (.lor, 1) := by decide +kernel
theorem dX11_early_49 : decode cX11_early 49 = .ok (.invokevirtual 240, 3) := by decide +kernel
theorem dX11_early_52 : decode cX11_early 52 = .ok (.iinc 1 1, 3) := by decide +kernel
theorem dX11_early_55 : decode cX11_early 55 = .ok (.goto (-32), 3) := by decide +kernel
theorem dX11_early_58 : decode cX11_early 58 = .ok (.aload_n 0, 1) := by decide +kernel
theorem dX11_early_59 : decode cX11_early 59 = .ok (.getfield 35, 3) := by decide +kernel
theorem dX11_early_62 : decode cX11_early 62 = .ok (.iconst 0, 1) := by decide +kernel
theorem dX11_early_63 : decode cX11_early 63 = .ok (.iconst 0, 1) := by decide +kernel
theorem dX11_early_64 : decode cX11_early 64 = .ok (.aload_n 0, 1) := by decide +kernel
theorem dX11_early_65 : decode cX11_early 65 = .ok (.getfield 10, 3) := by decide +kernel
theorem dX11_early_68 : decode cX11_early 68 = .ok (.getfield 216, 3) := by decide +kernel
theorem dX11_early_71 : decode cX11_early 71 = .ok (.aload_n 0, 1) := by decide +kernel
theorem dX11_early_72 : decode cX11_early 72 = .ok (.getfield 10, 3) := by decide +kernel
theorem dX11_early_75 : decode cX11_early 75 = .ok (.getfield 218, 3) := by decide +kernel
theorem dX11_early_78 : decode cX11_early 78 = .ok (.invokevirtual 188, 3) := by decide +kernel
theorem dX11_early_81 : decode cX11_early 81 = .ok (.ireturn, 1) := by decide +kernel
theorem dX11_earlyDeed_0 : decode cX11_earlyDeed 0 = .ok (.aload_n 0, 1) := by decide +kernel
theorem dX11_earlyDeed_1 : decode cX11_earlyDeed 1 = .ok (.invokevirtual 224, 3) := by decide +kernel
theorem dX11_earlyDeed_4 : decode cX11_earlyDeed 4 = .ok (.pop, 1) := by decide +kernel
theorem dX11_earlyDeed_5 : decode cX11_earlyDeed 5 = .ok (.aload_n 0, 1) := by decide +kernel
theorem dX11_earlyDeed_6 : decode cX11_earlyDeed 6 = .ok (.getfield 35, 3) := by decide +kernel
theorem dX11_earlyDeed_9 : decode cX11_earlyDeed 9 = .ok (.iconst 0, 1) := by decide +kernel
theorem dX11_earlyDeed_10 : decode cX11_earlyDeed 10 = .ok (.iconst 0, 1) := by decide +kernel
theorem dX11_earlyDeed_11 : decode cX11_earlyDeed 11 = .ok (.aload_n 0, 1) := by decide +kernel
theorem dX11_earlyDeed_12 : decode cX11_earlyDeed 12 = .ok (.getfield 10, 3) := by decide +kernel
theorem dX11_earlyDeed_15 : decode cX11_earlyDeed 15 = .ok (.getfield 216, 3) := by decide +kernel
theorem dX11_earlyDeed_18 : decode cX11_earlyDeed 18 = .ok (.aload_n 0, 1) := by decide +kernel
theorem dX11_earlyDeed_19 : decode cX11_earlyDeed 19 = .ok (.getfield 10, 3) := by decide +kernel
theorem dX11_earlyDeed_22 : decode cX11_earlyDeed 22 = .ok (.getfield 218, 3) := by decide +kernel
theorem dX11_earlyDeed_25 : decode cX11_earlyDeed 25 = .ok (.invokevirtual 191, 3) := by decide +kernel
theorem dX11_earlyDeed_28 : decode cX11_earlyDeed 28 = .ok (.ireturn, 1) := by decide +kernel
theorem dX11_leastOfWorlds_0 : decode cX11_leastOfWorlds 0 = .ok (.aload_n 0, 1) := by decide +kernel
theorem dX11_leastOfWorlds_1 : decode cX11_leastOfWorlds 1 = .ok (.iconst 0, 1) := by decide +kernel
theorem dX11_leastOfWorlds_2 : decode cX11_leastOfWorlds 2 = .ok (.invokevirtual 236, 3) := by decide +kernel
theorem dX11_leastOfWorlds_5 : decode cX11_leastOfWorlds 5 = .ok (.istore_n 1, 1) := by decide +kernel
theorem dX11_leastOfWorlds_6 : decode cX11_leastOfWorlds 6 = .ok (.iconst 1, 1) := by decide +kernel
theorem dX11_leastOfWorlds_7 : decode cX11_leastOfWorlds 7 = .ok (.istore_n 2, 1) := by decide +kernel
theorem dX11_leastOfWorlds_8 : decode cX11_leastOfWorlds 8 = .ok (.iload_n 2, 1) := by decide +kernel
theorem dX11_leastOfWorlds_9 : decode cX11_leastOfWorlds 9 = .ok (.aload_n 0, 1) := by decide +kernel
theorem dX11_leastOfWorlds_10 : decode cX11_leastOfWorlds 10 = .ok (.getfield 43, 3) := by decide +kernel
theorem dX11_leastOfWorlds_13 : decode cX11_leastOfWorlds 13 = .ok (.if_icmp .ge 19, 3) := by decide +kernel
theorem dX11_leastOfWorlds_16 : decode cX11_leastOfWorlds 16 = .ok (.iload_n 1, 1) := by decide +kernel
theorem dX11_leastOfWorlds_17 : decode cX11_leastOfWorlds 17 = .ok (.aload_n 0, 1) := by decide +kernel
theorem dX11_leastOfWorlds_18 : decode cX11_leastOfWorlds 18 = .ok (.iload_n 2, 1) := by decide +kernel
theorem dX11_leastOfWorlds_19 : decode cX11_leastOfWorlds 19 = .ok (.invokevirtual 236, 3) := by decide +kernel
theorem dX11_leastOfWorlds_22 : decode cX11_leastOfWorlds 22 = .ok (.invokestatic 243, 3) := by decide +kernel
theorem dX11_leastOfWorlds_25 : decode cX11_leastOfWorlds 25 = .ok (.istore_n 1, 1) := by decide +kernel
theorem dX11_leastOfWorlds_26 : decode cX11_leastOfWorlds 26 = .ok (.iinc 2 1, 3) := by decide +kernel
theorem dX11_leastOfWorlds_29 : decode cX11_leastOfWorlds 29 = .ok (.goto (-21), 3) := by decide +kernel
theorem dX11_leastOfWorlds_32 : decode cX11_leastOfWorlds 32 = .ok (.iload_n 1, 1) := by decide +kernel
theorem dX11_leastOfWorlds_33 : decode cX11_leastOfWorlds 33 = .ok (.ireturn, 1) := by decide +kernel
theorem dX11_greatestOfWorlds_0 : decode cX11_greatestOfWorlds 0 = .ok (.iconst 0, 1) := by decide +kernel
theorem dX11_greatestOfWorlds_1 : decode cX11_greatestOfWorlds 1 = .ok (.istore_n 1, 1) := by decide +kernel
theorem dX11_greatestOfWorlds_2 : decode cX11_greatestOfWorlds 2 = .ok (.iconst 0, 1) := by decide +kernel
theorem dX11_greatestOfWorlds_3 : decode cX11_greatestOfWorlds 3 = .ok (.istore_n 2, 1) := by decide +kernel
theorem dX11_greatestOfWorlds_4 : decode cX11_greatestOfWorlds 4 = .ok (.iload_n 2, 1) := by decide +kernel
theorem dX11_greatestOfWorlds_5 : decode cX11_greatestOfWorlds 5 = .ok (.aload_n 0, 1) := by decide +kernel
theorem dX11_greatestOfWorlds_6 : decode cX11_greatestOfWorlds 6 = .ok (.getfield 43, 3) := by decide +kernel
theorem dX11_greatestOfWorlds_9 : decode cX11_greatestOfWorlds 9 = .ok (.if_icmp .ge 19, 3) := by decide +kernel
theorem dX11_greatestOfWorlds_12 : decode cX11_greatestOfWorlds 12 = .ok (.iload_n 1, 1) := by decide +kernel
theorem dX11_greatestOfWorlds_13 : decode cX11_greatestOfWorlds 13 = .ok (.aload_n 0, 1) := by decide +kernel
theorem dX11_greatestOfWorlds_14 : decode cX11_greatestOfWorlds 14 = .ok (.iload_n 2, 1) := by decide +kernel
theorem dX11_greatestOfWorlds_15 : decode cX11_greatestOfWorlds 15 = .ok (.invokevirtual 236, 3) := by decide +kernel
theorem dX11_greatestOfWorlds_18 : decode cX11_greatestOfWorlds 18 = .ok (.invokestatic 248, 3) := by decide +kernel
theorem dX11_greatestOfWorlds_21 : decode cX11_greatestOfWorlds 21 = .ok (.istore_n 1, 1) := by decide +kernel
theorem dX11_greatestOfWorlds_22 : decode cX11_greatestOfWorlds 22 = .ok (.iinc 2 1, 3) := by decide +kernel
theorem dX11_greatestOfWorlds_25 : decode cX11_greatestOfWorlds 25 = .ok (.goto (-21), 3) := by decide +kernel
theorem dX11_greatestOfWorlds_28 : decode cX11_greatestOfWorlds 28 = .ok (.iload_n 1, 1) := by decide +kernel
theorem dX11_greatestOfWorlds_29 : decode cX11_greatestOfWorlds 29 = .ok (.ireturn, 1) := by decide +kernel
theorem dX11_store_0 : decode cX11_store 0 = .ok (.iload_n 1, 1) := by decide +kernel
theorem dX11_store_1 : decode cX11_store 1 = .ok (.iconst 1, 1) := by decide +kernel
theorem dX11_store_2 : decode cX11_store 2 = .ok (.bipush 8, 2) := by decide +kernel
theorem dX11_store_4 : decode cX11_store 4 = .ok (.invokestatic 103, 3) := by decide +kernel
theorem dX11_store_7 : decode cX11_store 7 = .ok (.ifCond .eq 34, 3) := by decide +kernel
theorem dX11_store_10 : decode cX11_store 10 = .ok (.iload_n 2, 1) := by decide +kernel
theorem dX11_store_11 : decode cX11_store 11 = .ok (.iconst 1, 1) := by decide +kernel
theorem dX11_store_12 : decode cX11_store 12 = .ok (.bipush 8, 2) := by decide +kernel
theorem dX11_store_14 : decode cX11_store 14 = .ok (.invokestatic 103, 3) := by decide +kernel
theorem dX11_store_17 : decode cX11_store 17 = .ok (.ifCond .eq 24, 3) := by decide +kernel
theorem dX11_store_20 : decode cX11_store 20 = .ok (.iload_n 3, 1) := by decide +kernel
theorem dX11_store_21 : decode cX11_store 21 = .ok (.iconst 0, 1) := by decide +kernel
theorem dX11_store_22 : decode cX11_store 22 = .ok (.bipush 9, 2) := by decide +kernel
theorem dX11_store_24 : decode cX11_store 24 = .ok (.invokestatic 103, 3) := by decide +kernel
theorem dX11_store_27 : decode cX11_store 27 = .ok (.ifCond .eq 14, 3) := by decide +kernel
theorem dX11_store_30 : decode cX11_store 30 = .ok (.iload 4, 2) := by decide +kernel
theorem dX11_store_32 : decode cX11_store 32 = .ok (.iconst 0, 1) := by decide +kernel
theorem dX11_store_33 : decode cX11_store 33 = .ok (.bipush 99, 2) := by decide +kernel
theorem dX11_store_35 : decode cX11_store 35 = .ok (.invokestatic 103, 3) := by decide +kernel
theorem dX11_store_38 : decode cX11_store 38 = .ok (.ifCond .ne 5, 3) := by decide +kernel
theorem dX11_store_41 : decode cX11_store 41 = .ok (.iconst (-1), 1) := by decide +kernel
theorem dX11_store_42 : decode cX11_store 42 = .ok (.ireturn, 1) := by decide +kernel
theorem dX11_store_43 : decode cX11_store 43 = .ok (.aload_n 0, 1) := by decide +kernel
theorem dX11_store_44 : decode cX11_store 44 = .ok (.getfield 50, 3) := by decide +kernel
theorem dX11_store_47 : decode cX11_store 47 = .ok (.getfield 251, 3) := by decide +kernel
theorem dX11_store_50 : decode cX11_store 50 = .ok (.bipush 12, 2) := by decide +kernel
theorem dX11_store_52 : decode cX11_store 52 = .ok (.if_icmp .lt 6, 3) := by decide +kernel
theorem dX11_store_55 : decode cX11_store 55 = .ok (.bipush (-3), 2) := by decide +kernel
theorem dX11_store_57 : decode cX11_store 57 = .ok (.ireturn, 1) := by decide +kernel
theorem dX11_store_58 : decode cX11_store 58 = .ok (.aload_n 0, 1) := by decide +kernel
theorem dX11_store_59 : decode cX11_store 59 = .ok (.getfield 50, 3) := by decide +kernel
theorem dX11_store_62 : decode cX11_store 62 = .ok (.iload_n 1, 1) := by decide +kernel
theorem dX11_store_63 : decode cX11_store 63 = .ok (.iload_n 2, 1) := by decide +kernel
theorem dX11_store_64 : decode cX11_store 64 = .ok (.iload_n 3, 1) := by decide +kernel
theorem dX11_store_65 : decode cX11_store 65 = .ok (.iload 4, 2) := by decide +kernel
theorem dX11_store_67 : decode cX11_store 67 = .ok (.invokevirtual 252, 3) := by decide +kernel
theorem dX11_store_70 : decode cX11_store 70 = .ok (.ireturn, 1) := by decide +kernel
theorem dX11_stored_0 : decode cX11_stored 0 = .ok (.iload_n 1, 1) := by decide +kernel
theorem dX11_stored_1 : decode cX11_stored 1 = .ok (.iconst 0, 1) := by decide +kernel
theorem dX11_stored_2 : decode cX11_stored 2 = .ok (.aload_n 0, 1) := by decide +kernel
theorem dX11_stored_3 : decode cX11_stored 3 = .ok (.getfield 50, 3) := by decide +kernel
theorem dX11_stored_6 : decode cX11_stored 6 = .ok (.getfield 251, 3) := by decide +kernel
theorem dX11_stored_9 : decode cX11_stored 9 = .ok (.iconst 1, 1) := by decide +kernel
theorem dX11_stored_10 : decode cX11_stored 10 = .ok (.isub, 1) := by decide +kernel
theorem dX11_stored_11 : decode cX11_stored 11 = .ok (.invokestatic 103, 3) := by decide +kernel
theorem dX11_stored_14 : decode cX11_stored 14 = .ok (.ifCond .ne 5, 3) := by decide +kernel
theorem dX11_stored_17 : decode cX11_stored 17 = .ok (.iconst (-1), 1) := by decide +kernel
theorem dX11_stored_18 : decode cX11_stored 18 = .ok (.ireturn, 1) := by decide +kernel
theorem dX11_stored_19 : decode cX11_stored 19 = .ok (.iload_n 2, 1) := by decide +kernel
theorem dX11_stored_20 : decode cX11_stored 20 = .ok (.tableswitch 85 0 4 #[36, 46, 56, 66, 76], 36) := by decide +kernel
theorem dX11_stored_56 : decode cX11_stored 56 = .ok (.aload_n 0, 1) := by decide +kernel
theorem dX11_stored_57 : decode cX11_stored 57 = .ok (.getfield 50, 3) := by decide +kernel
theorem dX11_stored_60 : decode cX11_stored 60 = .ok (.getfield 254, 3) := by decide +kernel
theorem dX11_stored_63 : decode cX11_stored 63 = .ok (.iload_n 1, 1) := by decide +kernel
theorem dX11_stored_64 : decode cX11_stored 64 = .ok (.iaload, 1) := by decide +kernel
theorem dX11_stored_65 : decode cX11_stored 65 = .ok (.ireturn, 1) := by decide +kernel
theorem dX11_stored_66 : decode cX11_stored 66 = .ok (.aload_n 0, 1) := by decide +kernel
theorem dX11_stored_67 : decode cX11_stored 67 = .ok (.getfield 50, 3) := by decide +kernel
theorem dX11_stored_70 : decode cX11_stored 70 = .ok (.getfield 255, 3) := by decide +kernel
theorem dX11_stored_73 : decode cX11_stored 73 = .ok (.iload_n 1, 1) := by decide +kernel
theorem dX11_stored_74 : decode cX11_stored 74 = .ok (.iaload, 1) := by decide +kernel
theorem dX11_stored_75 : decode cX11_stored 75 = .ok (.ireturn, 1) := by decide +kernel
theorem dX11_stored_76 : decode cX11_stored 76 = .ok (.aload_n 0, 1) := by decide +kernel
theorem dX11_stored_77 : decode cX11_stored 77 = .ok (.getfield 50, 3) := by decide +kernel
theorem dX11_stored_80 : decode cX11_stored 80 = .ok (.getfield 256, 3) := by decide +kernel
theorem dX11_stored_83 : decode cX11_stored 83 = .ok (.iload_n 1, 1) := by decide +kernel
theorem dX11_stored_84 : decode cX11_stored 84 = .ok (.iaload, 1) := by decide +kernel
theorem dX11_stored_85 : decode cX11_stored 85 = .ok (.ireturn, 1) := by decide +kernel
theorem dX11_stored_86 : decode cX11_stored 86 = .ok (.aload_n 0, 1) := by decide +kernel
theorem dX11_stored_87 : decode cX11_stored 87 = .ok (.getfield 50, 3) := by decide +kernel
theorem dX11_stored_90 : decode cX11_stored 90 = .ok (.getfield 257, 3) := by decide +kernel
theorem dX11_stored_93 : decode cX11_stored 93 = .ok (.iload_n 1, 1) := by decide +kernel
theorem dX11_stored_94 : decode cX11_stored 94 = .ok (.iaload, 1) := by decide +kernel
theorem dX11_stored_95 : decode cX11_stored 95 = .ok (.ireturn, 1) := by decide +kernel
theorem dX11_stored_96 : decode cX11_stored 96 = .ok (.aload_n 0, 1) := by decide +kernel
theorem dX11_stored_97 : decode cX11_stored 97 = .ok (.getfield 59, 3) := by decide +kernel
theorem dX11_stored_100 : decode cX11_stored 100 = .ok (.iload_n 1, 1) := by decide +kernel
theorem dX11_stored_101 : decode cX11_stored 101 = .ok (.invokevirtual 260, 3) := by decide +kernel
theorem dX11_stored_104 : decode cX11_stored 104 = .ok (.ireturn, 1) := by decide +kernel
theorem dX11_stored_105 : decode cX11_stored 105 = .ok (.iconst (-1), 1) := by decide +kernel
theorem dX11_stored_106 : decode cX11_stored 106 = .ok (.ireturn, 1) := by decide +kernel
theorem dX11_age_0 : decode cX11_age 0 = .ok (.iconst 0, 1) := by decide +kernel
theorem dX11_age_1 : decode cX11_age 1 = .ok (.istore_n 1, 1) := by decide +kernel
theorem dX11_age_2 : decode cX11_age 2 = .ok (.iload_n 1, 1) := by decide +kernel
theorem dX11_age_3 : decode cX11_age 3 = .ok (.aload_n 0, 1) := by decide +kernel
theorem dX11_age_4 : decode cX11_age 4 = .ok (.getfield 50, 3) := by decide +kernel
theorem dX11_age_7 : decode cX11_age 7 = .ok (.getfield 251, 3) := by decide +kernel
theorem dX11_age_10 : decode cX11_age 10 = .ok (.if_icmp .ge 34, 3) := by decide +kernel
theorem dX11_age_13 : decode cX11_age 13 = .ok (.aload_n 0, 1) := by decide +kernel
theorem dX11_age_14 : decode cX11_age 14 = .ok (.getfield 50, 3) := by decide +kernel
theorem dX11_age_17 : decode cX11_age 17 = .ok (.getfield 257, 3) := by decide +kernel
theorem dX11_age_20 : decode cX11_age 20 = .ok (.iload_n 1, 1) := by decide +kernel
theorem dX11_age_21 : decode cX11_age 21 = .ok (.bipush 99, 2) := by decide +kernel
theorem dX11_age_23 : decode cX11_age 23 = .ok (.aload_n 0, 1) := by decide +kernel
theorem dX11_age_24 : decode cX11_age 24 = .ok (.getfield 50, 3) := by decide +kernel
theorem dX11_age_27 : decode cX11_age 27 = .ok (.getfield 257, 3) := by decide +kernel
theorem dX11_age_30 : decode cX11_age 30 = .ok (.iload_n 1, 1) := by decide +kernel
theorem dX11_age_31 : decode cX11_age 31 = .ok (.iaload, 1) := by decide +kernel
theorem dX11_age_32 : decode cX11_age 32 = .ok (.iconst 1, 1) := by decide +kernel
theorem dX11_age_33 : decode cX11_age 33 = .ok (.iadd, 1) := by decide +kernel
theorem dX11_age_34 : decode cX11_age 34 = .ok (.invokestatic 243, 3) := by decide +kernel
theorem dX11_age_37 : decode cX11_age 37 = .ok (.iastore, 1) := by decide +kernel
theorem dX11_age_38 : decode cX11_age 38 = .ok (.iinc 1 1, 3) := by decide +kernel
theorem dX11_age_41 : decode cX11_age 41 = .ok (.goto (-39), 3) := by decide +kernel
theorem dX11_age_44 : decode cX11_age 44 = .ok (.aload_n 0, 1) := by decide +kernel
theorem dX11_age_45 : decode cX11_age 45 = .ok (.getfield 50, 3) := by decide +kernel
theorem dX11_age_48 : decode cX11_age 48 = .ok (.getfield 251, 3) := by decide +kernel
theorem dX11_age_51 : decode cX11_age 51 = .ok (.ireturn, 1) := by decide +kernel
theorem dX11_order_0 : decode cX11_order 0 = .ok (.aload_n 0, 1) := by decide +kernel
theorem dX11_order_1 : decode cX11_order 1 = .ok (.getfield 26, 3) := by decide +kernel
theorem dX11_order_4 : decode cX11_order 4 = .ok (.iload_n 1, 1) := by decide +kernel
theorem dX11_order_5 : decode cX11_order 5 = .ok (.invokevirtual 155, 3) := by decide +kernel
theorem dX11_order_8 : decode cX11_order 8 = .ok (.ifCond .eq 24, 3) := by decide +kernel
theorem dX11_order_11 : decode cX11_order 11 = .ok (.iload_n 2, 1) := by decide +kernel
theorem dX11_order_12 : decode cX11_order 12 = .ok (.iconst 0, 1) := by decide +kernel
theorem dX11_order_13 : decode cX11_order 13 = .ok (.bipush 99, 2) := by decide +kernel
theorem dX11_order_15 : decode cX11_order 15 = .ok (.invokestatic 103, 3) := by decide +kernel
theorem dX11_order_18 : decode cX11_order 18 = .ok (.ifCond .eq 14, 3) := by decide +kernel
theorem dX11_order_21 : decode cX11_order 21 = .ok (.iload_n 3, 1) := by decide +kernel
theorem dX11_order_22 : decode cX11_order 22 = .ok (.iconst 1, 1) := by decide +kernel
theorem dX11_order_23 : decode cX11_order 23 = .ok (.sipush 1000, 3) := by decide +kernel
theorem dX11_order_26 : decode cX11_order 26 = .ok (.invokestatic 103, 3) := by decide +kernel
theorem dX11_order_29 : decode cX11_order 29 = .ok (.ifCond .ne 5, 3) := by decide +kernel
theorem dX11_order_32 : decode cX11_order 32 = .ok (.iconst (-1), 1) := by decide +kernel
theorem dX11_order_33 : decode cX11_order 33 = .ok (.ireturn, 1) := by decide +kernel
theorem dX11_order_34 : decode cX11_order 34 = .ok (.aload_n 0, 1) := by decide +kernel
theorem dX11_order_35 : decode cX11_order 35 = .ok (.getfield 59, 3) := by decide +kernel
theorem dX11_order_38 : decode cX11_order 38 = .ok (.getfield 263, 3) := by decide +kernel
theorem dX11_order_41 : decode cX11_order 41 = .ok (.bipush 8, 2) := by decide +kernel
theorem dX11_order_43 : decode cX11_order 43 = .ok (.if_icmp .lt 6, 3) := by decide +kernel
theorem dX11_order_46 : decode cX11_order 46 = .ok (.bipush (-3), 2) := by decide +kernel
theorem dX11_order_48 : decode cX11_order 48 = .ok (.ireturn, 1) := by decide +kernel
theorem dX11_order_49 : decode cX11_order 49 = .ok (.aload_n 0, 1) := by decide +kernel
theorem dX11_order_50 : decode cX11_order 50 = .ok (.getfield 59, 3) := by decide +kernel
theorem dX11_order_53 : decode cX11_order 53 = .ok (.iload_n 1, 1) := by decide +kernel
theorem dX11_order_54 : decode cX11_order 54 = .ok (.iload_n 2, 1) := by decide +kernel
theorem dX11_order_55 : decode cX11_order 55 = .ok (.iload_n 3, 1) := by decide +kernel
theorem dX11_order_56 : decode cX11_order 56 = .ok (.invokevirtual 264, 3) := by decide +kernel
theorem dX11_order_59 : decode cX11_order 59 = .ok (.ireturn, 1) := by decide +kernel
theorem dX11_filled_0 : decode cX11_filled 0 = .ok (.iload_n 1, 1) := by decide +kernel
theorem dX11_filled_1 : decode cX11_filled 1 = .ok (.bipush 10, 2) := by decide +kernel
theorem dX11_filled_3 : decode cX11_filled 3 = .ok (.bipush 9, 2) := by decide +kernel
theorem dX11_filled_5 : decode cX11_filled 5 = .ok (.aload_n 0, 1) := by decide +kernel
theorem dX11_filled_6 : decode cX11_filled 6 = .ok (.getfield 59, 3) := by decide +kernel
theorem dX11_filled_9 : decode cX11_filled 9 = .ok (.getfield 263, 3) := by decide +kernel
theorem dX11_filled_12 : decode cX11_filled 12 = .ok (.iadd, 1) := by decide +kernel
theorem dX11_filled_13 : decode cX11_filled 13 = .ok (.invokestatic 103, 3) := by decide +kernel
theorem dX11_filled_16 : decode cX11_filled 16 = .ok (.istore_n 2, 1) := by decide +kernel
theorem dX11_filled_17 : decode cX11_filled 17 = .ok (.iload_n 1, 1) := by decide +kernel
theorem dX11_filled_18 : decode cX11_filled 18 = .ok (.iconst 0, 1) := by decide +kernel
theorem dX11_filled_19 : decode cX11_filled 19 = .ok (.iconst 1, 1) := by decide +kernel
theorem dX11_filled_20 : decode cX11_filled 20 = .ok (.invokestatic 103, 3) := by decide +kernel
theorem dX11_filled_23 : decode cX11_filled 23 = .ok (.ifCond .ne 9, 3) := by decide +kernel
theorem dX11_filled_26 : decode cX11_filled 26 = .ok (.iload_n 2, 1) := by decide +kernel
theorem dX11_filled_27 : decode cX11_filled 27 = .ok (.ifCond .ne 5, 3) := by decide +kernel
theorem dX11_filled_30 : decode cX11_filled 30 = .ok (.iconst (-1), 1) := by decide +kernel
theorem dX11_filled_31 : decode cX11_filled 31 = .ok (.ireturn, 1) := by decide +kernel
theorem dX11_filled_32 : decode cX11_filled 32 = .ok (.aload_n 0, 1) := by decide +kernel
theorem dX11_filled_33 : decode cX11_filled 33 = .ok (.getfield 59, 3) := by decide +kernel
theorem dX11_filled_36 : decode cX11_filled 36 = .ok (.invokevirtual 267, 3) := by decide +kernel
theorem dX11_filled_39 : decode cX11_filled 39 = .ok (.istore_n 3, 1) := by decide +kernel
theorem dX11_filled_40 : decode cX11_filled 40 = .ok (.iload_n 2, 1) := by decide +kernel
theorem dX11_filled_41 : decode cX11_filled 41 = .ok (.ifCond .eq 16, 3) := by decide +kernel
theorem dX11_filled_44 : decode cX11_filled 44 = .ok (.aload_n 0, 1) := by decide +kernel
theorem dX11_filled_45 : decode cX11_filled 45 = .ok (.getfield 59, 3) := by decide +kernel
theorem dX11_filled_48 : decode cX11_filled 48 = .ok (.getfield 270, 3) := by decide +kernel
theorem dX11_filled_51 : decode cX11_filled 51 = .ok (.iload_n 1, 1) := by decide +kernel
theorem dX11_filled_52 : decode cX11_filled 52 = .ok (.bipush 10, 2) := by decide +kernel
theorem dX11_filled_54 : decode cX11_filled 54 = .ok (.isub, 1) := by decide +kernel
theorem dX11_filled_55 : decode cX11_filled 55 = .ok (.iaload, 1) := by decide +kernel
theorem dX11_filled_56 : decode cX11_filled 56 = .ok (.ireturn, 1) := by decide +kernel
theorem dX11_filled_57 : decode cX11_filled 57 = .ok (.iload_n 1, 1) := by decide +kernel
theorem dX11_filled_58 : decode cX11_filled 58 = .ok (.ifCond .ne 7, 3) := by decide +kernel
theorem dX11_filled_61 : decode cX11_filled 61 = .ok (.iload_n 3, 1) := by decide +kernel
theorem dX11_filled_62 : decode cX11_filled 62 = .ok (.goto 13, 3) := by decide +kernel
theorem dX11_filled_65 : decode cX11_filled 65 = .ok (.aload_n 0, 1) := by decide +kernel
theorem dX11_filled_66 : decode cX11_filled 66 = .ok (.getfield 59, 3) := by decide +kernel
theorem dX11_filled_69 : decode cX11_filled 69 = .ok (.invokevirtual 273, 3) := by decide +kernel
theorem dX11_filled_72 : decode cX11_filled 72 = .ok (.invokestatic 276, 3) := by decide +kernel
theorem dX11_filled_75 : decode cX11_filled 75 = .ok (.ireturn, 1) := by decide +kernel
theorem dX11_deliver_0 : decode cX11_deliver 0 = .ok (.aload_n 0, 1) := by decide +kernel
theorem dX11_deliver_1 : decode cX11_deliver 1 = .ok (.getfield 59, 3) := by decide +kernel
theorem dX11_deliver_4 : decode cX11_deliver 4 = .ok (.invokevirtual 267, 3) := by decide +kernel
theorem dX11_deliver_7 : decode cX11_deliver 7 = .ok (.istore_n 1, 1) := by decide +kernel
theorem dX11_deliver_8 : decode cX11_deliver 8 = .ok (.aload_n 0, 1) := by decide +kernel
theorem dX11_deliver_9 : decode cX11_deliver 9 = .ok (.getfield 50, 3) := by decide +kernel
theorem dX11_deliver_12 : decode cX11_deliver 12 = .ok (.aload_n 0, 1) := by decide +kernel
theorem dX11_deliver_13 : decode cX11_deliver 13 = .ok (.getfield 59, 3) := by decide +kernel
theorem dX11_deliver_16 : decode cX11_deliver 16 = .ok (.invokevirtual 273, 3) := by decide +kernel
theorem dX11_deliver_19 : decode cX11_deliver 19 = .ok (.invokevirtual 281, 3) := by decide +kernel
theorem dX11_deliver_22 : decode cX11_deliver 22 = .ok (.aload_n 0, 1) := by decide +kernel
theorem dX11_deliver_23 : decode cX11_deliver 23 = .ok (.getfield 59, 3) := by decide +kernel
theorem dX11_deliver_26 : decode cX11_deliver 26 = .ok (.invokevirtual 285, 3) := by decide +kernel
theorem dX11_deliver_29 : decode cX11_deliver 29 = .ok (.iload_n 1, 1) := by decide +kernel
theorem dX11_deliver_30 : decode cX11_deliver 30 = .ok (.ireturn, 1) := by decide +kernel
theorem dX11_gains_0 : decode cX11_gains 0 = .ok (.aload_n 0, 1) := by decide +kernel
theorem dX11_gains_1 : decode cX11_gains 1 = .ok (.getfield 26, 3) := by decide +kernel
theorem dX11_gains_4 : decode cX11_gains 4 = .ok (.iload_n 1, 1) := by decide +kernel
theorem dX11_gains_5 : decode cX11_gains 5 = .ok (.invokevirtual 155, 3) := by decide +kernel
theorem dX11_gains_8 : decode cX11_gains 8 = .ok (.ifCond .eq 14, 3) := by decide +kernel
theorem dX11_gains_11 : decode cX11_gains 11 = .ok (.iload_n 2, 1) := by decide +kernel
theorem dX11_gains_12 : decode cX11_gains 12 = .ok (.iconst 1, 1) := by decide +kernel
theorem dX11_gains_13 : decode cX11_gains 13 = .ok (.sipush 500, 3) := by decide +kernel
theorem dX11_gains_16 : decode cX11_gains 16 = .ok (.invokestatic 103, 3) := by decide +kernel
theorem dX11_gains_19 : decode cX11_gains 19 = .ok (.ifCond .ne 7, 3) := by decide +kernel
theorem dX11_gains_22 : decode cX11_gains 22 = .ok (.ldc_w 288, 3) := by decide +kernel
theorem dX11_gains_25 : decode cX11_gains 25 = .ok (.ireturn, 1) := by decide +kernel
theorem dX11_gains_26 : decode cX11_gains 26 = .ok (.aload_n 0, 1) := by decide +kernel
theorem dX11_gains_27 : decode cX11_gains 27 = .ok (.aload_n 0, 1) := by decide +kernel
theorem dX11_gains_28 : decode cX11_gains 28 = .ok (.getfield 10, 3) := by decide +kernel
theorem dX11_gains_31 : decode cX11_gains 31 = .ok (.getfield 122, 3) := by decide +kernel
theorem dX11_gains_34 : decode cX11_gains 34 = .ok (.invokevirtual 194, 3) := by decide +kernel
theorem dX11_gains_37 : decode cX11_gains 37 = .ok (.istore_n 3, 1) := by decide +kernel
theorem dX11_gains_38 : decode cX11_gains 38 = .ok (.aload_n 0, 1) := by decide +kernel
theorem dX11_gains_39 : decode cX11_gains 39 = .ok (.getfield 26, 3) := by decide +kernel
theorem dX11_gains_42 : decode cX11_gains 42 = .ok (.getfield 289, 3) := by decide +kernel
theorem dX11_gains_45 : decode cX11_gains 45 = .ok (.iload_n 1, 1) := by decide +kernel
theorem dX11_gains_46 : decode cX11_gains 46 = .ok (.iaload, 1) := by decide +kernel
theorem dX11_gains_47 : decode cX11_gains 47 = .ok (.istore 4, 2) := by decide +kernel
theorem dX11_gains_49 : decode cX11_gains 49 = .ok (.aload_n 0, 1) := by decide +kernel
theorem dX11_gains_50 : decode cX11_gains 50 = .ok (.getfield 26, 3) := by decide +kernel
theorem dX11_gains_53 : decode cX11_gains 53 = .ok (.getfield 289, 3) := by decide +kernel
theorem dX11_gains_56 : decode cX11_gains 56 = .ok (.iload_n 1, 1) := by decide +kernel
theorem dX11_gains_57 : decode cX11_gains 57 = .ok (.iload_n 2, 1) := by decide +kernel
theorem dX11_gains_58 : decode cX11_gains 58 = .ok (.iastore, 1) := by decide +kernel
theorem dX11_gains_59 : decode cX11_gains 59 = .ok (.aload_n 0, 1) := by decide +kernel
theorem dX11_gains_60 : decode cX11_gains 60 = .ok (.aload_n 0, 1) := by decide +kernel
theorem dX11_gains_61 : decode cX11_gains 61 = .ok (.getfield 10, 3) := by decide +kernel
theorem dX11_gains_64 : decode cX11_gains 64 = .ok (.getfield 122, 3) := by decide +kernel
theorem dX11_gains_67 : decode cX11_gains 67 = .ok (.invokevirtual 194, 3) := by decide +kernel
theorem dX11_gains_70 : decode cX11_gains 70 = .ok (.istore 5, 2) := by decide +kernel
theorem dX11_gains_72 : decode cX11_gains 72 = .ok (.aload_n 0, 1) := by decide +kernel
theorem dX11_gains_73 : decode cX11_gains 73 = .ok (.getfield 26, 3) := by decide +kernel
theorem dX11_gains_76 : decode cX11_gains 76 = .ok (.getfield 289, 3) := by decide +kernel
theorem dX11_gains_79 : decode cX11_gains 79 = .ok (.iload_n 1, 1) := by decide +kernel
theorem dX11_gains_80 : decode cX11_gains 80 = .ok (.iload 4, 2) := by decide +kernel
theorem dX11_gains_82 : decode cX11_gains 82 = .ok (.iastore, 1) := by decide +kernel
theorem dX11_gains_83 : decode cX11_gains 83 = .ok (.iload 5, 2) := by decide +kernel
theorem dX11_gains_85 : decode cX11_gains 85 = .ok (.iload_n 3, 1) := by decide +kernel
theorem dX11_gains_86 : decode cX11_gains 86 = .ok (.isub, 1) := by decide +kernel
theorem dX11_gains_87 : decode cX11_gains 87 = .ok (.ireturn, 1) := by decide +kernel
theorem dX11_pipe_0 : decode cX11_pipe 0 = .ok (.iload_n 1, 1) := by decide +kernel
theorem dX11_pipe_1 : decode cX11_pipe 1 = .ok (.iconst 0, 1) := by decide +kernel
theorem dX11_pipe_2 : decode cX11_pipe 2 = .ok (.iconst 5, 1) := by decide +kernel
theorem dX11_pipe_3 : decode cX11_pipe 3 = .ok (.invokestatic 103, 3) := by decide +kernel
theorem dX11_pipe_6 : decode cX11_pipe 6 = .ok (.ifCond .eq 38, 3) := by decide +kernel
theorem dX11_pipe_9 : decode cX11_pipe 9 = .ok (.iload 5, 2) := by decide +kernel
theorem dX11_pipe_11 : decode cX11_pipe 11 = .ok (.iconst 0, 1) := by decide +kernel
theorem dX11_pipe_12 : decode cX11_pipe 12 = .ok (.sipush 255, 3) := by decide +kernel
theorem dX11_pipe_15 : decode cX11_pipe 15 = .ok (.invokestatic 103, 3) := by decide +kernel
theorem dX11_pipe_18 : decode cX11_pipe 18 = .ok (.ifCond .eq 26, 3) := by decide +kernel
theorem dX11_pipe_21 : decode cX11_pipe 21 = .ok (.iload 6, 2) := by decide +kernel
theorem dX11_pipe_23 : decode cX11_pipe 23 = .ok (.bipush (-50), 2) := by decide +kernel
theorem dX11_pipe_25 : decode cX11_pipe 25 = .ok (.bipush 50, 2) := by decide +kernel
theorem dX11_pipe_27 : decode cX11_pipe 27 = .ok (.invokestatic 103, 3) := by decide +kernel
theorem dX11_pipe_30 : decode cX11_pipe 30 = .ok (.ifCond .eq 14, 3) := by decide +kernel
theorem dX11_pipe_33 : decode cX11_pipe 33 = .ok (.iload 7, 2) := by decide +kernel
theorem dX11_pipe_35 : decode cX11_pipe 35 = .ok (.iconst 0, 1) := by decide +kernel
theorem dX11_pipe_36 : decode cX11_pipe 36 = .ok (.bipush 7, 2) := by decide +kernel
theorem dX11_pipe_38 : decode cX11_pipe 38 = .ok (.invokestatic 103, 3) := by decide +kernel
theorem dX11_pipe_41 : decode cX11_pipe 41 = .ok (.ifCond .ne 5, 3) := by decide +kernel
theorem dX11_pipe_44 : decode cX11_pipe 44 = .ok (.iconst (-1), 1) := by decide +kernel
theorem dX11_pipe_45 : decode cX11_pipe 45 = .ok (.ireturn, 1) := by decide +kernel
theorem dX11_pipe_46 : decode cX11_pipe 46 = .ok (.iload_n 2, 1) := by decide +kernel
theorem dX11_pipe_47 : decode cX11_pipe 47 = .ok (.iconst 0, 1) := by decide +kernel
theorem dX11_pipe_48 : decode cX11_pipe 48 = .ok (.iconst 5, 1) := by decide +kernel
theorem dX11_pipe_49 : decode cX11_pipe 49 = .ok (.invokestatic 103, 3) := by decide +kernel
theorem dX11_pipe_52 : decode cX11_pipe 52 = .ok (.ifCond .eq 22, 3) := by decide +kernel
theorem dX11_pipe_55 : decode cX11_pipe 55 = .ok (.iload_n 3, 1) := by decide +kernel
theorem dX11_pipe_56 : decode cX11_pipe 56 = .ok (.iconst 0, 1) := by decide +kernel
theorem dX11_pipe_57 : decode cX11_pipe 57 = .ok (.iconst 5, 1) := by decide +kernel
theorem dX11_pipe_58 : decode cX11_pipe 58 = .ok (.invokestatic 103, 3) := by decide +kernel
theorem dX11_pipe_61 : decode cX11_pipe 61 = .ok (.ifCond .eq 13, 3) := by decide +kernel
theorem dX11_pipe_64 : decode cX11_pipe 64 = .ok (.iload 4, 2) := by decide +kernel
theorem dX11_pipe_66 : decode cX11_pipe 66 = .ok (.iconst 0, 1) := by decide +kernel
theorem dX11_pipe_67 : decode cX11_pipe 67 = .ok (.iconst 5, 1) := by decide +kernel
theorem dX11_pipe_68 : decode cX11_pipe 68 = .ok (.invokestatic 103, 3) := by decide +kernel
theorem dX11_pipe_71 : decode cX11_pipe 71 = .ok (.ifCond .ne 5, 3) := by decide +kernel
theorem dX11_pipe_74 : decode cX11_pipe 74 = .ok (.iconst (-1), 1) := by decide +kernel
theorem dX11_pipe_75 : decode cX11_pipe 75 = .ok (.ireturn, 1) := by decide +kernel
theorem dX11_pipe_76 : decode cX11_pipe 76 = .ok (.aload_n 0, 1) := by decide +kernel
theorem dX11_pipe_77 : decode cX11_pipe 77 = .ok (.getfield 66, 3) := by decide +kernel
theorem dX11_pipe_80 : decode cX11_pipe 80 = .ok (.getfield 292, 3) := by decide +kernel
theorem dX11_pipe_83 : decode cX11_pipe 83 = .ok (.bipush 12, 2) := by decide +kernel
theorem dX11_pipe_85 : decode cX11_pipe 85 = .ok (.if_icmp .lt 6, 3) := by decide +kernel
theorem dX11_pipe_88 : decode cX11_pipe 88 = .ok (.bipush (-3), 2) := by decide +kernel
theorem dX11_pipe_90 : decode cX11_pipe 90 = .ok (.ireturn, 1) := by decide +kernel
theorem dX11_pipe_91 : decode cX11_pipe 91 = .ok (.aload_n 0, 1) := by decide +kernel
theorem dX11_pipe_92 : decode cX11_pipe 92 = .ok (.getfield 66, 3) := by decide +kernel
theorem dX11_pipe_95 : decode cX11_pipe 95 = .ok (.iload_n 1, 1) := by decide +kernel
theorem dX11_pipe_96 : decode cX11_pipe 96 = .ok (.iload 5, 2) := by decide +kernel
theorem dX11_pipe_98 : decode cX11_pipe 98 = .ok (.iload 6, 2) := by decide +kernel
theorem dX11_pipe_100 : decode cX11_pipe 100 = .ok (.iload 7, 2) := by decide +kernel
theorem dX11_pipe_102 : decode cX11_pipe 102 = .ok (.invokevirtual 293, 3) := by decide +kernel
theorem dX11_pipe_105 : decode cX11_pipe 105 = .ok (.istore 8, 2) := by decide +kernel
theorem dX11_pipe_107 : decode cX11_pipe 107 = .ok (.aload_n 0, 1) := by decide +kernel
theorem dX11_pipe_108 : decode cX11_pipe 108 = .ok (.getfield 66, 3) := by decide +kernel
theorem dX11_pipe_111 : decode cX11_pipe 111 = .ok (.iload 8, 2) := by decide +kernel
theorem dX11_pipe_113 : decode cX11_pipe 113 = .ok (.iload_n 2, 1) := by decide +kernel
theorem dX11_pipe_114 : decode cX11_pipe 114 = .ok (.iload_n 3, 1) := by decide +kernel
theorem dX11_pipe_115 : decode cX11_pipe 115 = .ok (.iload 4, 2) := by decide +kernel
theorem dX11_pipe_117 : decode cX11_pipe 117 = .ok (.invokevirtual 294, 3) := by decide +kernel
theorem dX11_pipe_120 : decode cX11_pipe 120 = .ok (.iload 8, 2) := by decide +kernel
theorem dX11_pipe_122 : decode cX11_pipe 122 = .ok (.ireturn, 1) := by decide +kernel
theorem dX11_told_0 : decode cX11_told 0 = .ok (.aload_n 0, 1) := by decide +kernel
theorem dX11_told_1 : decode cX11_told 1 = .ok (.getfield 66, 3) := by decide +kernel
theorem dX11_told_4 : decode cX11_told 4 = .ok (.iload_n 1, 1) := by decide +kernel
theorem dX11_told_5 : decode cX11_told 5 = .ok (.invokevirtual 298, 3) := by decide +kernel
theorem dX11_told_8 : decode cX11_told 8 = .ok (.ifCond .ne 6, 3) := by decide +kernel
theorem dX11_told_11 : decode cX11_told 11 = .ok (.bipush (-100), 2) := by decide +kernel
theorem dX11_told_13 : decode cX11_told 13 = .ok (.ireturn, 1) := by decide +kernel
theorem dX11_told_14 : decode cX11_told 14 = .ok (.iload_n 2, 1) := by decide +kernel
theorem dX11_told_15 : decode cX11_told 15 = .ok (.tableswitch 157 0 7 #[45, 55, 65, 75, 85, 95, 105, 131], 45) := by decide +kernel
theorem dX11_told_60 : decode cX11_told 60 = .ok (.aload_n 0, 1) := by decide +kernel
theorem dX11_told_61 : decode cX11_told 61 = .ok (.getfield 66, 3) := by decide +kernel
theorem dX11_told_64 : decode cX11_told 64 = .ok (.getfield 299, 3) := by decide +kernel
theorem dX11_told_67 : decode cX11_told 67 = .ok (.iload_n 1, 1) := by decide +kernel
theorem dX11_told_68 : decode cX11_told 68 = .ok (.iaload, 1) := by decide +kernel
theorem dX11_told_69 : decode cX11_told 69 = .ok (.ireturn, 1) := by decide +kernel
theorem dX11_told_70 : decode cX11_told 70 = .ok (.aload_n 0, 1) := by decide +kernel
theorem dX11_told_71 : decode cX11_told 71 = .ok (.getfield 66, 3) := by decide +kernel
theorem dX11_told_74 : decode cX11_told 74 = .ok (.getfield 302, 3) := by decide +kernel
theorem dX11_told_77 : decode cX11_told 77 = .ok (.iload_n 1, 1) := by decide +kernel
theorem dX11_told_78 : decode cX11_told 78 = .ok (.iaload, 1) := by decide +kernel
theorem dX11_told_79 : decode cX11_told 79 = .ok (.ireturn, 1) := by decide +kernel
theorem dX11_told_80 : decode cX11_told 80 = .ok (.aload_n 0, 1) := by decide +kernel
theorem dX11_told_81 : decode cX11_told 81 = .ok (.getfield 66, 3) := by decide +kernel
theorem dX11_told_84 : decode cX11_told 84 = .ok (.getfield 305, 3) := by decide +kernel
theorem dX11_told_87 : decode cX11_told 87 = .ok (.iload_n 1, 1) := by decide +kernel
theorem dX11_told_88 : decode cX11_told 88 = .ok (.iaload, 1) := by decide +kernel
theorem dX11_told_89 : decode cX11_told 89 = .ok (.ireturn, 1) := by decide +kernel
theorem dX11_told_90 : decode cX11_told 90 = .ok (.aload_n 0, 1) := by decide +kernel
theorem dX11_told_91 : decode cX11_told 91 = .ok (.getfield 66, 3) := by decide +kernel
theorem dX11_told_94 : decode cX11_told 94 = .ok (.getfield 308, 3) := by decide +kernel
theorem dX11_told_97 : decode cX11_told 97 = .ok (.iload_n 1, 1) := by decide +kernel
theorem dX11_told_98 : decode cX11_told 98 = .ok (.iaload, 1) := by decide +kernel
theorem dX11_told_99 : decode cX11_told 99 = .ok (.ireturn, 1) := by decide +kernel
theorem dX11_told_100 : decode cX11_told 100 = .ok (.aload_n 0, 1) := by decide +kernel
theorem dX11_told_101 : decode cX11_told 101 = .ok (.getfield 66, 3) := by decide +kernel
theorem dX11_told_104 : decode cX11_told 104 = .ok (.getfield 311, 3) := by decide +kernel
theorem dX11_told_107 : decode cX11_told 107 = .ok (.iload_n 1, 1) := by decide +kernel
theorem dX11_told_108 : decode cX11_told 108 = .ok (.iaload, 1) := by decide +kernel
theorem dX11_told_109 : decode cX11_told 109 = .ok (.ireturn, 1) := by decide +kernel
theorem dX11_told_110 : decode cX11_told 110 = .ok (.aload_n 0, 1) := by decide +kernel
theorem dX11_told_111 : decode cX11_told 111 = .ok (.getfield 66, 3) := by decide +kernel
theorem dX11_told_114 : decode cX11_told 114 = .ok (.getfield 314, 3) := by decide +kernel
theorem dX11_told_117 : decode cX11_told 117 = .ok (.iload_n 1, 1) := by decide +kernel
theorem dX11_told_118 : decode cX11_told 118 = .ok (.iaload, 1) := by decide +kernel
theorem dX11_told_119 : decode cX11_told 119 = .ok (.ireturn, 1) := by decide +kernel
theorem dX11_told_120 : decode cX11_told 120 = .ok (.aload_n 0, 1) := by decide +kernel
theorem dX11_told_121 : decode cX11_told 121 = .ok (.getfield 89, 3) := by decide +kernel
theorem dX11_told_124 : decode cX11_told 124 = .ok (.aload_n 0, 1) := by decide +kernel
theorem dX11_told_125 : decode cX11_told 125 = .ok (.getfield 66, 3) := by decide +kernel
theorem dX11_told_128 : decode cX11_told 128 = .ok (.getfield 314, 3) := by decide +kernel
theorem dX11_told_131 : decode cX11_told 131 = .ok (.iload_n 1, 1) := by decide +kernel
theorem dX11_told_132 : decode cX11_told 132 = .ok (.iaload, 1) := by decide +kernel
theorem dX11_told_133 : decode cX11_told 133 = .ok (.aload_n 0, 1) := by decide +kernel
theorem dX11_told_134 : decode cX11_told 134 = .ok (.getfield 66, 3) := by decide +kernel
theorem dX11_told_137 : decode cX11_told 137 = .ok (.getfield 302, 3) := by decide +kernel
theorem dX11_told_140 : decode cX11_told 140 = .ok (.iload_n 1, 1) := by decide +kernel
theorem dX11_told_141 : decode cX11_told 141 = .ok (.iaload, 1) := by decide +kernel
theorem dX11_told_142 : decode cX11_told 142 = .ok (.invokevirtual 317, 3) := by decide +kernel
theorem dX11_told_145 : decode cX11_told 145 = .ok (.ireturn, 1) := by decide +kernel
theorem dX11_told_146 : decode cX11_told 146 = .ok (.aload_n 0, 1) := by decide +kernel
theorem dX11_told_147 : decode cX11_told 147 = .ok (.getfield 89, 3) := by decide +kernel
theorem dX11_told_150 : decode cX11_told 150 = .ok (.aload_n 0, 1) := by decide +kernel
theorem dX11_told_151 : decode cX11_told 151 = .ok (.getfield 66, 3) := by decide +kernel
theorem dX11_told_154 : decode cX11_told 154 = .ok (.getfield 314, 3) := by decide +kernel
theorem dX11_told_157 : decode cX11_told 157 = .ok (.iload_n 1, 1) := by decide +kernel
theorem dX11_told_158 : decode cX11_told 158 = .ok (.iaload, 1) := by decide +kernel
theorem dX11_told_159 : decode cX11_told 159 = .ok (.aload_n 0, 1) := by decide +kernel
theorem dX11_told_160 : decode cX11_told 160 = .ok (.getfield 66, 3) := by decide +kernel
theorem dX11_told_163 : decode cX11_told 163 = .ok (.getfield 302, 3) := by decide +kernel
theorem dX11_told_166 : decode cX11_told 166 = .ok (.iload_n 1, 1) := by decide +kernel
theorem dX11_told_167 : decode cX11_told 167 = .ok (.iaload, 1) := by decide +kernel
theorem dX11_told_168 : decode cX11_told 168 = .ok (.invokevirtual 320, 3) := by decide +kernel
theorem dX11_told_171 : decode cX11_told 171 = .ok (.ireturn, 1) := by decide +kernel
theorem dX11_told_172 : decode cX11_told 172 = .ok (.bipush (-100), 2) := by decide +kernel
theorem dX11_told_174 : decode cX11_told 174 = .ok (.ireturn, 1) := by decide +kernel
theorem dX11_feed_0 : decode cX11_feed 0 = .ok (.aload_n 0, 1) := by decide +kernel
theorem dX11_feed_1 : decode cX11_feed 1 = .ok (.getfield 73, 3) := by decide +kernel
theorem dX11_feed_4 : decode cX11_feed 4 = .ok (.getfield 323, 3) := by decide +kernel
theorem dX11_feed_7 : decode cX11_feed 7 = .ok (.bipush 8, 2) := by decide +kernel
theorem dX11_feed_9 : decode cX11_feed 9 = .ok (.iadd, 1) := by decide +kernel
theorem dX11_feed_10 : decode cX11_feed 10 = .ok (.sipush 200, 3) := by decide +kernel
theorem dX11_feed_13 : decode cX11_feed 13 = .ok (.if_icmp .le 6, 3) := by decide +kernel
theorem dX11_feed_16 : decode cX11_feed 16 = .ok (.bipush (-3), 2) := by decide +kernel
theorem dX11_feed_18 : decode cX11_feed 18 = .ok (.ireturn, 1) := by decide +kernel
theorem dX11_feed_19 : decode cX11_feed 19 = .ok (.aload_n 0, 1) := by decide +kernel
theorem dX11_feed_20 : decode cX11_feed 20 = .ok (.getfield 73, 3) := by decide +kernel
theorem dX11_feed_23 : decode cX11_feed 23 = .ok (.lload_n 1, 1) := by decide +kernel
theorem dX11_feed_24 : decode cX11_feed 24 = .ok (.invokevirtual 326, 3) := by decide +kernel
theorem dX11_feed_27 : decode cX11_feed 27 = .ok (.aload_n 0, 1) := by decide +kernel
theorem dX11_feed_28 : decode cX11_feed 28 = .ok (.getfield 73, 3) := by decide +kernel
theorem dX11_feed_31 : decode cX11_feed 31 = .ok (.getfield 323, 3) := by decide +kernel
theorem dX11_feed_34 : decode cX11_feed 34 = .ok (.ireturn, 1) := by decide +kernel
theorem dX11_end_0 : decode cX11_end 0 = .ok (.iload_n 1, 1) := by decide +kernel
theorem dX11_end_1 : decode cX11_end 1 = .ok (.iconst 0, 1) := by decide +kernel
theorem dX11_end_2 : decode cX11_end 2 = .ok (.aload_n 0, 1) := by decide +kernel
theorem dX11_end_3 : decode cX11_end 3 = .ok (.getfield 73, 3) := by decide +kernel
theorem dX11_end_6 : decode cX11_end 6 = .ok (.getfield 323, 3) := by decide +kernel
theorem dX11_end_9 : decode cX11_end 9 = .ok (.invokestatic 103, 3) := by decide +kernel
theorem dX11_end_12 : decode cX11_end 12 = .ok (.ifCond .ne 5, 3) := by decide +kernel
theorem dX11_end_15 : decode cX11_end 15 = .ok (.iconst (-1), 1) := by decide +kernel
theorem dX11_end_16 : decode cX11_end 16 = .ok (.ireturn, 1) := by decide +kernel
theorem dX11_end_17 : decode cX11_end 17 = .ok (.aload_n 0, 1) := by decide +kernel
theorem dX11_end_18 : decode cX11_end 18 = .ok (.getfield 73, 3) := by decide +kernel
theorem dX11_end_21 : decode cX11_end 21 = .ok (.getfield 323, 3) := by decide +kernel
theorem dX11_end_24 : decode cX11_end 24 = .ok (.istore_n 2, 1) := by decide +kernel
theorem dX11_end_25 : decode cX11_end 25 = .ok (.aload_n 0, 1) := by decide +kernel
theorem dX11_end_26 : decode cX11_end 26 = .ok (.getfield 73, 3) := by decide +kernel
theorem dX11_end_29 : decode cX11_end 29 = .ok (.iload_n 1, 1) := by decide +kernel
theorem dX11_end_30 : decode cX11_end 30 = .ok (.putfield 323, 3) := by decide +kernel
theorem dX11_end_33 : decode cX11_end 33 = .ok (.iload_n 2, 1) := by decide +kernel
theorem dX11_end_34 : decode cX11_end 34 = .ok (.ireturn, 1) := by decide +kernel
theorem dX11_laws_0 : decode cX11_laws 0 = .ok (.aload_n 0, 1) := by decide +kernel
theorem dX11_laws_1 : decode cX11_laws 1 = .ok (.getfield 82, 3) := by decide +kernel
theorem dX11_laws_4 : decode cX11_laws 4 = .ok (.aload_n 0, 1) := by decide +kernel
theorem dX11_laws_5 : decode cX11_laws 5 = .ok (.getfield 93, 3) := by decide +kernel
theorem dX11_laws_8 : decode cX11_laws 8 = .ok (.invokevirtual 329, 3) := by decide +kernel
theorem dX11_laws_11 : decode cX11_laws 11 = .ok (.aload_n 0, 1) := by decide +kernel
theorem dX11_laws_12 : decode cX11_laws 12 = .ok (.getfield 73, 3) := by decide +kernel
theorem dX11_laws_15 : decode cX11_laws 15 = .ok (.iconst 0, 1) := by decide +kernel
theorem dX11_laws_16 : decode cX11_laws 16 = .ok (.putfield 323, 3) := by decide +kernel
theorem dX11_laws_19 : decode cX11_laws 19 = .ok (.aload_n 0, 1) := by decide +kernel
theorem dX11_laws_20 : decode cX11_laws 20 = .ok (.getfield 82, 3) := by decide +kernel
theorem dX11_laws_23 : decode cX11_laws 23 = .ok (.getfield 333, 3) := by decide +kernel
theorem dX11_laws_26 : decode cX11_laws 26 = .ok (.ifCond .eq 14, 3) := by decide +kernel
theorem dX11_laws_29 : decode cX11_laws 29 = .ok (.bipush (-10), 2) := by decide +kernel
theorem dX11_laws_31 : decode cX11_laws 31 = .ok (.aload_n 0, 1) := by decide +kernel
theorem dX11_laws_32 : decode cX11_laws 32 = .ok (.getfield 82, 3) := by decide +kernel
theorem dX11_laws_35 : decode cX11_laws 35 = .ok (.getfield 336, 3) := by decide +kernel
theorem dX11_laws_38 : decode cX11_laws 38 = .ok (.isub, 1) := by decide +kernel
theorem dX11_laws_39 : decode cX11_laws 39 = .ok (.ireturn, 1) := by decide +kernel
theorem dX11_laws_40 : decode cX11_laws 40 = .ok (.aload_n 0, 1) := by decide +kernel
theorem dX11_laws_41 : decode cX11_laws 41 = .ok (.getfield 89, 3) := by decide +kernel
theorem dX11_laws_44 : decode cX11_laws 44 = .ok (.astore_n 1, 1) := by decide +kernel
theorem dX11_laws_45 : decode cX11_laws 45 = .ok (.aload_n 0, 1) := by decide +kernel
theorem dX11_laws_46 : decode cX11_laws 46 = .ok (.aload_n 0, 1) := by decide +kernel
theorem dX11_laws_47 : decode cX11_laws 47 = .ok (.getfield 93, 3) := by decide +kernel
theorem dX11_laws_50 : decode cX11_laws 50 = .ok (.putfield 89, 3) := by decide +kernel
theorem dX11_laws_53 : decode cX11_laws 53 = .ok (.aload_n 0, 1) := by decide +kernel
theorem dX11_laws_54 : decode cX11_laws 54 = .ok (.aload_n 1, 1) := by decide +kernel
theorem dX11_laws_55 : decode cX11_laws 55 = .ok (.putfield 93, 3) := by decide +kernel
theorem dX11_laws_58 : decode cX11_laws 58 = .ok (.aload_n 0, 1) := by decide +kernel
theorem dX11_laws_59 : decode cX11_laws 59 = .ok (.getfield 89, 3) := by decide +kernel
theorem dX11_laws_62 : decode cX11_laws 62 = .ok (.getfield 339, 3) := by decide +kernel
theorem dX11_laws_65 : decode cX11_laws 65 = .ok (.ireturn, 1) := by decide +kernel
theorem dX11_fault_0 : decode cX11_fault 0 = .ok (.aload_n 0, 1) := by decide +kernel
theorem dX11_fault_1 : decode cX11_fault 1 = .ok (.getfield 82, 3) := by decide +kernel
theorem dX11_fault_4 : decode cX11_fault 4 = .ok (.getfield 333, 3) := by decide +kernel
theorem dX11_fault_7 : decode cX11_fault 7 = .ok (.ireturn, 1) := by decide +kernel
theorem dX11_stamp_0 : decode cX11_stamp 0 = .ok (.iload_n 1, 1) := by decide +kernel
theorem dX11_stamp_1 : decode cX11_stamp 1 = .ok (.iconst 0, 1) := by decide +kernel
theorem dX11_stamp_2 : decode cX11_stamp 2 = .ok (.bipush 7, 2) := by decide +kernel
theorem dX11_stamp_4 : decode cX11_stamp 4 = .ok (.invokestatic 103, 3) := by decide +kernel
theorem dX11_stamp_7 : decode cX11_stamp 7 = .ok (.ifCond .ne 5, 3) := by decide +kernel
theorem dX11_stamp_10 : decode cX11_stamp 10 = .ok (.iconst (-1), 1) := by decide +kernel
theorem dX11_stamp_11 : decode cX11_stamp 11 = .ok (.ireturn, 1) := by decide +kernel
theorem dX11_stamp_12 : decode cX11_stamp 12 = .ok (.iload_n 2, 1) := by decide +kernel
theorem dX11_stamp_13 : decode cX11_stamp 13 = .ok (.tableswitch 57 0 2 #[27, 37, 47], 27) := by decide +kernel
theorem dX11_stamp_40 : decode cX11_stamp 40 = .ok (.aload_n 0, 1) := by decide +kernel
theorem dX11_stamp_41 : decode cX11_stamp 41 = .ok (.getfield 89, 3) := by decide +kernel
theorem dX11_stamp_44 : decode cX11_stamp 44 = .ok (.getfield 340, 3) := by decide +kernel
theorem dX11_stamp_47 : decode cX11_stamp 47 = .ok (.iload_n 1, 1) := by decide +kernel
theorem dX11_stamp_48 : decode cX11_stamp 48 = .ok (.iaload, 1) := by decide +kernel
theorem dX11_stamp_49 : decode cX11_stamp 49 = .ok (.ireturn, 1) := by decide +kernel
theorem dX11_stamp_50 : decode cX11_stamp 50 = .ok (.aload_n 0, 1) := by decide +kernel
theorem dX11_stamp_51 : decode cX11_stamp 51 = .ok (.getfield 89, 3) := by decide +kernel
theorem dX11_stamp_54 : decode cX11_stamp 54 = .ok (.getfield 343, 3) := by decide +kernel
theorem dX11_stamp_57 : decode cX11_stamp 57 = .ok (.iload_n 1, 1) := by decide +kernel
theorem dX11_stamp_58 : decode cX11_stamp 58 = .ok (.iaload, 1) := by decide +kernel
theorem dX11_stamp_59 : decode cX11_stamp 59 = .ok (.ireturn, 1) := by decide +kernel
theorem dX11_stamp_60 : decode cX11_stamp 60 = .ok (.aload_n 0, 1) := by decide +kernel
theorem dX11_stamp_61 : decode cX11_stamp 61 = .ok (.getfield 89, 3) := by decide +kernel
theorem dX11_stamp_64 : decode cX11_stamp 64 = .ok (.getfield 346, 3) := by decide +kernel
theorem dX11_stamp_67 : decode cX11_stamp 67 = .ok (.iload_n 1, 1) := by decide +kernel
theorem dX11_stamp_68 : decode cX11_stamp 68 = .ok (.iaload, 1) := by decide +kernel
theorem dX11_stamp_69 : decode cX11_stamp 69 = .ok (.ireturn, 1) := by decide +kernel
theorem dX11_stamp_70 : decode cX11_stamp 70 = .ok (.iconst (-1), 1) := by decide +kernel
theorem dX11_stamp_71 : decode cX11_stamp 71 = .ok (.ireturn, 1) := by decide +kernel
theorem dX11_name_0 : decode cX11_name 0 = .ok (.iload_n 1, 1) := by decide +kernel
theorem dX11_name_1 : decode cX11_name 1 = .ok (.iconst 0, 1) := by decide +kernel
theorem dX11_name_2 : decode cX11_name 2 = .ok (.bipush 7, 2) := by decide +kernel
theorem dX11_name_4 : decode cX11_name 4 = .ok (.invokestatic 103, 3) := by decide +kernel
theorem dX11_name_7 : decode cX11_name 7 = .ok (.ifCond .ne 5, 3) := by decide +kernel
theorem dX11_name_10 : decode cX11_name 10 = .ok (.iconst (-1), 1) := by decide +kernel
theorem dX11_name_11 : decode cX11_name 11 = .ok (.ireturn, 1) := by decide +kernel
theorem dX11_name_12 : decode cX11_name 12 = .ok (.iload_n 2, 1) := by decide +kernel
theorem dX11_name_13 : decode cX11_name 13 = .ok (.tableswitch 57 0 2 #[27, 37, 47], 27) := by decide +kernel
theorem dX11_name_40 : decode cX11_name 40 = .ok (.aload_n 0, 1) := by decide +kernel
theorem dX11_name_41 : decode cX11_name 41 = .ok (.getfield 89, 3) := by decide +kernel
theorem dX11_name_44 : decode cX11_name 44 = .ok (.getfield 349, 3) := by decide +kernel
theorem dX11_name_47 : decode cX11_name 47 = .ok (.iload_n 1, 1) := by decide +kernel
theorem dX11_name_48 : decode cX11_name 48 = .ok (.iaload, 1) := by decide +kernel
theorem dX11_name_49 : decode cX11_name 49 = .ok (.ireturn, 1) := by decide +kernel
theorem dX11_name_50 : decode cX11_name 50 = .ok (.aload_n 0, 1) := by decide +kernel
theorem dX11_name_51 : decode cX11_name 51 = .ok (.getfield 89, 3) := by decide +kernel
theorem dX11_name_54 : decode cX11_name 54 = .ok (.getfield 350, 3) := by decide +kernel
theorem dX11_name_57 : decode cX11_name 57 = .ok (.iload_n 1, 1) := by decide +kernel
theorem dX11_name_58 : decode cX11_name 58 = .ok (.iaload, 1) := by decide +kernel
theorem dX11_name_59 : decode cX11_name 59 = .ok (.ireturn, 1) := by decide +kernel
theorem dX11_name_60 : decode cX11_name 60 = .ok (.aload_n 0, 1) := by decide +kernel
theorem dX11_name_61 : decode cX11_name 61 = .ok (.getfield 89, 3) := by decide +kernel
theorem dX11_name_64 : decode cX11_name 64 = .ok (.iload_n 1, 1) := by decide +kernel
theorem dX11_name_65 : decode cX11_name 65 = .ok (.iconst (-1), 1) := by decide +kernel
theorem dX11_name_66 : decode cX11_name 66 = .ok (.invokevirtual 320, 3) := by decide +kernel
theorem dX11_name_69 : decode cX11_name 69 = .ok (.ireturn, 1) := by decide +kernel
theorem dX11_name_70 : decode cX11_name 70 = .ok (.iconst (-1), 1) := by decide +kernel
theorem dX11_name_71 : decode cX11_name 71 = .ok (.ireturn, 1) := by decide +kernel
theorem dX11_years_0 : decode cX11_years 0 = .ok (.aload_n 0, 1) := by decide +kernel
theorem dX11_years_1 : decode cX11_years 1 = .ok (.getfield 66, 3) := by decide +kernel
theorem dX11_years_4 : decode cX11_years 4 = .ok (.iload_n 1, 1) := by decide +kernel
theorem dX11_years_5 : decode cX11_years 5 = .ok (.invokevirtual 298, 3) := by decide +kernel
theorem dX11_years_8 : decode cX11_years 8 = .ok (.ifCond .eq 12, 3) := by decide +kernel
theorem dX11_years_11 : decode cX11_years 11 = .ok (.iload_n 2, 1) := by decide +kernel
theorem dX11_years_12 : decode cX11_years 12 = .ok (.iconst 0, 1) := by decide +kernel
theorem dX11_years_13 : decode cX11_years 13 = .ok (.iconst 2, 1) := by decide +kernel
theorem dX11_years_14 : decode cX11_years 14 = .ok (.invokestatic 103, 3) := by decide +kernel
theorem dX11_years_17 : decode cX11_years 17 = .ok (.ifCond .ne 5, 3) := by decide +kernel
theorem dX11_years_20 : decode cX11_years 20 = .ok (.iconst (-1), 1) := by decide +kernel
theorem dX11_years_21 : decode cX11_years 21 = .ok (.ireturn, 1) := by decide +kernel
theorem dX11_years_22 : decode cX11_years 22 = .ok (.aload_n 0, 1) := by decide +kernel
theorem dX11_years_23 : decode cX11_years 23 = .ok (.getfield 66, 3) := by decide +kernel
theorem dX11_years_26 : decode cX11_years 26 = .ok (.getfield 308, 3) := by decide +kernel
theorem dX11_years_29 : decode cX11_years 29 = .ok (.iload_n 1, 1) := by decide +kernel
theorem dX11_years_30 : decode cX11_years 30 = .ok (.iaload, 1) := by decide +kernel
theorem dX11_years_31 : decode cX11_years 31 = .ok (.istore_n 3, 1) := by decide +kernel
theorem dX11_years_32 : decode cX11_years 32 = .ok (.aload_n 0, 1) := by decide +kernel
theorem dX11_years_33 : decode cX11_years 33 = .ok (.getfield 89, 3) := by decide +kernel
theorem dX11_years_36 : decode cX11_years 36 = .ok (.iload_n 3, 1) := by decide +kernel
theorem dX11_years_37 : decode cX11_years 37 = .ok (.invokevirtual 353, 3) := by decide +kernel
theorem dX11_years_40 : decode cX11_years 40 = .ok (.istore 4, 2) := by decide +kernel
theorem dX11_years_42 : decode cX11_years 42 = .ok (.iload_n 2, 1) := by decide +kernel
theorem dX11_years_43 : decode cX11_years 43 = .ok (.ifCond .ne 6, 3) := by decide +kernel
theorem dX11_years_46 : decode cX11_years 46 = .ok (.iload 4, 2) := by decide +kernel
theorem dX11_years_48 : decode cX11_years 48 = .ok (.ireturn, 1) := by decide +kernel
theorem dX11_years_49 : decode cX11_years 49 = .ok (.iload 4, 2) := by decide +kernel
theorem dX11_years_51 : decode cX11_years 51 = .ok (.ifCond .ne 6, 3) := by decide +kernel
theorem dX11_years_54 : decode cX11_years 54 = .ok (.bipush (-4), 2) := by decide +kernel
theorem dX11_years_56 : decode cX11_years 56 = .ok (.ireturn, 1) := by decide +kernel
theorem dX11_years_57 : decode cX11_years 57 = .ok (.iload_n 2, 1) := by decide +kernel
theorem dX11_years_58 : decode cX11_years 58 = .ok (.iconst 1, 1) := by decide +kernel
theorem dX11_years_59 : decode cX11_years 59 = .ok (.if_icmp .ne 14, 3) := by decide +kernel
theorem dX11_years_62 : decode cX11_years 62 = .ok (.aload_n 0, 1) := by decide +kernel
theorem dX11_years_63 : decode cX11_years 63 = .ok (.getfield 89, 3) := by decide +kernel
theorem dX11_years_66 : decode cX11_years 66 = .ok (.iload_n 3, 1) := by decide +kernel
theorem dX11_years_67 : decode cX11_years 67 = .ok (.invokevirtual 356, 3) := by decide +kernel
theorem dX11_years_70 : decode cX11_years 70 = .ok (.goto 11, 3) := by decide +kernel
theorem dX11_years_73 : decode cX11_years 73 = .ok (.aload_n 0, 1) := by decide +kernel
theorem dX11_years_74 : decode cX11_years 74 = .ok (.getfield 89, 3) := by decide +kernel
theorem dX11_years_77 : decode cX11_years 77 = .ok (.iload_n 3, 1) := by decide +kernel
theorem dX11_years_78 : decode cX11_years 78 = .ok (.invokevirtual 359, 3) := by decide +kernel
theorem dX11_years_81 : decode cX11_years 81 = .ok (.ireturn, 1) := by decide +kernel
theorem dX11_dated_0 : decode cX11_dated 0 = .ok (.iload_n 1, 1) := by decide +kernel
theorem dX11_dated_1 : decode cX11_dated 1 = .ok (.sipush 1800, 3) := by decide +kernel
theorem dX11_dated_4 : decode cX11_dated 4 = .ok (.sipush 2000, 3) := by decide +kernel
theorem dX11_dated_7 : decode cX11_dated 7 = .ok (.invokestatic 103, 3) := by decide +kernel
theorem dX11_dated_10 : decode cX11_dated 10 = .ok (.ifCond .ne 5, 3) := by decide +kernel
theorem dX11_dated_13 : decode cX11_dated 13 = .ok (.iconst (-1), 1) := by decide +kernel
theorem dX11_dated_14 : decode cX11_dated 14 = .ok (.ireturn, 1) := by decide +kernel
theorem dX11_dated_15 : decode cX11_dated 15 = .ok (.iconst 0, 1) := by decide +kernel
theorem dX11_dated_16 : decode cX11_dated 16 = .ok (.istore_n 2, 1) := by decide +kernel
theorem dX11_dated_17 : decode cX11_dated 17 = .ok (.iconst 0, 1) := by decide +kernel
theorem dX11_dated_18 : decode cX11_dated 18 = .ok (.istore_n 3, 1) := by decide +kernel
theorem dX11_dated_19 : decode cX11_dated 19 = .ok (.iload_n 3, 1) := by decide +kernel
theorem dX11_dated_20 : decode cX11_dated 20 = .ok (.aload_n 0, 1) := by decide +kernel
theorem dX11_dated_21 : decode cX11_dated 21 = .ok (.getfield 66, 3) := by decide +kernel
theorem dX11_dated_24 : decode cX11_dated 24 = .ok (.getfield 292, 3) := by decide +kernel
theorem dX11_dated_27 : decode cX11_dated 27 = .ok (.if_icmp .ge 32, 3) := by decide +kernel
theorem dX11_dated_30 : decode cX11_dated 30 = .ok (.aload_n 0, 1) := by decide +kernel
theorem dX11_dated_31 : decode cX11_dated 31 = .ok (.getfield 89, 3) := by decide +kernel
theorem dX11_dated_34 : decode cX11_dated 34 = .ok (.aload_n 0, 1) := by decide +kernel
theorem dX11_dated_35 : decode cX11_dated 35 = .ok (.getfield 66, 3) := by decide +kernel
theorem dX11_dated_38 : decode cX11_dated 38 = .ok (.getfield 308, 3) := by decide +kernel
theorem dX11_dated_41 : decode cX11_dated 41 = .ok (.iload_n 3, 1) := by decide +kernel
theorem dX11_dated_42 : decode cX11_dated 42 = .ok (.iaload, 1) := by decide +kernel
theorem dX11_dated_43 : decode cX11_dated 43 = .ok (.iload_n 1, 1) := by decide +kernel
theorem dX11_dated_44 : decode cX11_dated 44 = .ok (.invokevirtual 362, 3) := by decide +kernel
theorem dX11_dated_47 : decode cX11_dated 47 = .ok (.ifCond .eq 6, 3) := by decide +kernel
theorem dX11_dated_50 : decode cX11_dated 50 = .ok (.iinc 2 1, 3) := by decide +kernel
theorem dX11_dated_53 : decode cX11_dated 53 = .ok (.iinc 3 1, 3) := by decide +kernel
theorem dX11_dated_56 : decode cX11_dated 56 = .ok (.goto (-37), 3) := by decide +kernel
theorem dX11_dated_59 : decode cX11_dated 59 = .ok (.iload_n 2, 1) := by decide +kernel
theorem dX11_dated_60 : decode cX11_dated 60 = .ok (.ireturn, 1) := by decide +kernel
theorem dX11_lot_0 : decode cX11_lot 0 = .ok (.iload_n 1, 1) := by decide +kernel
theorem dX11_lot_1 : decode cX11_lot 1 = .ok (.iconst 0, 1) := by decide +kernel
theorem dX11_lot_2 : decode cX11_lot 2 = .ok (.iconst 5, 1) := by decide +kernel
theorem dX11_lot_3 : decode cX11_lot 3 = .ok (.invokestatic 103, 3) := by decide +kernel
theorem dX11_lot_6 : decode cX11_lot 6 = .ok (.ifCond .ne 7, 3) := by decide +kernel
theorem dX11_lot_9 : decode cX11_lot 9 = .ok (.sipush (-10000), 3) := by decide +kernel
theorem dX11_lot_12 : decode cX11_lot 12 = .ok (.ireturn, 1) := by decide +kernel
theorem dX11_lot_13 : decode cX11_lot 13 = .ok (.iload_n 2, 1) := by decide +kernel
theorem dX11_lot_14 : decode cX11_lot 14 = .ok (.tableswitch 128 0 5 #[38, 47, 63, 79, 95, 119], 38) := by decide +kernel
theorem dX11_lot_52 : decode cX11_lot 52 = .ok (.aload_n 0, 1) := by decide +kernel
theorem dX11_lot_53 : decode cX11_lot 53 = .ok (.getfield 66, 3) := by decide +kernel
theorem dX11_lot_56 : decode cX11_lot 56 = .ok (.iload_n 1, 1) := by decide +kernel
theorem dX11_lot_57 : decode cX11_lot 57 = .ok (.invokevirtual 365, 3) := by decide +kernel
theorem dX11_lot_60 : decode cX11_lot 60 = .ok (.ireturn, 1) := by decide +kernel
theorem dX11_lot_61 : decode cX11_lot 61 = .ok (.aload_n 0, 1) := by decide +kernel
theorem dX11_lot_62 : decode cX11_lot 62 = .ok (.getfield 66, 3) := by decide +kernel
theorem dX11_lot_65 : decode cX11_lot 65 = .ok (.aload_n 0, 1) := by decide +kernel
theorem dX11_lot_66 : decode cX11_lot 66 = .ok (.getfield 66, 3) := by decide +kernel
theorem dX11_lot_69 : decode cX11_lot 69 = .ok (.getfield 311, 3) := by decide +kernel
theorem dX11_lot_72 : decode cX11_lot 72 = .ok (.iload_n 1, 1) := by decide +kernel
theorem dX11_lot_73 : decode cX11_lot 73 = .ok (.invokevirtual 368, 3) := by decide +kernel
theorem dX11_lot_76 : decode cX11_lot 76 = .ok (.ireturn, 1) := by decide +kernel
theorem dX11_lot_77 : decode cX11_lot 77 = .ok (.aload_n 0, 1) := by decide +kernel
theorem dX11_lot_78 : decode cX11_lot 78 = .ok (.getfield 66, 3) := by decide +kernel
theorem dX11_lot_81 : decode cX11_lot 81 = .ok (.aload_n 0, 1) := by decide +kernel
theorem dX11_lot_82 : decode cX11_lot 82 = .ok (.getfield 66, 3) := by decide +kernel
theorem dX11_lot_85 : decode cX11_lot 85 = .ok (.getfield 302, 3) := by decide +kernel
theorem dX11_lot_88 : decode cX11_lot 88 = .ok (.iload_n 1, 1) := by decide +kernel
theorem dX11_lot_89 : decode cX11_lot 89 = .ok (.invokevirtual 368, 3) := by decide +kernel
theorem dX11_lot_92 : decode cX11_lot 92 = .ok (.ireturn, 1) := by decide +kernel
theorem dX11_lot_93 : decode cX11_lot 93 = .ok (.aload_n 0, 1) := by decide +kernel
theorem dX11_lot_94 : decode cX11_lot 94 = .ok (.getfield 66, 3) := by decide +kernel
theorem dX11_lot_97 : decode cX11_lot 97 = .ok (.aload_n 0, 1) := by decide +kernel
theorem dX11_lot_98 : decode cX11_lot 98 = .ok (.getfield 66, 3) := by decide +kernel
theorem dX11_lot_101 : decode cX11_lot 101 = .ok (.getfield 305, 3) := by decide +kernel
theorem dX11_lot_104 : decode cX11_lot 104 = .ok (.iload_n 1, 1) := by decide +kernel
theorem dX11_lot_105 : decode cX11_lot 105 = .ok (.invokevirtual 368, 3) := by decide +kernel
theorem dX11_lot_108 : decode cX11_lot 108 = .ok (.ireturn, 1) := by decide +kernel
theorem dX11_lot_109 : decode cX11_lot 109 = .ok (.aload_n 0, 1) := by decide +kernel
theorem dX11_lot_110 : decode cX11_lot 110 = .ok (.getfield 66, 3) := by decide +kernel
theorem dX11_lot_113 : decode cX11_lot 113 = .ok (.iload_n 1, 1) := by decide +kernel
theorem dX11_lot_114 : decode cX11_lot 114 = .ok (.aload_n 0, 1) := by decide +kernel
theorem dX11_lot_115 : decode cX11_lot 115 = .ok (.getfield 89, 3) := by decide +kernel
theorem dX11_lot_118 : decode cX11_lot 118 = .ok (.getfield 372, 3) := by decide +kernel
theorem dX11_lot_121 : decode cX11_lot 121 = .ok (.invokevirtual 375, 3) := by decide +kernel
theorem dX11_lot_124 : decode cX11_lot 124 = .ok (.ifCond .eq 7, 3) := by decide +kernel
theorem dX11_lot_127 : decode cX11_lot 127 = .ok (.iconst 1, 1) := by decide +kernel
theorem dX11_lot_128 : decode cX11_lot 128 = .ok (.goto 4, 3) := by decide +kernel
theorem dX11_lot_131 : decode cX11_lot 131 = .ok (.iconst 0, 1) := by decide +kernel
theorem dX11_lot_132 : decode cX11_lot 132 = .ok (.ireturn, 1) := by decide +kernel
theorem dX11_lot_133 : decode cX11_lot 133 = .ok (.aload_n 0, 1) := by decide +kernel
theorem dX11_lot_134 : decode cX11_lot 134 = .ok (.getfield 66, 3) := by decide +kernel
theorem dX11_lot_137 : decode cX11_lot 137 = .ok (.iload_n 1, 1) := by decide +kernel
theorem dX11_lot_138 : decode cX11_lot 138 = .ok (.invokevirtual 378, 3) := by decide +kernel
theorem dX11_lot_141 : decode cX11_lot 141 = .ok (.ireturn, 1) := by decide +kernel
theorem dX11_lot_142 : decode cX11_lot 142 = .ok (.sipush (-10000), 3) := by decide +kernel
theorem dX11_lot_145 : decode cX11_lot 145 = .ok (.ireturn, 1) := by decide +kernel
theorem dX11_worst_0 : decode cX11_worst 0 = .ok (.bipush (-4), 2) := by decide +kernel
theorem dX11_worst_2 : decode cX11_worst 2 = .ok (.istore_n 1, 1) := by decide +kernel
theorem dX11_worst_3 : decode cX11_worst 3 = .ok (.iconst 0, 1) := by decide +kernel
theorem dX11_worst_4 : decode cX11_worst 4 = .ok (.istore_n 2, 1) := by decide +kernel
theorem dX11_worst_5 : decode cX11_worst 5 = .ok (.iload_n 2, 1) := by decide +kernel
theorem dX11_worst_6 : decode cX11_worst 6 = .ok (.bipush 6, 2) := by decide +kernel
theorem dX11_worst_8 : decode cX11_worst 8 = .ok (.if_icmp .ge 47, 3) := by decide +kernel
theorem dX11_worst_11 : decode cX11_worst 11 = .ok (.aload_n 0, 1) := by decide +kernel
theorem dX11_worst_12 : decode cX11_worst 12 = .ok (.getfield 66, 3) := by decide +kernel
theorem dX11_worst_15 : decode cX11_worst 15 = .ok (.iload_n 2, 1) := by decide +kernel
theorem dX11_worst_16 : decode cX11_worst 16 = .ok (.aload_n 0, 1) := by decide +kernel
theorem dX11_worst_17 : decode cX11_worst 17 = .ok (.getfield 89, 3) := by decide +kernel
theorem dX11_worst_20 : decode cX11_worst 20 = .ok (.getfield 372, 3) := by decide +kernel
theorem dX11_worst_23 : decode cX11_worst 23 = .ok (.invokevirtual 375, 3) := by decide +kernel
theorem dX11_worst_26 : decode cX11_worst 26 = .ok (.ifCond .eq 23, 3) := by decide +kernel
theorem dX11_worst_29 : decode cX11_worst 29 = .ok (.iload_n 1, 1) := by decide +kernel
theorem dX11_worst_30 : decode cX11_worst 30 = .ok (.bipush (-4), 2) := by decide +kernel
theorem dX11_worst_32 : decode cX11_worst 32 = .ok (.if_icmp .eq 15, 3) := by decide +kernel
theorem dX11_worst_35 : decode cX11_worst 35 = .ok (.aload_n 0, 1) := by decide +kernel
theorem dX11_worst_36 : decode cX11_worst 36 = .ok (.getfield 66, 3) := by decide +kernel
theorem dX11_worst_39 : decode cX11_worst 39 = .ok (.iload_n 2, 1) := by decide +kernel
theorem dX11_worst_40 : decode cX11_worst 40 = .ok (.iload_n 1, 1) := by decide +kernel
theorem dX11_worst_41 : decode cX11_worst 41 = .ok (.invokevirtual 381, 3) := by decide +kernel
theorem dX11_worst_44 : decode cX11_worst 44 = .ok (.ifCond .eq 5, 3) := by decide +kernel
theorem dX11_worst_47 : decode cX11_worst 47 = .ok (.iload_n 2, 1) := by decide +kernel
theorem dX11_worst_48 : decode cX11_worst 48 = .ok (.istore_n 1, 1) := by decide +kernel
theorem dX11_worst_49 : decode cX11_worst 49 = .ok (.iinc 2 1, 3) := by decide +kernel
theorem dX11_worst_52 : decode cX11_worst 52 = .ok (.goto (-47), 3) := by decide +kernel
theorem dX11_worst_55 : decode cX11_worst 55 = .ok (.iload_n 1, 1) := by decide +kernel
theorem dX11_worst_56 : decode cX11_worst 56 = .ok (.ireturn, 1) := by decide +kernel
theorem dX11_sheet_0 : decode cX11_sheet 0 = .ok (.iload_n 1, 1) := by decide +kernel
theorem dX11_sheet_1 : decode cX11_sheet 1 = .ok (.iconst 0, 1) := by decide +kernel
theorem dX11_sheet_2 : decode cX11_sheet 2 = .ok (.iconst 3, 1) := by decide +kernel
theorem dX11_sheet_3 : decode cX11_sheet 3 = .ok (.invokestatic 103, 3) := by decide +kernel
theorem dX11_sheet_6 : decode cX11_sheet 6 = .ok (.ifCond .eq 18, 3) := by decide +kernel
theorem dX11_sheet_9 : decode cX11_sheet 9 = .ok (.iload_n 2, 1) := by decide +kernel
theorem dX11_sheet_10 : decode cX11_sheet 10 = .ok (.iconst 0, 1) := by decide +kernel
theorem dX11_sheet_11 : decode cX11_sheet 11 = .ok (.iconst 2, 1) := by decide +kernel
theorem dX11_sheet_12 : decode cX11_sheet 12 = .ok (.invokestatic 103, 3) := by decide +kernel
theorem dX11_sheet_15 : decode cX11_sheet 15 = .ok (.ifCond .eq 9, 3) := by decide +kernel
theorem dX11_sheet_18 : decode cX11_sheet 18 = .ok (.iload_n 3, 1) := by decide +kernel
theorem dX11_sheet_19 : decode cX11_sheet 19 = .ok (.bipush 64, 2) := by decide +kernel
theorem dX11_sheet_21 : decode cX11_sheet 21 = .ok (.if_icmp .le 5, 3) := by decide +kernel
theorem dX11_sheet_24 : decode cX11_sheet 24 = .ok (.iconst (-1), 1) := by decide +kernel
theorem dX11_sheet_25 : decode cX11_sheet 25 = .ok (.ireturn, 1) := by decide +kernel
theorem dX11_sheet_26 : decode cX11_sheet 26 = .ok (.iload_n 3, 1) := by decide +kernel
theorem dX11_sheet_27 : decode cX11_sheet 27 = .ok (.ifCond .ge 6, 3) := by decide +kernel
theorem dX11_sheet_30 : decode cX11_sheet 30 = .ok (.bipush (-14), 2) := by decide +kernel
theorem dX11_sheet_32 : decode cX11_sheet 32 = .ok (.ireturn, 1) := by decide +kernel
theorem dX11_sheet_33 : decode cX11_sheet 33 = .ok (.aload_n 0, 1) := by decide +kernel
theorem dX11_sheet_34 : decode cX11_sheet 34 = .ok (.getfield 98, 3) := by decide +kernel
theorem dX11_sheet_37 : decode cX11_sheet 37 = .ok (.iload_n 1, 1) := by decide +kernel
theorem dX11_sheet_38 : decode cX11_sheet 38 = .ok (.aaload, 1) := by decide +kernel
theorem dX11_sheet_39 : decode cX11_sheet 39 = .ok (.iload_n 2, 1) := by decide +kernel
theorem dX11_sheet_40 : decode cX11_sheet 40 = .ok (.iload_n 3, 1) := by decide +kernel
theorem dX11_sheet_41 : decode cX11_sheet 41 = .ok (.invokevirtual 384, 3) := by decide +kernel
theorem dX11_sheet_44 : decode cX11_sheet 44 = .ok (.iconst 1, 1) := by decide +kernel
theorem dX11_sheet_45 : decode cX11_sheet 45 = .ok (.ireturn, 1) := by decide +kernel
theorem dX11_lay_0 : decode cX11_lay 0 = .ok (.iload_n 1, 1) := by decide +kernel
theorem dX11_lay_1 : decode cX11_lay 1 = .ok (.iconst 0, 1) := by decide +kernel
theorem dX11_lay_2 : decode cX11_lay 2 = .ok (.iconst 3, 1) := by decide +kernel
theorem dX11_lay_3 : decode cX11_lay 3 = .ok (.invokestatic 103, 3) := by decide +kernel
theorem dX11_lay_6 : decode cX11_lay 6 = .ok (.ifCond .ne 5, 3) := by decide +kernel
theorem dX11_lay_9 : decode cX11_lay 9 = .ok (.iconst (-1), 1) := by decide +kernel
theorem dX11_lay_10 : decode cX11_lay 10 = .ok (.ireturn, 1) := by decide +kernel
theorem dX11_lay_11 : decode cX11_lay 11 = .ok (.aload_n 0, 1) := by decide +kernel
theorem dX11_lay_12 : decode cX11_lay 12 = .ok (.getfield 98, 3) := by decide +kernel
theorem dX11_lay_15 : decode cX11_lay 15 = .ok (.iload_n 1, 1) := by decide +kernel
theorem dX11_lay_16 : decode cX11_lay 16 = .ok (.aaload, 1) := by decide +kernel
theorem dX11_lay_17 : decode cX11_lay 17 = .ok (.astore 4, 2) := by decide +kernel
theorem dX11_lay_19 : decode cX11_lay 19 = .ok (.aload 4, 2) := by decide +kernel
theorem dX11_lay_21 : decode cX11_lay 21 = .ok (.invokevirtual 385, 3) := by decide +kernel
theorem dX11_lay_24 : decode cX11_lay 24 = .ok (.ifCond .eq 6, 3) := by decide +kernel
theorem dX11_lay_27 : decode cX11_lay 27 = .ok (.bipush (-11), 2) := by decide +kernel
theorem dX11_lay_29 : decode cX11_lay 29 = .ok (.ireturn, 1) := by decide +kernel
theorem dX11_lay_30 : decode cX11_lay 30 = .ok (.aload 4, 2) := by decide +kernel
theorem dX11_lay_32 : decode cX11_lay 32 = .ok (.iload_n 2, 1) := by decide +kernel
theorem dX11_lay_33 : decode cX11_lay 33 = .ok (.invokevirtual 389, 3) := by decide +kernel
theorem dX11_lay_36 : decode cX11_lay 36 = .ok (.ifCond .ne 6, 3) := by decide +kernel
theorem dX11_lay_39 : decode cX11_lay 39 = .ok (.bipush (-12), 2) := by decide +kernel
theorem dX11_lay_41 : decode cX11_lay 41 = .ok (.ireturn, 1) := by decide +kernel
theorem dX11_lay_42 : decode cX11_lay 42 = .ok (.aload 4, 2) := by decide +kernel
theorem dX11_lay_44 : decode cX11_lay 44 = .ok (.iload_n 2, 1) := by decide +kernel
theorem dX11_lay_45 : decode cX11_lay 45 = .ok (.iload_n 3, 1) := by decide +kernel
theorem dX11_lay_46 : decode cX11_lay 46 = .ok (.invokevirtual 390, 3) := by decide +kernel
theorem dX11_lay_49 : decode cX11_lay 49 = .ok (.iconst 1, 1) := by decide +kernel
theorem dX11_lay_50 : decode cX11_lay 50 = .ok (.ireturn, 1) := by decide +kernel
theorem dX11_draw_0 : decode cX11_draw 0 = .ok (.iload_n 1, 1) := by decide +kernel
theorem dX11_draw_1 : decode cX11_draw 1 = .ok (.iconst 0, 1) := by decide +kernel
theorem dX11_draw_2 : decode cX11_draw 2 = .ok (.iconst 3, 1) := by decide +kernel
theorem dX11_draw_3 : decode cX11_draw 3 = .ok (.invokestatic 103, 3) := by decide +kernel
theorem dX11_draw_6 : decode cX11_draw 6 = .ok (.ifCond .eq 12, 3) := by decide +kernel
theorem dX11_draw_9 : decode cX11_draw 9 = .ok (.iload_n 2, 1) := by decide +kernel
theorem dX11_draw_10 : decode cX11_draw 10 = .ok (.iconst 0, 1) := by decide +kernel
theorem dX11_draw_11 : decode cX11_draw 11 = .ok (.iconst 2, 1) := by decide +kernel
theorem dX11_draw_12 : decode cX11_draw 12 = .ok (.invokestatic 103, 3) := by decide +kernel
theorem dX11_draw_15 : decode cX11_draw 15 = .ok (.ifCond .ne 5, 3) := by decide +kernel
theorem dX11_draw_18 : decode cX11_draw 18 = .ok (.iconst (-1), 1) := by decide +kernel
theorem dX11_draw_19 : decode cX11_draw 19 = .ok (.ireturn, 1) := by decide +kernel
theorem dX11_draw_20 : decode cX11_draw 20 = .ok (.aload_n 0, 1) := by decide +kernel
theorem dX11_draw_21 : decode cX11_draw 21 = .ok (.getfield 98, 3) := by decide +kernel
theorem dX11_draw_24 : decode cX11_draw 24 = .ok (.iload_n 1, 1) := by decide +kernel
theorem dX11_draw_25 : decode cX11_draw 25 = .ok (.aaload, 1) := by decide +kernel
theorem dX11_draw_26 : decode cX11_draw 26 = .ok (.astore 4, 2) := by decide +kernel
theorem dX11_draw_28 : decode cX11_draw 28 = .ok (.aload 4, 2) := by decide +kernel
theorem dX11_draw_30 : decode cX11_draw 30 = .ok (.invokevirtual 385, 3) := by decide +kernel
theorem dX11_draw_33 : decode cX11_draw 33 = .ok (.ifCond .eq 6, 3) := by decide +kernel
theorem dX11_draw_36 : decode cX11_draw 36 = .ok (.bipush (-11), 2) := by decide +kernel
theorem dX11_draw_38 : decode cX11_draw 38 = .ok (.ireturn, 1) := by decide +kernel
theorem dX11_draw_39 : decode cX11_draw 39 = .ok (.aload 4, 2) := by decide +kernel
theorem dX11_draw_41 : decode cX11_draw 41 = .ok (.getfield 393, 3) := by decide +kernel
theorem dX11_draw_44 : decode cX11_draw 44 = .ok (.iload_n 2, 1) := by decide +kernel
theorem dX11_draw_45 : decode cX11_draw 45 = .ok (.if_icmp .eq 6, 3) := by decide +kernel
theorem dX11_draw_48 : decode cX11_draw 48 = .ok (.bipush (-13), 2) := by decide +kernel
theorem dX11_draw_50 : decode cX11_draw 50 = .ok (.ireturn, 1) := by decide +kernel
theorem dX11_draw_51 : decode cX11_draw 51 = .ok (.aload_n 0, 1) := by decide +kernel
theorem dX11_draw_52 : decode cX11_draw 52 = .ok (.aload 4, 2) := by decide +kernel
theorem dX11_draw_54 : decode cX11_draw 54 = .ok (.iload_n 3, 1) := by decide +kernel
theorem dX11_draw_55 : decode cX11_draw 55 = .ok (.invokevirtual 396, 3) := by decide +kernel
theorem dX11_draw_58 : decode cX11_draw 58 = .ok (.istore 5, 2) := by decide +kernel
theorem dX11_draw_60 : decode cX11_draw 60 = .ok (.iload 5, 2) := by decide +kernel
theorem dX11_draw_62 : decode cX11_draw 62 = .ok (.ifCond .eq 6, 3) := by decide +kernel
theorem dX11_draw_65 : decode cX11_draw 65 = .ok (.iload 5, 2) := by decide +kernel
theorem dX11_draw_67 : decode cX11_draw 67 = .ok (.ireturn, 1) := by decide +kernel
theorem dX11_draw_68 : decode cX11_draw 68 = .ok (.aload_n 0, 1) := by decide +kernel
theorem dX11_draw_69 : decode cX11_draw 69 = .ok (.getfield 19, 3) := by decide +kernel
theorem dX11_draw_72 : decode cX11_draw 72 = .ok (.aload_n 0, 1) := by decide +kernel
theorem dX11_draw_73 : decode cX11_draw 73 = .ok (.getfield 10, 3) := by decide +kernel
theorem dX11_draw_76 : decode cX11_draw 76 = .ok (.invokevirtual 118, 3) := by decide +kernel
theorem dX11_draw_79 : decode cX11_draw 79 = .ok (.aload_n 0, 1) := by decide +kernel
theorem dX11_draw_80 : decode cX11_draw 80 = .ok (.aload 4, 2) := by decide +kernel
theorem dX11_draw_82 : decode cX11_draw 82 = .ok (.iload_n 3, 1) := by decide +kernel
theorem dX11_draw_83 : decode cX11_draw 83 = .ok (.invokevirtual 400, 3) := by decide +kernel
theorem dX11_draw_86 : decode cX11_draw 86 = .ok (.aload_n 0, 1) := by decide +kernel
theorem dX11_draw_87 : decode cX11_draw 87 = .ok (.getfield 10, 3) := by decide +kernel
theorem dX11_draw_90 : decode cX11_draw 90 = .ok (.getfield 122, 3) := by decide +kernel
theorem dX11_draw_93 : decode cX11_draw 93 = .ok (.invokestatic 404, 3) := by decide +kernel
theorem dX11_draw_96 : decode cX11_draw 96 = .ok (.ireturn, 1) := by decide +kernel
theorem dX11_refusalOf_0 : decode cX11_refusalOf 0 = .ok (.aload_n 0, 1) := by decide +kernel
theorem dX11_refusalOf_1 : decode cX11_refusalOf 1 = .ok (.getfield 10, 3) := by decide +kernel
theorem dX11_refusalOf_4 : decode cX11_refusalOf 4 = .ok (.getfield 216, 3) := by decide +kernel
theorem dX11_refusalOf_7 : decode cX11_refusalOf 7 = .ok (.aload_n 0, 1) := by decide +kernel
theorem dX11_refusalOf_8 : decode cX11_refusalOf 8 = .ok (.getfield 10, 3) := by decide +kernel
theorem dX11_refusalOf_11 : decode cX11_refusalOf 11 = .ok (.getfield 218, 3) := by decide +kernel
theorem dX11_refusalOf_14 : decode cX11_refusalOf 14 = .ok (.imul, 1) := by decide +kernel
theorem dX11_refusalOf_15 : decode cX11_refusalOf 15 = .ok (.istore_n 3, 1) := by decide +kernel
theorem dX11_refusalOf_16 : decode cX11_refusalOf 16 = .ok (.iconst 0, 1) := by decide +kernel
theorem dX11_refusalOf_17 : decode cX11_refusalOf 17 = .ok (.istore 4, 2) := by decide +kernel
theorem dX11_refusalOf_19 : decode cX11_refusalOf 19 = .ok (.iload 4, 2) := by decide +kernel
theorem dX11_refusalOf_21 : decode cX11_refusalOf 21 = .ok (.iload_n 3, 1) := by decide +kernel
theorem dX11_refusalOf_22 : decode cX11_refusalOf 22 = .ok (.if_icmp .ge 47, 3) := by decide +kernel
theorem dX11_refusalOf_25 : decode cX11_refusalOf 25 = .ok (.aload_n 1, 1) := by decide +kernel
theorem dX11_refusalOf_26 : decode cX11_refusalOf 26 = .ok (.iload_n 2, 1) := by decide +kernel
theorem dX11_refusalOf_27 : decode cX11_refusalOf 27 = .ok (.iload 4, 2) := by decide +kernel
theorem dX11_refusalOf_29 : decode cX11_refusalOf 29 = .ok (.iadd, 1) := by decide +kernel
theorem dX11_refusalOf_30 : decode cX11_refusalOf 30 = .ok (.invokevirtual 389, 3) := by decide +kernel
theorem dX11_refusalOf_33 : decode cX11_refusalOf 33 = .ok (.ifCond .ne 6, 3) := by decide +kernel
theorem dX11_refusalOf_36 : decode cX11_refusalOf 36 = .ok (.bipush (-12), 2) := by decide +kernel
theorem dX11_refusalOf_38 : decode cX11_refusalOf 38 = .ok (.ireturn, 1) := by decide +kernel
theorem dX11_refusalOf_39 : decode cX11_refusalOf 39 = .ok (.aload_n 1, 1) := by decide +kernel
theorem dX11_refusalOf_40 : decode cX11_refusalOf 40 = .ok (.getfield 408, 3) := by decide +kernel
theorem dX11_refusalOf_43 : decode cX11_refusalOf 43 = .ok (.iload_n 2, 1) := by decide +kernel
theorem dX11_refusalOf_44 : decode cX11_refusalOf 44 = .ok (.iload 4, 2) := by decide +kernel
theorem dX11_refusalOf_46 : decode cX11_refusalOf 46 = .ok (.iadd, 1) := by decide +kernel
theorem dX11_refusalOf_47 : decode cX11_refusalOf 47 = .ok (.iaload, 1) := by decide +kernel
theorem dX11_refusalOf_48 : decode cX11_refusalOf 48 = .ok (.iconst 0, 1) := by decide +kernel
theorem dX11_refusalOf_49 : decode cX11_refusalOf 49 = .ok (.bipush 10, 2) := by decide +kernel
theorem dX11_refusalOf_51 : decode cX11_refusalOf 51 = .ok (.invokestatic 103, 3) := by decide +kernel
theorem dX11_refusalOf_54 : decode cX11_refusalOf 54 = .ok (.ifCond .ne 9, 3) := by decide +kernel
theorem dX11_refusalOf_57 : decode cX11_refusalOf 57 = .ok (.bipush (-100), 2) := by decide +kernel
theorem dX11_refusalOf_59 : decode cX11_refusalOf 59 = .ok (.iload 4, 2) := by decide +kernel
theorem dX11_refusalOf_61 : decode cX11_refusalOf 61 = .ok (.isub, 1) := by decide +kernel
theorem dX11_refusalOf_62 : decode cX11_refusalOf 62 = .ok (.ireturn, 1) := by decide +kernel
theorem dX11_refusalOf_63 : decode cX11_refusalOf 63 = .ok (.iinc 4 1, 3) := by decide +kernel
theorem dX11_refusalOf_66 : decode cX11_refusalOf 66 = .ok (.goto (-47), 3) := by decide +kernel
theorem dX11_refusalOf_69 : decode cX11_refusalOf 69 = .ok (.iconst 0, 1) := by decide +kernel
theorem dX11_refusalOf_70 : decode cX11_refusalOf 70 = .ok (.ireturn, 1) := by decide +kernel
theorem dX11_copyOnBoard_0 : decode cX11_copyOnBoard 0 = .ok (.iload_n 2, 1) := by decide +kernel
theorem dX11_copyOnBoard_1 : decode cX11_copyOnBoard 1 = .ok (.istore_n 3, 1) := by decide +kernel
theorem dX11_copyOnBoard_2 : decode cX11_copyOnBoard 2 = .ok (.iconst 0, 1) := by decide +kernel
theorem dX11_copyOnBoard_3 : decode cX11_copyOnBoard 3 = .ok (.istore 4, 2) := by decide +kernel
theorem dX11_copyOnBoard_5 : decode cX11_copyOnBoard 5 = .ok (.iload 4, 2) := by decide +kernel
theorem dX11_copyOnBoard_7 : decode cX11_copyOnBoard 7 = .ok (.aload_n 0, 1) := by decide +kernel
theorem dX11_copyOnBoard_8 : decode cX11_copyOnBoard 8 = .ok (.getfield 10, 3) := by decide +kernel
theorem dX11_copyOnBoard_11 : decode cX11_copyOnBoard 11 = .ok (.getfield 218, 3) := by decide +kernel
theorem dX11_copyOnBoard_14 : decode cX11_copyOnBoard 14 = .ok (.if_icmp .ge 104, 3) := by decide +kernel
theorem dX11_copyOnBoard_17 : decode cX11_copyOnBoard 17 = .ok (.iconst 0, 1) := by decide +kernel
theorem dX11_copyOnBoard_18 : decode cX11_copyOnBoard 18 = .ok (.istore 5, 2) := by decide +kernel
theorem dX11_copyOnBoard_20 : decode cX11_copyOnBoard 20 = .ok (.iload 5, 2) := by decide +kernel
theorem dX11_copyOnBoard_22 : decode cX11_copyOnBoard 22 = .ok (.aload_n 0, 1) := by decide +kernel
theorem dX11_copyOnBoard_23 : decode cX11_copyOnBoard 23 = .ok (.getfield 10, 3) := by decide +kernel
theorem dX11_copyOnBoard_26 : decode cX11_copyOnBoard 26 = .ok (.getfield 216, 3) := by decide +kernel
theorem dX11_copyOnBoard_29 : decode cX11_copyOnBoard 29 = .ok (.if_icmp .ge 83, 3) := by decide +kernel
theorem dX11_copyOnBoard_32 : decode cX11_copyOnBoard 32 = .ok (.aload_n 1, 1) := by decide +kernel
theorem dX11_copyOnBoard_33 : decode cX11_copyOnBoard 33 = .ok (.getfield 408, 3) := by decide +kernel
theorem dX11_copyOnBoard_36 : decode cX11_copyOnBoard 36 = .ok (.iload_n 3, 1) := by decide +kernel
theorem dX11_copyOnBoard_37 : decode cX11_copyOnBoard 37 = .ok (.iaload, 1) := by decide +kernel
theorem dX11_copyOnBoard_38 : decode cX11_copyOnBoard 38 = .ok (.bipush 10, 2) := by decide +kernel
theorem dX11_copyOnBoard_40 : decode cX11_copyOnBoard 40 = .ok (.if_icmp .ne 7, 3) := by decide +kernel
theorem dX11_copyOnBoard_43 : decode cX11_copyOnBoard 43 = .ok (.iconst 1, 1) := by decide +kernel
theorem dX11_copyOnBoard_44 : decode cX11_copyOnBoard 44 = .ok (.goto 4, 3) := by decide +kernel
theorem dX11_copyOnBoard_47 : decode cX11_copyOnBoard 47 = .ok (.iconst 0, 1) := by decide +kernel
theorem dX11_copyOnBoard_48 : decode cX11_copyOnBoard 48 = .ok (.istore 6, 2) := by decide +kernel
theorem dX11_copyOnBoard_50 : decode cX11_copyOnBoard 50 = .ok (.aload_n 0, 1) := by decide +kernel
theorem dX11_copyOnBoard_51 : decode cX11_copyOnBoard 51 = .ok (.getfield 10, 3) := by decide +kernel
theorem dX11_copyOnBoard_54 : decode cX11_copyOnBoard 54 = .ok (.getfield 138, 3) := by decide +kernel
theorem dX11_copyOnBoard_57 : decode cX11_copyOnBoard 57 = .ok (.iload 5, 2) := by decide +kernel
theorem dX11_copyOnBoard_59 : decode cX11_copyOnBoard 59 = .ok (.iload 4, 2) := by decide +kernel
theorem dX11_copyOnBoard_61 : decode cX11_copyOnBoard 61 = .ok (.invokestatic 134, 3) := by decide +kernel
theorem dX11_copyOnBoard_64 : decode cX11_copyOnBoard 64 = .ok (.iload 6, 2) := by decide +kernel
theorem dX11_copyOnBoard_66 : decode cX11_copyOnBoard 66 = .ok (.ifCond .eq 7, 3) := by decide +kernel
theorem dX11_copyOnBoard_69 : decode cX11_copyOnBoard 69 = .ok (.iconst 0, 1) := by decide +kernel
theorem dX11_copyOnBoard_70 : decode cX11_copyOnBoard 70 = .ok (.goto 9, 3) := by decide +kernel
theorem dX11_copyOnBoard_73 : decode cX11_copyOnBoard 73 = .ok (.aload_n 1, 1) := by decide +kernel
theorem dX11_copyOnBoard_74 : decode cX11_copyOnBoard 74 = .ok (.getfield 408, 3) := by decide +kernel
theorem dX11_copyOnBoard_77 : decode cX11_copyOnBoard 77 = .ok (.iload_n 3, 1) := by decide +kernel
theorem dX11_copyOnBoard_78 : decode cX11_copyOnBoard 78 = .ok (.iaload, 1) := by decide +kernel
theorem dX11_copyOnBoard_79 : decode cX11_copyOnBoard 79 = .ok (.iastore, 1) := by decide +kernel
theorem dX11_copyOnBoard_80 : decode cX11_copyOnBoard 80 = .ok (.aload_n 0, 1) := by decide +kernel
theorem dX11_copyOnBoard_81 : decode cX11_copyOnBoard 81 = .ok (.getfield 10, 3) := by decide +kernel
theorem dX11_copyOnBoard_84 : decode cX11_copyOnBoard 84 = .ok (.aload_n 0, 1) := by decide +kernel
theorem dX11_copyOnBoard_85 : decode cX11_copyOnBoard 85 = .ok (.getfield 10, 3) := by decide +kernel
theorem dX11_copyOnBoard_88 : decode cX11_copyOnBoard 88 = .ok (.getfield 122, 3) := by decide +kernel
theorem dX11_copyOnBoard_91 : decode cX11_copyOnBoard 91 = .ok (.iload 5, 2) := by decide +kernel
theorem dX11_copyOnBoard_93 : decode cX11_copyOnBoard 93 = .ok (.iload 4, 2) := by decide +kernel
theorem dX11_copyOnBoard_95 : decode cX11_copyOnBoard 95 = .ok (.iload 6, 2) := by decide +kernel
theorem dX11_copyOnBoard_97 : decode cX11_copyOnBoard 97 = .ok (.invokestatic 130, 3) := by decide +kernel
theorem dX11_copyOnBoard_100 : decode cX11_copyOnBoard 100 = .ok (.putfield 122, 3) := by decide +kernel
theorem dX11_copyOnBoard_103 : decode cX11_copyOnBoard 103 = .ok (.iinc 3 1, 3) := by decide +kernel
theorem dX11_copyOnBoard_106 : decode cX11_copyOnBoard 106 = .ok (.iinc 5 1, 3) := by decide +kernel
theorem dX11_copyOnBoard_109 : decode cX11_copyOnBoard 109 = .ok (.goto (-89), 3) := by decide +kernel
theorem dX11_copyOnBoard_112 : decode cX11_copyOnBoard 112 = .ok (.iinc 4 1, 3) := by decide +kernel
theorem dX11_copyOnBoard_115 : decode cX11_copyOnBoard 115 = .ok (.goto (-110), 3) := by decide +kernel
theorem dX11_copyOnBoard_118 : decode cX11_copyOnBoard 118 = .ok (.return_, 1) := by decide +kernel
theorem dX11_count_0 : decode cX11_count 0 = .ok (.iload_n 1, 1) := by decide +kernel
theorem dX11_count_1 : decode cX11_count 1 = .ok (.tableswitch 192 0 12 #[67, 75, 83, 94, 110, 115, 142, 147, 155, 163, 171, 179, 187], 67) := by decide +kernel
theorem dX11_count_68 : decode cX11_count 68 = .ok (.aload_n 0, 1) := by decide +kernel
theorem dX11_count_69 : decode cX11_count 69 = .ok (.getfield 26, 3) := by decide +kernel
theorem dX11_count_72 : decode cX11_count 72 = .ok (.getfield 142, 3) := by decide +kernel
theorem dX11_count_75 : decode cX11_count 75 = .ok (.ireturn, 1) := by decide +kernel
theorem dX11_count_76 : decode cX11_count 76 = .ok (.aload_n 0, 1) := by decide +kernel
theorem dX11_count_77 : decode cX11_count 77 = .ok (.getfield 66, 3) := by decide +kernel
theorem dX11_count_80 : decode cX11_count 80 = .ok (.getfield 292, 3) := by decide +kernel
theorem dX11_count_83 : decode cX11_count 83 = .ok (.ireturn, 1) := by decide +kernel
theorem dX11_count_84 : decode cX11_count 84 = .ok (.aload_n 0, 1) := by decide +kernel
theorem dX11_count_85 : decode cX11_count 85 = .ok (.getfield 10, 3) := by decide +kernel
theorem dX11_count_88 : decode cX11_count 88 = .ok (.getfield 122, 3) := by decide +kernel
theorem dX11_count_91 : decode cX11_count 91 = .ok (.invokestatic 404, 3) := by decide +kernel
theorem dX11_count_94 : decode cX11_count 94 = .ok (.ireturn, 1) := by decide +kernel
theorem dX11_count_95 : decode cX11_count 95 = .ok (.aload_n 0, 1) := by decide +kernel
theorem dX11_count_96 : decode cX11_count 96 = .ok (.getfield 10, 3) := by decide +kernel
theorem dX11_count_99 : decode cX11_count 99 = .ok (.getfield 216, 3) := by decide +kernel
theorem dX11_count_102 : decode cX11_count 102 = .ok (.aload_n 0, 1) := by decide +kernel
theorem dX11_count_103 : decode cX11_count 103 = .ok (.getfield 10, 3) := by decide +kernel
theorem dX11_count_106 : decode cX11_count 106 = .ok (.getfield 218, 3) := by decide +kernel
theorem dX11_count_109 : decode cX11_count 109 = .ok (.imul, 1) := by decide +kernel
theorem dX11_count_110 : decode cX11_count 110 = .ok (.ireturn, 1) := by decide +kernel
theorem dX11_count_111 : decode cX11_count 111 = .ok (.aload_n 0, 1) := by decide +kernel
theorem dX11_count_112 : decode cX11_count 112 = .ok (.invokevirtual 411, 3) := by decide +kernel
theorem dX11_count_115 : decode cX11_count 115 = .ok (.ireturn, 1) := by decide +kernel
theorem dX11_count_116 : decode cX11_count 116 = .ok (.aload_n 0, 1) := by decide +kernel
theorem dX11_count_117 : decode cX11_count 117 = .ok (.getfield 98, 3) := by decide +kernel
theorem dX11_count_120 : decode cX11_count 120 = .ok (.iconst 0, 1) := by decide +kernel
theorem dX11_count_121 : decode cX11_count 121 = .ok (.aaload, 1) := by decide +kernel
theorem dX11_count_122 : decode cX11_count 122 = .ok (.invokevirtual 385, 3) := by decide +kernel
theorem dX11_count_125 : decode cX11_count 125 = .ok (.ifCond .eq 8, 3) := by decide +kernel
theorem dX11_count_128 : decode cX11_count 128 = .ok (.bipush (-4), 2) := by decide +kernel
theorem dX11_count_130 : decode cX11_count 130 = .ok (.goto 12, 3) := by decide +kernel
theorem dX11_count_133 : decode cX11_count 133 = .ok (.aload_n 0, 1) := by decide +kernel
theorem dX11_count_134 : decode cX11_count 134 = .ok (.getfield 98, 3) := by decide +kernel
theorem dX11_count_137 : decode cX11_count 137 = .ok (.iconst 0, 1) := by decide +kernel
theorem dX11_count_138 : decode cX11_count 138 = .ok (.aaload, 1) := by decide +kernel
theorem dX11_count_139 : decode cX11_count 139 = .ok (.getfield 414, 3) := by decide +kernel
theorem dX11_count_142 : decode cX11_count 142 = .ok (.ireturn, 1) := by decide +kernel
theorem dX11_count_143 : decode cX11_count 143 = .ok (.aload_n 0, 1) := by decide +kernel
theorem dX11_count_144 : decode cX11_count 144 = .ok (.getfield 43, 3) := by decide +kernel
theorem dX11_count_147 : decode cX11_count 147 = .ok (.ireturn, 1) := by decide +kernel
theorem dX11_count_148 : decode cX11_count 148 = .ok (.aload_n 0, 1) := by decide +kernel
theorem dX11_count_149 : decode cX11_count 149 = .ok (.getfield 50, 3) := by decide +kernel
theorem dX11_count_152 : decode cX11_count 152 = .ok (.getfield 251, 3) := by decide +kernel
theorem dX11_count_155 : decode cX11_count 155 = .ok (.ireturn, 1) := by decide +kernel
theorem dX11_count_156 : decode cX11_count 156 = .ok (.aload_n 0, 1) := by decide +kernel
theorem dX11_count_157 : decode cX11_count 157 = .ok (.getfield 59, 3) := by decide +kernel
theorem dX11_count_160 : decode cX11_count 160 = .ok (.getfield 263, 3) := by decide +kernel
theorem dX11_count_163 : decode cX11_count 163 = .ok (.ireturn, 1) := by decide +kernel
theorem dX11_count_164 : decode cX11_count 164 = .ok (.aload_n 0, 1) := by decide +kernel
theorem dX11_count_165 : decode cX11_count 165 = .ok (.getfield 19, 3) := by decide +kernel
theorem dX11_count_168 : decode cX11_count 168 = .ok (.getfield 111, 3) := by decide +kernel
theorem dX11_count_171 : decode cX11_count 171 = .ok (.ireturn, 1) := by decide +kernel
theorem dX11_count_172 : decode cX11_count 172 = .ok (.aload_n 0, 1) := by decide +kernel
theorem dX11_count_173 : decode cX11_count 173 = .ok (.getfield 89, 3) := by decide +kernel
theorem dX11_count_176 : decode cX11_count 176 = .ok (.getfield 339, 3) := by decide +kernel
theorem dX11_count_179 : decode cX11_count 179 = .ok (.ireturn, 1) := by decide +kernel
theorem dX11_count_180 : decode cX11_count 180 = .ok (.aload_n 0, 1) := by decide +kernel
theorem dX11_count_181 : decode cX11_count 181 = .ok (.getfield 89, 3) := by decide +kernel
theorem dX11_count_184 : decode cX11_count 184 = .ok (.getfield 372, 3) := by decide +kernel
theorem dX11_count_187 : decode cX11_count 187 = .ok (.ireturn, 1) := by decide +kernel
theorem dX11_count_188 : decode cX11_count 188 = .ok (.aload_n 0, 1) := by decide +kernel
theorem dX11_count_189 : decode cX11_count 189 = .ok (.invokevirtual 415, 3) := by decide +kernel
theorem dX11_count_192 : decode cX11_count 192 = .ok (.ireturn, 1) := by decide +kernel
theorem dX11_count_193 : decode cX11_count 193 = .ok (.iconst (-1), 1) := by decide +kernel
theorem dX11_count_194 : decode cX11_count 194 = .ok (.ireturn, 1) := by decide +kernel
theorem dX11_lotsOff_0 : decode cX11_lotsOff 0 = .ok (.iconst 0, 1) := by decide +kernel
theorem dX11_lotsOff_1 : decode cX11_lotsOff 1 = .ok (.istore_n 1, 1) := by decide +kernel
theorem dX11_lotsOff_2 : decode cX11_lotsOff 2 = .ok (.iconst 0, 1) := by decide +kernel
theorem dX11_lotsOff_3 : decode cX11_lotsOff 3 = .ok (.istore_n 2, 1) := by decide +kernel
theorem dX11_lotsOff_4 : decode cX11_lotsOff 4 = .ok (.iload_n 2, 1) := by decide +kernel
theorem dX11_lotsOff_5 : decode cX11_lotsOff 5 = .ok (.bipush 6, 2) := by decide +kernel
theorem dX11_lotsOff_7 : decode cX11_lotsOff 7 = .ok (.if_icmp .ge 30, 3) := by decide +kernel
theorem dX11_lotsOff_10 : decode cX11_lotsOff 10 = .ok (.aload_n 0, 1) := by decide +kernel
theorem dX11_lotsOff_11 : decode cX11_lotsOff 11 = .ok (.getfield 66, 3) := by decide +kernel
theorem dX11_lotsOff_14 : decode cX11_lotsOff 14 = .ok (.iload_n 2, 1) := by decide +kernel
theorem dX11_lotsOff_15 : decode cX11_lotsOff 15 = .ok (.aload_n 0, 1) := by decide +kernel
theorem dX11_lotsOff_16 : decode cX11_lotsOff 16 = .ok (.getfield 89, 3) := by decide +kernel
theorem dX11_lotsOff_19 : decode cX11_lotsOff 19 = .ok (.getfield 372, 3) := by decide +kernel
theorem dX11_lotsOff_22 : decode cX11_lotsOff 22 = .ok (.invokevirtual 375, 3) := by decide +kernel
theorem dX11_lotsOff_25 : decode cX11_lotsOff 25 = .ok (.ifCond .eq 6, 3) := by decide +kernel
theorem dX11_lotsOff_28 : decode cX11_lotsOff 28 = .ok (.iinc 1 1, 3) := by decide +kernel
theorem dX11_lotsOff_31 : decode cX11_lotsOff 31 = .ok (.iinc 2 1, 3) := by decide +kernel
theorem dX11_lotsOff_34 : decode cX11_lotsOff 34 = .ok (.goto (-30), 3) := by decide +kernel
theorem dX11_lotsOff_37 : decode cX11_lotsOff 37 = .ok (.iload_n 1, 1) := by decide +kernel
theorem dX11_lotsOff_38 : decode cX11_lotsOff 38 = .ok (.ireturn, 1) := by decide +kernel
theorem dX11_soldOn_0 : decode cX11_soldOn 0 = .ok (.iconst 0, 1) := by decide +kernel
theorem dX11_soldOn_1 : decode cX11_soldOn 1 = .ok (.istore_n 1, 1) := by decide +kernel
theorem dX11_soldOn_2 : decode cX11_soldOn 2 = .ok (.iconst 0, 1) := by decide +kernel
theorem dX11_soldOn_3 : decode cX11_soldOn 3 = .ok (.istore_n 2, 1) := by decide +kernel
theorem dX11_soldOn_4 : decode cX11_soldOn 4 = .ok (.iload_n 2, 1) := by decide +kernel
theorem dX11_soldOn_5 : decode cX11_soldOn 5 = .ok (.aload_n 0, 1) := by decide +kernel
theorem dX11_soldOn_6 : decode cX11_soldOn 6 = .ok (.getfield 66, 3) := by decide +kernel
theorem dX11_soldOn_9 : decode cX11_soldOn 9 = .ok (.getfield 292, 3) := by decide +kernel
theorem dX11_soldOn_12 : decode cX11_soldOn 12 = .ok (.if_icmp .ge 57, 3) := by decide +kernel
theorem dX11_soldOn_15 : decode cX11_soldOn 15 = .ok (.aload_n 0, 1) := by decide +kernel
theorem dX11_soldOn_16 : decode cX11_soldOn 16 = .ok (.getfield 89, 3) := by decide +kernel
theorem dX11_soldOn_19 : decode cX11_soldOn 19 = .ok (.aload_n 0, 1) := by decide +kernel
theorem dX11_soldOn_20 : decode cX11_soldOn 20 = .ok (.getfield 66, 3) := by decide +kernel
theorem dX11_soldOn_23 : decode cX11_soldOn 23 = .ok (.getfield 314, 3) := by decide +kernel
theorem dX11_soldOn_26 : decode cX11_soldOn 26 = .ok (.iload_n 2, 1) := by decide +kernel
theorem dX11_soldOn_27 : decode cX11_soldOn 27 = .ok (.iaload, 1) := by decide +kernel
theorem dX11_soldOn_28 : decode cX11_soldOn 28 = .ok (.aload_n 0, 1) := by decide +kernel
theorem dX11_soldOn_29 : decode cX11_soldOn 29 = .ok (.getfield 66, 3) := by decide +kernel
theorem dX11_soldOn_32 : decode cX11_soldOn 32 = .ok (.getfield 302, 3) := by decide +kernel
theorem dX11_soldOn_35 : decode cX11_soldOn 35 = .ok (.iload_n 2, 1) := by decide +kernel
theorem dX11_soldOn_36 : decode cX11_soldOn 36 = .ok (.iaload, 1) := by decide +kernel
theorem dX11_soldOn_37 : decode cX11_soldOn 37 = .ok (.invokevirtual 317, 3) := by decide +kernel
theorem dX11_soldOn_40 : decode cX11_soldOn 40 = .ok (.istore_n 3, 1) := by decide +kernel
theorem dX11_soldOn_41 : decode cX11_soldOn 41 = .ok (.iload_n 3, 1) := by decide +kernel
theorem dX11_soldOn_42 : decode cX11_soldOn 42 = .ok (.bipush (-4), 2) := by decide +kernel
theorem dX11_soldOn_44 : decode cX11_soldOn 44 = .ok (.if_icmp .eq 19, 3) := by decide +kernel
theorem dX11_soldOn_47 : decode cX11_soldOn 47 = .ok (.iload_n 3, 1) := by decide +kernel
theorem dX11_soldOn_48 : decode cX11_soldOn 48 = .ok (.aload_n 0, 1) := by decide +kernel
theorem dX11_soldOn_49 : decode cX11_soldOn 49 = .ok (.getfield 66, 3) := by decide +kernel
theorem dX11_soldOn_52 : decode cX11_soldOn 52 = .ok (.getfield 314, 3) := by decide +kernel
theorem dX11_soldOn_55 : decode cX11_soldOn 55 = .ok (.iload_n 2, 1) := by decide +kernel
theorem dX11_soldOn_56 : decode cX11_soldOn 56 = .ok (.iaload, 1) := by decide +kernel
theorem dX11_soldOn_57 : decode cX11_soldOn 57 = .ok (.if_icmp .eq 6, 3) := by decide +kernel
theorem dX11_soldOn_60 : decode cX11_soldOn 60 = .ok (.iinc 1 1, 3) := by decide +kernel
theorem dX11_soldOn_63 : decode cX11_soldOn 63 = .ok (.iinc 2 1, 3) := by decide +kernel
theorem dX11_soldOn_66 : decode cX11_soldOn 66 = .ok (.goto (-62), 3) := by decide +kernel
theorem dX11_soldOn_69 : decode cX11_soldOn 69 = .ok (.iload_n 1, 1) := by decide +kernel
theorem dX11_soldOn_70 : decode cX11_soldOn 70 = .ok (.ireturn, 1) := by decide +kernel
theorem dX11_within_0 : decode cX11_within 0 = .ok (.iload_n 0, 1) := by decide +kernel
theorem dX11_within_1 : decode cX11_within 1 = .ok (.iload_n 1, 1) := by decide +kernel
theorem dX11_within_2 : decode cX11_within 2 = .ok (.if_icmp .lt 12, 3) := by decide +kernel
theorem dX11_within_5 : decode cX11_within 5 = .ok (.iload_n 0, 1) := by decide +kernel
theorem dX11_within_6 : decode cX11_within 6 = .ok (.iload_n 2, 1) := by decide +kernel
theorem dX11_within_7 : decode cX11_within 7 = .ok (.if_icmp .gt 7, 3) := by decide +kernel
theorem dX11_within_10 : decode cX11_within 10 = .ok (.iconst 1, 1) := by decide +kernel
theorem dX11_within_11 : decode cX11_within 11 = .ok (.goto 4, 3) := by decide +kernel
theorem dX11_within_14 : decode cX11_within 14 = .ok (.iconst 0, 1) := by decide +kernel
theorem dX11_within_15 : decode cX11_within 15 = .ok (.ireturn, 1) := by decide +kernel
theorem dX11_squareAt_0 : decode cX11_squareAt 0 = .ok (.iload_n 1, 1) := by decide +kernel
theorem dX11_squareAt_1 : decode cX11_squareAt 1 = .ok (.bipush 8, 2) := by decide +kernel
theorem dX11_squareAt_3 : decode cX11_squareAt 3 = .ok (.imul, 1) := by decide +kernel
theorem dX11_squareAt_4 : decode cX11_squareAt 4 = .ok (.iload_n 0, 1) := by decide +kernel
theorem dX11_squareAt_5 : decode cX11_squareAt 5 = .ok (.iadd, 1) := by decide +kernel
theorem dX11_squareAt_6 : decode cX11_squareAt 6 = .ok (.ireturn, 1) := by decide +kernel
theorem dX11_bit_0 : decode cX11_bit 0 = .ok (.lload_n 0, 1) := by decide +kernel
theorem dX11_bit_1 : decode cX11_bit 1 = .ok (.iload_n 2, 1) := by decide +kernel
theorem dX11_bit_2 : decode cX11_bit 2 = .ok (.iload_n 3, 1) := by decide +kernel
theorem dX11_bit_3 : decode cX11_bit 3 = .ok (.invokestatic 134, 3) := by decide +kernel
theorem dX11_bit_6 : decode cX11_bit 6 = .ok (.lshr, 1) := by decide +kernel
theorem dX11_bit_7 : decode cX11_bit 7 = .ok (.lconst 1, 1) := by decide +kernel
theorem dX11_bit_8 : decode cX11_bit 8 = .ok (.land, 1) := by decide +kernel
theorem dX11_bit_9 : decode cX11_bit 9 = .ok (.l2i, 1) := by decide +kernel
theorem dX11_bit_10 : decode cX11_bit 10 = .ok (.ireturn, 1) := by decide +kernel
theorem dX11_withBit_0 : decode cX11_withBit 0 = .ok (.lconst 1, 1) := by decide +kernel
theorem dX11_withBit_1 : decode cX11_withBit 1 = .ok (.iload_n 2, 1) := by decide +kernel
theorem dX11_withBit_2 : decode cX11_withBit 2 = .ok (.iload_n 3, 1) := by decide +kernel
theorem dX11_withBit_3 : decode cX11_withBit 3 = .ok (.invokestatic 134, 3) := by decide +kernel
theorem dX11_withBit_6 : decode cX11_withBit 6 = .ok (.lshl, 1) := by decide +kernel
theorem dX11_withBit_7 : decode cX11_withBit 7 = .ok (.lstore 5, 2) := by decide +kernel
theorem dX11_withBit_9 : decode cX11_withBit 9 = .ok (.iload 4, 2) := by decide +kernel
theorem dX11_withBit_11 : decode cX11_withBit 11 = .ok (.ifCond .eq 10, 3) := by decide +kernel
theorem dX11_withBit_14 : decode cX11_withBit 14 = .ok (.lload_n 0, 1) := by decide +kernel
theorem dX11_withBit_15 : decode cX11_withBit 15 = .ok (.lload 5, 2) := by decide +kernel
theorem dX11_withBit_17 : decode cX11_withBit 17 = .ok (.lor, 1) := by decide +kernel
theorem dX11_withBit_18 : decode cX11_withBit 18 = .ok (.goto 11, 3) := by decide +kernel
theorem dX11_withBit_21 : decode cX11_withBit 21 = .ok (.lload_n 0, 1) := by decide +kernel
theorem dX11_withBit_22 : decode cX11_withBit 22 = .ok (.lload 5, 2) := by decide +kernel
theorem dX11_withBit_24 : decode cX11_withBit 24 = .ok (.ldc2_w 418, 3) := by decide +kernel
theorem dX11_withBit_27 : decode cX11_withBit 27 = .ok (.lxor, 1) := by decide +kernel
theorem dX11_withBit_28 : decode cX11_withBit 28 = .ok (.land, 1) := by decide +kernel
theorem dX11_withBit_29 : decode cX11_withBit 29 = .ok (.lreturn, 1) := by decide +kernel
theorem dX12_init_0 : decode cX12_init 0 = .ok (.aload_n 0, 1) := by decide +kernel
theorem dX12_init_1 : decode cX12_init 1 = .ok (.invokespecial 1, 3) := by decide +kernel
theorem dX12_init_4 : decode cX12_init 4 = .ok (.aload_n 0, 1) := by decide +kernel
theorem dX12_init_5 : decode cX12_init 5 = .ok (.iconst 4, 1) := by decide +kernel
theorem dX12_init_6 : decode cX12_init 6 = .ok (.putfield 7, 3) := by decide +kernel
theorem dX12_init_9 : decode cX12_init 9 = .ok (.aload_n 0, 1) := by decide +kernel
theorem dX12_init_10 : decode cX12_init 10 = .ok (.iconst 4, 1) := by decide +kernel
theorem dX12_init_11 : decode cX12_init 11 = .ok (.putfield 13, 3) := by decide +kernel
theorem dX12_init_14 : decode cX12_init 14 = .ok (.aload_n 0, 1) := by decide +kernel
theorem dX12_init_15 : decode cX12_init 15 = .ok (.bipush 64, 2) := by decide +kernel
theorem dX12_init_17 : decode cX12_init 17 = .ok (.newarray .boolean, 2) := by decide +kernel
theorem dX12_init_19 : decode cX12_init 19 = .ok (.putfield 16, 3) := by decide +kernel
theorem dX12_init_22 : decode cX12_init 22 = .ok (.aload_n 0, 1) := by decide +kernel
theorem dX12_init_23 : decode cX12_init 23 = .ok (.bipush 64, 2) := by decide +kernel
theorem dX12_init_25 : decode cX12_init 25 = .ok (.newarray .int, 2) := by decide +kernel
theorem dX12_init_27 : decode cX12_init 27 = .ok (.putfield 20, 3) := by decide +kernel
theorem dX12_init_30 : decode cX12_init 30 = .ok (.aload_n 0, 1) := by decide +kernel
theorem dX12_init_31 : decode cX12_init 31 = .ok (.sipush 256, 3) := by decide +kernel
theorem dX12_init_34 : decode cX12_init 34 = .ok (.newarray .boolean, 2) := by decide +kernel
theorem dX12_init_36 : decode cX12_init 36 = .ok (.putfield 24, 3) := by decide +kernel
theorem dX12_init_39 : decode cX12_init 39 = .ok (.aload_n 0, 1) := by decide +kernel
theorem dX12_init_40 : decode cX12_init 40 = .ok (.sipush 512, 3) := by decide +kernel
theorem dX12_init_43 : decode cX12_init 43 = .ok (.newarray .boolean, 2) := by decide +kernel
theorem dX12_init_45 : decode cX12_init 45 = .ok (.putfield 27, 3) := by decide +kernel
theorem dX12_init_48 : decode cX12_init 48 = .ok (.aload_n 0, 1) := by decide +kernel
theorem dX12_init_49 : decode cX12_init 49 = .ok (.sipush 512, 3) := by decide +kernel
theorem dX12_init_52 : decode cX12_init 52 = .ok (.newarray .int, 2) := by decide +kernel
theorem dX12_init_54 : decode cX12_init 54 = .ok (.putfield 30, 3) := by decide +kernel
theorem dX12_init_57 : decode cX12_init 57 = .ok (.aload_n 0, 1) := by decide +kernel
theorem dX12_init_58 : decode cX12_init 58 = .ok (.bipush 8, 2) := by decide +kernel
theorem dX12_init_60 : decode cX12_init 60 = .ok (.newarray .int, 2) := by decide +kernel
theorem dX12_init_62 : decode cX12_init 62 = .ok (.putfield 33, 3) := by decide +kernel
theorem dX12_init_65 : decode cX12_init 65 = .ok (.aload_n 0, 1) := by decide +kernel
theorem dX12_init_66 : decode cX12_init 66 = .ok (.bipush 8, 2) := by decide +kernel
theorem dX12_init_68 : decode cX12_init 68 = .ok (.newarray .int, 2) := by decide +kernel
theorem dX12_init_70 : decode cX12_init 70 = .ok (.putfield 36, 3) := by decide +kernel
theorem dX12_init_73 : decode cX12_init 73 = .ok (.aload_n 0, 1) := by decide +kernel
theorem dX12_init_74 : decode cX12_init 74 = .ok (.bipush 8, 2) := by decide +kernel
theorem dX12_init_76 : decode cX12_init 76 = .ok (.newarray .int, 2) := by decide +kernel
theorem dX12_init_78 : decode cX12_init 78 = .ok (.putfield 39, 3) := by decide +kernel
theorem dX12_init_81 : decode cX12_init 81 = .ok (.aload_n 0, 1) := by decide +kernel
theorem dX12_init_82 : decode cX12_init 82 = .ok (.bipush 8, 2) := by decide +kernel
theorem dX12_init_84 : decode cX12_init 84 = .ok (.newarray .int, 2) := by decide +kernel
theorem dX12_init_86 : decode cX12_init 86 = .ok (.putfield 42, 3) := by decide +kernel
theorem dX12_init_89 : decode cX12_init 89 = .ok (.aload_n 0, 1) := by decide +kernel
theorem dX12_init_90 : decode cX12_init 90 = .ok (.bipush 8, 2) := by decide +kernel
theorem dX12_init_92 : decode cX12_init 92 = .ok (.newarray .boolean, 2) := by decide +kernel
theorem dX12_init_94 : decode cX12_init 94 = .ok (.putfield 45, 3) := by decide +kernel
theorem dX12_init_97 : decode cX12_init 97 = .ok (.aload_n 0, 1) := by decide +kernel
theorem dX12_init_98 : decode cX12_init 98 = .ok (.sipush 4096, 3) := by decide +kernel
theorem dX12_init_101 : decode cX12_init 101 = .ok (.newarray .int, 2) := by decide +kernel
theorem dX12_init_103 : decode cX12_init 103 = .ok (.putfield 48, 3) := by decide +kernel
theorem dX12_init_106 : decode cX12_init 106 = .ok (.aload_n 0, 1) := by decide +kernel
theorem dX12_init_107 : decode cX12_init 107 = .ok (.bipush 64, 2) := by decide +kernel
theorem dX12_init_109 : decode cX12_init 109 = .ok (.newarray .int, 2) := by decide +kernel
theorem dX12_init_111 : decode cX12_init 111 = .ok (.putfield 51, 3) := by decide +kernel
theorem dX12_init_114 : decode cX12_init 114 = .ok (.aload_n 0, 1) := by decide +kernel
theorem dX12_init_115 : decode cX12_init 115 = .ok (.bipush 12, 2) := by decide +kernel
theorem dX12_init_117 : decode cX12_init 117 = .ok (.newarray .int, 2) := by decide +kernel
theorem dX12_init_119 : decode cX12_init 119 = .ok (.putfield 54, 3) := by decide +kernel
theorem dX12_init_122 : decode cX12_init 122 = .ok (.aload_n 0, 1) := by decide +kernel
theorem dX12_init_123 : decode cX12_init 123 = .ok (.bipush 12, 2) := by decide +kernel
theorem dX12_init_125 : decode cX12_init 125 = .ok (.newarray .int, 2) := by decide +kernel
theorem dX12_init_127 : decode cX12_init 127 = .ok (.putfield 57, 3) := by decide +kernel
theorem dX12_init_130 : decode cX12_init 130 = .ok (.aload_n 0, 1) := by decide +kernel
theorem dX12_init_131 : decode cX12_init 131 = .ok (.bipush 12, 2) := by decide +kernel
theorem dX12_init_133 : decode cX12_init 133 = .ok (.newarray .int, 2) := by decide +kernel
theorem dX12_init_135 : decode cX12_init 135 = .ok (.putfield 60, 3) := by decide +kernel
theorem dX12_init_138 : decode cX12_init 138 = .ok (.aload_n 0, 1) := by decide +kernel
theorem dX12_init_139 : decode cX12_init 139 = .ok (.bipush 12, 2) := by decide +kernel
theorem dX12_init_141 : decode cX12_init 141 = .ok (.newarray .int, 2) := by decide +kernel
theorem dX12_init_143 : decode cX12_init 143 = .ok (.putfield 63, 3) := by decide +kernel
theorem dX12_init_146 : decode cX12_init 146 = .ok (.aload_n 0, 1) := by decide +kernel
theorem dX12_init_147 : decode cX12_init 147 = .ok (.bipush 8, 2) := by decide +kernel
theorem dX12_init_149 : decode cX12_init 149 = .ok (.newarray .int, 2) := by decide +kernel
theorem dX12_init_151 : decode cX12_init 151 = .ok (.putfield 66, 3) := by decide +kernel
theorem dX12_init_154 : decode cX12_init 154 = .ok (.aload_n 0, 1) := by decide +kernel
theorem dX12_init_155 : decode cX12_init 155 = .ok (.bipush 8, 2) := by decide +kernel
theorem dX12_init_157 : decode cX12_init 157 = .ok (.newarray .int, 2) := by decide +kernel
theorem dX12_init_159 : decode cX12_init 159 = .ok (.putfield 69, 3) := by decide +kernel
theorem dX12_init_162 : decode cX12_init 162 = .ok (.aload_n 0, 1) := by decide +kernel
theorem dX12_init_163 : decode cX12_init 163 = .ok (.bipush 8, 2) := by decide +kernel
theorem dX12_init_165 : decode cX12_init 165 = .ok (.newarray .int, 2) := by decide +kernel
theorem dX12_init_167 : decode cX12_init 167 = .ok (.putfield 72, 3) := by decide +kernel
theorem dX12_init_170 : decode cX12_init 170 = .ok (.aload_n 0, 1) := by decide +kernel
theorem dX12_init_171 : decode cX12_init 171 = .ok (.ldc 75, 2) := by decide +kernel
theorem dX12_init_173 : decode cX12_init 173 = .ok (.newarray .int, 2) := by decide +kernel
theorem dX12_init_175 : decode cX12_init 175 = .ok (.putfield 76, 3) := by decide +kernel
theorem dX12_init_178 : decode cX12_init 178 = .ok (.aload_n 0, 1) := by decide +kernel
theorem dX12_init_179 : decode cX12_init 179 = .ok (.bipush 8, 2) := by decide +kernel
theorem dX12_init_181 : decode cX12_init 181 = .ok (.newarray .int, 2) := by decide +kernel
theorem dX12_init_183 : decode cX12_init 183 = .ok (.putfield 79, 3) := by decide +kernel
theorem dX12_init_186 : decode cX12_init 186 = .ok (.aload_n 0, 1) := by decide +kernel
theorem dX12_init_187 : decode cX12_init 187 = .ok (.bipush 12, 2) := by decide +kernel
theorem dX12_init_189 : decode cX12_init 189 = .ok (.newarray .int, 2) := by decide +kernel
theorem dX12_init_191 : decode cX12_init 191 = .ok (.putfield 82, 3) := by decide +kernel
theorem dX12_init_194 : decode cX12_init 194 = .ok (.aload_n 0, 1) := by decide +kernel
theorem dX12_init_195 : decode cX12_init 195 = .ok (.bipush 12, 2) := by decide +kernel
theorem dX12_init_197 : decode cX12_init 197 = .ok (.newarray .int, 2) := by decide +kernel
theorem dX12_init_199 : decode cX12_init 199 = .ok (.putfield 85, 3) := by decide +kernel
theorem dX12_init_202 : decode cX12_init 202 = .ok (.aload_n 0, 1) := by decide +kernel
theorem dX12_init_203 : decode cX12_init 203 = .ok (.bipush 12, 2) := by decide +kernel
theorem dX12_init_205 : decode cX12_init 205 = .ok (.newarray .boolean, 2) := by decide +kernel
theorem dX12_init_207 : decode cX12_init 207 = .ok (.putfield 88, 3) := by decide +kernel
theorem dX12_init_210 : decode cX12_init 210 = .ok (.aload_n 0, 1) := by decide +kernel
theorem dX12_init_211 : decode cX12_init 211 = .ok (.bipush 12, 2) := by decide +kernel
theorem dX12_init_213 : decode cX12_init 213 = .ok (.newarray .int, 2) := by decide +kernel
theorem dX12_init_215 : decode cX12_init 215 = .ok (.putfield 91, 3) := by decide +kernel
theorem dX12_init_218 : decode cX12_init 218 = .ok (.aload_n 0, 1) := by decide +kernel
theorem dX12_init_219 : decode cX12_init 219 = .ok (.bipush 12, 2) := by decide +kernel
theorem dX12_init_221 : decode cX12_init 221 = .ok (.newarray .int, 2) := by decide +kernel
theorem dX12_init_223 : decode cX12_init 223 = .ok (.putfield 94, 3) := by decide +kernel
theorem dX12_init_226 : decode cX12_init 226 = .ok (.aload_n 0, 1) := by decide +kernel
theorem dX12_init_227 : decode cX12_init 227 = .ok (.bipush 12, 2) := by decide +kernel
theorem dX12_init_229 : decode cX12_init 229 = .ok (.newarray .int, 2) := by decide +kernel
theorem dX12_init_231 : decode cX12_init 231 = .ok (.putfield 97, 3) := by decide +kernel
theorem dX12_init_234 : decode cX12_init 234 = .ok (.aload_n 0, 1) := by decide +kernel
theorem dX12_init_235 : decode cX12_init 235 = .ok (.sipush 200, 3) := by decide +kernel
theorem dX12_init_238 : decode cX12_init 238 = .ok (.newarray .int, 2) := by decide +kernel
theorem dX12_init_240 : decode cX12_init 240 = .ok (.putfield 100, 3) := by decide +kernel
theorem dX12_init_243 : decode cX12_init 243 = .ok (.aload_n 0, 1) := by decide +kernel
theorem dX12_init_244 : decode cX12_init 244 = .ok (.bipush 8, 2) := by decide +kernel
theorem dX12_init_246 : decode cX12_init 246 = .ok (.newarray .int, 2) := by decide +kernel
theorem dX12_init_248 : decode cX12_init 248 = .ok (.putfield 103, 3) := by decide +kernel
theorem dX12_init_251 : decode cX12_init 251 = .ok (.aload_n 0, 1) := by decide +kernel
theorem dX12_init_252 : decode cX12_init 252 = .ok (.bipush 8, 2) := by decide +kernel
theorem dX12_init_254 : decode cX12_init 254 = .ok (.newarray .int, 2) := by decide +kernel
theorem dX12_init_256 : decode cX12_init 256 = .ok (.putfield 106, 3) := by decide +kernel
theorem dX12_init_259 : decode cX12_init 259 = .ok (.aload_n 0, 1) := by decide +kernel
theorem dX12_init_260 : decode cX12_init 260 = .ok (.bipush 8, 2) := by decide +kernel
theorem dX12_init_262 : decode cX12_init 262 = .ok (.newarray .int, 2) := by decide +kernel
theorem dX12_init_264 : decode cX12_init 264 = .ok (.putfield 109, 3) := by decide +kernel
theorem dX12_init_267 : decode cX12_init 267 = .ok (.aload_n 0, 1) := by decide +kernel
theorem dX12_init_268 : decode cX12_init 268 = .ok (.bipush 8, 2) := by decide +kernel
theorem dX12_init_270 : decode cX12_init 270 = .ok (.newarray .int, 2) := by decide +kernel
theorem dX12_init_272 : decode cX12_init 272 = .ok (.putfield 112, 3) := by decide +kernel
theorem dX12_init_275 : decode cX12_init 275 = .ok (.aload_n 0, 1) := by decide +kernel
theorem dX12_init_276 : decode cX12_init 276 = .ok (.bipush 8, 2) := by decide +kernel
theorem dX12_init_278 : decode cX12_init 278 = .ok (.newarray .int, 2) := by decide +kernel
theorem dX12_init_280 : decode cX12_init 280 = .ok (.putfield 115, 3) := by decide +kernel
theorem dX12_init_283 : decode cX12_init 283 = .ok (.aload_n 0, 1) := by decide +kernel
theorem dX12_init_284 : decode cX12_init 284 = .ok (.bipush 8, 2) := by decide +kernel
theorem dX12_init_286 : decode cX12_init 286 = .ok (.newarray .int, 2) := by decide +kernel
theorem dX12_init_288 : decode cX12_init 288 = .ok (.putfield 118, 3) := by decide +kernel
theorem dX12_init_291 : decode cX12_init 291 = .ok (.aload_n 0, 1) := by decide +kernel
theorem dX12_init_292 : decode cX12_init 292 = .ok (.bipush 8, 2) := by decide +kernel
theorem dX12_init_294 : decode cX12_init 294 = .ok (.newarray .int, 2) := by decide +kernel
theorem dX12_init_296 : decode cX12_init 296 = .ok (.putfield 121, 3) := by decide +kernel
theorem dX12_init_299 : decode cX12_init 299 = .ok (.aload_n 0, 1) := by decide +kernel
theorem dX12_init_300 : decode cX12_init 300 = .ok (.bipush 8, 2) := by decide +kernel
theorem dX12_init_302 : decode cX12_init 302 = .ok (.newarray .int, 2) := by decide +kernel
theorem dX12_init_304 : decode cX12_init 304 = .ok (.putfield 124, 3) := by decide +kernel
theorem dX12_init_307 : decode cX12_init 307 = .ok (.aload_n 0, 1) := by decide +kernel
theorem dX12_init_308 : decode cX12_init 308 = .ok (.bipush 8, 2) := by decide +kernel
theorem dX12_init_310 : decode cX12_init 310 = .ok (.newarray .int, 2) := by decide +kernel
theorem dX12_init_312 : decode cX12_init 312 = .ok (.putfield 127, 3) := by decide +kernel
theorem dX12_init_315 : decode cX12_init 315 = .ok (.aload_n 0, 1) := by decide +kernel
theorem dX12_init_316 : decode cX12_init 316 = .ok (.bipush 8, 2) := by decide +kernel
theorem dX12_init_318 : decode cX12_init 318 = .ok (.newarray .int, 2) := by decide +kernel
theorem dX12_init_320 : decode cX12_init 320 = .ok (.putfield 130, 3) := by decide +kernel
theorem dX12_init_323 : decode cX12_init 323 = .ok (.aload_n 0, 1) := by decide +kernel
theorem dX12_init_324 : decode cX12_init 324 = .ok (.iconst 4, 1) := by decide +kernel
theorem dX12_init_325 : decode cX12_init 325 = .ok (.newarray .int, 2) := by decide +kernel
theorem dX12_init_327 : decode cX12_init 327 = .ok (.putfield 133, 3) := by decide +kernel
theorem dX12_init_330 : decode cX12_init 330 = .ok (.aload_n 0, 1) := by decide +kernel
theorem dX12_init_331 : decode cX12_init 331 = .ok (.iconst 4, 1) := by decide +kernel
theorem dX12_init_332 : decode cX12_init 332 = .ok (.newarray .int, 2) := by decide +kernel
theorem dX12_init_334 : decode cX12_init 334 = .ok (.putfield 136, 3) := by decide +kernel
theorem dX12_init_337 : decode cX12_init 337 = .ok (.aload_n 0, 1) := by decide +kernel
theorem dX12_init_338 : decode cX12_init 338 = .ok (.sipush 256, 3) := by decide +kernel
theorem dX12_init_341 : decode cX12_init 341 = .ok (.newarray .int, 2) := by decide +kernel
theorem dX12_init_343 : decode cX12_init 343 = .ok (.putfield 139, 3) := by decide +kernel
theorem dX12_init_346 : decode cX12_init 346 = .ok (.iconst 0, 1) := by decide +kernel
theorem dX12_init_347 : decode cX12_init 347 = .ok (.istore_n 1, 1) := by decide +kernel
theorem dX12_init_348 : decode cX12_init 348 = .ok (.iload_n 1, 1) := by decide +kernel
theorem dX12_init_349 : decode cX12_init 349 = .ok (.iconst 4, 1) := by decide +kernel
theorem dX12_init_350 : decode cX12_init 350 = .ok (.if_icmp .ge 17, 3) := by decide +kernel
theorem dX12_init_353 : decode cX12_init 353 = .ok (.aload_n 0, 1) := by decide +kernel
theorem dX12_init_354 : decode cX12_init 354 = .ok (.getfield 133, 3) := by decide +kernel
theorem dX12_init_357 : decode cX12_init 357 = .ok (.iload_n 1, 1) := by decide +kernel
theorem dX12_init_358 : decode cX12_init 358 = .ok (.bipush (-4), 2) := by decide +kernel
theorem dX12_init_360 : decode cX12_init 360 = .ok (.iastore, 1) := by decide +kernel
theorem dX12_init_361 : decode cX12_init 361 = .ok (.iinc 1 1, 3) := by decide +kernel
theorem dX12_init_364 : decode cX12_init 364 = .ok (.goto (-16), 3) := by decide +kernel
theorem dX12_init_367 : decode cX12_init 367 = .ok (.aload_n 0, 1) := by decide +kernel
theorem dX12_init_368 : decode cX12_init 368 = .ok (.invokevirtual 142, 3) := by decide +kernel
theorem dX12_init_371 : decode cX12_init 371 = .ok (.return_, 1) := by decide +kernel
theorem dX12_in_0 : decode cX12_in 0 = .ok (.lload_n 0, 1) := by decide +kernel
theorem dX12_in_1 : decode cX12_in 1 = .ok (.lload_n 2, 1) := by decide +kernel
theorem dX12_in_2 : decode cX12_in 2 = .ok (.lcmp, 1) := by decide +kernel
theorem dX12_in_3 : decode cX12_in 3 = .ok (.ifCond .lt 14, 3) := by decide +kernel
theorem dX12_in_6 : decode cX12_in 6 = .ok (.lload_n 0, 1) := by decide +kernel
theorem dX12_in_7 : decode cX12_in 7 = .ok (.lload 4, 2) := by decide +kernel
theorem dX12_in_9 : decode cX12_in 9 = .ok (.lcmp, 1) := by decide +kernel
theorem dX12_in_10 : decode cX12_in 10 = .ok (.ifCond .gt 7, 3) := by decide +kernel
theorem dX12_in_13 : decode cX12_in 13 = .ok (.iconst 1, 1) := by decide +kernel
theorem dX12_in_14 : decode cX12_in 14 = .ok (.goto 4, 3) := by decide +kernel
theorem dX12_in_17 : decode cX12_in 17 = .ok (.iconst 0, 1) := by decide +kernel
theorem dX12_in_18 : decode cX12_in 18 = .ok (.ireturn, 1) := by decide +kernel
theorem dX12_isSquare_0 : decode cX12_isSquare 0 = .ok (.iload_n 1, 1) := by decide +kernel
theorem dX12_isSquare_1 : decode cX12_isSquare 1 = .ok (.i2l, 1) := by decide +kernel
theorem dX12_isSquare_2 : decode cX12_isSquare 2 = .ok (.lconst 0, 1) := by decide +kernel
theorem dX12_isSquare_3 : decode cX12_isSquare 3 = .ok (.aload_n 0, 1) := by decide +kernel
theorem dX12_isSquare_4 : decode cX12_isSquare 4 = .ok (.getfield 7, 3) := by decide +kernel
theorem dX12_isSquare_7 : decode cX12_isSquare 7 = .ok (.iconst 1, 1) := by decide +kernel
theorem dX12_isSquare_8 : decode cX12_isSquare 8 = .ok (.isub, 1) := by decide +kernel
theorem dX12_isSquare_9 : decode cX12_isSquare 9 = .ok (.i2l, 1) := by decide +kernel
theorem dX12_isSquare_10 : decode cX12_isSquare 10 = .ok (.invokestatic 145, 3) := by decide +kernel
theorem dX12_isSquare_13 : decode cX12_isSquare 13 = .ok (.ifCond .eq 23, 3) := by decide +kernel
theorem dX12_isSquare_16 : decode cX12_isSquare 16 = .ok (.iload_n 2, 1) := by decide +kernel
theorem dX12_isSquare_17 : decode cX12_isSquare 17 = .ok (.i2l, 1) := by decide +kernel
theorem dX12_isSquare_18 : decode cX12_isSquare 18 = .ok (.lconst 0, 1) := by decide +kernel
theorem dX12_isSquare_19 : decode cX12_isSquare 19 = .ok (.aload_n 0, 1) := by decide +kernel
theorem dX12_isSquare_20 : decode cX12_isSquare 20 = .ok (.getfield 13, 3) := by decide +kernel
theorem dX12_isSquare_23 : decode cX12_isSquare 23 = .ok (.iconst 1, 1) := by decide +kernel
theorem dX12_isSquare_24 : decode cX12_isSquare 24 = .ok (.isub, 1) := by decide +kernel
theorem dX12_isSquare_25 : decode cX12_isSquare 25 = .ok (.i2l, 1) := by decide +kernel
theorem dX12_isSquare_26 : decode cX12_isSquare 26 = .ok (.invokestatic 145, 3) := by decide +kernel
theorem dX12_isSquare_29 : decode cX12_isSquare 29 = .ok (.ifCond .eq 7, 3) := by decide +kernel
theorem dX12_isSquare_32 : decode cX12_isSquare 32 = .ok (.iconst 1, 1) := by decide +kernel
theorem dX12_isSquare_33 : decode cX12_isSquare 33 = .ok (.goto 4, 3) := by decide +kernel
theorem dX12_isSquare_36 : decode cX12_isSquare 36 = .ok (.iconst 0, 1) := by decide +kernel
theorem dX12_isSquare_37 : decode cX12_isSquare 37 = .ok (.ireturn, 1) := by decide +kernel
theorem dX12_isBlock_0 : decode cX12_isBlock 0 = .ok (.aload_n 0, 1) := by decide +kernel
theorem dX12_isBlock_1 : decode cX12_isBlock 1 = .ok (.iload_n 1, 1) := by decide +kernel
theorem dX12_isBlock_2 : decode cX12_isBlock 2 = .ok (.iload_n 2, 1) := by decide +kernel
theorem dX12_isBlock_3 : decode cX12_isBlock 3 = .ok (.invokevirtual 149, 3) := by decide +kernel
theorem dX12_isBlock_6 : decode cX12_isBlock 6 = .ok (.ifCond .eq 40, 3) := by decide +kernel
theorem dX12_isBlock_9 : decode cX12_isBlock 9 = .ok (.iload_n 3, 1) := by decide +kernel
theorem dX12_isBlock_10 : decode cX12_isBlock 10 = .ok (.i2l, 1) := by decide +kernel
theorem dX12_isBlock_11 : decode cX12_isBlock 11 = .ok (.lconst 1, 1) := by decide +kernel
theorem dX12_isBlock_12 : decode cX12_isBlock 12 = .ok (.aload_n 0, 1) := by decide +kernel
theorem dX12_isBlock_13 : decode cX12_isBlock 13 = .ok (.getfield 7, 3) := by decide +kernel
theorem dX12_isBlock_16 : decode cX12_isBlock 16 = .ok (.iload_n 1, 1) := by decide +kernel
theorem dX12_isBlock_17 : decode cX12_isBlock 17 = .ok (.isub, 1) := by decide +kernel
theorem dX12_isBlock_18 : decode cX12_isBlock 18 = .ok (.i2l, 1) := by decide +kernel
theorem dX12_isBlock_19 : decode cX12_isBlock 19 = .ok (.invokestatic 145, 3) := by decide +kernel
theorem dX12_isBlock_22 : decode cX12_isBlock 22 = .ok (.ifCond .eq 24, 3) := by decide +kernel
theorem dX12_isBlock_25 : decode cX12_isBlock 25 = .ok (.iload 4, 2) := by decide +kernel
theorem dX12_isBlock_27 : decode cX12_isBlock 27 = .ok (.i2l, 1) := by decide +kernel
theorem dX12_isBlock_28 : decode cX12_isBlock 28 = .ok (.lconst 1, 1) := by decide +kernel
theorem dX12_isBlock_29 : decode cX12_isBlock 29 = .ok (.aload_n 0, 1) := by decide +kernel
theorem dX12_isBlock_30 : decode cX12_isBlock 30 = .ok (.getfield 13, 3) := by decide +kernel
theorem dX12_isBlock_33 : decode cX12_isBlock 33 = .ok (.iload_n 2, 1) := by decide +kernel
theorem dX12_isBlock_34 : decode cX12_isBlock 34 = .ok (.isub, 1) := by decide +kernel
theorem dX12_isBlock_35 : decode cX12_isBlock 35 = .ok (.i2l, 1) := by decide +kernel
theorem dX12_isBlock_36 : decode cX12_isBlock 36 = .ok (.invokestatic 145, 3) := by decide +kernel
theorem dX12_isBlock_39 : decode cX12_isBlock 39 = .ok (.ifCond .eq 7, 3) := by decide +kernel
theorem dX12_isBlock_42 : decode cX12_isBlock 42 = .ok (.iconst 1, 1) := by decide +kernel
theorem dX12_isBlock_43 : decode cX12_isBlock 43 = .ok (.goto 4, 3) := by decide +kernel
theorem dX12_isBlock_46 : decode cX12_isBlock 46 = .ok (.iconst 0, 1) := by decide +kernel
theorem dX12_isBlock_47 : decode cX12_isBlock 47 = .ok (.ireturn, 1) := by decide +kernel
theorem dX12_keeps_0 : decode cX12_keeps 0 = .ok (.aload_n 0, 1) := by decide +kernel
theorem dX12_keeps_1 : decode cX12_keeps 1 = .ok (.getfield 153, 3) := by decide +kernel
theorem dX12_keeps_4 : decode cX12_keeps 4 = .ok (.bipush 8, 2) := by decide +kernel
theorem dX12_keeps_6 : decode cX12_keeps 6 = .ok (.if_icmp .ne 59, 3) := by decide +kernel
theorem dX12_keeps_9 : decode cX12_keeps 9 = .ok (.bipush 64, 2) := by decide +kernel
theorem dX12_keeps_11 : decode cX12_keeps 11 = .ok (.istore_n 1, 1) := by decide +kernel
theorem dX12_keeps_12 : decode cX12_keeps 12 = .ok (.iload_n 1, 1) := by decide +kernel
theorem dX12_keeps_13 : decode cX12_keeps 13 = .ok (.sipush 512, 3) := by decide +kernel
theorem dX12_keeps_16 : decode cX12_keeps 16 = .ok (.if_icmp .ge 39, 3) := by decide +kernel
theorem dX12_keeps_19 : decode cX12_keeps 19 = .ok (.aload_n 0, 1) := by decide +kernel
theorem dX12_keeps_20 : decode cX12_keeps 20 = .ok (.getfield 27, 3) := by decide +kernel
theorem dX12_keeps_23 : decode cX12_keeps 23 = .ok (.iload_n 1, 1) := by decide +kernel
theorem dX12_keeps_24 : decode cX12_keeps 24 = .ok (.bipush 64, 2) := by decide +kernel
theorem dX12_keeps_26 : decode cX12_keeps 26 = .ok (.isub, 1) := by decide +kernel
theorem dX12_keeps_27 : decode cX12_keeps 27 = .ok (.aload_n 0, 1) := by decide +kernel
theorem dX12_keeps_28 : decode cX12_keeps 28 = .ok (.getfield 27, 3) := by decide +kernel
theorem dX12_keeps_31 : decode cX12_keeps 31 = .ok (.iload_n 1, 1) := by decide +kernel
theorem dX12_keeps_32 : decode cX12_keeps 32 = .ok (.baload, 1) := by decide +kernel
theorem dX12_keeps_33 : decode cX12_keeps 33 = .ok (.bastore, 1) := by decide +kernel
theorem dX12_keeps_34 : decode cX12_keeps 34 = .ok (.aload_n 0, 1) := by decide +kernel
theorem dX12_keeps_35 : decode cX12_keeps 35 = .ok (.getfield 30, 3) := by decide +kernel
theorem dX12_keeps_38 : decode cX12_keeps 38 = .ok (.iload_n 1, 1) := by decide +kernel
theorem dX12_keeps_39 : decode cX12_keeps 39 = .ok (.bipush 64, 2) := by decide +kernel
theorem dX12_keeps_41 : decode cX12_keeps 41 = .ok (.isub, 1) := by decide +kernel
theorem dX12_keeps_42 : decode cX12_keeps 42 = .ok (.aload_n 0, 1) := by decide +kernel
theorem dX12_keeps_43 : decode cX12_keeps 43 = .ok (.getfield 30, 3) := by decide +kernel
theorem dX12_keeps_46 : decode cX12_keeps 46 = .ok (.iload_n 1, 1) := by decide +kernel
theorem dX12_keeps_47 : decode cX12_keeps 47 = .ok (.iaload, 1) := by decide +kernel
theorem dX12_keeps_48 : decode cX12_keeps 48 = .ok (.iastore, 1) := by decide +kernel
theorem dX12_keeps_49 : decode cX12_keeps 49 = .ok (.iinc 1 1, 3) := by decide +kernel
theorem dX12_keeps_52 : decode cX12_keeps 52 = .ok (.goto (-40), 3) := by decide +kernel
theorem dX12_keeps_55 : decode cX12_keeps 55 = .ok (.aload_n 0, 1) := by decide +kernel
theorem dX12_keeps_56 : decode cX12_keeps 56 = .ok (.dup, 1) := by decide +kernel
theorem dX12_keeps_57 : decode cX12_keeps 57 = .ok (.getfield 153, 3) := by decide +kernel
theorem dX12_keeps_60 : decode cX12_keeps 60 = .ok (.iconst 1, 1) := by decide +kernel
theorem dX12_keeps_61 : decode cX12_keeps 61 = .ok (.isub, 1) := by decide +kernel
theorem dX12_keeps_62 : decode cX12_keeps 62 = .ok (.putfield 153, 3) := by decide +kernel
theorem dX12_keeps_65 : decode cX12_keeps 65 = .ok (.iconst 0, 1) := by decide +kernel
theorem dX12_keeps_66 : decode cX12_keeps 66 = .ok (.istore_n 1, 1) := by decide +kernel
theorem dX12_keeps_67 : decode cX12_keeps 67 = .ok (.iload_n 1, 1) := by decide +kernel
theorem dX12_keeps_68 : decode cX12_keeps 68 = .ok (.bipush 64, 2) := by decide +kernel
theorem dX12_keeps_70 : decode cX12_keeps 70 = .ok (.if_icmp .ge 49, 3) := by decide +kernel
theorem dX12_keeps_73 : decode cX12_keeps 73 = .ok (.aload_n 0, 1) := by decide +kernel
theorem dX12_keeps_74 : decode cX12_keeps 74 = .ok (.getfield 27, 3) := by decide +kernel
theorem dX12_keeps_77 : decode cX12_keeps 77 = .ok (.bipush 64, 2) := by decide +kernel
theorem dX12_keeps_79 : decode cX12_keeps 79 = .ok (.aload_n 0, 1) := by decide +kernel
theorem dX12_keeps_80 : decode cX12_keeps 80 = .ok (.getfield 153, 3) := by decide +kernel
theorem dX12_keeps_83 : decode cX12_keeps 83 = .ok (.imul, 1) := by decide +kernel
theorem dX12_keeps_84 : decode cX12_keeps 84 = .ok (.iload_n 1, 1) := by decide +kernel
theorem dX12_keeps_85 : decode cX12_keeps 85 = .ok (.iadd, 1) := by decide +kernel
theorem dX12_keeps_86 : decode cX12_keeps 86 = .ok (.aload_n 0, 1) := by decide +kernel
theorem dX12_keeps_87 : decode cX12_keeps 87 = .ok (.getfield 16, 3) := by decide +kernel
theorem dX12_keeps_90 : decode cX12_keeps 90 = .ok (.iload_n 1, 1) := by decide +kernel
theorem dX12_keeps_91 : decode cX12_keeps 91 = .ok (.baload, 1) := by decide +kernel
theorem dX12_keeps_92 : decode cX12_keeps 92 = .ok (.bastore, 1) := by decide +kernel
theorem dX12_keeps_93 : decode cX12_keeps 93 = .ok (.aload_n 0, 1) := by decide +kernel
theorem dX12_keeps_94 : decode cX12_keeps 94 = .ok (.getfield 30, 3) := by decide +kernel
theorem dX12_keeps_97 : decode cX12_keeps 97 = .ok (.bipush 64, 2) := by decide +kernel
theorem dX12_keeps_99 : decode cX12_keeps 99 = .ok (.aload_n 0, 1) := by decide +kernel
theorem dX12_keeps_100 : decode cX12_keeps 100 = .ok (.getfield 153, 3) := by decide +kernel
theorem dX12_keeps_103 : decode cX12_keeps 103 = .ok (.imul, 1) := by decide +kernel
