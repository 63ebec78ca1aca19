theorem dX6_init_8 : decode cX6_init 8 = .ok (.putfield 9, 3) := by decide +kernel
theorem dX6_init_11 : decode cX6_init 11 = .ok (.aload_n 0, 1) := by decide +kernel
theorem dX6_init_12 : decode cX6_init 12 = .ok (.iconst 0, 1) := by decide +kernel
theorem dX6_init_13 : decode cX6_init 13 = .ok (.putfield 15, 3) := by decide +kernel
theorem dX6_init_16 : decode cX6_init 16 = .ok (.aload_n 0, 1) := by decide +kernel
theorem dX6_init_17 : decode cX6_init 17 = .ok (.bipush 64, 2) := by decide +kernel
theorem dX6_init_19 : decode cX6_init 19 = .ok (.newarray .int, 2) := by decide +kernel
theorem dX6_init_21 : decode cX6_init 21 = .ok (.putfield 19, 3) := by decide +kernel
theorem dX6_init_24 : decode cX6_init 24 = .ok (.aload_n 0, 1) := by decide +kernel
theorem dX6_init_25 : decode cX6_init 25 = .ok (.bipush 64, 2) := by decide +kernel
theorem dX6_init_27 : decode cX6_init 27 = .ok (.newarray .int, 2) := by decide +kernel
theorem dX6_init_29 : decode cX6_init 29 = .ok (.putfield 23, 3) := by decide +kernel
theorem dX6_init_32 : decode cX6_init 32 = .ok (.aload_n 0, 1) := by decide +kernel
theorem dX6_init_33 : decode cX6_init 33 = .ok (.bipush 8, 2) := by decide +kernel
theorem dX6_init_35 : decode cX6_init 35 = .ok (.newarray .int, 2) := by decide +kernel
theorem dX6_init_37 : decode cX6_init 37 = .ok (.putfield 26, 3) := by decide +kernel
theorem dX6_init_40 : decode cX6_init 40 = .ok (.aload_n 0, 1) := by decide +kernel
theorem dX6_init_41 : decode cX6_init 41 = .ok (.bipush 8, 2) := by decide +kernel
theorem dX6_init_43 : decode cX6_init 43 = .ok (.newarray .int, 2) := by decide +kernel
theorem dX6_init_45 : decode cX6_init 45 = .ok (.putfield 29, 3) := by decide +kernel
theorem dX6_init_48 : decode cX6_init 48 = .ok (.aload_n 0, 1) := by decide +kernel
theorem dX6_init_49 : decode cX6_init 49 = .ok (.sipush 4096, 3) := by decide +kernel
theorem dX6_init_52 : decode cX6_init 52 = .ok (.newarray .int, 2) := by decide +kernel
theorem dX6_init_54 : decode cX6_init 54 = .ok (.putfield 32, 3) := by decide +kernel
theorem dX6_init_57 : decode cX6_init 57 = .ok (.aload_n 0, 1) := by decide +kernel
theorem dX6_init_58 : decode cX6_init 58 = .ok (.bipush 64, 2) := by decide +kernel
theorem dX6_init_60 : decode cX6_init 60 = .ok (.newarray .int, 2) := by decide +kernel
theorem dX6_init_62 : decode cX6_init 62 = .ok (.putfield 35, 3) := by decide +kernel
theorem dX6_init_65 : decode cX6_init 65 = .ok (.aload_n 0, 1) := by decide +kernel
theorem dX6_init_66 : decode cX6_init 66 = .ok (.bipush 8, 2) := by decide +kernel
theorem dX6_init_68 : decode cX6_init 68 = .ok (.newarray .int, 2) := by decide +kernel
theorem dX6_init_70 : decode cX6_init 70 = .ok (.putfield 38, 3) := by decide +kernel
theorem dX6_init_73 : decode cX6_init 73 = .ok (.aload_n 0, 1) := by decide +kernel
theorem dX6_init_74 : decode cX6_init 74 = .ok (.iconst 0, 1) := by decide +kernel
theorem dX6_init_75 : decode cX6_init 75 = .ok (.putfield 41, 3) := by decide +kernel
theorem dX6_init_78 : decode cX6_init 78 = .ok (.aload_n 0, 1) := by decide +kernel
theorem dX6_init_79 : decode cX6_init 79 = .ok (.iconst 0, 1) := by decide +kernel
theorem dX6_init_80 : decode cX6_init 80 = .ok (.putfield 44, 3) := by decide +kernel
theorem dX6_init_83 : decode cX6_init 83 = .ok (.aload_n 0, 1) := by decide +kernel
theorem dX6_init_84 : decode cX6_init 84 = .ok (.iconst 0, 1) := by decide +kernel
theorem dX6_init_85 : decode cX6_init 85 = .ok (.putfield 47, 3) := by decide +kernel
theorem dX6_init_88 : decode cX6_init 88 = .ok (.aload_n 0, 1) := by decide +kernel
theorem dX6_init_89 : decode cX6_init 89 = .ok (.aload_n 1, 1) := by decide +kernel
theorem dX6_init_90 : decode cX6_init 90 = .ok (.putfield 50, 3) := by decide +kernel
theorem dX6_init_93 : decode cX6_init 93 = .ok (.aload_n 0, 1) := by decide +kernel
theorem dX6_init_94 : decode cX6_init 94 = .ok (.aload_n 2, 1) := by decide +kernel
theorem dX6_init_95 : decode cX6_init 95 = .ok (.putfield 54, 3) := by decide +kernel
theorem dX6_init_98 : decode cX6_init 98 = .ok (.return_, 1) := by decide +kernel
theorem dX6_seeOnly_0 : decode cX6_seeOnly 0 = .ok (.aload_n 0, 1) := by decide +kernel
theorem dX6_seeOnly_1 : decode cX6_seeOnly 1 = .ok (.getfield 9, 3) := by decide +kernel
theorem dX6_seeOnly_4 : decode cX6_seeOnly 4 = .ok (.iconst 0, 1) := by decide +kernel
theorem dX6_seeOnly_5 : decode cX6_seeOnly 5 = .ok (.lload_n 1, 1) := by decide +kernel
theorem dX6_seeOnly_6 : decode cX6_seeOnly 6 = .ok (.lastore, 1) := by decide +kernel
theorem dX6_seeOnly_7 : decode cX6_seeOnly 7 = .ok (.aload_n 0, 1) := by decide +kernel
theorem dX6_seeOnly_8 : decode cX6_seeOnly 8 = .ok (.iconst 1, 1) := by decide +kernel
theorem dX6_seeOnly_9 : decode cX6_seeOnly 9 = .ok (.putfield 15, 3) := by decide +kernel
theorem dX6_seeOnly_12 : decode cX6_seeOnly 12 = .ok (.return_, 1) := by decide +kernel
theorem dX6_seeToo_0 : decode cX6_seeToo 0 = .ok (.aload_n 0, 1) := by decide +kernel
theorem dX6_seeToo_1 : decode cX6_seeToo 1 = .ok (.getfield 15, 3) := by decide +kernel
theorem dX6_seeToo_4 : decode cX6_seeToo 4 = .ok (.iconst 4, 1) := by decide +kernel
theorem dX6_seeToo_5 : decode cX6_seeToo 5 = .ok (.if_icmp .ge 23, 3) := by decide +kernel
theorem dX6_seeToo_8 : decode cX6_seeToo 8 = .ok (.aload_n 0, 1) := by decide +kernel
theorem dX6_seeToo_9 : decode cX6_seeToo 9 = .ok (.getfield 9, 3) := by decide +kernel
theorem dX6_seeToo_12 : decode cX6_seeToo 12 = .ok (.aload_n 0, 1) := by decide +kernel
theorem dX6_seeToo_13 : decode cX6_seeToo 13 = .ok (.getfield 15, 3) := by decide +kernel
theorem dX6_seeToo_16 : decode cX6_seeToo 16 = .ok (.lload_n 1, 1) := by decide +kernel
theorem dX6_seeToo_17 : decode cX6_seeToo 17 = .ok (.lastore, 1) := by decide +kernel
theorem dX6_seeToo_18 : decode cX6_seeToo 18 = .ok (.aload_n 0, 1) := by decide +kernel
theorem dX6_seeToo_19 : decode cX6_seeToo 19 = .ok (.dup, 1) := by decide +kernel
theorem dX6_seeToo_20 : decode cX6_seeToo 20 = .ok (.getfield 15, 3) := by decide +kernel
theorem dX6_seeToo_23 : decode cX6_seeToo 23 = .ok (.iconst 1, 1) := by decide +kernel
theorem dX6_seeToo_24 : decode cX6_seeToo 24 = .ok (.iadd, 1) := by decide +kernel
theorem dX6_seeToo_25 : decode cX6_seeToo 25 = .ok (.putfield 15, 3) := by decide +kernel
theorem dX6_seeToo_28 : decode cX6_seeToo 28 = .ok (.return_, 1) := by decide +kernel
theorem dX6_weigh_0 : decode cX6_weigh 0 = .ok (.aload_n 0, 1) := by decide +kernel
theorem dX6_weigh_1 : decode cX6_weigh 1 = .ok (.invokevirtual 58, 3) := by decide +kernel
theorem dX6_weigh_4 : decode cX6_weigh 4 = .ok (.aload_n 0, 1) := by decide +kernel
theorem dX6_weigh_5 : decode cX6_weigh 5 = .ok (.invokevirtual 61, 3) := by decide +kernel
theorem dX6_weigh_8 : decode cX6_weigh 8 = .ok (.iconst 1, 1) := by decide +kernel
theorem dX6_weigh_9 : decode cX6_weigh 9 = .ok (.istore 5, 2) := by decide +kernel
theorem dX6_weigh_11 : decode cX6_weigh 11 = .ok (.iload 5, 2) := by decide +kernel
theorem dX6_weigh_13 : decode cX6_weigh 13 = .ok (.iload 4, 2) := by decide +kernel
theorem dX6_weigh_15 : decode cX6_weigh 15 = .ok (.if_icmp .gt 40, 3) := by decide +kernel
theorem dX6_weigh_18 : decode cX6_weigh 18 = .ok (.iload_n 2, 1) := by decide +kernel
theorem dX6_weigh_19 : decode cX6_weigh 19 = .ok (.istore 6, 2) := by decide +kernel
theorem dX6_weigh_21 : decode cX6_weigh 21 = .ok (.iload 6, 2) := by decide +kernel
theorem dX6_weigh_23 : decode cX6_weigh 23 = .ok (.iload 5, 2) := by decide +kernel
theorem dX6_weigh_25 : decode cX6_weigh 25 = .ok (.iadd, 1) := by decide +kernel
theorem dX6_weigh_26 : decode cX6_weigh 26 = .ok (.iload_n 2, 1) := by decide +kernel
theorem dX6_weigh_27 : decode cX6_weigh 27 = .ok (.iload 4, 2) := by decide +kernel
theorem dX6_weigh_29 : decode cX6_weigh 29 = .ok (.iadd, 1) := by decide +kernel
theorem dX6_weigh_30 : decode cX6_weigh 30 = .ok (.if_icmp .gt 19, 3) := by decide +kernel
theorem dX6_weigh_33 : decode cX6_weigh 33 = .ok (.aload_n 0, 1) := by decide +kernel
theorem dX6_weigh_34 : decode cX6_weigh 34 = .ok (.iload_n 1, 1) := by decide +kernel
theorem dX6_weigh_35 : decode cX6_weigh 35 = .ok (.iload_n 3, 1) := by decide +kernel
theorem dX6_weigh_36 : decode cX6_weigh 36 = .ok (.iload 6, 2) := by decide +kernel
theorem dX6_weigh_38 : decode cX6_weigh 38 = .ok (.iload 5, 2) := by decide +kernel
theorem dX6_weigh_40 : decode cX6_weigh 40 = .ok (.invokevirtual 64, 3) := by decide +kernel
theorem dX6_weigh_43 : decode cX6_weigh 43 = .ok (.iinc 6 1, 3) := by decide +kernel
theorem dX6_weigh_46 : decode cX6_weigh 46 = .ok (.goto (-25), 3) := by decide +kernel
theorem dX6_weigh_49 : decode cX6_weigh 49 = .ok (.iinc 5 1, 3) := by decide +kernel
theorem dX6_weigh_52 : decode cX6_weigh 52 = .ok (.goto (-41), 3) := by decide +kernel
theorem dX6_weigh_55 : decode cX6_weigh 55 = .ok (.aload_n 0, 1) := by decide +kernel
theorem dX6_weigh_56 : decode cX6_weigh 56 = .ok (.getfield 32, 3) := by decide +kernel
theorem dX6_weigh_59 : decode cX6_weigh 59 = .ok (.iload_n 1, 1) := by decide +kernel
theorem dX6_weigh_60 : decode cX6_weigh 60 = .ok (.iload_n 2, 1) := by decide +kernel
theorem dX6_weigh_61 : decode cX6_weigh 61 = .ok (.iload_n 3, 1) := by decide +kernel
theorem dX6_weigh_62 : decode cX6_weigh 62 = .ok (.iload 4, 2) := by decide +kernel
theorem dX6_weigh_64 : decode cX6_weigh 64 = .ok (.invokestatic 68, 3) := by decide +kernel
theorem dX6_weigh_67 : decode cX6_weigh 67 = .ok (.iaload, 1) := by decide +kernel
theorem dX6_weigh_68 : decode cX6_weigh 68 = .ok (.ireturn, 1) := by decide +kernel
theorem dX6_placeOf_0 : decode cX6_placeOf 0 = .ok (.iload_n 2, 1) := by decide +kernel
theorem dX6_placeOf_1 : decode cX6_placeOf 1 = .ok (.iconst 1, 1) := by decide +kernel
theorem dX6_placeOf_2 : decode cX6_placeOf 2 = .ok (.isub, 1) := by decide +kernel
theorem dX6_placeOf_3 : decode cX6_placeOf 3 = .ok (.sipush 512, 3) := by decide +kernel
theorem dX6_placeOf_6 : decode cX6_placeOf 6 = .ok (.imul, 1) := by decide +kernel
theorem dX6_placeOf_7 : decode cX6_placeOf 7 = .ok (.iload_n 3, 1) := by decide +kernel
theorem dX6_placeOf_8 : decode cX6_placeOf 8 = .ok (.iconst 1, 1) := by decide +kernel
theorem dX6_placeOf_9 : decode cX6_placeOf 9 = .ok (.isub, 1) := by decide +kernel
theorem dX6_placeOf_10 : decode cX6_placeOf 10 = .ok (.bipush 64, 2) := by decide +kernel
theorem dX6_placeOf_12 : decode cX6_placeOf 12 = .ok (.imul, 1) := by decide +kernel
theorem dX6_placeOf_13 : decode cX6_placeOf 13 = .ok (.iadd, 1) := by decide +kernel
theorem dX6_placeOf_14 : decode cX6_placeOf 14 = .ok (.iload_n 0, 1) := by decide +kernel
theorem dX6_placeOf_15 : decode cX6_placeOf 15 = .ok (.iload_n 1, 1) := by decide +kernel
theorem dX6_placeOf_16 : decode cX6_placeOf 16 = .ok (.invokestatic 72, 3) := by decide +kernel
theorem dX6_placeOf_19 : decode cX6_placeOf 19 = .ok (.iadd, 1) := by decide +kernel
theorem dX6_placeOf_20 : decode cX6_placeOf 20 = .ok (.ireturn, 1) := by decide +kernel
theorem dX6_markSquares_0 : decode cX6_markSquares 0 = .ok (.iconst 0, 1) := by decide +kernel
theorem dX6_markSquares_1 : decode cX6_markSquares 1 = .ok (.istore_n 1, 1) := by decide +kernel
theorem dX6_markSquares_2 : decode cX6_markSquares 2 = .ok (.iload_n 1, 1) := by decide +kernel
theorem dX6_markSquares_3 : decode cX6_markSquares 3 = .ok (.aload_n 0, 1) := by decide +kernel
theorem dX6_markSquares_4 : decode cX6_markSquares 4 = .ok (.getfield 50, 3) := by decide +kernel
theorem dX6_markSquares_7 : decode cX6_markSquares 7 = .ok (.getfield 76, 3) := by decide +kernel
theorem dX6_markSquares_10 : decode cX6_markSquares 10 = .ok (.if_icmp .ge 98, 3) := by decide +kernel
theorem dX6_markSquares_13 : decode cX6_markSquares 13 = .ok (.iconst 0, 1) := by decide +kernel
theorem dX6_markSquares_14 : decode cX6_markSquares 14 = .ok (.istore_n 2, 1) := by decide +kernel
theorem dX6_markSquares_15 : decode cX6_markSquares 15 = .ok (.iload_n 2, 1) := by decide +kernel
theorem dX6_markSquares_16 : decode cX6_markSquares 16 = .ok (.aload_n 0, 1) := by decide +kernel
theorem dX6_markSquares_17 : decode cX6_markSquares 17 = .ok (.getfield 50, 3) := by decide +kernel
theorem dX6_markSquares_20 : decode cX6_markSquares 20 = .ok (.getfield 81, 3) := by decide +kernel
theorem dX6_markSquares_23 : decode cX6_markSquares 23 = .ok (.if_icmp .ge 79, 3) := by decide +kernel
theorem dX6_markSquares_26 : decode cX6_markSquares 26 = .ok (.iconst 2, 1) := by decide +kernel
theorem dX6_markSquares_27 : decode cX6_markSquares 27 = .ok (.aload_n 0, 1) := by decide +kernel
theorem dX6_markSquares_28 : decode cX6_markSquares 28 = .ok (.getfield 50, 3) := by decide +kernel
theorem dX6_markSquares_31 : decode cX6_markSquares 31 = .ok (.getfield 84, 3) := by decide +kernel
theorem dX6_markSquares_34 : decode cX6_markSquares 34 = .ok (.iload_n 2, 1) := by decide +kernel
theorem dX6_markSquares_35 : decode cX6_markSquares 35 = .ok (.iload_n 1, 1) := by decide +kernel
theorem dX6_markSquares_36 : decode cX6_markSquares 36 = .ok (.invokestatic 72, 3) := by decide +kernel
theorem dX6_markSquares_39 : decode cX6_markSquares 39 = .ok (.iaload, 1) := by decide +kernel
theorem dX6_markSquares_40 : decode cX6_markSquares 40 = .ok (.ishl, 1) := by decide +kernel
theorem dX6_markSquares_41 : decode cX6_markSquares 41 = .ok (.iconst 1, 1) := by decide +kernel
theorem dX6_markSquares_42 : decode cX6_markSquares 42 = .ok (.isub, 1) := by decide +kernel
theorem dX6_markSquares_43 : decode cX6_markSquares 43 = .ok (.istore_n 3, 1) := by decide +kernel
theorem dX6_markSquares_44 : decode cX6_markSquares 44 = .ok (.iconst 0, 1) := by decide +kernel
theorem dX6_markSquares_45 : decode cX6_markSquares 45 = .ok (.istore 4, 2) := by decide +kernel
theorem dX6_markSquares_47 : decode cX6_markSquares 47 = .ok (.iload 4, 2) := by decide +kernel
theorem dX6_markSquares_49 : decode cX6_markSquares 49 = .ok (.aload_n 0, 1) := by decide +kernel
theorem dX6_markSquares_50 : decode cX6_markSquares 50 = .ok (.getfield 15, 3) := by decide +kernel
theorem dX6_markSquares_53 : decode cX6_markSquares 53 = .ok (.if_icmp .ge 32, 3) := by decide +kernel
theorem dX6_markSquares_56 : decode cX6_markSquares 56 = .ok (.iload_n 3, 1) := by decide +kernel
theorem dX6_markSquares_57 : decode cX6_markSquares 57 = .ok (.iconst 1, 1) := by decide +kernel
theorem dX6_markSquares_58 : decode cX6_markSquares 58 = .ok (.aload_n 0, 1) := by decide +kernel
theorem dX6_markSquares_59 : decode cX6_markSquares 59 = .ok (.getfield 9, 3) := by decide +kernel
theorem dX6_markSquares_62 : decode cX6_markSquares 62 = .ok (.iload 4, 2) := by decide +kernel
theorem dX6_markSquares_64 : decode cX6_markSquares 64 = .ok (.laload, 1) := by decide +kernel
theorem dX6_markSquares_65 : decode cX6_markSquares 65 = .ok (.iload_n 2, 1) := by decide +kernel
theorem dX6_markSquares_66 : decode cX6_markSquares 66 = .ok (.iload_n 1, 1) := by decide +kernel
theorem dX6_markSquares_67 : decode cX6_markSquares 67 = .ok (.invokestatic 87, 3) := by decide +kernel
theorem dX6_markSquares_70 : decode cX6_markSquares 70 = .ok (.isub, 1) := by decide +kernel
theorem dX6_markSquares_71 : decode cX6_markSquares 71 = .ok (.bipush 10, 2) := by decide +kernel
theorem dX6_markSquares_73 : decode cX6_markSquares 73 = .ok (.iload 4, 2) := by decide +kernel
theorem dX6_markSquares_75 : decode cX6_markSquares 75 = .ok (.iadd, 1) := by decide +kernel
theorem dX6_markSquares_76 : decode cX6_markSquares 76 = .ok (.ishl, 1) := by decide +kernel
theorem dX6_markSquares_77 : decode cX6_markSquares 77 = .ok (.ior, 1) := by decide +kernel
theorem dX6_markSquares_78 : decode cX6_markSquares 78 = .ok (.istore_n 3, 1) := by decide +kernel
theorem dX6_markSquares_79 : decode cX6_markSquares 79 = .ok (.iinc 4 1, 3) := by decide +kernel
theorem dX6_markSquares_82 : decode cX6_markSquares 82 = .ok (.goto (-35), 3) := by decide +kernel
theorem dX6_markSquares_85 : decode cX6_markSquares 85 = .ok (.aload_n 0, 1) := by decide +kernel
theorem dX6_markSquares_86 : decode cX6_markSquares 86 = .ok (.getfield 19, 3) := by decide +kernel
theorem dX6_markSquares_89 : decode cX6_markSquares 89 = .ok (.iload_n 2, 1) := by decide +kernel
theorem dX6_markSquares_90 : decode cX6_markSquares 90 = .ok (.iload_n 1, 1) := by decide +kernel
theorem dX6_markSquares_91 : decode cX6_markSquares 91 = .ok (.invokestatic 72, 3) := by decide +kernel
theorem dX6_markSquares_94 : decode cX6_markSquares 94 = .ok (.iload_n 3, 1) := by decide +kernel
theorem dX6_markSquares_95 : decode cX6_markSquares 95 = .ok (.iastore, 1) := by decide +kernel
theorem dX6_markSquares_96 : decode cX6_markSquares 96 = .ok (.iinc 2 1, 3) := by decide +kernel
theorem dX6_markSquares_99 : decode cX6_markSquares 99 = .ok (.goto (-84), 3) := by decide +kernel
theorem dX6_markSquares_102 : decode cX6_markSquares 102 = .ok (.iinc 1 1, 3) := by decide +kernel
theorem dX6_markSquares_105 : decode cX6_markSquares 105 = .ok (.goto (-103), 3) := by decide +kernel
theorem dX6_markSquares_108 : decode cX6_markSquares 108 = .ok (.return_, 1) := by decide +kernel
theorem dX6_sortShapes_0 : decode cX6_sortShapes 0 = .ok (.iconst 0, 1) := by decide +kernel
theorem dX6_sortShapes_1 : decode cX6_sortShapes 1 = .ok (.istore_n 1, 1) := by decide +kernel
theorem dX6_sortShapes_2 : decode cX6_sortShapes 2 = .ok (.iload_n 1, 1) := by decide +kernel
theorem dX6_sortShapes_3 : decode cX6_sortShapes 3 = .ok (.bipush 64, 2) := by decide +kernel
theorem dX6_sortShapes_5 : decode cX6_sortShapes 5 = .ok (.if_icmp .ge 16, 3) := by decide +kernel
theorem dX6_sortShapes_8 : decode cX6_sortShapes 8 = .ok (.aload_n 0, 1) := by decide +kernel
theorem dX6_sortShapes_9 : decode cX6_sortShapes 9 = .ok (.getfield 23, 3) := by decide +kernel
theorem dX6_sortShapes_12 : decode cX6_sortShapes 12 = .ok (.iload_n 1, 1) := by decide +kernel
theorem dX6_sortShapes_13 : decode cX6_sortShapes 13 = .ok (.iconst 0, 1) := by decide +kernel
theorem dX6_sortShapes_14 : decode cX6_sortShapes 14 = .ok (.iastore, 1) := by decide +kernel
theorem dX6_sortShapes_15 : decode cX6_sortShapes 15 = .ok (.iinc 1 1, 3) := by decide +kernel
theorem dX6_sortShapes_18 : decode cX6_sortShapes 18 = .ok (.goto (-16), 3) := by decide +kernel
theorem dX6_sortShapes_21 : decode cX6_sortShapes 21 = .ok (.iconst 0, 1) := by decide +kernel
theorem dX6_sortShapes_22 : decode cX6_sortShapes 22 = .ok (.istore_n 1, 1) := by decide +kernel
theorem dX6_sortShapes_23 : decode cX6_sortShapes 23 = .ok (.iload_n 1, 1) := by decide +kernel
theorem dX6_sortShapes_24 : decode cX6_sortShapes 24 = .ok (.aload_n 0, 1) := by decide +kernel
theorem dX6_sortShapes_25 : decode cX6_sortShapes 25 = .ok (.getfield 54, 3) := by decide +kernel
theorem dX6_sortShapes_28 : decode cX6_sortShapes 28 = .ok (.getfield 91, 3) := by decide +kernel
theorem dX6_sortShapes_31 : decode cX6_sortShapes 31 = .ok (.if_icmp .ge 77, 3) := by decide +kernel
theorem dX6_sortShapes_34 : decode cX6_sortShapes 34 = .ok (.aload_n 0, 1) := by decide +kernel
theorem dX6_sortShapes_35 : decode cX6_sortShapes 35 = .ok (.getfield 54, 3) := by decide +kernel
theorem dX6_sortShapes_38 : decode cX6_sortShapes 38 = .ok (.getfield 96, 3) := by decide +kernel
theorem dX6_sortShapes_41 : decode cX6_sortShapes 41 = .ok (.iload_n 1, 1) := by decide +kernel
theorem dX6_sortShapes_42 : decode cX6_sortShapes 42 = .ok (.iaload, 1) := by decide +kernel
theorem dX6_sortShapes_43 : decode cX6_sortShapes 43 = .ok (.iconst 1, 1) := by decide +kernel
theorem dX6_sortShapes_44 : decode cX6_sortShapes 44 = .ok (.isub, 1) := by decide +kernel
theorem dX6_sortShapes_45 : decode cX6_sortShapes 45 = .ok (.istore_n 2, 1) := by decide +kernel
theorem dX6_sortShapes_46 : decode cX6_sortShapes 46 = .ok (.aload_n 0, 1) := by decide +kernel
theorem dX6_sortShapes_47 : decode cX6_sortShapes 47 = .ok (.getfield 54, 3) := by decide +kernel
theorem dX6_sortShapes_50 : decode cX6_sortShapes 50 = .ok (.getfield 98, 3) := by decide +kernel
theorem dX6_sortShapes_53 : decode cX6_sortShapes 53 = .ok (.iload_n 1, 1) := by decide +kernel
theorem dX6_sortShapes_54 : decode cX6_sortShapes 54 = .ok (.iaload, 1) := by decide +kernel
theorem dX6_sortShapes_55 : decode cX6_sortShapes 55 = .ok (.iconst 1, 1) := by decide +kernel
theorem dX6_sortShapes_56 : decode cX6_sortShapes 56 = .ok (.isub, 1) := by decide +kernel
theorem dX6_sortShapes_57 : decode cX6_sortShapes 57 = .ok (.istore_n 3, 1) := by decide +kernel
theorem dX6_sortShapes_58 : decode cX6_sortShapes 58 = .ok (.aload_n 0, 1) := by decide +kernel
theorem dX6_sortShapes_59 : decode cX6_sortShapes 59 = .ok (.getfield 23, 3) := by decide +kernel
theorem dX6_sortShapes_62 : decode cX6_sortShapes 62 = .ok (.iload_n 2, 1) := by decide +kernel
theorem dX6_sortShapes_63 : decode cX6_sortShapes 63 = .ok (.iload_n 3, 1) := by decide +kernel
theorem dX6_sortShapes_64 : decode cX6_sortShapes 64 = .ok (.invokestatic 72, 3) := by decide +kernel
theorem dX6_sortShapes_67 : decode cX6_sortShapes 67 = .ok (.dup2, 1) := by decide +kernel
theorem dX6_sortShapes_68 : decode cX6_sortShapes 68 = .ok (.iaload, 1) := by decide +kernel
theorem dX6_sortShapes_69 : decode cX6_sortShapes 69 = .ok (.iconst 1, 1) := by decide +kernel
theorem dX6_sortShapes_70 : decode cX6_sortShapes 70 = .ok (.iload_n 1, 1) := by decide +kernel
theorem dX6_sortShapes_71 : decode cX6_sortShapes 71 = .ok (.ishl, 1) := by decide +kernel
theorem dX6_sortShapes_72 : decode cX6_sortShapes 72 = .ok (.ior, 1) := by decide +kernel
theorem dX6_sortShapes_73 : decode cX6_sortShapes 73 = .ok (.iastore, 1) := by decide +kernel
theorem dX6_sortShapes_74 : decode cX6_sortShapes 74 = .ok (.aload_n 0, 1) := by decide +kernel
theorem dX6_sortShapes_75 : decode cX6_sortShapes 75 = .ok (.getfield 54, 3) := by decide +kernel
theorem dX6_sortShapes_78 : decode cX6_sortShapes 78 = .ok (.getfield 100, 3) := by decide +kernel
theorem dX6_sortShapes_81 : decode cX6_sortShapes 81 = .ok (.iload_n 1, 1) := by decide +kernel
theorem dX6_sortShapes_82 : decode cX6_sortShapes 82 = .ok (.baload, 1) := by decide +kernel
theorem dX6_sortShapes_83 : decode cX6_sortShapes 83 = .ok (.ifCond .eq 19, 3) := by decide +kernel
theorem dX6_sortShapes_86 : decode cX6_sortShapes 86 = .ok (.aload_n 0, 1) := by decide +kernel
theorem dX6_sortShapes_87 : decode cX6_sortShapes 87 = .ok (.getfield 23, 3) := by decide +kernel
theorem dX6_sortShapes_90 : decode cX6_sortShapes 90 = .ok (.iload_n 3, 1) := by decide +kernel
theorem dX6_sortShapes_91 : decode cX6_sortShapes 91 = .ok (.iload_n 2, 1) := by decide +kernel
theorem dX6_sortShapes_92 : decode cX6_sortShapes 92 = .ok (.invokestatic 72, 3) := by decide +kernel
theorem dX6_sortShapes_95 : decode cX6_sortShapes 95 = .ok (.dup2, 1) := by decide +kernel
theorem dX6_sortShapes_96 : decode cX6_sortShapes 96 = .ok (.iaload, 1) := by decide +kernel
theorem dX6_sortShapes_97 : decode cX6_sortShapes 97 = .ok (.iconst 1, 1) := by decide +kernel
theorem dX6_sortShapes_98 : decode cX6_sortShapes 98 = .ok (.iload_n 1, 1) := by decide +kernel
theorem dX6_sortShapes_99 : decode cX6_sortShapes 99 = .ok (.ishl, 1) := by decide +kernel
theorem dX6_sortShapes_100 : decode cX6_sortShapes 100 = .ok (.ior, 1) := by decide +kernel
theorem dX6_sortShapes_101 : decode cX6_sortShapes 101 = .ok (.iastore, 1) := by decide +kernel
theorem dX6_sortShapes_102 : decode cX6_sortShapes 102 = .ok (.iinc 1 1, 3) := by decide +kernel
theorem dX6_sortShapes_105 : decode cX6_sortShapes 105 = .ok (.goto (-82), 3) := by decide +kernel
theorem dX6_sortShapes_108 : decode cX6_sortShapes 108 = .ok (.return_, 1) := by decide +kernel
theorem dX6_weighBand_0 : decode cX6_weighBand 0 = .ok (.iload_n 1, 1) := by decide +kernel
theorem dX6_weighBand_1 : decode cX6_weighBand 1 = .ok (.istore 5, 2) := by decide +kernel
theorem dX6_weighBand_3 : decode cX6_weighBand 3 = .ok (.iload 5, 2) := by decide +kernel
theorem dX6_weighBand_5 : decode cX6_weighBand 5 = .ok (.iload_n 1, 1) := by decide +kernel
theorem dX6_weighBand_6 : decode cX6_weighBand 6 = .ok (.iload_n 2, 1) := by decide +kernel
theorem dX6_weighBand_7 : decode cX6_weighBand 7 = .ok (.iadd, 1) := by decide +kernel
theorem dX6_weighBand_8 : decode cX6_weighBand 8 = .ok (.if_icmp .ge 40, 3) := by decide +kernel
theorem dX6_weighBand_11 : decode cX6_weighBand 11 = .ok (.aload_n 0, 1) := by decide +kernel
theorem dX6_weighBand_12 : decode cX6_weighBand 12 = .ok (.getfield 26, 3) := by decide +kernel
theorem dX6_weighBand_15 : decode cX6_weighBand 15 = .ok (.iload 5, 2) := by decide +kernel
theorem dX6_weighBand_17 : decode cX6_weighBand 17 = .ok (.aload_n 0, 1) := by decide +kernel
theorem dX6_weighBand_18 : decode cX6_weighBand 18 = .ok (.iload 5, 2) := by decide +kernel
theorem dX6_weighBand_20 : decode cX6_weighBand 20 = .ok (.iload_n 3, 1) := by decide +kernel
theorem dX6_weighBand_21 : decode cX6_weighBand 21 = .ok (.iconst 1, 1) := by decide +kernel
theorem dX6_weighBand_22 : decode cX6_weighBand 22 = .ok (.iload 4, 2) := by decide +kernel
theorem dX6_weighBand_24 : decode cX6_weighBand 24 = .ok (.invokevirtual 104, 3) := by decide +kernel
theorem dX6_weighBand_27 : decode cX6_weighBand 27 = .ok (.iastore, 1) := by decide +kernel
theorem dX6_weighBand_28 : decode cX6_weighBand 28 = .ok (.aload_n 0, 1) := by decide +kernel
theorem dX6_weighBand_29 : decode cX6_weighBand 29 = .ok (.getfield 29, 3) := by decide +kernel
theorem dX6_weighBand_32 : decode cX6_weighBand 32 = .ok (.iload 5, 2) := by decide +kernel
theorem dX6_weighBand_34 : decode cX6_weighBand 34 = .ok (.aload_n 0, 1) := by decide +kernel
theorem dX6_weighBand_35 : decode cX6_weighBand 35 = .ok (.getfield 26, 3) := by decide +kernel
theorem dX6_weighBand_38 : decode cX6_weighBand 38 = .ok (.iload 5, 2) := by decide +kernel
theorem dX6_weighBand_40 : decode cX6_weighBand 40 = .ok (.iaload, 1) := by decide +kernel
theorem dX6_weighBand_41 : decode cX6_weighBand 41 = .ok (.iastore, 1) := by decide +kernel
theorem dX6_weighBand_42 : decode cX6_weighBand 42 = .ok (.iinc 5 1, 3) := by decide +kernel
theorem dX6_weighBand_45 : decode cX6_weighBand 45 = .ok (.goto (-42), 3) := by decide +kernel
theorem dX6_weighBand_48 : decode cX6_weighBand 48 = .ok (.iconst 1, 1) := by decide +kernel
theorem dX6_weighBand_49 : decode cX6_weighBand 49 = .ok (.istore 5, 2) := by decide +kernel
theorem dX6_weighBand_51 : decode cX6_weighBand 51 = .ok (.iload 5, 2) := by decide +kernel
theorem dX6_weighBand_53 : decode cX6_weighBand 53 = .ok (.iload_n 2, 1) := by decide +kernel
theorem dX6_weighBand_54 : decode cX6_weighBand 54 = .ok (.if_icmp .gt 138, 3) := by decide +kernel
theorem dX6_weighBand_57 : decode cX6_weighBand 57 = .ok (.aload_n 0, 1) := by decide +kernel
theorem dX6_weighBand_58 : decode cX6_weighBand 58 = .ok (.getfield 23, 3) := by decide +kernel
theorem dX6_weighBand_61 : decode cX6_weighBand 61 = .ok (.iload 5, 2) := by decide +kernel
theorem dX6_weighBand_63 : decode cX6_weighBand 63 = .ok (.iconst 1, 1) := by decide +kernel
theorem dX6_weighBand_64 : decode cX6_weighBand 64 = .ok (.isub, 1) := by decide +kernel
theorem dX6_weighBand_65 : decode cX6_weighBand 65 = .ok (.iload 4, 2) := by decide +kernel
theorem dX6_weighBand_67 : decode cX6_weighBand 67 = .ok (.iconst 1, 1) := by decide +kernel
theorem dX6_weighBand_68 : decode cX6_weighBand 68 = .ok (.isub, 1) := by decide +kernel
theorem dX6_weighBand_69 : decode cX6_weighBand 69 = .ok (.invokestatic 72, 3) := by decide +kernel
theorem dX6_weighBand_72 : decode cX6_weighBand 72 = .ok (.iaload, 1) := by decide +kernel
theorem dX6_weighBand_73 : decode cX6_weighBand 73 = .ok (.istore 6, 2) := by decide +kernel
theorem dX6_weighBand_75 : decode cX6_weighBand 75 = .ok (.iload_n 1, 1) := by decide +kernel
theorem dX6_weighBand_76 : decode cX6_weighBand 76 = .ok (.iload_n 3, 1) := by decide +kernel
theorem dX6_weighBand_77 : decode cX6_weighBand 77 = .ok (.iload 5, 2) := by decide +kernel
theorem dX6_weighBand_79 : decode cX6_weighBand 79 = .ok (.iload 4, 2) := by decide +kernel
theorem dX6_weighBand_81 : decode cX6_weighBand 81 = .ok (.invokestatic 68, 3) := by decide +kernel
theorem dX6_weighBand_84 : decode cX6_weighBand 84 = .ok (.istore 7, 2) := by decide +kernel
theorem dX6_weighBand_86 : decode cX6_weighBand 86 = .ok (.iload_n 1, 1) := by decide +kernel
theorem dX6_weighBand_87 : decode cX6_weighBand 87 = .ok (.istore 8, 2) := by decide +kernel
theorem dX6_weighBand_89 : decode cX6_weighBand 89 = .ok (.iload 8, 2) := by decide +kernel
theorem dX6_weighBand_91 : decode cX6_weighBand 91 = .ok (.iload 5, 2) := by decide +kernel
theorem dX6_weighBand_93 : decode cX6_weighBand 93 = .ok (.iadd, 1) := by decide +kernel
theorem dX6_weighBand_94 : decode cX6_weighBand 94 = .ok (.iload_n 1, 1) := by decide +kernel
theorem dX6_weighBand_95 : decode cX6_weighBand 95 = .ok (.iload_n 2, 1) := by decide +kernel
theorem dX6_weighBand_96 : decode cX6_weighBand 96 = .ok (.iadd, 1) := by decide +kernel
theorem dX6_weighBand_97 : decode cX6_weighBand 97 = .ok (.if_icmp .gt 89, 3) := by decide +kernel
theorem dX6_weighBand_100 : decode cX6_weighBand 100 = .ok (.aload_n 0, 1) := by decide +kernel
theorem dX6_weighBand_101 : decode cX6_weighBand 101 = .ok (.getfield 29, 3) := by decide +kernel
theorem dX6_weighBand_104 : decode cX6_weighBand 104 = .ok (.iload 8, 2) := by decide +kernel
theorem dX6_weighBand_106 : decode cX6_weighBand 106 = .ok (.dup2, 1) := by decide +kernel
theorem dX6_weighBand_107 : decode cX6_weighBand 107 = .ok (.iaload, 1) := by decide +kernel
theorem dX6_weighBand_108 : decode cX6_weighBand 108 = .ok (.aload_n 0, 1) := by decide +kernel
theorem dX6_weighBand_109 : decode cX6_weighBand 109 = .ok (.getfield 26, 3) := by decide +kernel
theorem dX6_weighBand_112 : decode cX6_weighBand 112 = .ok (.iload 8, 2) := by decide +kernel
theorem dX6_weighBand_114 : decode cX6_weighBand 114 = .ok (.iload 5, 2) := by decide +kernel
theorem dX6_weighBand_116 : decode cX6_weighBand 116 = .ok (.iadd, 1) := by decide +kernel
theorem dX6_weighBand_117 : decode cX6_weighBand 117 = .ok (.iconst 1, 1) := by decide +kernel
theorem dX6_weighBand_118 : decode cX6_weighBand 118 = .ok (.isub, 1) := by decide +kernel
theorem dX6_weighBand_119 : decode cX6_weighBand 119 = .ok (.iaload, 1) := by decide +kernel
theorem dX6_weighBand_120 : decode cX6_weighBand 120 = .ok (.iand, 1) := by decide +kernel
theorem dX6_weighBand_121 : decode cX6_weighBand 121 = .ok (.iastore, 1) := by decide +kernel
theorem dX6_weighBand_122 : decode cX6_weighBand 122 = .ok (.iload 6, 2) := by decide +kernel
theorem dX6_weighBand_124 : decode cX6_weighBand 124 = .ok (.ifCond .ne 7, 3) := by decide +kernel
theorem dX6_weighBand_127 : decode cX6_weighBand 127 = .ok (.iconst 0, 1) := by decide +kernel
theorem dX6_weighBand_128 : decode cX6_weighBand 128 = .ok (.goto 16, 3) := by decide +kernel
theorem dX6_weighBand_131 : decode cX6_weighBand 131 = .ok (.aload_n 0, 1) := by decide +kernel
theorem dX6_weighBand_132 : decode cX6_weighBand 132 = .ok (.iload 6, 2) := by decide +kernel
theorem dX6_weighBand_134 : decode cX6_weighBand 134 = .ok (.aload_n 0, 1) := by decide +kernel
theorem dX6_weighBand_135 : decode cX6_weighBand 135 = .ok (.getfield 29, 3) := by decide +kernel
theorem dX6_weighBand_138 : decode cX6_weighBand 138 = .ok (.iload 8, 2) := by decide +kernel
theorem dX6_weighBand_140 : decode cX6_weighBand 140 = .ok (.iaload, 1) := by decide +kernel
theorem dX6_weighBand_141 : decode cX6_weighBand 141 = .ok (.invokevirtual 107, 3) := by decide +kernel
theorem dX6_weighBand_144 : decode cX6_weighBand 144 = .ok (.istore 9, 2) := by decide +kernel
theorem dX6_weighBand_146 : decode cX6_weighBand 146 = .ok (.aload_n 0, 1) := by decide +kernel
theorem dX6_weighBand_147 : decode cX6_weighBand 147 = .ok (.getfield 32, 3) := by decide +kernel
theorem dX6_weighBand_150 : decode cX6_weighBand 150 = .ok (.iload 7, 2) := by decide +kernel
theorem dX6_weighBand_152 : decode cX6_weighBand 152 = .ok (.iload 9, 2) := by decide +kernel
theorem dX6_weighBand_154 : decode cX6_weighBand 154 = .ok (.aload_n 0, 1) := by decide +kernel
theorem dX6_weighBand_155 : decode cX6_weighBand 155 = .ok (.iload 7, 2) := by decide +kernel
theorem dX6_weighBand_157 : decode cX6_weighBand 157 = .ok (.iload 5, 2) := by decide +kernel
theorem dX6_weighBand_159 : decode cX6_weighBand 159 = .ok (.invokevirtual 110, 3) := by decide +kernel
theorem dX6_weighBand_162 : decode cX6_weighBand 162 = .ok (.aload_n 0, 1) := by decide +kernel
theorem dX6_weighBand_163 : decode cX6_weighBand 163 = .ok (.iload 7, 2) := by decide +kernel
theorem dX6_weighBand_165 : decode cX6_weighBand 165 = .ok (.iload 4, 2) := by decide +kernel
theorem dX6_weighBand_167 : decode cX6_weighBand 167 = .ok (.invokevirtual 113, 3) := by decide +kernel
theorem dX6_weighBand_170 : decode cX6_weighBand 170 = .ok (.invokestatic 116, 3) := by decide +kernel
theorem dX6_weighBand_173 : decode cX6_weighBand 173 = .ok (.invokestatic 116, 3) := by decide +kernel
theorem dX6_weighBand_176 : decode cX6_weighBand 176 = .ok (.iastore, 1) := by decide +kernel
theorem dX6_weighBand_177 : decode cX6_weighBand 177 = .ok (.iinc 7 1, 3) := by decide +kernel
theorem dX6_weighBand_180 : decode cX6_weighBand 180 = .ok (.iinc 8 1, 3) := by decide +kernel
theorem dX6_weighBand_183 : decode cX6_weighBand 183 = .ok (.goto (-94), 3) := by decide +kernel
theorem dX6_weighBand_186 : decode cX6_weighBand 186 = .ok (.iinc 5 1, 3) := by decide +kernel
theorem dX6_weighBand_189 : decode cX6_weighBand 189 = .ok (.goto (-138), 3) := by decide +kernel
theorem dX6_weighBand_192 : decode cX6_weighBand 192 = .ok (.return_, 1) := by decide +kernel
theorem dX6_markOf_0 : decode cX6_markOf 0 = .ok (.iconst (-1), 1) := by decide +kernel
theorem dX6_markOf_1 : decode cX6_markOf 1 = .ok (.istore 5, 2) := by decide +kernel
theorem dX6_markOf_3 : decode cX6_markOf 3 = .ok (.iload_n 2, 1) := by decide +kernel
theorem dX6_markOf_4 : decode cX6_markOf 4 = .ok (.istore 6, 2) := by decide +kernel
theorem dX6_markOf_6 : decode cX6_markOf 6 = .ok (.iload 6, 2) := by decide +kernel
theorem dX6_markOf_8 : decode cX6_markOf 8 = .ok (.iload_n 2, 1) := by decide +kernel
theorem dX6_markOf_9 : decode cX6_markOf 9 = .ok (.iload 4, 2) := by decide +kernel
theorem dX6_markOf_11 : decode cX6_markOf 11 = .ok (.iadd, 1) := by decide +kernel
theorem dX6_markOf_12 : decode cX6_markOf 12 = .ok (.if_icmp .ge 43, 3) := by decide +kernel
theorem dX6_markOf_15 : decode cX6_markOf 15 = .ok (.iload_n 1, 1) := by decide +kernel
theorem dX6_markOf_16 : decode cX6_markOf 16 = .ok (.istore 7, 2) := by decide +kernel
theorem dX6_markOf_18 : decode cX6_markOf 18 = .ok (.iload 7, 2) := by decide +kernel
theorem dX6_markOf_20 : decode cX6_markOf 20 = .ok (.iload_n 1, 1) := by decide +kernel
theorem dX6_markOf_21 : decode cX6_markOf 21 = .ok (.iload_n 3, 1) := by decide +kernel
theorem dX6_markOf_22 : decode cX6_markOf 22 = .ok (.iadd, 1) := by decide +kernel
theorem dX6_markOf_23 : decode cX6_markOf 23 = .ok (.if_icmp .ge 26, 3) := by decide +kernel
theorem dX6_markOf_26 : decode cX6_markOf 26 = .ok (.iload 5, 2) := by decide +kernel
theorem dX6_markOf_28 : decode cX6_markOf 28 = .ok (.aload_n 0, 1) := by decide +kernel
theorem dX6_markOf_29 : decode cX6_markOf 29 = .ok (.getfield 19, 3) := by decide +kernel
theorem dX6_markOf_32 : decode cX6_markOf 32 = .ok (.iload 7, 2) := by decide +kernel
theorem dX6_markOf_34 : decode cX6_markOf 34 = .ok (.iload 6, 2) := by decide +kernel
theorem dX6_markOf_36 : decode cX6_markOf 36 = .ok (.invokestatic 72, 3) := by decide +kernel
theorem dX6_markOf_39 : decode cX6_markOf 39 = .ok (.iaload, 1) := by decide +kernel
theorem dX6_markOf_40 : decode cX6_markOf 40 = .ok (.iand, 1) := by decide +kernel
theorem dX6_markOf_41 : decode cX6_markOf 41 = .ok (.istore 5, 2) := by decide +kernel
theorem dX6_markOf_43 : decode cX6_markOf 43 = .ok (.iinc 7 1, 3) := by decide +kernel
theorem dX6_markOf_46 : decode cX6_markOf 46 = .ok (.goto (-28), 3) := by decide +kernel
theorem dX6_markOf_49 : decode cX6_markOf 49 = .ok (.iinc 6 1, 3) := by decide +kernel
theorem dX6_markOf_52 : decode cX6_markOf 52 = .ok (.goto (-46), 3) := by decide +kernel
theorem dX6_markOf_55 : decode cX6_markOf 55 = .ok (.iload 5, 2) := by decide +kernel
theorem dX6_markOf_57 : decode cX6_markOf 57 = .ok (.ireturn, 1) := by decide +kernel
theorem dX6_brings_0 : decode cX6_brings 0 = .ok (.iload_n 2, 1) := by decide +kernel
theorem dX6_brings_1 : decode cX6_brings 1 = .ok (.aload_n 0, 1) := by decide +kernel
theorem dX6_brings_2 : decode cX6_brings 2 = .ok (.getfield 54, 3) := by decide +kernel
theorem dX6_brings_5 : decode cX6_brings 5 = .ok (.getfield 121, 3) := by decide +kernel
theorem dX6_brings_8 : decode cX6_brings 8 = .ok (.iload_n 1, 1) := by decide +kernel
theorem dX6_brings_9 : decode cX6_brings 9 = .ok (.iaload, 1) := by decide +kernel
theorem dX6_brings_10 : decode cX6_brings 10 = .ok (.ishr, 1) := by decide +kernel
theorem dX6_brings_11 : decode cX6_brings 11 = .ok (.iconst 1, 1) := by decide +kernel
theorem dX6_brings_12 : decode cX6_brings 12 = .ok (.iand, 1) := by decide +kernel
theorem dX6_brings_13 : decode cX6_brings 13 = .ok (.iconst 1, 1) := by decide +kernel
theorem dX6_brings_14 : decode cX6_brings 14 = .ok (.if_icmp .ne 7, 3) := by decide +kernel
theorem dX6_brings_17 : decode cX6_brings 17 = .ok (.iconst 1, 1) := by decide +kernel
theorem dX6_brings_18 : decode cX6_brings 18 = .ok (.goto 4, 3) := by decide +kernel
theorem dX6_brings_21 : decode cX6_brings 21 = .ok (.iconst 0, 1) := by decide +kernel
theorem dX6_brings_22 : decode cX6_brings 22 = .ok (.istore_n 3, 1) := by decide +kernel
theorem dX6_brings_23 : decode cX6_brings 23 = .ok (.iload_n 3, 1) := by decide +kernel
theorem dX6_brings_24 : decode cX6_brings 24 = .ok (.ifCond .eq 23, 3) := by decide +kernel
theorem dX6_brings_27 : decode cX6_brings 27 = .ok (.aload_n 0, 1) := by decide +kernel
theorem dX6_brings_28 : decode cX6_brings 28 = .ok (.getfield 54, 3) := by decide +kernel
theorem dX6_brings_31 : decode cX6_brings 31 = .ok (.getfield 124, 3) := by decide +kernel
theorem dX6_brings_34 : decode cX6_brings 34 = .ok (.iload_n 1, 1) := by decide +kernel
theorem dX6_brings_35 : decode cX6_brings 35 = .ok (.iaload, 1) := by decide +kernel
theorem dX6_brings_36 : decode cX6_brings 36 = .ok (.iload_n 2, 1) := by decide +kernel
theorem dX6_brings_37 : decode cX6_brings 37 = .ok (.bipush 10, 2) := by decide +kernel
theorem dX6_brings_39 : decode cX6_brings 39 = .ok (.ishr, 1) := by decide +kernel
theorem dX6_brings_40 : decode cX6_brings 40 = .ok (.invokestatic 127, 3) := by decide +kernel
theorem dX6_brings_43 : decode cX6_brings 43 = .ok (.imul, 1) := by decide +kernel
theorem dX6_brings_44 : decode cX6_brings 44 = .ok (.goto 4, 3) := by decide +kernel
theorem dX6_brings_47 : decode cX6_brings 47 = .ok (.iconst 0, 1) := by decide +kernel
theorem dX6_brings_48 : decode cX6_brings 48 = .ok (.ireturn, 1) := by decide +kernel
theorem dX6_bestPipe_0 : decode cX6_bestPipe 0 = .ok (.iconst 0, 1) := by decide +kernel
theorem dX6_bestPipe_1 : decode cX6_bestPipe 1 = .ok (.istore_n 3, 1) := by decide +kernel
theorem dX6_bestPipe_2 : decode cX6_bestPipe 2 = .ok (.iconst 0, 1) := by decide +kernel
theorem dX6_bestPipe_3 : decode cX6_bestPipe 3 = .ok (.istore 4, 2) := by decide +kernel
theorem dX6_bestPipe_5 : decode cX6_bestPipe 5 = .ok (.iload 4, 2) := by decide +kernel
theorem dX6_bestPipe_7 : decode cX6_bestPipe 7 = .ok (.aload_n 0, 1) := by decide +kernel
theorem dX6_bestPipe_8 : decode cX6_bestPipe 8 = .ok (.getfield 54, 3) := by decide +kernel
theorem dX6_bestPipe_11 : decode cX6_bestPipe 11 = .ok (.getfield 91, 3) := by decide +kernel
theorem dX6_bestPipe_14 : decode cX6_bestPipe 14 = .ok (.if_icmp .ge 31, 3) := by decide +kernel
theorem dX6_bestPipe_17 : decode cX6_bestPipe 17 = .ok (.iload_n 1, 1) := by decide +kernel
theorem dX6_bestPipe_18 : decode cX6_bestPipe 18 = .ok (.iload 4, 2) := by decide +kernel
theorem dX6_bestPipe_20 : decode cX6_bestPipe 20 = .ok (.ishr, 1) := by decide +kernel
theorem dX6_bestPipe_21 : decode cX6_bestPipe 21 = .ok (.iconst 1, 1) := by decide +kernel
theorem dX6_bestPipe_22 : decode cX6_bestPipe 22 = .ok (.iand, 1) := by decide +kernel
theorem dX6_bestPipe_23 : decode cX6_bestPipe 23 = .ok (.iconst 1, 1) := by decide +kernel
theorem dX6_bestPipe_24 : decode cX6_bestPipe 24 = .ok (.if_icmp .ne 15, 3) := by decide +kernel
theorem dX6_bestPipe_27 : decode cX6_bestPipe 27 = .ok (.iload_n 3, 1) := by decide +kernel
theorem dX6_bestPipe_28 : decode cX6_bestPipe 28 = .ok (.aload_n 0, 1) := by decide +kernel
theorem dX6_bestPipe_29 : decode cX6_bestPipe 29 = .ok (.iload 4, 2) := by decide +kernel
theorem dX6_bestPipe_31 : decode cX6_bestPipe 31 = .ok (.iload_n 2, 1) := by decide +kernel
theorem dX6_bestPipe_32 : decode cX6_bestPipe 32 = .ok (.invokevirtual 133, 3) := by decide +kernel
theorem dX6_bestPipe_35 : decode cX6_bestPipe 35 = .ok (.invokestatic 116, 3) := by decide +kernel
theorem dX6_bestPipe_38 : decode cX6_bestPipe 38 = .ok (.istore_n 3, 1) := by decide +kernel
theorem dX6_bestPipe_39 : decode cX6_bestPipe 39 = .ok (.iinc 4 1, 3) := by decide +kernel
theorem dX6_bestPipe_42 : decode cX6_bestPipe 42 = .ok (.goto (-37), 3) := by decide +kernel
theorem dX6_bestPipe_45 : decode cX6_bestPipe 45 = .ok (.iload_n 3, 1) := by decide +kernel
theorem dX6_bestPipe_46 : decode cX6_bestPipe 46 = .ok (.ireturn, 1) := by decide +kernel
theorem dX6_bestDown_0 : decode cX6_bestDown 0 = .ok (.iconst 0, 1) := by decide +kernel
theorem dX6_bestDown_1 : decode cX6_bestDown 1 = .ok (.istore_n 3, 1) := by decide +kernel
theorem dX6_bestDown_2 : decode cX6_bestDown 2 = .ok (.iload_n 1, 1) := by decide +kernel
theorem dX6_bestDown_3 : decode cX6_bestDown 3 = .ok (.iload_n 2, 1) := by decide +kernel
theorem dX6_bestDown_4 : decode cX6_bestDown 4 = .ok (.iconst 1, 1) := by decide +kernel
theorem dX6_bestDown_5 : decode cX6_bestDown 5 = .ok (.isub, 1) := by decide +kernel
theorem dX6_bestDown_6 : decode cX6_bestDown 6 = .ok (.sipush 512, 3) := by decide +kernel
theorem dX6_bestDown_9 : decode cX6_bestDown 9 = .ok (.imul, 1) := by decide +kernel
theorem dX6_bestDown_10 : decode cX6_bestDown 10 = .ok (.isub, 1) := by decide +kernel
theorem dX6_bestDown_11 : decode cX6_bestDown 11 = .ok (.istore 4, 2) := by decide +kernel
theorem dX6_bestDown_13 : decode cX6_bestDown 13 = .ok (.iload_n 1, 1) := by decide +kernel
theorem dX6_bestDown_14 : decode cX6_bestDown 14 = .ok (.sipush 512, 3) := by decide +kernel
theorem dX6_bestDown_17 : decode cX6_bestDown 17 = .ok (.isub, 1) := by decide +kernel
theorem dX6_bestDown_18 : decode cX6_bestDown 18 = .ok (.iconst 1, 1) := by decide +kernel
theorem dX6_bestDown_19 : decode cX6_bestDown 19 = .ok (.iadd, 1) := by decide +kernel
theorem dX6_bestDown_20 : decode cX6_bestDown 20 = .ok (.istore 5, 2) := by decide +kernel
theorem dX6_bestDown_22 : decode cX6_bestDown 22 = .ok (.iconst 1, 1) := by decide +kernel
theorem dX6_bestDown_23 : decode cX6_bestDown 23 = .ok (.istore 6, 2) := by decide +kernel
theorem dX6_bestDown_25 : decode cX6_bestDown 25 = .ok (.iload 6, 2) := by decide +kernel
theorem dX6_bestDown_27 : decode cX6_bestDown 27 = .ok (.iload_n 2, 1) := by decide +kernel
theorem dX6_bestDown_28 : decode cX6_bestDown 28 = .ok (.if_icmp .ge 51, 3) := by decide +kernel
theorem dX6_bestDown_31 : decode cX6_bestDown 31 = .ok (.aload_n 0, 1) := by decide +kernel
theorem dX6_bestDown_32 : decode cX6_bestDown 32 = .ok (.getfield 32, 3) := by decide +kernel
theorem dX6_bestDown_35 : decode cX6_bestDown 35 = .ok (.iload 4, 2) := by decide +kernel
theorem dX6_bestDown_37 : decode cX6_bestDown 37 = .ok (.iaload, 1) := by decide +kernel
theorem dX6_bestDown_38 : decode cX6_bestDown 38 = .ok (.aload_n 0, 1) := by decide +kernel
theorem dX6_bestDown_39 : decode cX6_bestDown 39 = .ok (.getfield 32, 3) := by decide +kernel
theorem dX6_bestDown_42 : decode cX6_bestDown 42 = .ok (.iload 5, 2) := by decide +kernel
theorem dX6_bestDown_44 : decode cX6_bestDown 44 = .ok (.iaload, 1) := by decide +kernel
theorem dX6_bestDown_45 : decode cX6_bestDown 45 = .ok (.iadd, 1) := by decide +kernel
theorem dX6_bestDown_46 : decode cX6_bestDown 46 = .ok (.istore 7, 2) := by decide +kernel
theorem dX6_bestDown_48 : decode cX6_bestDown 48 = .ok (.iload 7, 2) := by decide +kernel
theorem dX6_bestDown_50 : decode cX6_bestDown 50 = .ok (.iload_n 3, 1) := by decide +kernel
theorem dX6_bestDown_51 : decode cX6_bestDown 51 = .ok (.if_icmp .le 8, 3) := by decide +kernel
theorem dX6_bestDown_54 : decode cX6_bestDown 54 = .ok (.iload 7, 2) := by decide +kernel
theorem dX6_bestDown_56 : decode cX6_bestDown 56 = .ok (.goto 4, 3) := by decide +kernel
theorem dX6_bestDown_59 : decode cX6_bestDown 59 = .ok (.iload_n 3, 1) := by decide +kernel
theorem dX6_bestDown_60 : decode cX6_bestDown 60 = .ok (.istore_n 3, 1) := by decide +kernel
theorem dX6_bestDown_61 : decode cX6_bestDown 61 = .ok (.iinc 4 512, 6) := by decide +kernel
theorem dX6_bestDown_67 : decode cX6_bestDown 67 = .ok (.iinc 5 (-511), 6) := by decide +kernel
theorem dX6_bestDown_73 : decode cX6_bestDown 73 = .ok (.iinc 6 1, 3) := by decide +kernel
theorem dX6_bestDown_76 : decode cX6_bestDown 76 = .ok (.goto (-51), 3) := by decide +kernel
theorem dX6_bestDown_79 : decode cX6_bestDown 79 = .ok (.iload_n 3, 1) := by decide +kernel
theorem dX6_bestDown_80 : decode cX6_bestDown 80 = .ok (.ireturn, 1) := by decide +kernel
theorem dX6_bestAcross_0 : decode cX6_bestAcross 0 = .ok (.iconst 0, 1) := by decide +kernel
theorem dX6_bestAcross_1 : decode cX6_bestAcross 1 = .ok (.istore_n 3, 1) := by decide +kernel
theorem dX6_bestAcross_2 : decode cX6_bestAcross 2 = .ok (.iload_n 1, 1) := by decide +kernel
theorem dX6_bestAcross_3 : decode cX6_bestAcross 3 = .ok (.iload_n 2, 1) := by decide +kernel
theorem dX6_bestAcross_4 : decode cX6_bestAcross 4 = .ok (.iconst 1, 1) := by decide +kernel
theorem dX6_bestAcross_5 : decode cX6_bestAcross 5 = .ok (.isub, 1) := by decide +kernel
theorem dX6_bestAcross_6 : decode cX6_bestAcross 6 = .ok (.bipush 64, 2) := by decide +kernel
theorem dX6_bestAcross_8 : decode cX6_bestAcross 8 = .ok (.imul, 1) := by decide +kernel
theorem dX6_bestAcross_9 : decode cX6_bestAcross 9 = .ok (.isub, 1) := by decide +kernel
theorem dX6_bestAcross_10 : decode cX6_bestAcross 10 = .ok (.istore 4, 2) := by decide +kernel
theorem dX6_bestAcross_12 : decode cX6_bestAcross 12 = .ok (.iload_n 1, 1) := by decide +kernel
theorem dX6_bestAcross_13 : decode cX6_bestAcross 13 = .ok (.bipush 64, 2) := by decide +kernel
theorem dX6_bestAcross_15 : decode cX6_bestAcross 15 = .ok (.isub, 1) := by decide +kernel
theorem dX6_bestAcross_16 : decode cX6_bestAcross 16 = .ok (.bipush 8, 2) := by decide +kernel
theorem dX6_bestAcross_18 : decode cX6_bestAcross 18 = .ok (.iadd, 1) := by decide +kernel
theorem dX6_bestAcross_19 : decode cX6_bestAcross 19 = .ok (.istore 5, 2) := by decide +kernel
theorem dX6_bestAcross_21 : decode cX6_bestAcross 21 = .ok (.iconst 1, 1) := by decide +kernel
theorem dX6_bestAcross_22 : decode cX6_bestAcross 22 = .ok (.istore 6, 2) := by decide +kernel
theorem dX6_bestAcross_24 : decode cX6_bestAcross 24 = .ok (.iload 6, 2) := by decide +kernel
theorem dX6_bestAcross_26 : decode cX6_bestAcross 26 = .ok (.iload_n 2, 1) := by decide +kernel
theorem dX6_bestAcross_27 : decode cX6_bestAcross 27 = .ok (.if_icmp .ge 45, 3) := by decide +kernel
theorem dX6_bestAcross_30 : decode cX6_bestAcross 30 = .ok (.aload_n 0, 1) := by decide +kernel
theorem dX6_bestAcross_31 : decode cX6_bestAcross 31 = .ok (.getfield 32, 3) := by decide +kernel
theorem dX6_bestAcross_34 : decode cX6_bestAcross 34 = .ok (.iload 4, 2) := by decide +kernel
theorem dX6_bestAcross_36 : decode cX6_bestAcross 36 = .ok (.iaload, 1) := by decide +kernel
theorem dX6_bestAcross_37 : decode cX6_bestAcross 37 = .ok (.aload_n 0, 1) := by decide +kernel
theorem dX6_bestAcross_38 : decode cX6_bestAcross 38 = .ok (.getfield 32, 3) := by decide +kernel
theorem dX6_bestAcross_41 : decode cX6_bestAcross 41 = .ok (.iload 5, 2) := by decide +kernel
theorem dX6_bestAcross_43 : decode cX6_bestAcross 43 = .ok (.iaload, 1) := by decide +kernel
theorem dX6_bestAcross_44 : decode cX6_bestAcross 44 = .ok (.iadd, 1) := by decide +kernel
theorem dX6_bestAcross_45 : decode cX6_bestAcross 45 = .ok (.istore 7, 2) := by decide +kernel
theorem dX6_bestAcross_47 : decode cX6_bestAcross 47 = .ok (.iload 7, 2) := by decide +kernel
theorem dX6_bestAcross_49 : decode cX6_bestAcross 49 = .ok (.iload_n 3, 1) := by decide +kernel
theorem dX6_bestAcross_50 : decode cX6_bestAcross 50 = .ok (.if_icmp .le 8, 3) := by decide +kernel
theorem dX6_bestAcross_53 : decode cX6_bestAcross 53 = .ok (.iload 7, 2) := by decide +kernel
theorem dX6_bestAcross_55 : decode cX6_bestAcross 55 = .ok (.goto 4, 3) := by decide +kernel
theorem dX6_bestAcross_58 : decode cX6_bestAcross 58 = .ok (.iload_n 3, 1) := by decide +kernel
theorem dX6_bestAcross_59 : decode cX6_bestAcross 59 = .ok (.istore_n 3, 1) := by decide +kernel
theorem dX6_bestAcross_60 : decode cX6_bestAcross 60 = .ok (.iinc 4 64, 3) := by decide +kernel
theorem dX6_bestAcross_63 : decode cX6_bestAcross 63 = .ok (.iinc 5 (-56), 3) := by decide +kernel
theorem dX6_bestAcross_66 : decode cX6_bestAcross 66 = .ok (.iinc 6 1, 3) := by decide +kernel
theorem dX6_bestAcross_69 : decode cX6_bestAcross 69 = .ok (.goto (-45), 3) := by decide +kernel
theorem dX6_bestAcross_72 : decode cX6_bestAcross 72 = .ok (.iload_n 3, 1) := by decide +kernel
theorem dX6_bestAcross_73 : decode cX6_bestAcross 73 = .ok (.ireturn, 1) := by decide +kernel
theorem dX6_decide_0 : decode cX6_decide 0 = .ok (.aload_n 0, 1) := by decide +kernel
theorem dX6_decide_1 : decode cX6_decide 1 = .ok (.getfield 32, 3) := by decide +kernel
theorem dX6_decide_4 : decode cX6_decide 4 = .ok (.iload_n 1, 1) := by decide +kernel
theorem dX6_decide_5 : decode cX6_decide 5 = .ok (.iload_n 2, 1) := by decide +kernel
theorem dX6_decide_6 : decode cX6_decide 6 = .ok (.iload_n 3, 1) := by decide +kernel
theorem dX6_decide_7 : decode cX6_decide 7 = .ok (.iload 4, 2) := by decide +kernel
theorem dX6_decide_9 : decode cX6_decide 9 = .ok (.invokestatic 68, 3) := by decide +kernel
theorem dX6_decide_12 : decode cX6_decide 12 = .ok (.iaload, 1) := by decide +kernel
theorem dX6_decide_13 : decode cX6_decide 13 = .ok (.istore 5, 2) := by decide +kernel
theorem dX6_decide_15 : decode cX6_decide 15 = .ok (.iload 5, 2) := by decide +kernel
theorem dX6_decide_17 : decode cX6_decide 17 = .ok (.ifCond .ne 6, 3) := by decide +kernel
theorem dX6_decide_20 : decode cX6_decide 20 = .ok (.bipush (-5), 2) := by decide +kernel
theorem dX6_decide_22 : decode cX6_decide 22 = .ok (.ireturn, 1) := by decide +kernel
theorem dX6_decide_23 : decode cX6_decide 23 = .ok (.aload_n 0, 1) := by decide +kernel
theorem dX6_decide_24 : decode cX6_decide 24 = .ok (.getfield 23, 3) := by decide +kernel
theorem dX6_decide_27 : decode cX6_decide 27 = .ok (.iload_n 3, 1) := by decide +kernel
theorem dX6_decide_28 : decode cX6_decide 28 = .ok (.iconst 1, 1) := by decide +kernel
theorem dX6_decide_29 : decode cX6_decide 29 = .ok (.isub, 1) := by decide +kernel
theorem dX6_decide_30 : decode cX6_decide 30 = .ok (.iload 4, 2) := by decide +kernel
theorem dX6_decide_32 : decode cX6_decide 32 = .ok (.iconst 1, 1) := by decide +kernel
theorem dX6_decide_33 : decode cX6_decide 33 = .ok (.isub, 1) := by decide +kernel
theorem dX6_decide_34 : decode cX6_decide 34 = .ok (.invokestatic 72, 3) := by decide +kernel
theorem dX6_decide_37 : decode cX6_decide 37 = .ok (.iaload, 1) := by decide +kernel
theorem dX6_decide_38 : decode cX6_decide 38 = .ok (.istore 6, 2) := by decide +kernel
theorem dX6_decide_40 : decode cX6_decide 40 = .ok (.aload_n 0, 1) := by decide +kernel
theorem dX6_decide_41 : decode cX6_decide 41 = .ok (.iload_n 1, 1) := by decide +kernel
theorem dX6_decide_42 : decode cX6_decide 42 = .ok (.iload_n 2, 1) := by decide +kernel
theorem dX6_decide_43 : decode cX6_decide 43 = .ok (.iload_n 3, 1) := by decide +kernel
theorem dX6_decide_44 : decode cX6_decide 44 = .ok (.iload 4, 2) := by decide +kernel
theorem dX6_decide_46 : decode cX6_decide 46 = .ok (.invokevirtual 104, 3) := by decide +kernel
theorem dX6_decide_49 : decode cX6_decide 49 = .ok (.istore 7, 2) := by decide +kernel
theorem dX6_decide_51 : decode cX6_decide 51 = .ok (.iconst 0, 1) := by decide +kernel
theorem dX6_decide_52 : decode cX6_decide 52 = .ok (.istore 8, 2) := by decide +kernel
theorem dX6_decide_54 : decode cX6_decide 54 = .ok (.iload 8, 2) := by decide +kernel
theorem dX6_decide_56 : decode cX6_decide 56 = .ok (.aload_n 0, 1) := by decide +kernel
theorem dX6_decide_57 : decode cX6_decide 57 = .ok (.getfield 54, 3) := by decide +kernel
theorem dX6_decide_60 : decode cX6_decide 60 = .ok (.getfield 91, 3) := by decide +kernel
theorem dX6_decide_63 : decode cX6_decide 63 = .ok (.if_icmp .ge 36, 3) := by decide +kernel
theorem dX6_decide_66 : decode cX6_decide 66 = .ok (.iload 6, 2) := by decide +kernel
theorem dX6_decide_68 : decode cX6_decide 68 = .ok (.iload 8, 2) := by decide +kernel
theorem dX6_decide_70 : decode cX6_decide 70 = .ok (.ishr, 1) := by decide +kernel
theorem dX6_decide_71 : decode cX6_decide 71 = .ok (.iconst 1, 1) := by decide +kernel
theorem dX6_decide_72 : decode cX6_decide 72 = .ok (.iand, 1) := by decide +kernel
theorem dX6_decide_73 : decode cX6_decide 73 = .ok (.iconst 1, 1) := by decide +kernel
theorem dX6_decide_74 : decode cX6_decide 74 = .ok (.if_icmp .ne 19, 3) := by decide +kernel
theorem dX6_decide_77 : decode cX6_decide 77 = .ok (.aload_n 0, 1) := by decide +kernel
theorem dX6_decide_78 : decode cX6_decide 78 = .ok (.iload 8, 2) := by decide +kernel
theorem dX6_decide_80 : decode cX6_decide 80 = .ok (.iload 7, 2) := by decide +kernel
theorem dX6_decide_82 : decode cX6_decide 82 = .ok (.invokevirtual 133, 3) := by decide +kernel
theorem dX6_decide_85 : decode cX6_decide 85 = .ok (.iload 5, 2) := by decide +kernel
theorem dX6_decide_87 : decode cX6_decide 87 = .ok (.if_icmp .ne 6, 3) := by decide +kernel
theorem dX6_decide_90 : decode cX6_decide 90 = .ok (.iload 8, 2) := by decide +kernel
theorem dX6_decide_92 : decode cX6_decide 92 = .ok (.ireturn, 1) := by decide +kernel
theorem dX6_decide_93 : decode cX6_decide 93 = .ok (.iinc 8 1, 3) := by decide +kernel
theorem dX6_decide_96 : decode cX6_decide 96 = .ok (.goto (-42), 3) := by decide +kernel
theorem dX6_decide_99 : decode cX6_decide 99 = .ok (.aload_n 0, 1) := by decide +kernel
theorem dX6_decide_100 : decode cX6_decide 100 = .ok (.iload_n 1, 1) := by decide +kernel
theorem dX6_decide_101 : decode cX6_decide 101 = .ok (.iload_n 2, 1) := by decide +kernel
theorem dX6_decide_102 : decode cX6_decide 102 = .ok (.iload_n 3, 1) := by decide +kernel
theorem dX6_decide_103 : decode cX6_decide 103 = .ok (.iload 4, 2) := by decide +kernel
theorem dX6_decide_105 : decode cX6_decide 105 = .ok (.invokevirtual 136, 3) := by decide +kernel
theorem dX6_decide_108 : decode cX6_decide 108 = .ok (.ireturn, 1) := by decide +kernel
theorem dX6_firstCut_0 : decode cX6_firstCut 0 = .ok (.aload_n 0, 1) := by decide +kernel
theorem dX6_firstCut_1 : decode cX6_firstCut 1 = .ok (.getfield 32, 3) := by decide +kernel
theorem dX6_firstCut_4 : decode cX6_firstCut 4 = .ok (.iload_n 1, 1) := by decide +kernel
theorem dX6_firstCut_5 : decode cX6_firstCut 5 = .ok (.iload_n 2, 1) := by decide +kernel
theorem dX6_firstCut_6 : decode cX6_firstCut 6 = .ok (.iload_n 3, 1) := by decide +kernel
theorem dX6_firstCut_7 : decode cX6_firstCut 7 = .ok (.iload 4, 2) := by decide +kernel
theorem dX6_firstCut_9 : decode cX6_firstCut 9 = .ok (.invokestatic 68, 3) := by decide +kernel
theorem dX6_firstCut_12 : decode cX6_firstCut 12 = .ok (.iaload, 1) := by decide +kernel
theorem dX6_firstCut_13 : decode cX6_firstCut 13 = .ok (.istore 5, 2) := by decide +kernel
theorem dX6_firstCut_15 : decode cX6_firstCut 15 = .ok (.iconst 1, 1) := by decide +kernel
theorem dX6_firstCut_16 : decode cX6_firstCut 16 = .ok (.istore 6, 2) := by decide +kernel
theorem dX6_firstCut_18 : decode cX6_firstCut 18 = .ok (.iload 6, 2) := by decide +kernel
theorem dX6_firstCut_20 : decode cX6_firstCut 20 = .ok (.iload_n 3, 1) := by decide +kernel
theorem dX6_firstCut_21 : decode cX6_firstCut 21 = .ok (.if_icmp .ge 54, 3) := by decide +kernel
theorem dX6_firstCut_24 : decode cX6_firstCut 24 = .ok (.aload_n 0, 1) := by decide +kernel
theorem dX6_firstCut_25 : decode cX6_firstCut 25 = .ok (.getfield 32, 3) := by decide +kernel
theorem dX6_firstCut_28 : decode cX6_firstCut 28 = .ok (.iload_n 1, 1) := by decide +kernel
theorem dX6_firstCut_29 : decode cX6_firstCut 29 = .ok (.iload_n 2, 1) := by decide +kernel
theorem dX6_firstCut_30 : decode cX6_firstCut 30 = .ok (.iload 6, 2) := by decide +kernel
theorem dX6_firstCut_32 : decode cX6_firstCut 32 = .ok (.iload 4, 2) := by decide +kernel
theorem dX6_firstCut_34 : decode cX6_firstCut 34 = .ok (.invokestatic 68, 3) := by decide +kernel
theorem dX6_firstCut_37 : decode cX6_firstCut 37 = .ok (.iaload, 1) := by decide +kernel
theorem dX6_firstCut_38 : decode cX6_firstCut 38 = .ok (.aload_n 0, 1) := by decide +kernel
theorem dX6_firstCut_39 : decode cX6_firstCut 39 = .ok (.getfield 32, 3) := by decide +kernel
theorem dX6_firstCut_42 : decode cX6_firstCut 42 = .ok (.iload_n 1, 1) := by decide +kernel
theorem dX6_firstCut_43 : decode cX6_firstCut 43 = .ok (.iload 6, 2) := by decide +kernel
theorem dX6_firstCut_45 : decode cX6_firstCut 45 = .ok (.iadd, 1) := by decide +kernel
theorem dX6_firstCut_46 : decode cX6_firstCut 46 = .ok (.iload_n 2, 1) := by decide +kernel
theorem dX6_firstCut_47 : decode cX6_firstCut 47 = .ok (.iload_n 3, 1) := by decide +kernel
theorem dX6_firstCut_48 : decode cX6_firstCut 48 = .ok (.iload 6, 2) := by decide +kernel
theorem dX6_firstCut_50 : decode cX6_firstCut 50 = .ok (.isub, 1) := by decide +kernel
theorem dX6_firstCut_51 : decode cX6_firstCut 51 = .ok (.iload 4, 2) := by decide +kernel
theorem dX6_firstCut_53 : decode cX6_firstCut 53 = .ok (.invokestatic 68, 3) := by decide +kernel
theorem dX6_firstCut_56 : decode cX6_firstCut 56 = .ok (.iaload, 1) := by decide +kernel
theorem dX6_firstCut_57 : decode cX6_firstCut 57 = .ok (.iadd, 1) := by decide +kernel
theorem dX6_firstCut_58 : decode cX6_firstCut 58 = .ok (.iload 5, 2) := by decide +kernel
theorem dX6_firstCut_60 : decode cX6_firstCut 60 = .ok (.if_icmp .ne 9, 3) := by decide +kernel
theorem dX6_firstCut_63 : decode cX6_firstCut 63 = .ok (.bipush 100, 2) := by decide +kernel
theorem dX6_firstCut_65 : decode cX6_firstCut 65 = .ok (.iload 6, 2) := by decide +kernel
theorem dX6_firstCut_67 : decode cX6_firstCut 67 = .ok (.iadd, 1) := by decide +kernel
theorem dX6_firstCut_68 : decode cX6_firstCut 68 = .ok (.ireturn, 1) := by decide +kernel
theorem dX6_firstCut_69 : decode cX6_firstCut 69 = .ok (.iinc 6 1, 3) := by decide +kernel
theorem dX6_firstCut_72 : decode cX6_firstCut 72 = .ok (.goto (-54), 3) := by decide +kernel
theorem dX6_firstCut_75 : decode cX6_firstCut 75 = .ok (.iconst 1, 1) := by decide +kernel
theorem dX6_firstCut_76 : decode cX6_firstCut 76 = .ok (.istore 6, 2) := by decide +kernel
theorem dX6_firstCut_78 : decode cX6_firstCut 78 = .ok (.iload 6, 2) := by decide +kernel
theorem dX6_firstCut_80 : decode cX6_firstCut 80 = .ok (.iload 4, 2) := by decide +kernel
theorem dX6_firstCut_82 : decode cX6_firstCut 82 = .ok (.if_icmp .ge 54, 3) := by decide +kernel
theorem dX6_firstCut_85 : decode cX6_firstCut 85 = .ok (.aload_n 0, 1) := by decide +kernel
theorem dX6_firstCut_86 : decode cX6_firstCut 86 = .ok (.getfield 32, 3) := by decide +kernel
theorem dX6_firstCut_89 : decode cX6_firstCut 89 = .ok (.iload_n 1, 1) := by decide +kernel
theorem dX6_firstCut_90 : decode cX6_firstCut 90 = .ok (.iload_n 2, 1) := by decide +kernel
theorem dX6_firstCut_91 : decode cX6_firstCut 91 = .ok (.iload_n 3, 1) := by decide +kernel
theorem dX6_firstCut_92 : decode cX6_firstCut 92 = .ok (.iload 6, 2) := by decide +kernel
theorem dX6_firstCut_94 : decode cX6_firstCut 94 = .ok (.invokestatic 68, 3) := by decide +kernel
theorem dX6_firstCut_97 : decode cX6_firstCut 97 = .ok (.iaload, 1) := by decide +kernel
theorem dX6_firstCut_98 : decode cX6_firstCut 98 = .ok (.aload_n 0, 1) := by decide +kernel
theorem dX6_firstCut_99 : decode cX6_firstCut 99 = .ok (.getfield 32, 3) := by decide +kernel
theorem dX6_firstCut_102 : decode cX6_firstCut 102 = .ok (.iload_n 1, 1) := by decide +kernel
theorem dX6_firstCut_103 : decode cX6_firstCut 103 = .ok (.iload_n 2, 1) := by decide +kernel
theorem dX6_firstCut_104 : decode cX6_firstCut 104 = .ok (.iload 6, 2) := by decide +kernel
theorem dX6_firstCut_106 : decode cX6_firstCut 106 = .ok (.iadd, 1) := by decide +kernel
theorem dX6_firstCut_107 : decode cX6_firstCut 107 = .ok (.iload_n 3, 1) := by decide +kernel
theorem dX6_firstCut_108 : decode cX6_firstCut 108 = .ok (.iload 4, 2) := by decide +kernel
theorem dX6_firstCut_110 : decode cX6_firstCut 110 = .ok (.iload 6, 2) := by decide +kernel
theorem dX6_firstCut_112 : decode cX6_firstCut 112 = .ok (.isub, 1) := by decide +kernel
theorem dX6_firstCut_113 : decode cX6_firstCut 113 = .ok (.invokestatic 68, 3) := by decide +kernel
theorem dX6_firstCut_116 : decode cX6_firstCut 116 = .ok (.iaload, 1) := by decide +kernel
theorem dX6_firstCut_117 : decode cX6_firstCut 117 = .ok (.iadd, 1) := by decide +kernel
theorem dX6_firstCut_118 : decode cX6_firstCut 118 = .ok (.iload 5, 2) := by decide +kernel
theorem dX6_firstCut_120 : decode cX6_firstCut 120 = .ok (.if_icmp .ne 10, 3) := by decide +kernel
theorem dX6_firstCut_123 : decode cX6_firstCut 123 = .ok (.sipush 200, 3) := by decide +kernel
theorem dX6_firstCut_126 : decode cX6_firstCut 126 = .ok (.iload 6, 2) := by decide +kernel
theorem dX6_firstCut_128 : decode cX6_firstCut 128 = .ok (.iadd, 1) := by decide +kernel
theorem dX6_firstCut_129 : decode cX6_firstCut 129 = .ok (.ireturn, 1) := by decide +kernel
theorem dX6_firstCut_130 : decode cX6_firstCut 130 = .ok (.iinc 6 1, 3) := by decide +kernel
theorem dX6_firstCut_133 : decode cX6_firstCut 133 = .ok (.goto (-55), 3) := by decide +kernel
theorem dX6_firstCut_136 : decode cX6_firstCut 136 = .ok (.bipush (-5), 2) := by decide +kernel
theorem dX6_firstCut_138 : decode cX6_firstCut 138 = .ok (.ireturn, 1) := by decide +kernel
theorem dX6_tally_0 : decode cX6_tally 0 = .ok (.aload_n 0, 1) := by decide +kernel
theorem dX6_tally_1 : decode cX6_tally 1 = .ok (.iconst 0, 1) := by decide +kernel
theorem dX6_tally_2 : decode cX6_tally 2 = .ok (.putfield 41, 3) := by decide +kernel
theorem dX6_tally_5 : decode cX6_tally 5 = .ok (.aload_n 0, 1) := by decide +kernel
theorem dX6_tally_6 : decode cX6_tally 6 = .ok (.iconst 0, 1) := by decide +kernel
theorem dX6_tally_7 : decode cX6_tally 7 = .ok (.putfield 44, 3) := by decide +kernel
theorem dX6_tally_10 : decode cX6_tally 10 = .ok (.aload_n 0, 1) := by decide +kernel
theorem dX6_tally_11 : decode cX6_tally 11 = .ok (.iconst 0, 1) := by decide +kernel
theorem dX6_tally_12 : decode cX6_tally 12 = .ok (.putfield 47, 3) := by decide +kernel
theorem dX6_tally_15 : decode cX6_tally 15 = .ok (.iconst 0, 1) := by decide +kernel
theorem dX6_tally_16 : decode cX6_tally 16 = .ok (.istore_n 1, 1) := by decide +kernel
theorem dX6_tally_17 : decode cX6_tally 17 = .ok (.iload_n 1, 1) := by decide +kernel
theorem dX6_tally_18 : decode cX6_tally 18 = .ok (.bipush 8, 2) := by decide +kernel
theorem dX6_tally_20 : decode cX6_tally 20 = .ok (.if_icmp .ge 16, 3) := by decide +kernel
theorem dX6_tally_23 : decode cX6_tally 23 = .ok (.aload_n 0, 1) := by decide +kernel
theorem dX6_tally_24 : decode cX6_tally 24 = .ok (.getfield 38, 3) := by decide +kernel
theorem dX6_tally_27 : decode cX6_tally 27 = .ok (.iload_n 1, 1) := by decide +kernel
theorem dX6_tally_28 : decode cX6_tally 28 = .ok (.iconst 0, 1) := by decide +kernel
theorem dX6_tally_29 : decode cX6_tally 29 = .ok (.iastore, 1) := by decide +kernel
theorem dX6_tally_30 : decode cX6_tally 30 = .ok (.iinc 1 1, 3) := by decide +kernel
theorem dX6_tally_33 : decode cX6_tally 33 = .ok (.goto (-16), 3) := by decide +kernel
theorem dX6_tally_36 : decode cX6_tally 36 = .ok (.aload_n 0, 1) := by decide +kernel
theorem dX6_tally_37 : decode cX6_tally 37 = .ok (.getfield 35, 3) := by decide +kernel
theorem dX6_tally_40 : decode cX6_tally 40 = .ok (.iconst 0, 1) := by decide +kernel
theorem dX6_tally_41 : decode cX6_tally 41 = .ok (.iconst 0, 1) := by decide +kernel
theorem dX6_tally_42 : decode cX6_tally 42 = .ok (.iconst 0, 1) := by decide +kernel
theorem dX6_tally_43 : decode cX6_tally 43 = .ok (.aload_n 0, 1) := by decide +kernel
theorem dX6_tally_44 : decode cX6_tally 44 = .ok (.getfield 50, 3) := by decide +kernel
theorem dX6_tally_47 : decode cX6_tally 47 = .ok (.getfield 81, 3) := by decide +kernel
theorem dX6_tally_50 : decode cX6_tally 50 = .ok (.aload_n 0, 1) := by decide +kernel
theorem dX6_tally_51 : decode cX6_tally 51 = .ok (.getfield 50, 3) := by decide +kernel
theorem dX6_tally_54 : decode cX6_tally 54 = .ok (.getfield 76, 3) := by decide +kernel
theorem dX6_tally_57 : decode cX6_tally 57 = .ok (.invokestatic 68, 3) := by decide +kernel
theorem dX6_tally_60 : decode cX6_tally 60 = .ok (.iastore, 1) := by decide +kernel
theorem dX6_tally_61 : decode cX6_tally 61 = .ok (.iconst 1, 1) := by decide +kernel
theorem dX6_tally_62 : decode cX6_tally 62 = .ok (.istore_n 1, 1) := by decide +kernel
theorem dX6_tally_63 : decode cX6_tally 63 = .ok (.iconst 0, 1) := by decide +kernel
theorem dX6_tally_64 : decode cX6_tally 64 = .ok (.istore_n 2, 1) := by decide +kernel
theorem dX6_tally_65 : decode cX6_tally 65 = .ok (.iload_n 2, 1) := by decide +kernel
theorem dX6_tally_66 : decode cX6_tally 66 = .ok (.sipush 128, 3) := by decide +kernel
theorem dX6_tally_69 : decode cX6_tally 69 = .ok (.if_icmp .ge 28, 3) := by decide +kernel
theorem dX6_tally_72 : decode cX6_tally 72 = .ok (.iload_n 1, 1) := by decide +kernel
theorem dX6_tally_73 : decode cX6_tally 73 = .ok (.ifCond .le 24, 3) := by decide +kernel
theorem dX6_tally_76 : decode cX6_tally 76 = .ok (.iinc 1 (-1), 3) := by decide +kernel
theorem dX6_tally_79 : decode cX6_tally 79 = .ok (.aload_n 0, 1) := by decide +kernel
theorem dX6_tally_80 : decode cX6_tally 80 = .ok (.aload_n 0, 1) := by decide +kernel
theorem dX6_tally_81 : decode cX6_tally 81 = .ok (.getfield 35, 3) := by decide +kernel
theorem dX6_tally_84 : decode cX6_tally 84 = .ok (.iload_n 1, 1) := by decide +kernel
theorem dX6_tally_85 : decode cX6_tally 85 = .ok (.iaload, 1) := by decide +kernel
theorem dX6_tally_86 : decode cX6_tally 86 = .ok (.iload_n 1, 1) := by decide +kernel
theorem dX6_tally_87 : decode cX6_tally 87 = .ok (.invokevirtual 139, 3) := by decide +kernel
theorem dX6_tally_90 : decode cX6_tally 90 = .ok (.istore_n 1, 1) := by decide +kernel
theorem dX6_tally_91 : decode cX6_tally 91 = .ok (.iinc 2 1, 3) := by decide +kernel
theorem dX6_tally_94 : decode cX6_tally 94 = .ok (.goto (-29), 3) := by decide +kernel
theorem dX6_tally_97 : decode cX6_tally 97 = .ok (.return_, 1) := by decide +kernel
theorem dX6_tallyBlock_0 : decode cX6_tallyBlock 0 = .ok (.iload_n 1, 1) := by decide +kernel
theorem dX6_tallyBlock_1 : decode cX6_tallyBlock 1 = .ok (.bipush 7, 2) := by decide +kernel
theorem dX6_tallyBlock_3 : decode cX6_tallyBlock 3 = .ok (.iand, 1) := by decide +kernel
theorem dX6_tallyBlock_4 : decode cX6_tallyBlock 4 = .ok (.istore_n 3, 1) := by decide +kernel
theorem dX6_tallyBlock_5 : decode cX6_tallyBlock 5 = .ok (.iload_n 1, 1) := by decide +kernel
theorem dX6_tallyBlock_6 : decode cX6_tallyBlock 6 = .ok (.iconst 3, 1) := by decide +kernel
theorem dX6_tallyBlock_7 : decode cX6_tallyBlock 7 = .ok (.ishr, 1) := by decide +kernel
theorem dX6_tallyBlock_8 : decode cX6_tallyBlock 8 = .ok (.bipush 7, 2) := by decide +kernel
theorem dX6_tallyBlock_10 : decode cX6_tallyBlock 10 = .ok (.iand, 1) := by decide +kernel
theorem dX6_tallyBlock_11 : decode cX6_tallyBlock 11 = .ok (.istore 4, 2) := by decide +kernel
theorem dX6_tallyBlock_13 : decode cX6_tallyBlock 13 = .ok (.iload_n 1, 1) := by decide +kernel
theorem dX6_tallyBlock_14 : decode cX6_tallyBlock 14 = .ok (.bipush 6, 2) := by decide +kernel
theorem dX6_tallyBlock_16 : decode cX6_tallyBlock 16 = .ok (.ishr, 1) := by decide +kernel
theorem dX6_tallyBlock_17 : decode cX6_tallyBlock 17 = .ok (.bipush 7, 2) := by decide +kernel
theorem dX6_tallyBlock_19 : decode cX6_tallyBlock 19 = .ok (.iand, 1) := by decide +kernel
theorem dX6_tallyBlock_20 : decode cX6_tallyBlock 20 = .ok (.iconst 1, 1) := by decide +kernel
theorem dX6_tallyBlock_21 : decode cX6_tallyBlock 21 = .ok (.iadd, 1) := by decide +kernel
theorem dX6_tallyBlock_22 : decode cX6_tallyBlock 22 = .ok (.istore 5, 2) := by decide +kernel
theorem dX6_tallyBlock_24 : decode cX6_tallyBlock 24 = .ok (.iload_n 1, 1) := by decide +kernel
theorem dX6_tallyBlock_25 : decode cX6_tallyBlock 25 = .ok (.bipush 9, 2) := by decide +kernel
theorem dX6_tallyBlock_27 : decode cX6_tallyBlock 27 = .ok (.ishr, 1) := by decide +kernel
theorem dX6_tallyBlock_28 : decode cX6_tallyBlock 28 = .ok (.bipush 7, 2) := by decide +kernel
theorem dX6_tallyBlock_30 : decode cX6_tallyBlock 30 = .ok (.iand, 1) := by decide +kernel
theorem dX6_tallyBlock_31 : decode cX6_tallyBlock 31 = .ok (.iconst 1, 1) := by decide +kernel
theorem dX6_tallyBlock_32 : decode cX6_tallyBlock 32 = .ok (.iadd, 1) := by decide +kernel
theorem dX6_tallyBlock_33 : decode cX6_tallyBlock 33 = .ok (.istore 6, 2) := by decide +kernel
theorem dX6_tallyBlock_35 : decode cX6_tallyBlock 35 = .ok (.aload_n 0, 1) := by decide +kernel
theorem dX6_tallyBlock_36 : decode cX6_tallyBlock 36 = .ok (.iload_n 3, 1) := by decide +kernel
theorem dX6_tallyBlock_37 : decode cX6_tallyBlock 37 = .ok (.iload 4, 2) := by decide +kernel
theorem dX6_tallyBlock_39 : decode cX6_tallyBlock 39 = .ok (.iload 6, 2) := by decide +kernel
theorem dX6_tallyBlock_41 : decode cX6_tallyBlock 41 = .ok (.iload 5, 2) := by decide +kernel
theorem dX6_tallyBlock_43 : decode cX6_tallyBlock 43 = .ok (.invokevirtual 142, 3) := by decide +kernel
theorem dX6_tallyBlock_46 : decode cX6_tallyBlock 46 = .ok (.istore 7, 2) := by decide +kernel
theorem dX6_tallyBlock_48 : decode cX6_tallyBlock 48 = .ok (.iload 7, 2) := by decide +kernel
theorem dX6_tallyBlock_50 : decode cX6_tallyBlock 50 = .ok (.bipush (-5), 2) := by decide +kernel
theorem dX6_tallyBlock_52 : decode cX6_tallyBlock 52 = .ok (.if_icmp .ne 19, 3) := by decide +kernel
theorem dX6_tallyBlock_55 : decode cX6_tallyBlock 55 = .ok (.aload_n 0, 1) := by decide +kernel
theorem dX6_tallyBlock_56 : decode cX6_tallyBlock 56 = .ok (.dup, 1) := by decide +kernel
theorem dX6_tallyBlock_57 : decode cX6_tallyBlock 57 = .ok (.getfield 47, 3) := by decide +kernel
theorem dX6_tallyBlock_60 : decode cX6_tallyBlock 60 = .ok (.iload 6, 2) := by decide +kernel
theorem dX6_tallyBlock_62 : decode cX6_tallyBlock 62 = .ok (.iload 5, 2) := by decide +kernel
theorem dX6_tallyBlock_64 : decode cX6_tallyBlock 64 = .ok (.imul, 1) := by decide +kernel
theorem dX6_tallyBlock_65 : decode cX6_tallyBlock 65 = .ok (.iadd, 1) := by decide +kernel
theorem dX6_tallyBlock_66 : decode cX6_tallyBlock 66 = .ok (.putfield 47, 3) := by decide +kernel
theorem dX6_tallyBlock_69 : decode cX6_tallyBlock 69 = .ok (.iload_n 2, 1) := by decide +kernel
theorem dX6_tallyBlock_70 : decode cX6_tallyBlock 70 = .ok (.ireturn, 1) := by decide +kernel
theorem dX6_tallyBlock_71 : decode cX6_tallyBlock 71 = .ok (.iload 7, 2) := by decide +kernel
theorem dX6_tallyBlock_73 : decode cX6_tallyBlock 73 = .ok (.bipush 100, 2) := by decide +kernel
theorem dX6_tallyBlock_75 : decode cX6_tallyBlock 75 = .ok (.if_icmp .ge 26, 3) := by decide +kernel
theorem dX6_tallyBlock_78 : decode cX6_tallyBlock 78 = .ok (.aload_n 0, 1) := by decide +kernel
theorem dX6_tallyBlock_79 : decode cX6_tallyBlock 79 = .ok (.dup, 1) := by decide +kernel
theorem dX6_tallyBlock_80 : decode cX6_tallyBlock 80 = .ok (.getfield 41, 3) := by decide +kernel
theorem dX6_tallyBlock_83 : decode cX6_tallyBlock 83 = .ok (.iconst 1, 1) := by decide +kernel
theorem dX6_tallyBlock_84 : decode cX6_tallyBlock 84 = .ok (.iadd, 1) := by decide +kernel
theorem dX6_tallyBlock_85 : decode cX6_tallyBlock 85 = .ok (.putfield 41, 3) := by decide +kernel
theorem dX6_tallyBlock_88 : decode cX6_tallyBlock 88 = .ok (.aload_n 0, 1) := by decide +kernel
theorem dX6_tallyBlock_89 : decode cX6_tallyBlock 89 = .ok (.getfield 38, 3) := by decide +kernel
theorem dX6_tallyBlock_92 : decode cX6_tallyBlock 92 = .ok (.iload 7, 2) := by decide +kernel
theorem dX6_tallyBlock_94 : decode cX6_tallyBlock 94 = .ok (.dup2, 1) := by decide +kernel
theorem dX6_tallyBlock_95 : decode cX6_tallyBlock 95 = .ok (.iaload, 1) := by decide +kernel
theorem dX6_tallyBlock_96 : decode cX6_tallyBlock 96 = .ok (.iconst 1, 1) := by decide +kernel
theorem dX6_tallyBlock_97 : decode cX6_tallyBlock 97 = .ok (.iadd, 1) := by decide +kernel
theorem dX6_tallyBlock_98 : decode cX6_tallyBlock 98 = .ok (.iastore, 1) := by decide +kernel
theorem dX6_tallyBlock_99 : decode cX6_tallyBlock 99 = .ok (.iload_n 2, 1) := by decide +kernel
theorem dX6_tallyBlock_100 : decode cX6_tallyBlock 100 = .ok (.ireturn, 1) := by decide +kernel
theorem dX6_tallyBlock_101 : decode cX6_tallyBlock 101 = .ok (.aload_n 0, 1) := by decide +kernel
theorem dX6_tallyBlock_102 : decode cX6_tallyBlock 102 = .ok (.dup, 1) := by decide +kernel
theorem dX6_tallyBlock_103 : decode cX6_tallyBlock 103 = .ok (.getfield 44, 3) := by decide +kernel
theorem dX6_tallyBlock_106 : decode cX6_tallyBlock 106 = .ok (.iconst 1, 1) := by decide +kernel
theorem dX6_tallyBlock_107 : decode cX6_tallyBlock 107 = .ok (.iadd, 1) := by decide +kernel
theorem dX6_tallyBlock_108 : decode cX6_tallyBlock 108 = .ok (.putfield 44, 3) := by decide +kernel
theorem dX6_tallyBlock_111 : decode cX6_tallyBlock 111 = .ok (.iload_n 2, 1) := by decide +kernel
theorem dX6_tallyBlock_112 : decode cX6_tallyBlock 112 = .ok (.iconst 2, 1) := by decide +kernel
theorem dX6_tallyBlock_113 : decode cX6_tallyBlock 113 = .ok (.iadd, 1) := by decide +kernel
theorem dX6_tallyBlock_114 : decode cX6_tallyBlock 114 = .ok (.bipush 64, 2) := by decide +kernel
theorem dX6_tallyBlock_116 : decode cX6_tallyBlock 116 = .ok (.if_icmp .le 5, 3) := by decide +kernel
theorem dX6_tallyBlock_119 : decode cX6_tallyBlock 119 = .ok (.iload_n 2, 1) := by decide +kernel
theorem dX6_tallyBlock_120 : decode cX6_tallyBlock 120 = .ok (.ireturn, 1) := by decide +kernel
theorem dX6_tallyBlock_121 : decode cX6_tallyBlock 121 = .ok (.iload 7, 2) := by decide +kernel
theorem dX6_tallyBlock_123 : decode cX6_tallyBlock 123 = .ok (.sipush 200, 3) := by decide +kernel
theorem dX6_tallyBlock_126 : decode cX6_tallyBlock 126 = .ok (.if_icmp .ge 7, 3) := by decide +kernel
theorem dX6_tallyBlock_129 : decode cX6_tallyBlock 129 = .ok (.iconst 1, 1) := by decide +kernel
theorem dX6_tallyBlock_130 : decode cX6_tallyBlock 130 = .ok (.goto 4, 3) := by decide +kernel
theorem dX6_tallyBlock_133 : decode cX6_tallyBlock 133 = .ok (.iconst 0, 1) := by decide +kernel
theorem dX6_tallyBlock_134 : decode cX6_tallyBlock 134 = .ok (.istore 8, 2) := by decide +kernel
theorem dX6_tallyBlock_136 : decode cX6_tallyBlock 136 = .ok (.iload 8, 2) := by decide +kernel
theorem dX6_tallyBlock_138 : decode cX6_tallyBlock 138 = .ok (.ifCond .eq 11, 3) := by decide +kernel
theorem dX6_tallyBlock_141 : decode cX6_tallyBlock 141 = .ok (.iload 7, 2) := by decide +kernel
theorem dX6_tallyBlock_143 : decode cX6_tallyBlock 143 = .ok (.bipush 100, 2) := by decide +kernel
theorem dX6_tallyBlock_145 : decode cX6_tallyBlock 145 = .ok (.isub, 1) := by decide +kernel
theorem dX6_tallyBlock_146 : decode cX6_tallyBlock 146 = .ok (.goto 9, 3) := by decide +kernel
theorem dX6_tallyBlock_149 : decode cX6_tallyBlock 149 = .ok (.iload 7, 2) := by decide +kernel
theorem dX6_tallyBlock_151 : decode cX6_tallyBlock 151 = .ok (.sipush 200, 3) := by decide +kernel
theorem dX6_tallyBlock_154 : decode cX6_tallyBlock 154 = .ok (.isub, 1) := by decide +kernel
theorem dX6_tallyBlock_155 : decode cX6_tallyBlock 155 = .ok (.istore 9, 2) := by decide +kernel
theorem dX6_tallyBlock_157 : decode cX6_tallyBlock 157 = .ok (.aload_n 0, 1) := by decide +kernel
theorem dX6_tallyBlock_158 : decode cX6_tallyBlock 158 = .ok (.getfield 35, 3) := by decide +kernel
theorem dX6_tallyBlock_161 : decode cX6_tallyBlock 161 = .ok (.iload_n 2, 1) := by decide +kernel
theorem dX6_tallyBlock_162 : decode cX6_tallyBlock 162 = .ok (.iload 8, 2) := by decide +kernel
theorem dX6_tallyBlock_164 : decode cX6_tallyBlock 164 = .ok (.ifCond .eq 16, 3) := by decide +kernel
theorem dX6_tallyBlock_167 : decode cX6_tallyBlock 167 = .ok (.iload_n 3, 1) := by decide +kernel
theorem dX6_tallyBlock_168 : decode cX6_tallyBlock 168 = .ok (.iload 4, 2) := by decide +kernel
theorem dX6_tallyBlock_170 : decode cX6_tallyBlock 170 = .ok (.iload 9, 2) := by decide +kernel
theorem dX6_tallyBlock_172 : decode cX6_tallyBlock 172 = .ok (.iload 5, 2) := by decide +kernel
theorem dX6_tallyBlock_174 : decode cX6_tallyBlock 174 = .ok (.invokestatic 68, 3) := by decide +kernel
theorem dX6_tallyBlock_177 : decode cX6_tallyBlock 177 = .ok (.goto 13, 3) := by decide +kernel
theorem dX6_tallyBlock_180 : decode cX6_tallyBlock 180 = .ok (.iload_n 3, 1) := by decide +kernel
theorem dX6_tallyBlock_181 : decode cX6_tallyBlock 181 = .ok (.iload 4, 2) := by decide +kernel
theorem dX6_tallyBlock_183 : decode cX6_tallyBlock 183 = .ok (.iload 6, 2) := by decide +kernel
theorem dX6_tallyBlock_185 : decode cX6_tallyBlock 185 = .ok (.iload 9, 2) := by decide +kernel
theorem dX6_tallyBlock_187 : decode cX6_tallyBlock 187 = .ok (.invokestatic 68, 3) := by decide +kernel
theorem dX6_tallyBlock_190 : decode cX6_tallyBlock 190 = .ok (.iastore, 1) := by decide +kernel
theorem dX6_tallyBlock_191 : decode cX6_tallyBlock 191 = .ok (.aload_n 0, 1) := by decide +kernel
theorem dX6_tallyBlock_192 : decode cX6_tallyBlock 192 = .ok (.getfield 35, 3) := by decide +kernel
theorem dX6_tallyBlock_195 : decode cX6_tallyBlock 195 = .ok (.iload_n 2, 1) := by decide +kernel
theorem dX6_tallyBlock_196 : decode cX6_tallyBlock 196 = .ok (.iconst 1, 1) := by decide +kernel
theorem dX6_tallyBlock_197 : decode cX6_tallyBlock 197 = .ok (.iadd, 1) := by decide +kernel
theorem dX6_tallyBlock_198 : decode cX6_tallyBlock 198 = .ok (.iload 8, 2) := by decide +kernel
theorem dX6_tallyBlock_200 : decode cX6_tallyBlock 200 = .ok (.ifCond .eq 22, 3) := by decide +kernel
theorem dX6_tallyBlock_203 : decode cX6_tallyBlock 203 = .ok (.iload_n 3, 1) := by decide +kernel
theorem dX6_tallyBlock_204 : decode cX6_tallyBlock 204 = .ok (.iload 9, 2) := by decide +kernel
theorem dX6_tallyBlock_206 : decode cX6_tallyBlock 206 = .ok (.iadd, 1) := by decide +kernel
theorem dX6_tallyBlock_207 : decode cX6_tallyBlock 207 = .ok (.iload 4, 2) := by decide +kernel
theorem dX6_tallyBlock_209 : decode cX6_tallyBlock 209 = .ok (.iload 6, 2) := by decide +kernel
theorem dX6_tallyBlock_211 : decode cX6_tallyBlock 211 = .ok (.iload 9, 2) := by decide +kernel
theorem dX6_tallyBlock_213 : decode cX6_tallyBlock 213 = .ok (.isub, 1) := by decide +kernel
theorem dX6_tallyBlock_214 : decode cX6_tallyBlock 214 = .ok (.iload 5, 2) := by decide +kernel
theorem dX6_tallyBlock_216 : decode cX6_tallyBlock 216 = .ok (.invokestatic 68, 3) := by decide +kernel
theorem dX6_tallyBlock_219 : decode cX6_tallyBlock 219 = .ok (.goto 19, 3) := by decide +kernel
theorem dX6_tallyBlock_222 : decode cX6_tallyBlock 222 = .ok (.iload_n 3, 1) := by decide +kernel
theorem dX6_tallyBlock_223 : decode cX6_tallyBlock 223 = .ok (.iload 4, 2) := by decide +kernel
theorem dX6_tallyBlock_225 : decode cX6_tallyBlock 225 = .ok (.iload 9, 2) := by decide +kernel
theorem dX6_tallyBlock_227 : decode cX6_tallyBlock 227 = .ok (.iadd, 1) := by decide +kernel
theorem dX6_tallyBlock_228 : decode cX6_tallyBlock 228 = .ok (.iload 6, 2) := by decide +kernel
theorem dX6_tallyBlock_230 : decode cX6_tallyBlock 230 = .ok (.iload 5, 2) := by decide +kernel
theorem dX6_tallyBlock_232 : decode cX6_tallyBlock 232 = .ok (.iload 9, 2) := by decide +kernel
theorem dX6_tallyBlock_234 : decode cX6_tallyBlock 234 = .ok (.isub, 1) := by decide +kernel
theorem dX6_tallyBlock_235 : decode cX6_tallyBlock 235 = .ok (.invokestatic 68, 3) := by decide +kernel
theorem dX6_tallyBlock_238 : decode cX6_tallyBlock 238 = .ok (.iastore, 1) := by decide +kernel
theorem dX6_tallyBlock_239 : decode cX6_tallyBlock 239 = .ok (.iload_n 2, 1) := by decide +kernel
theorem dX6_tallyBlock_240 : decode cX6_tallyBlock 240 = .ok (.iconst 2, 1) := by decide +kernel
theorem dX6_tallyBlock_241 : decode cX6_tallyBlock 241 = .ok (.iadd, 1) := by decide +kernel
theorem dX6_tallyBlock_242 : decode cX6_tallyBlock 242 = .ok (.ireturn, 1) := by decide +kernel
theorem dX7_init_0 : decode cX7_init 0 = .ok (.aload_n 0, 1) := by decide +kernel
theorem dX7_init_1 : decode cX7_init 1 = .ok (.invokespecial 3, 3) := by decide +kernel
theorem dX7_init_4 : decode cX7_init 4 = .ok (.aload_n 0, 1) := by decide +kernel
theorem dX7_init_5 : decode cX7_init 5 = .ok (.bipush 8, 2) := by decide +kernel
theorem dX7_init_7 : decode cX7_init 7 = .ok (.newarray .int, 2) := by decide +kernel
theorem dX7_init_9 : decode cX7_init 9 = .ok (.putfield 9, 3) := by decide +kernel
theorem dX7_init_12 : decode cX7_init 12 = .ok (.aload_n 0, 1) := by decide +kernel
theorem dX7_init_13 : decode cX7_init 13 = .ok (.bipush 8, 2) := by decide +kernel
theorem dX7_init_15 : decode cX7_init 15 = .ok (.newarray .int, 2) := by decide +kernel
theorem dX7_init_17 : decode cX7_init 17 = .ok (.putfield 15, 3) := by decide +kernel
theorem dX7_init_20 : decode cX7_init 20 = .ok (.aload_n 0, 1) := by decide +kernel
theorem dX7_init_21 : decode cX7_init 21 = .ok (.bipush 8, 2) := by decide +kernel
theorem dX7_init_23 : decode cX7_init 23 = .ok (.newarray .int, 2) := by decide +kernel
theorem dX7_init_25 : decode cX7_init 25 = .ok (.putfield 18, 3) := by decide +kernel
theorem dX7_init_28 : decode cX7_init 28 = .ok (.aload_n 0, 1) := by decide +kernel
theorem dX7_init_29 : decode cX7_init 29 = .ok (.bipush 8, 2) := by decide +kernel
theorem dX7_init_31 : decode cX7_init 31 = .ok (.newarray .int, 2) := by decide +kernel
theorem dX7_init_33 : decode cX7_init 33 = .ok (.putfield 21, 3) := by decide +kernel
theorem dX7_init_36 : decode cX7_init 36 = .ok (.aload_n 0, 1) := by decide +kernel
theorem dX7_init_37 : decode cX7_init 37 = .ok (.bipush 8, 2) := by decide +kernel
theorem dX7_init_39 : decode cX7_init 39 = .ok (.newarray .boolean, 2) := by decide +kernel
theorem dX7_init_41 : decode cX7_init 41 = .ok (.putfield 24, 3) := by decide +kernel
theorem dX7_init_44 : decode cX7_init 44 = .ok (.aload_n 0, 1) := by decide +kernel
theorem dX7_init_45 : decode cX7_init 45 = .ok (.iconst 0, 1) := by decide +kernel
theorem dX7_init_46 : decode cX7_init 46 = .ok (.putfield 28, 3) := by decide +kernel
theorem dX7_init_49 : decode cX7_init 49 = .ok (.return_, 1) := by decide +kernel
theorem dX7_add_0 : decode cX7_add 0 = .ok (.aload_n 0, 1) := by decide +kernel
theorem dX7_add_1 : decode cX7_add 1 = .ok (.getfield 9, 3) := by decide +kernel
theorem dX7_add_4 : decode cX7_add 4 = .ok (.aload_n 0, 1) := by decide +kernel
theorem dX7_add_5 : decode cX7_add 5 = .ok (.getfield 28, 3) := by decide +kernel
theorem dX7_add_8 : decode cX7_add 8 = .ok (.iload_n 1, 1) := by decide +kernel
theorem dX7_add_9 : decode cX7_add 9 = .ok (.iastore, 1) := by decide +kernel
theorem dX7_add_10 : decode cX7_add 10 = .ok (.aload_n 0, 1) := by decide +kernel
theorem dX7_add_11 : decode cX7_add 11 = .ok (.getfield 15, 3) := by decide +kernel
theorem dX7_add_14 : decode cX7_add 14 = .ok (.aload_n 0, 1) := by decide +kernel
theorem dX7_add_15 : decode cX7_add 15 = .ok (.getfield 28, 3) := by decide +kernel
theorem dX7_add_18 : decode cX7_add 18 = .ok (.iload_n 2, 1) := by decide +kernel
theorem dX7_add_19 : decode cX7_add 19 = .ok (.iastore, 1) := by decide +kernel
theorem dX7_add_20 : decode cX7_add 20 = .ok (.aload_n 0, 1) := by decide +kernel
theorem dX7_add_21 : decode cX7_add 21 = .ok (.getfield 18, 3) := by decide +kernel
theorem dX7_add_24 : decode cX7_add 24 = .ok (.aload_n 0, 1) := by decide +kernel
theorem dX7_add_25 : decode cX7_add 25 = .ok (.getfield 28, 3) := by decide +kernel
theorem dX7_add_28 : decode cX7_add 28 = .ok (.iload_n 3, 1) := by decide +kernel
theorem dX7_add_29 : decode cX7_add 29 = .ok (.iastore, 1) := by decide +kernel
theorem dX7_add_30 : decode cX7_add 30 = .ok (.aload_n 0, 1) := by decide +kernel
theorem dX7_add_31 : decode cX7_add 31 = .ok (.getfield 21, 3) := by decide +kernel
theorem dX7_add_34 : decode cX7_add 34 = .ok (.aload_n 0, 1) := by decide +kernel
theorem dX7_add_35 : decode cX7_add 35 = .ok (.getfield 28, 3) := by decide +kernel
theorem dX7_add_38 : decode cX7_add 38 = .ok (.iload 4, 2) := by decide +kernel
theorem dX7_add_40 : decode cX7_add 40 = .ok (.iastore, 1) := by decide +kernel
theorem dX7_add_41 : decode cX7_add 41 = .ok (.aload_n 0, 1) := by decide +kernel
theorem dX7_add_42 : decode cX7_add 42 = .ok (.getfield 24, 3) := by decide +kernel
theorem dX7_add_45 : decode cX7_add 45 = .ok (.aload_n 0, 1) := by decide +kernel
theorem dX7_add_46 : decode cX7_add 46 = .ok (.getfield 28, 3) := by decide +kernel
theorem dX7_add_49 : decode cX7_add 49 = .ok (.iload 5, 2) := by decide +kernel
theorem dX7_add_51 : decode cX7_add 51 = .ok (.bastore, 1) := by decide +kernel
theorem dX7_add_52 : decode cX7_add 52 = .ok (.aload_n 0, 1) := by decide +kernel
theorem dX7_add_53 : decode cX7_add 53 = .ok (.dup, 1) := by decide +kernel
theorem dX7_add_54 : decode cX7_add 54 = .ok (.getfield 28, 3) := by decide +kernel
theorem dX7_add_57 : decode cX7_add 57 = .ok (.iconst 1, 1) := by decide +kernel
theorem dX7_add_58 : decode cX7_add 58 = .ok (.iadd, 1) := by decide +kernel
theorem dX7_add_59 : decode cX7_add 59 = .ok (.putfield 28, 3) := by decide +kernel
theorem dX7_add_62 : decode cX7_add 62 = .ok (.aload_n 0, 1) := by decide +kernel
theorem dX7_add_63 : decode cX7_add 63 = .ok (.getfield 28, 3) := by decide +kernel
theorem dX7_add_66 : decode cX7_add 66 = .ok (.iconst 1, 1) := by decide +kernel
theorem dX7_add_67 : decode cX7_add 67 = .ok (.isub, 1) := by decide +kernel
theorem dX7_add_68 : decode cX7_add 68 = .ok (.ireturn, 1) := by decide +kernel
theorem dX7_has_0 : decode cX7_has 0 = .ok (.iload_n 1, 1) := by decide +kernel
theorem dX7_has_1 : decode cX7_has 1 = .ok (.iconst 0, 1) := by decide +kernel
theorem dX7_has_2 : decode cX7_has 2 = .ok (.aload_n 0, 1) := by decide +kernel
theorem dX7_has_3 : decode cX7_has 3 = .ok (.getfield 28, 3) := by decide +kernel
theorem dX7_has_6 : decode cX7_has 6 = .ok (.iconst 1, 1) := by decide +kernel
theorem dX7_has_7 : decode cX7_has 7 = .ok (.isub, 1) := by decide +kernel
theorem dX7_has_8 : decode cX7_has 8 = .ok (.invokestatic 32, 3) := by decide +kernel
theorem dX7_has_11 : decode cX7_has 11 = .ok (.ireturn, 1) := by decide +kernel
theorem dX7_isOf_0 : decode cX7_isOf 0 = .ok (.aload_n 0, 1) := by decide +kernel
theorem dX7_isOf_1 : decode cX7_isOf 1 = .ok (.getfield 9, 3) := by decide +kernel
theorem dX7_isOf_4 : decode cX7_isOf 4 = .ok (.iload_n 1, 1) := by decide +kernel
theorem dX7_isOf_5 : decode cX7_isOf 5 = .ok (.iaload, 1) := by decide +kernel
theorem dX7_isOf_6 : decode cX7_isOf 6 = .ok (.iload_n 2, 1) := by decide +kernel
theorem dX7_isOf_7 : decode cX7_isOf 7 = .ok (.if_icmp .ne 13, 3) := by decide +kernel
theorem dX7_isOf_10 : decode cX7_isOf 10 = .ok (.aload_n 0, 1) := by decide +kernel
theorem dX7_isOf_11 : decode cX7_isOf 11 = .ok (.getfield 15, 3) := by decide +kernel
theorem dX7_isOf_14 : decode cX7_isOf 14 = .ok (.iload_n 1, 1) := by decide +kernel
theorem dX7_isOf_15 : decode cX7_isOf 15 = .ok (.iaload, 1) := by decide +kernel
theorem dX7_isOf_16 : decode cX7_isOf 16 = .ok (.iload_n 3, 1) := by decide +kernel
theorem dX7_isOf_17 : decode cX7_isOf 17 = .ok (.if_icmp .eq 32, 3) := by decide +kernel
theorem dX7_isOf_20 : decode cX7_isOf 20 = .ok (.aload_n 0, 1) := by decide +kernel
theorem dX7_isOf_21 : decode cX7_isOf 21 = .ok (.getfield 24, 3) := by decide +kernel
theorem dX7_isOf_24 : decode cX7_isOf 24 = .ok (.iload_n 1, 1) := by decide +kernel
theorem dX7_isOf_25 : decode cX7_isOf 25 = .ok (.baload, 1) := by decide +kernel
theorem dX7_isOf_26 : decode cX7_isOf 26 = .ok (.ifCond .eq 27, 3) := by decide +kernel
theorem dX7_isOf_29 : decode cX7_isOf 29 = .ok (.aload_n 0, 1) := by decide +kernel
theorem dX7_isOf_30 : decode cX7_isOf 30 = .ok (.getfield 9, 3) := by decide +kernel
theorem dX7_isOf_33 : decode cX7_isOf 33 = .ok (.iload_n 1, 1) := by decide +kernel
theorem dX7_isOf_34 : decode cX7_isOf 34 = .ok (.iaload, 1) := by decide +kernel
theorem dX7_isOf_35 : decode cX7_isOf 35 = .ok (.iload_n 3, 1) := by decide +kernel
theorem dX7_isOf_36 : decode cX7_isOf 36 = .ok (.if_icmp .ne 17, 3) := by decide +kernel
theorem dX7_isOf_39 : decode cX7_isOf 39 = .ok (.aload_n 0, 1) := by decide +kernel
theorem dX7_isOf_40 : decode cX7_isOf 40 = .ok (.getfield 15, 3) := by decide +kernel
theorem dX7_isOf_43 : decode cX7_isOf 43 = .ok (.iload_n 1, 1) := by decide +kernel
theorem dX7_isOf_44 : decode cX7_isOf 44 = .ok (.iaload, 1) := by decide +kernel
theorem dX7_isOf_45 : decode cX7_isOf 45 = .ok (.iload_n 2, 1) := by decide +kernel
theorem dX7_isOf_46 : decode cX7_isOf 46 = .ok (.if_icmp .ne 7, 3) := by decide +kernel
theorem dX7_isOf_49 : decode cX7_isOf 49 = .ok (.iconst 1, 1) := by decide +kernel
theorem dX7_isOf_50 : decode cX7_isOf 50 = .ok (.goto 4, 3) := by decide +kernel
theorem dX7_isOf_53 : decode cX7_isOf 53 = .ok (.iconst 0, 1) := by decide +kernel
theorem dX7_isOf_54 : decode cX7_isOf 54 = .ok (.ireturn, 1) := by decide +kernel
theorem dX8_init_0 : decode cX8_init 0 = .ok (.aload_n 0, 1) := by decide +kernel
theorem dX8_init_1 : decode cX8_init 1 = .ok (.invokespecial 3, 3) := by decide +kernel
theorem dX8_init_4 : decode cX8_init 4 = .ok (.aload_n 0, 1) := by decide +kernel
theorem dX8_init_5 : decode cX8_init 5 = .ok (.iconst (-1), 1) := by decide +kernel
theorem dX8_init_6 : decode cX8_init 6 = .ok (.putfield 11, 3) := by decide +kernel
theorem dX8_init_9 : decode cX8_init 9 = .ok (.aload_n 0, 1) := by decide +kernel
theorem dX8_init_10 : decode cX8_init 10 = .ok (.iconst 0, 1) := by decide +kernel
theorem dX8_init_11 : decode cX8_init 11 = .ok (.putfield 15, 3) := by decide +kernel
theorem dX8_init_14 : decode cX8_init 14 = .ok (.aload_n 0, 1) := by decide +kernel
theorem dX8_init_15 : decode cX8_init 15 = .ok (.bipush 64, 2) := by decide +kernel
theorem dX8_init_17 : decode cX8_init 17 = .ok (.newarray .int, 2) := by decide +kernel
theorem dX8_init_19 : decode cX8_init 19 = .ok (.putfield 18, 3) := by decide +kernel
theorem dX8_init_22 : decode cX8_init 22 = .ok (.return_, 1) := by decide +kernel
theorem dX8_renew_0 : decode cX8_renew 0 = .ok (.aload_n 0, 1) := by decide +kernel
theorem dX8_renew_1 : decode cX8_renew 1 = .ok (.iload_n 1, 1) := by decide +kernel
theorem dX8_renew_2 : decode cX8_renew 2 = .ok (.putfield 11, 3) := by decide +kernel
theorem dX8_renew_5 : decode cX8_renew 5 = .ok (.aload_n 0, 1) := by decide +kernel
theorem dX8_renew_6 : decode cX8_renew 6 = .ok (.iload_n 2, 1) := by decide +kernel
theorem dX8_renew_7 : decode cX8_renew 7 = .ok (.putfield 15, 3) := by decide +kernel
theorem dX8_renew_10 : decode cX8_renew 10 = .ok (.iconst 0, 1) := by decide +kernel
theorem dX8_renew_11 : decode cX8_renew 11 = .ok (.istore_n 3, 1) := by decide +kernel
theorem dX8_renew_12 : decode cX8_renew 12 = .ok (.iload_n 3, 1) := by decide +kernel
theorem dX8_renew_13 : decode cX8_renew 13 = .ok (.bipush 64, 2) := by decide +kernel
theorem dX8_renew_15 : decode cX8_renew 15 = .ok (.if_icmp .ge 16, 3) := by decide +kernel
theorem dX8_renew_18 : decode cX8_renew 18 = .ok (.aload_n 0, 1) := by decide +kernel
theorem dX8_renew_19 : decode cX8_renew 19 = .ok (.getfield 18, 3) := by decide +kernel
theorem dX8_renew_22 : decode cX8_renew 22 = .ok (.iload_n 3, 1) := by decide +kernel
theorem dX8_renew_23 : decode cX8_renew 23 = .ok (.iconst 0, 1) := by decide +kernel
theorem dX8_renew_24 : decode cX8_renew 24 = .ok (.iastore, 1) := by decide +kernel
theorem dX8_renew_25 : decode cX8_renew 25 = .ok (.iinc 3 1, 3) := by decide +kernel
theorem dX8_renew_28 : decode cX8_renew 28 = .ok (.goto (-16), 3) := by decide +kernel
theorem dX8_renew_31 : decode cX8_renew 31 = .ok (.return_, 1) := by decide +kernel
theorem dX8_isNothing_0 : decode cX8_isNothing 0 = .ok (.aload_n 0, 1) := by decide +kernel
theorem dX8_isNothing_1 : decode cX8_isNothing 1 = .ok (.getfield 11, 3) := by decide +kernel
theorem dX8_isNothing_4 : decode cX8_isNothing 4 = .ok (.iconst (-1), 1) := by decide +kernel
theorem dX8_isNothing_5 : decode cX8_isNothing 5 = .ok (.if_icmp .ne 7, 3) := by decide +kernel
theorem dX8_isNothing_8 : decode cX8_isNothing 8 = .ok (.iconst 1, 1) := by decide +kernel
theorem dX8_isNothing_9 : decode cX8_isNothing 9 = .ok (.goto 4, 3) := by decide +kernel
theorem dX8_isNothing_12 : decode cX8_isNothing 12 = .ok (.iconst 0, 1) := by decide +kernel
theorem dX8_isNothing_13 : decode cX8_isNothing 13 = .ok (.ireturn, 1) := by decide +kernel
theorem dX8_has_0 : decode cX8_has 0 = .ok (.iload_n 1, 1) := by decide +kernel
theorem dX8_has_1 : decode cX8_has 1 = .ok (.iconst 0, 1) := by decide +kernel
theorem dX8_has_2 : decode cX8_has 2 = .ok (.aload_n 0, 1) := by decide +kernel
theorem dX8_has_3 : decode cX8_has 3 = .ok (.getfield 15, 3) := by decide +kernel
theorem dX8_has_6 : decode cX8_has 6 = .ok (.iconst 1, 1) := by decide +kernel
theorem dX8_has_7 : decode cX8_has 7 = .ok (.isub, 1) := by decide +kernel
theorem dX8_has_8 : decode cX8_has 8 = .ok (.invokestatic 22, 3) := by decide +kernel
theorem dX8_has_11 : decode cX8_has 11 = .ok (.ireturn, 1) := by decide +kernel
theorem dX8_put_0 : decode cX8_put 0 = .ok (.aload_n 0, 1) := by decide +kernel
theorem dX8_put_1 : decode cX8_put 1 = .ok (.getfield 18, 3) := by decide +kernel
theorem dX8_put_4 : decode cX8_put 4 = .ok (.iload_n 1, 1) := by decide +kernel
theorem dX8_put_5 : decode cX8_put 5 = .ok (.aload_n 0, 1) := by decide +kernel
theorem dX8_put_6 : decode cX8_put 6 = .ok (.getfield 11, 3) := by decide +kernel
theorem dX8_put_9 : decode cX8_put 9 = .ok (.ifCond .ne 8, 3) := by decide +kernel
theorem dX8_put_12 : decode cX8_put 12 = .ok (.iload_n 2, 1) := by decide +kernel
theorem dX8_put_13 : decode cX8_put 13 = .ok (.i2b, 1) := by decide +kernel
theorem dX8_put_14 : decode cX8_put 14 = .ok (.goto 17, 3) := by decide +kernel
theorem dX8_put_17 : decode cX8_put 17 = .ok (.aload_n 0, 1) := by decide +kernel
theorem dX8_put_18 : decode cX8_put 18 = .ok (.getfield 11, 3) := by decide +kernel
theorem dX8_put_21 : decode cX8_put 21 = .ok (.iconst 1, 1) := by decide +kernel
theorem dX8_put_22 : decode cX8_put 22 = .ok (.if_icmp .ne 8, 3) := by decide +kernel
theorem dX8_put_25 : decode cX8_put 25 = .ok (.iload_n 2, 1) := by decide +kernel
theorem dX8_put_26 : decode cX8_put 26 = .ok (.i2s, 1) := by decide +kernel
theorem dX8_put_27 : decode cX8_put 27 = .ok (.goto 4, 3) := by decide +kernel
theorem dX8_put_30 : decode cX8_put 30 = .ok (.iload_n 2, 1) := by decide +kernel
theorem dX8_put_31 : decode cX8_put 31 = .ok (.iastore, 1) := by decide +kernel
theorem dX8_put_32 : decode cX8_put 32 = .ok (.return_, 1) := by decide +kernel
theorem dX9_init_0 : decode cX9_init 0 = .ok (.aload_n 0, 1) := by decide +kernel
theorem dX9_init_1 : decode cX9_init 1 = .ok (.invokespecial 3, 3) := by decide +kernel
theorem dX9_init_4 : decode cX9_init 4 = .ok (.aload_n 0, 1) := by decide +kernel
theorem dX9_init_5 : decode cX9_init 5 = .ok (.bipush 12, 2) := by decide +kernel
theorem dX9_init_7 : decode cX9_init 7 = .ok (.newarray .int, 2) := by decide +kernel
theorem dX9_init_9 : decode cX9_init 9 = .ok (.putfield 9, 3) := by decide +kernel
theorem dX9_init_12 : decode cX9_init 12 = .ok (.aload_n 0, 1) := by decide +kernel
theorem dX9_init_13 : decode cX9_init 13 = .ok (.bipush 12, 2) := by decide +kernel
theorem dX9_init_15 : decode cX9_init 15 = .ok (.newarray .int, 2) := by decide +kernel
theorem dX9_init_17 : decode cX9_init 17 = .ok (.putfield 15, 3) := by decide +kernel
theorem dX9_init_20 : decode cX9_init 20 = .ok (.aload_n 0, 1) := by decide +kernel
theorem dX9_init_21 : decode cX9_init 21 = .ok (.bipush 12, 2) := by decide +kernel
theorem dX9_init_23 : decode cX9_init 23 = .ok (.newarray .int, 2) := by decide +kernel
theorem dX9_init_25 : decode cX9_init 25 = .ok (.putfield 18, 3) := by decide +kernel
theorem dX9_init_28 : decode cX9_init 28 = .ok (.aload_n 0, 1) := by decide +kernel
theorem dX9_init_29 : decode cX9_init 29 = .ok (.bipush 12, 2) := by decide +kernel
theorem dX9_init_31 : decode cX9_init 31 = .ok (.newarray .int, 2) := by decide +kernel
theorem dX9_init_33 : decode cX9_init 33 = .ok (.putfield 21, 3) := by decide +kernel
theorem dX9_init_36 : decode cX9_init 36 = .ok (.aload_n 0, 1) := by decide +kernel
theorem dX9_init_37 : decode cX9_init 37 = .ok (.iconst 0, 1) := by decide +kernel
theorem dX9_init_38 : decode cX9_init 38 = .ok (.putfield 24, 3) := by decide +kernel
theorem dX9_init_41 : decode cX9_init 41 = .ok (.return_, 1) := by decide +kernel
theorem dX9_add_0 : decode cX9_add 0 = .ok (.aload_n 0, 1) := by decide +kernel
theorem dX9_add_1 : decode cX9_add 1 = .ok (.getfield 9, 3) := by decide +kernel
theorem dX9_add_4 : decode cX9_add 4 = .ok (.aload_n 0, 1) := by decide +kernel
theorem dX9_add_5 : decode cX9_add 5 = .ok (.getfield 24, 3) := by decide +kernel
theorem dX9_add_8 : decode cX9_add 8 = .ok (.iload_n 1, 1) := by decide +kernel
theorem dX9_add_9 : decode cX9_add 9 = .ok (.iastore, 1) := by decide +kernel
theorem dX9_add_10 : decode cX9_add 10 = .ok (.aload_n 0, 1) := by decide +kernel
theorem dX9_add_11 : decode cX9_add 11 = .ok (.getfield 15, 3) := by decide +kernel
theorem dX9_add_14 : decode cX9_add 14 = .ok (.aload_n 0, 1) := by decide +kernel
theorem dX9_add_15 : decode cX9_add 15 = .ok (.getfield 24, 3) := by decide +kernel
theorem dX9_add_18 : decode cX9_add 18 = .ok (.iload_n 2, 1) := by decide +kernel
theorem dX9_add_19 : decode cX9_add 19 = .ok (.iastore, 1) := by decide +kernel
theorem dX9_add_20 : decode cX9_add 20 = .ok (.aload_n 0, 1) := by decide +kernel
theorem dX9_add_21 : decode cX9_add 21 = .ok (.getfield 18, 3) := by decide +kernel
theorem dX9_add_24 : decode cX9_add 24 = .ok (.aload_n 0, 1) := by decide +kernel
theorem dX9_add_25 : decode cX9_add 25 = .ok (.getfield 24, 3) := by decide +kernel
theorem dX9_add_28 : decode cX9_add 28 = .ok (.iload_n 3, 1) := by decide +kernel
theorem dX9_add_29 : decode cX9_add 29 = .ok (.iastore, 1) := by decide +kernel
theorem dX9_add_30 : decode cX9_add 30 = .ok (.aload_n 0, 1) := by decide +kernel
theorem dX9_add_31 : decode cX9_add 31 = .ok (.getfield 21, 3) := by decide +kernel
theorem dX9_add_34 : decode cX9_add 34 = .ok (.aload_n 0, 1) := by decide +kernel
theorem dX9_add_35 : decode cX9_add 35 = .ok (.getfield 24, 3) := by decide +kernel
theorem dX9_add_38 : decode cX9_add 38 = .ok (.iload 4, 2) := by decide +kernel
theorem dX9_add_40 : decode cX9_add 40 = .ok (.iastore, 1) := by decide +kernel
theorem dX9_add_41 : decode cX9_add 41 = .ok (.aload_n 0, 1) := by decide +kernel
theorem dX9_add_42 : decode cX9_add 42 = .ok (.dup, 1) := by decide +kernel
theorem dX9_add_43 : decode cX9_add 43 = .ok (.getfield 24, 3) := by decide +kernel
theorem dX9_add_46 : decode cX9_add 46 = .ok (.iconst 1, 1) := by decide +kernel
theorem dX9_add_47 : decode cX9_add 47 = .ok (.iadd, 1) := by decide +kernel
theorem dX9_add_48 : decode cX9_add 48 = .ok (.putfield 24, 3) := by decide +kernel
theorem dX9_add_51 : decode cX9_add 51 = .ok (.aload_n 0, 1) := by decide +kernel
theorem dX9_add_52 : decode cX9_add 52 = .ok (.getfield 24, 3) := by decide +kernel
theorem dX9_add_55 : decode cX9_add 55 = .ok (.iconst 1, 1) := by decide +kernel
theorem dX9_add_56 : decode cX9_add 56 = .ok (.isub, 1) := by decide +kernel
theorem dX9_add_57 : decode cX9_add 57 = .ok (.ireturn, 1) := by decide +kernel
theorem dX9_remove_0 : decode cX9_remove 0 = .ok (.aload_n 0, 1) := by decide +kernel
theorem dX9_remove_1 : decode cX9_remove 1 = .ok (.getfield 24, 3) := by decide +kernel
theorem dX9_remove_4 : decode cX9_remove 4 = .ok (.istore_n 2, 1) := by decide +kernel
theorem dX9_remove_5 : decode cX9_remove 5 = .ok (.aload_n 0, 1) := by decide +kernel
theorem dX9_remove_6 : decode cX9_remove 6 = .ok (.iconst 0, 1) := by decide +kernel
theorem dX9_remove_7 : decode cX9_remove 7 = .ok (.putfield 24, 3) := by decide +kernel
theorem dX9_remove_10 : decode cX9_remove 10 = .ok (.iconst 0, 1) := by decide +kernel
theorem dX9_remove_11 : decode cX9_remove 11 = .ok (.istore_n 3, 1) := by decide +kernel
theorem dX9_remove_12 : decode cX9_remove 12 = .ok (.iload_n 3, 1) := by decide +kernel
theorem dX9_remove_13 : decode cX9_remove 13 = .ok (.iload_n 2, 1) := by decide +kernel
theorem dX9_remove_14 : decode cX9_remove 14 = .ok (.if_icmp .ge 46, 3) := by decide +kernel
theorem dX9_remove_17 : decode cX9_remove 17 = .ok (.iload_n 1, 1) := by decide +kernel
theorem dX9_remove_18 : decode cX9_remove 18 = .ok (.iload_n 3, 1) := by decide +kernel
theorem dX9_remove_19 : decode cX9_remove 19 = .ok (.ishr, 1) := by decide +kernel
theorem dX9_remove_20 : decode cX9_remove 20 = .ok (.iconst 1, 1) := by decide +kernel
theorem dX9_remove_21 : decode cX9_remove 21 = .ok (.iand, 1) := by decide +kernel
theorem dX9_remove_22 : decode cX9_remove 22 = .ok (.ifCond .ne 32, 3) := by decide +kernel
theorem dX9_remove_25 : decode cX9_remove 25 = .ok (.aload_n 0, 1) := by decide +kernel
theorem dX9_remove_26 : decode cX9_remove 26 = .ok (.aload_n 0, 1) := by decide +kernel
theorem dX9_remove_27 : decode cX9_remove 27 = .ok (.getfield 9, 3) := by decide +kernel
theorem dX9_remove_30 : decode cX9_remove 30 = .ok (.iload_n 3, 1) := by decide +kernel
theorem dX9_remove_31 : decode cX9_remove 31 = .ok (.iaload, 1) := by decide +kernel
theorem dX9_remove_32 : decode cX9_remove 32 = .ok (.aload_n 0, 1) := by decide +kernel
theorem dX9_remove_33 : decode cX9_remove 33 = .ok (.getfield 15, 3) := by decide +kernel
theorem dX9_remove_36 : decode cX9_remove 36 = .ok (.iload_n 3, 1) := by decide +kernel
theorem dX9_remove_37 : decode cX9_remove 37 = .ok (.iaload, 1) := by decide +kernel
theorem dX9_remove_38 : decode cX9_remove 38 = .ok (.aload_n 0, 1) := by decide +kernel
theorem dX9_remove_39 : decode cX9_remove 39 = .ok (.getfield 18, 3) := by decide +kernel
theorem dX9_remove_42 : decode cX9_remove 42 = .ok (.iload_n 3, 1) := by decide +kernel
theorem dX9_remove_43 : decode cX9_remove 43 = .ok (.iaload, 1) := by decide +kernel
theorem dX9_remove_44 : decode cX9_remove 44 = .ok (.aload_n 0, 1) := by decide +kernel
theorem dX9_remove_45 : decode cX9_remove 45 = .ok (.getfield 21, 3) := by decide +kernel
theorem dX9_remove_48 : decode cX9_remove 48 = .ok (.iload_n 3, 1) := by decide +kernel
theorem dX9_remove_49 : decode cX9_remove 49 = .ok (.iaload, 1) := by decide +kernel
theorem dX9_remove_50 : decode cX9_remove 50 = .ok (.invokevirtual 28, 3) := by decide +kernel
theorem dX9_remove_53 : decode cX9_remove 53 = .ok (.pop, 1) := by decide +kernel
theorem dX9_remove_54 : decode cX9_remove 54 = .ok (.iinc 3 1, 3) := by decide +kernel
theorem dX9_remove_57 : decode cX9_remove 57 = .ok (.goto (-45), 3) := by decide +kernel
theorem dX9_remove_60 : decode cX9_remove 60 = .ok (.return_, 1) := by decide +kernel
theorem dX10_init_0 : decode cX10_init 0 = .ok (.aload_n 0, 1) := by decide +kernel
theorem dX10_init_1 : decode cX10_init 1 = .ok (.invokespecial 1, 3) := by decide +kernel
theorem dX10_init_4 : decode cX10_init 4 = .ok (.aload_n 0, 1) := by decide +kernel
theorem dX10_init_5 : decode cX10_init 5 = .ok (.sipush 200, 3) := by decide +kernel
theorem dX10_init_8 : decode cX10_init 8 = .ok (.newarray .int, 2) := by decide +kernel
theorem dX10_init_10 : decode cX10_init 10 = .ok (.putfield 9, 3) := by decide +kernel
theorem dX10_init_13 : decode cX10_init 13 = .ok (.aload_n 0, 1) := by decide +kernel
theorem dX10_init_14 : decode cX10_init 14 = .ok (.iconst 0, 1) := by decide +kernel
theorem dX10_init_15 : decode cX10_init 15 = .ok (.putfield 13, 3) := by decide +kernel
theorem dX10_init_18 : decode cX10_init 18 = .ok (.aload_n 0, 1) := by decide +kernel
theorem dX10_init_19 : decode cX10_init 19 = .ok (.sipush 201, 3) := by decide +kernel
theorem dX10_init_22 : decode cX10_init 22 = .ok (.newarray .int, 2) := by decide +kernel
theorem dX10_init_24 : decode cX10_init 24 = .ok (.putfield 17, 3) := by decide +kernel
theorem dX10_init_27 : decode cX10_init 27 = .ok (.aload_n 0, 1) := by decide +kernel
theorem dX10_init_28 : decode cX10_init 28 = .ok (.sipush 201, 3) := by decide +kernel
theorem dX10_init_31 : decode cX10_init 31 = .ok (.newarray .int, 2) := by decide +kernel
theorem dX10_init_33 : decode cX10_init 33 = .ok (.putfield 20, 3) := by decide +kernel
theorem dX10_init_36 : decode cX10_init 36 = .ok (.aload_n 0, 1) := by decide +kernel
theorem dX10_init_37 : decode cX10_init 37 = .ok (.sipush 201, 3) := by decide +kernel
theorem dX10_init_40 : decode cX10_init 40 = .ok (.newarray .int, 2) := by decide +kernel
theorem dX10_init_42 : decode cX10_init 42 = .ok (.putfield 23, 3) := by decide +kernel
theorem dX10_init_45 : decode cX10_init 45 = .ok (.aload_n 0, 1) := by decide +kernel
theorem dX10_init_46 : decode cX10_init 46 = .ok (.iconst 0, 1) := by decide +kernel
theorem dX10_init_47 : decode cX10_init 47 = .ok (.putfield 26, 3) := by decide +kernel
theorem dX10_init_50 : decode cX10_init 50 = .ok (.return_, 1) := by decide +kernel
theorem dX10_append_0 : decode cX10_append 0 = .ok (.bipush 56, 2) := by decide +kernel
theorem dX10_append_2 : decode cX10_append 2 = .ok (.istore_n 3, 1) := by decide +kernel
theorem dX10_append_3 : decode cX10_append 3 = .ok (.iload_n 3, 1) := by decide +kernel
theorem dX10_append_4 : decode cX10_append 4 = .ok (.ifCond .lt 46, 3) := by decide +kernel
theorem dX10_append_7 : decode cX10_append 7 = .ok (.aload_n 0, 1) := by decide +kernel
theorem dX10_append_8 : decode cX10_append 8 = .ok (.getfield 13, 3) := by decide +kernel
theorem dX10_append_11 : decode cX10_append 11 = .ok (.sipush 200, 3) := by decide +kernel
theorem dX10_append_14 : decode cX10_append 14 = .ok (.if_icmp .ge 36, 3) := by decide +kernel
theorem dX10_append_17 : decode cX10_append 17 = .ok (.aload_n 0, 1) := by decide +kernel
theorem dX10_append_18 : decode cX10_append 18 = .ok (.getfield 9, 3) := by decide +kernel
theorem dX10_append_21 : decode cX10_append 21 = .ok (.aload_n 0, 1) := by decide +kernel
theorem dX10_append_22 : decode cX10_append 22 = .ok (.getfield 13, 3) := by decide +kernel
theorem dX10_append_25 : decode cX10_append 25 = .ok (.lload_n 1, 1) := by decide +kernel
theorem dX10_append_26 : decode cX10_append 26 = .ok (.iload_n 3, 1) := by decide +kernel
theorem dX10_append_27 : decode cX10_append 27 = .ok (.lshr, 1) := by decide +kernel
theorem dX10_append_28 : decode cX10_append 28 = .ok (.ldc2_w 29, 3) := by decide +kernel
theorem dX10_append_31 : decode cX10_append 31 = .ok (.land, 1) := by decide +kernel
theorem dX10_append_32 : decode cX10_append 32 = .ok (.l2i, 1) := by decide +kernel
theorem dX10_append_33 : decode cX10_append 33 = .ok (.iastore, 1) := by decide +kernel
theorem dX10_append_34 : decode cX10_append 34 = .ok (.aload_n 0, 1) := by decide +kernel
theorem dX10_append_35 : decode cX10_append 35 = .ok (.dup, 1) := by decide +kernel
theorem dX10_append_36 : decode cX10_append 36 = .ok (.getfield 13, 3) := by decide +kernel
theorem dX10_append_39 : decode cX10_append 39 = .ok (.iconst 1, 1) := by decide +kernel
theorem dX10_append_40 : decode cX10_append 40 = .ok (.iadd, 1) := by decide +kernel
theorem dX10_append_41 : decode cX10_append 41 = .ok (.putfield 13, 3) := by decide +kernel
theorem dX10_append_44 : decode cX10_append 44 = .ok (.iinc 3 (-8), 3) := by decide +kernel
theorem dX10_append_47 : decode cX10_append 47 = .ok (.goto (-44), 3) := by decide +kernel
theorem dX10_append_50 : decode cX10_append 50 = .ok (.return_, 1) := by decide +kernel
theorem dX10_split_0 : decode cX10_split 0 = .ok (.aload_n 0, 1) := by decide +kernel
theorem dX10_split_1 : decode cX10_split 1 = .ok (.iconst 0, 1) := by decide +kernel
theorem dX10_split_2 : decode cX10_split 2 = .ok (.putfield 26, 3) := by decide +kernel
theorem dX10_split_5 : decode cX10_split 5 = .ok (.iconst 0, 1) := by decide +kernel
theorem dX10_split_6 : decode cX10_split 6 = .ok (.istore_n 1, 1) := by decide +kernel
theorem dX10_split_7 : decode cX10_split 7 = .ok (.iconst 0, 1) := by decide +kernel
theorem dX10_split_8 : decode cX10_split 8 = .ok (.istore_n 2, 1) := by decide +kernel
theorem dX10_split_9 : decode cX10_split 9 = .ok (.iload_n 2, 1) := by decide +kernel
theorem dX10_split_10 : decode cX10_split 10 = .ok (.sipush 200, 3) := by decide +kernel
theorem dX10_split_13 : decode cX10_split 13 = .ok (.if_icmp .ge 53, 3) := by decide +kernel
theorem dX10_split_16 : decode cX10_split 16 = .ok (.iload_n 1, 1) := by decide +kernel
theorem dX10_split_17 : decode cX10_split 17 = .ok (.aload_n 0, 1) := by decide +kernel
theorem dX10_split_18 : decode cX10_split 18 = .ok (.getfield 13, 3) := by decide +kernel
theorem dX10_split_21 : decode cX10_split 21 = .ok (.if_icmp .ge 45, 3) := by decide +kernel
theorem dX10_split_24 : decode cX10_split 24 = .ok (.aload_n 0, 1) := by decide +kernel
theorem dX10_split_25 : decode cX10_split 25 = .ok (.iload_n 1, 1) := by decide +kernel
theorem dX10_split_26 : decode cX10_split 26 = .ok (.invokevirtual 31, 3) := by decide +kernel
theorem dX10_split_29 : decode cX10_split 29 = .ok (.istore_n 3, 1) := by decide +kernel
theorem dX10_split_30 : decode cX10_split 30 = .ok (.aload_n 0, 1) := by decide +kernel
theorem dX10_split_31 : decode cX10_split 31 = .ok (.getfield 9, 3) := by decide +kernel
theorem dX10_split_34 : decode cX10_split 34 = .ok (.iload_n 1, 1) := by decide +kernel
theorem dX10_split_35 : decode cX10_split 35 = .ok (.iaload, 1) := by decide +kernel
theorem dX10_split_36 : decode cX10_split 36 = .ok (.bipush 32, 2) := by decide +kernel
theorem dX10_split_38 : decode cX10_split 38 = .ok (.if_icmp .eq 20, 3) := by decide +kernel
theorem dX10_split_41 : decode cX10_split 41 = .ok (.aload_n 0, 1) := by decide +kernel
theorem dX10_split_42 : decode cX10_split 42 = .ok (.aload_n 0, 1) := by decide +kernel
theorem dX10_split_43 : decode cX10_split 43 = .ok (.iload_n 1, 1) := by decide +kernel
theorem dX10_split_44 : decode cX10_split 44 = .ok (.iload_n 3, 1) := by decide +kernel
theorem dX10_split_45 : decode cX10_split 45 = .ok (.invokevirtual 35, 3) := by decide +kernel
theorem dX10_split_48 : decode cX10_split 48 = .ok (.aload_n 0, 1) := by decide +kernel
theorem dX10_split_49 : decode cX10_split 49 = .ok (.iload_n 1, 1) := by decide +kernel
theorem dX10_split_50 : decode cX10_split 50 = .ok (.iload_n 3, 1) := by decide +kernel
theorem dX10_split_51 : decode cX10_split 51 = .ok (.invokevirtual 39, 3) := by decide +kernel
theorem dX10_split_54 : decode cX10_split 54 = .ok (.iload_n 1, 1) := by decide +kernel
theorem dX10_split_55 : decode cX10_split 55 = .ok (.invokevirtual 42, 3) := by decide +kernel
theorem dX10_split_58 : decode cX10_split 58 = .ok (.iload_n 3, 1) := by decide +kernel
theorem dX10_split_59 : decode cX10_split 59 = .ok (.istore_n 1, 1) := by decide +kernel
theorem dX10_split_60 : decode cX10_split 60 = .ok (.iinc 2 1, 3) := by decide +kernel
theorem dX10_split_63 : decode cX10_split 63 = .ok (.goto (-54), 3) := by decide +kernel
theorem dX10_split_66 : decode cX10_split 66 = .ok (.aload_n 0, 1) := by decide +kernel
theorem dX10_split_67 : decode cX10_split 67 = .ok (.iconst 0, 1) := by decide +kernel
theorem dX10_split_68 : decode cX10_split 68 = .ok (.iconst 0, 1) := by decide +kernel
theorem dX10_split_69 : decode cX10_split 69 = .ok (.aload_n 0, 1) := by decide +kernel
theorem dX10_split_70 : decode cX10_split 70 = .ok (.getfield 13, 3) := by decide +kernel
theorem dX10_split_73 : decode cX10_split 73 = .ok (.invokevirtual 42, 3) := by decide +kernel
theorem dX10_split_76 : decode cX10_split 76 = .ok (.return_, 1) := by decide +kernel
theorem dX10_note_0 : decode cX10_note 0 = .ok (.aload_n 0, 1) := by decide +kernel
theorem dX10_note_1 : decode cX10_note 1 = .ok (.getfield 17, 3) := by decide +kernel
theorem dX10_note_4 : decode cX10_note 4 = .ok (.aload_n 0, 1) := by decide +kernel
theorem dX10_note_5 : decode cX10_note 5 = .ok (.getfield 26, 3) := by decide +kernel
theorem dX10_note_8 : decode cX10_note 8 = .ok (.iload_n 1, 1) := by decide +kernel
theorem dX10_note_9 : decode cX10_note 9 = .ok (.iastore, 1) := by decide +kernel
theorem dX10_note_10 : decode cX10_note 10 = .ok (.aload_n 0, 1) := by decide +kernel
theorem dX10_note_11 : decode cX10_note 11 = .ok (.getfield 20, 3) := by decide +kernel
theorem dX10_note_14 : decode cX10_note 14 = .ok (.aload_n 0, 1) := by decide +kernel
theorem dX10_note_15 : decode cX10_note 15 = .ok (.getfield 26, 3) := by decide +kernel
theorem dX10_note_18 : decode cX10_note 18 = .ok (.iload_n 2, 1) := by decide +kernel
theorem dX10_note_19 : decode cX10_note 19 = .ok (.iastore, 1) := by decide +kernel
theorem dX10_note_20 : decode cX10_note 20 = .ok (.aload_n 0, 1) := by decide +kernel
theorem dX10_note_21 : decode cX10_note 21 = .ok (.getfield 23, 3) := by decide +kernel
theorem dX10_note_24 : decode cX10_note 24 = .ok (.aload_n 0, 1) := by decide +kernel
theorem dX10_note_25 : decode cX10_note 25 = .ok (.getfield 26, 3) := by decide +kernel
theorem dX10_note_28 : decode cX10_note 28 = .ok (.iload_n 3, 1) := by decide +kernel
theorem dX10_note_29 : decode cX10_note 29 = .ok (.iastore, 1) := by decide +kernel
theorem dX10_note_30 : decode cX10_note 30 = .ok (.aload_n 0, 1) := by decide +kernel
theorem dX10_note_31 : decode cX10_note 31 = .ok (.dup, 1) := by decide +kernel
theorem dX10_note_32 : decode cX10_note 32 = .ok (.getfield 26, 3) := by decide +kernel
theorem dX10_note_35 : decode cX10_note 35 = .ok (.iconst 1, 1) := by decide +kernel
theorem dX10_note_36 : decode cX10_note 36 = .ok (.iadd, 1) := by decide +kernel
theorem dX10_note_37 : decode cX10_note 37 = .ok (.putfield 26, 3) := by decide +kernel
theorem dX10_note_40 : decode cX10_note 40 = .ok (.return_, 1) := by decide +kernel
theorem dX10_endOfToken_0 : decode cX10_endOfToken 0 = .ok (.iload_n 1, 1) := by decide +kernel
theorem dX10_endOfToken_1 : decode cX10_endOfToken 1 = .ok (.iconst 1, 1) := by decide +kernel
theorem dX10_endOfToken_2 : decode cX10_endOfToken 2 = .ok (.iadd, 1) := by decide +kernel
theorem dX10_endOfToken_3 : decode cX10_endOfToken 3 = .ok (.istore_n 2, 1) := by decide +kernel
theorem dX10_endOfToken_4 : decode cX10_endOfToken 4 = .ok (.aload_n 0, 1) := by decide +kernel
theorem dX10_endOfToken_5 : decode cX10_endOfToken 5 = .ok (.getfield 9, 3) := by decide +kernel
theorem dX10_endOfToken_8 : decode cX10_endOfToken 8 = .ok (.iload_n 1, 1) := by decide +kernel
theorem dX10_endOfToken_9 : decode cX10_endOfToken 9 = .ok (.iaload, 1) := by decide +kernel
theorem dX10_endOfToken_10 : decode cX10_endOfToken 10 = .ok (.bipush 48, 2) := by decide +kernel
theorem dX10_endOfToken_12 : decode cX10_endOfToken 12 = .ok (.bipush 57, 2) := by decide +kernel
theorem dX10_endOfToken_14 : decode cX10_endOfToken 14 = .ok (.invokestatic 46, 3) := by decide +kernel
theorem dX10_endOfToken_17 : decode cX10_endOfToken 17 = .ok (.ifCond .eq 33, 3) := by decide +kernel
theorem dX10_endOfToken_20 : decode cX10_endOfToken 20 = .ok (.iload_n 2, 1) := by decide +kernel
theorem dX10_endOfToken_21 : decode cX10_endOfToken 21 = .ok (.aload_n 0, 1) := by decide +kernel
theorem dX10_endOfToken_22 : decode cX10_endOfToken 22 = .ok (.getfield 13, 3) := by decide +kernel
theorem dX10_endOfToken_25 : decode cX10_endOfToken 25 = .ok (.if_icmp .ge 25, 3) := by decide +kernel
theorem dX10_endOfToken_28 : decode cX10_endOfToken 28 = .ok (.aload_n 0, 1) := by decide +kernel
theorem dX10_endOfToken_29 : decode cX10_endOfToken 29 = .ok (.getfield 9, 3) := by decide +kernel
theorem dX10_endOfToken_32 : decode cX10_endOfToken 32 = .ok (.iload_n 2, 1) := by decide +kernel
theorem dX10_endOfToken_33 : decode cX10_endOfToken 33 = .ok (.iaload, 1) := by decide +kernel
theorem dX10_endOfToken_34 : decode cX10_endOfToken 34 = .ok (.bipush 48, 2) := by decide +kernel
theorem dX10_endOfToken_36 : decode cX10_endOfToken 36 = .ok (.bipush 57, 2) := by decide +kernel
theorem dX10_endOfToken_38 : decode cX10_endOfToken 38 = .ok (.invokestatic 46, 3) := by decide +kernel
theorem dX10_endOfToken_41 : decode cX10_endOfToken 41 = .ok (.ifCond .eq 9, 3) := by decide +kernel
theorem dX10_endOfToken_44 : decode cX10_endOfToken 44 = .ok (.iinc 2 1, 3) := by decide +kernel
theorem dX10_endOfToken_47 : decode cX10_endOfToken 47 = .ok (.goto (-27), 3) := by decide +kernel
theorem dX10_endOfToken_50 : decode cX10_endOfToken 50 = .ok (.aload_n 0, 1) := by decide +kernel
theorem dX10_endOfToken_51 : decode cX10_endOfToken 51 = .ok (.getfield 9, 3) := by decide +kernel
theorem dX10_endOfToken_54 : decode cX10_endOfToken 54 = .ok (.iload_n 1, 1) := by decide +kernel
theorem dX10_endOfToken_55 : decode cX10_endOfToken 55 = .ok (.iaload, 1) := by decide +kernel
theorem dX10_endOfToken_56 : decode cX10_endOfToken 56 = .ok (.bipush 97, 2) := by decide +kernel
theorem dX10_endOfToken_58 : decode cX10_endOfToken 58 = .ok (.bipush 122, 2) := by decide +kernel
theorem dX10_endOfToken_60 : decode cX10_endOfToken 60 = .ok (.invokestatic 46, 3) := by decide +kernel
theorem dX10_endOfToken_63 : decode cX10_endOfToken 63 = .ok (.ifCond .eq 33, 3) := by decide +kernel
theorem dX10_endOfToken_66 : decode cX10_endOfToken 66 = .ok (.iload_n 2, 1) := by decide +kernel
theorem dX10_endOfToken_67 : decode cX10_endOfToken 67 = .ok (.aload_n 0, 1) := by decide +kernel
theorem dX10_endOfToken_68 : decode cX10_endOfToken 68 = .ok (.getfield 13, 3) := by decide +kernel
theorem dX10_endOfToken_71 : decode cX10_endOfToken 71 = .ok (.if_icmp .ge 25, 3) := by decide +kernel
theorem dX10_endOfToken_74 : decode cX10_endOfToken 74 = .ok (.aload_n 0, 1) := by decide +kernel
theorem dX10_endOfToken_75 : decode cX10_endOfToken 75 = .ok (.getfield 9, 3) := by decide +kernel
theorem dX10_endOfToken_78 : decode cX10_endOfToken 78 = .ok (.iload_n 2, 1) := by decide +kernel
theorem dX10_endOfToken_79 : decode cX10_endOfToken 79 = .ok (.iaload, 1) := by decide +kernel
theorem dX10_endOfToken_80 : decode cX10_endOfToken 80 = .ok (.bipush 97, 2) := by decide +kernel
theorem dX10_endOfToken_82 : decode cX10_endOfToken 82 = .ok (.bipush 122, 2) := by decide +kernel
theorem dX10_endOfToken_84 : decode cX10_endOfToken 84 = .ok (.invokestatic 46, 3) := by decide +kernel
theorem dX10_endOfToken_87 : decode cX10_endOfToken 87 = .ok (.ifCond .eq 9, 3) := by decide +kernel
theorem dX10_endOfToken_90 : decode cX10_endOfToken 90 = .ok (.iinc 2 1, 3) := by decide +kernel
theorem dX10_endOfToken_93 : decode cX10_endOfToken 93 = .ok (.goto (-27), 3) := by decide +kernel
theorem dX10_endOfToken_96 : decode cX10_endOfToken 96 = .ok (.iload_n 2, 1) := by decide +kernel
theorem dX10_endOfToken_97 : decode cX10_endOfToken 97 = .ok (.ireturn, 1) := by decide +kernel
theorem dX10_kindOf_0 : decode cX10_kindOf 0 = .ok (.aload_n 0, 1) := by decide +kernel
theorem dX10_kindOf_1 : decode cX10_kindOf 1 = .ok (.getfield 9, 3) := by decide +kernel
theorem dX10_kindOf_4 : decode cX10_kindOf 4 = .ok (.iload_n 1, 1) := by decide +kernel
theorem dX10_kindOf_5 : decode cX10_kindOf 5 = .ok (.iaload, 1) := by decide +kernel
theorem dX10_kindOf_6 : decode cX10_kindOf 6 = .ok (.istore_n 3, 1) := by decide +kernel
theorem dX10_kindOf_7 : decode cX10_kindOf 7 = .ok (.iload_n 3, 1) := by decide +kernel
theorem dX10_kindOf_8 : decode cX10_kindOf 8 = .ok (.bipush 65, 2) := by decide +kernel
theorem dX10_kindOf_10 : decode cX10_kindOf 10 = .ok (.bipush 72, 2) := by decide +kernel
theorem dX10_kindOf_12 : decode cX10_kindOf 12 = .ok (.invokestatic 46, 3) := by decide +kernel
theorem dX10_kindOf_15 : decode cX10_kindOf 15 = .ok (.ifCond .eq 5, 3) := by decide +kernel
theorem dX10_kindOf_18 : decode cX10_kindOf 18 = .ok (.iconst 2, 1) := by decide +kernel
theorem dX10_kindOf_19 : decode cX10_kindOf 19 = .ok (.ireturn, 1) := by decide +kernel
theorem dX10_kindOf_20 : decode cX10_kindOf 20 = .ok (.iload_n 3, 1) := by decide +kernel
theorem dX10_kindOf_21 : decode cX10_kindOf 21 = .ok (.bipush 48, 2) := by decide +kernel
theorem dX10_kindOf_23 : decode cX10_kindOf 23 = .ok (.bipush 57, 2) := by decide +kernel
theorem dX10_kindOf_25 : decode cX10_kindOf 25 = .ok (.invokestatic 46, 3) := by decide +kernel
theorem dX10_kindOf_28 : decode cX10_kindOf 28 = .ok (.ifCond .eq 16, 3) := by decide +kernel
theorem dX10_kindOf_31 : decode cX10_kindOf 31 = .ok (.iload_n 2, 1) := by decide +kernel
theorem dX10_kindOf_32 : decode cX10_kindOf 32 = .ok (.iload_n 1, 1) := by decide +kernel
theorem dX10_kindOf_33 : decode cX10_kindOf 33 = .ok (.isub, 1) := by decide +kernel
theorem dX10_kindOf_34 : decode cX10_kindOf 34 = .ok (.iconst 4, 1) := by decide +kernel
theorem dX10_kindOf_35 : decode cX10_kindOf 35 = .ok (.if_icmp .le 7, 3) := by decide +kernel
theorem dX10_kindOf_38 : decode cX10_kindOf 38 = .ok (.iconst 1, 1) := by decide +kernel
theorem dX10_kindOf_39 : decode cX10_kindOf 39 = .ok (.goto 4, 3) := by decide +kernel
theorem dX10_kindOf_42 : decode cX10_kindOf 42 = .ok (.iconst 3, 1) := by decide +kernel
theorem dX10_kindOf_43 : decode cX10_kindOf 43 = .ok (.ireturn, 1) := by decide +kernel
theorem dX10_kindOf_44 : decode cX10_kindOf 44 = .ok (.iload_n 3, 1) := by decide +kernel
theorem dX10_kindOf_45 : decode cX10_kindOf 45 = .ok (.bipush 97, 2) := by decide +kernel
theorem dX10_kindOf_47 : decode cX10_kindOf 47 = .ok (.bipush 122, 2) := by decide +kernel
theorem dX10_kindOf_49 : decode cX10_kindOf 49 = .ok (.invokestatic 46, 3) := by decide +kernel
theorem dX10_kindOf_52 : decode cX10_kindOf 52 = .ok (.ifCond .eq 10, 3) := by decide +kernel
theorem dX10_kindOf_55 : decode cX10_kindOf 55 = .ok (.aload_n 0, 1) := by decide +kernel
theorem dX10_kindOf_56 : decode cX10_kindOf 56 = .ok (.iload_n 1, 1) := by decide +kernel
theorem dX10_kindOf_57 : decode cX10_kindOf 57 = .ok (.iload_n 2, 1) := by decide +kernel
theorem dX10_kindOf_58 : decode cX10_kindOf 58 = .ok (.invokevirtual 52, 3) := by decide +kernel
theorem dX10_kindOf_61 : decode cX10_kindOf 61 = .ok (.ireturn, 1) := by decide +kernel
theorem dX10_kindOf_62 : decode cX10_kindOf 62 = .ok (.iload_n 3, 1) := by decide +kernel
theorem dX10_kindOf_63 : decode cX10_kindOf 63 = .ok (.bipush 59, 2) := by decide +kernel
theorem dX10_kindOf_65 : decode cX10_kindOf 65 = .ok (.if_icmp .ne 7, 3) := by decide +kernel
theorem dX10_kindOf_68 : decode cX10_kindOf 68 = .ok (.iconst 4, 1) := by decide +kernel
theorem dX10_kindOf_69 : decode cX10_kindOf 69 = .ok (.goto 4, 3) := by decide +kernel
theorem dX10_kindOf_72 : decode cX10_kindOf 72 = .ok (.iconst 1, 1) := by decide +kernel
theorem dX10_kindOf_73 : decode cX10_kindOf 73 = .ok (.ireturn, 1) := by decide +kernel
theorem dX10_wordKind_0 : decode cX10_wordKind 0 = .ok (.aload_n 0, 1) := by decide +kernel
theorem dX10_wordKind_1 : decode cX10_wordKind 1 = .ok (.ldc 55, 2) := by decide +kernel
theorem dX10_wordKind_3 : decode cX10_wordKind 3 = .ok (.iload_n 1, 1) := by decide +kernel
theorem dX10_wordKind_4 : decode cX10_wordKind 4 = .ok (.iload_n 2, 1) := by decide +kernel
theorem dX10_wordKind_5 : decode cX10_wordKind 5 = .ok (.invokevirtual 57, 3) := by decide +kernel
theorem dX10_wordKind_8 : decode cX10_wordKind 8 = .ok (.ifCond .eq 7, 3) := by decide +kernel
theorem dX10_wordKind_11 : decode cX10_wordKind 11 = .ok (.iconst 5, 1) := by decide +kernel
theorem dX10_wordKind_12 : decode cX10_wordKind 12 = .ok (.goto 68, 3) := by decide +kernel
theorem dX10_wordKind_15 : decode cX10_wordKind 15 = .ok (.aload_n 0, 1) := by decide +kernel
theorem dX10_wordKind_16 : decode cX10_wordKind 16 = .ok (.ldc 61, 2) := by decide +kernel
theorem dX10_wordKind_18 : decode cX10_wordKind 18 = .ok (.iload_n 1, 1) := by decide +kernel
theorem dX10_wordKind_19 : decode cX10_wordKind 19 = .ok (.iload_n 2, 1) := by decide +kernel
theorem dX10_wordKind_20 : decode cX10_wordKind 20 = .ok (.invokevirtual 57, 3) := by decide +kernel
theorem dX10_wordKind_23 : decode cX10_wordKind 23 = .ok (.ifCond .eq 8, 3) := by decide +kernel
theorem dX10_wordKind_26 : decode cX10_wordKind 26 = .ok (.bipush 6, 2) := by decide +kernel
theorem dX10_wordKind_28 : decode cX10_wordKind 28 = .ok (.goto 52, 3) := by decide +kernel
theorem dX10_wordKind_31 : decode cX10_wordKind 31 = .ok (.aload_n 0, 1) := by decide +kernel
theorem dX10_wordKind_32 : decode cX10_wordKind 32 = .ok (.ldc 63, 2) := by decide +kernel
theorem dX10_wordKind_34 : decode cX10_wordKind 34 = .ok (.iload_n 1, 1) := by decide +kernel
theorem dX10_wordKind_35 : decode cX10_wordKind 35 = .ok (.iload_n 2, 1) := by decide +kernel
theorem dX10_wordKind_36 : decode cX10_wordKind 36 = .ok (.invokevirtual 57, 3) := by decide +kernel
theorem dX10_wordKind_39 : decode cX10_wordKind 39 = .ok (.ifCond .eq 8, 3) := by decide +kernel
theorem dX10_wordKind_42 : decode cX10_wordKind 42 = .ok (.bipush 7, 2) := by decide +kernel
theorem dX10_wordKind_44 : decode cX10_wordKind 44 = .ok (.goto 36, 3) := by decide +kernel
theorem dX10_wordKind_47 : decode cX10_wordKind 47 = .ok (.aload_n 0, 1) := by decide +kernel
theorem dX10_wordKind_48 : decode cX10_wordKind 48 = .ok (.ldc 65, 2) := by decide +kernel
theorem dX10_wordKind_50 : decode cX10_wordKind 50 = .ok (.iload_n 1, 1) := by decide +kernel
theorem dX10_wordKind_51 : decode cX10_wordKind 51 = .ok (.iload_n 2, 1) := by decide +kernel
theorem dX10_wordKind_52 : decode cX10_wordKind 52 = .ok (.invokevirtual 57, 3) := by decide +kernel
theorem dX10_wordKind_55 : decode cX10_wordKind 55 = .ok (.ifCond .eq 8, 3) := by decide +kernel
theorem dX10_wordKind_58 : decode cX10_wordKind 58 = .ok (.bipush 8, 2) := by decide +kernel
theorem dX10_wordKind_60 : decode cX10_wordKind 60 = .ok (.goto 20, 3) := by decide +kernel
theorem dX10_wordKind_63 : decode cX10_wordKind 63 = .ok (.aload_n 0, 1) := by decide +kernel
theorem dX10_wordKind_64 : decode cX10_wordKind 64 = .ok (.ldc 67, 2) := by decide +kernel
theorem dX10_wordKind_66 : decode cX10_wordKind 66 = .ok (.iload_n 1, 1) := by decide +kernel
theorem dX10_wordKind_67 : decode cX10_wordKind 67 = .ok (.iload_n 2, 1) := by decide +kernel
theorem dX10_wordKind_68 : decode cX10_wordKind 68 = .ok (.invokevirtual 57, 3) := by decide +kernel
theorem dX10_wordKind_71 : decode cX10_wordKind 71 = .ok (.ifCond .eq 8, 3) := by decide +kernel
theorem dX10_wordKind_74 : decode cX10_wordKind 74 = .ok (.bipush 9, 2) := by decide +kernel
theorem dX10_wordKind_76 : decode cX10_wordKind 76 = .ok (.goto 4, 3) := by decide +kernel
theorem dX10_wordKind_79 : decode cX10_wordKind 79 = .ok (.iconst 1, 1) := by decide +kernel
theorem dX10_wordKind_80 : decode cX10_wordKind 80 = .ok (.ireturn, 1) := by decide +kernel
theorem dX10_spells_0 : decode cX10_spells 0 = .ok (.iload_n 3, 1) := by decide +kernel
theorem dX10_spells_1 : decode cX10_spells 1 = .ok (.iload_n 2, 1) := by decide +kernel
theorem dX10_spells_2 : decode cX10_spells 2 = .ok (.isub, 1) := by decide +kernel
theorem dX10_spells_3 : decode cX10_spells 3 = .ok (.aload_n 1, 1) := by decide +kernel
theorem dX10_spells_4 : decode cX10_spells 4 = .ok (.invokevirtual 69, 3) := by decide +kernel
theorem dX10_spells_7 : decode cX10_spells 7 = .ok (.if_icmp .eq 5, 3) := by decide +kernel
theorem dX10_spells_10 : decode cX10_spells 10 = .ok (.iconst 0, 1) := by decide +kernel
theorem dX10_spells_11 : decode cX10_spells 11 = .ok (.ireturn, 1) := by decide +kernel
theorem dX10_spells_12 : decode cX10_spells 12 = .ok (.iconst 0, 1) := by decide +kernel
theorem dX10_spells_13 : decode cX10_spells 13 = .ok (.istore 4, 2) := by decide +kernel
theorem dX10_spells_15 : decode cX10_spells 15 = .ok (.iload 4, 2) := by decide +kernel
theorem dX10_spells_17 : decode cX10_spells 17 = .ok (.aload_n 1, 1) := by decide +kernel
theorem dX10_spells_18 : decode cX10_spells 18 = .ok (.invokevirtual 69, 3) := by decide +kernel
theorem dX10_spells_21 : decode cX10_spells 21 = .ok (.if_icmp .ge 29, 3) := by decide +kernel
theorem dX10_spells_24 : decode cX10_spells 24 = .ok (.aload_n 0, 1) := by decide +kernel
theorem dX10_spells_25 : decode cX10_spells 25 = .ok (.getfield 9, 3) := by decide +kernel
theorem dX10_spells_28 : decode cX10_spells 28 = .ok (.iload_n 2, 1) := by decide +kernel
theorem dX10_spells_29 : decode cX10_spells 29 = .ok (.iload 4, 2) := by decide +kernel
theorem dX10_spells_31 : decode cX10_spells 31 = .ok (.iadd, 1) := by decide +kernel
theorem dX10_spells_32 : decode cX10_spells 32 = .ok (.iaload, 1) := by decide +kernel
theorem dX10_spells_33 : decode cX10_spells 33 = .ok (.aload_n 1, 1) := by decide +kernel
theorem dX10_spells_34 : decode cX10_spells 34 = .ok (.iload 4, 2) := by decide +kernel
theorem dX10_spells_36 : decode cX10_spells 36 = .ok (.invokevirtual 74, 3) := by decide +kernel
theorem dX10_spells_39 : decode cX10_spells 39 = .ok (.if_icmp .eq 5, 3) := by decide +kernel
theorem dX10_spells_42 : decode cX10_spells 42 = .ok (.iconst 0, 1) := by decide +kernel
theorem dX10_spells_43 : decode cX10_spells 43 = .ok (.ireturn, 1) := by decide +kernel
theorem dX10_spells_44 : decode cX10_spells 44 = .ok (.iinc 4 1, 3) := by decide +kernel
theorem dX10_spells_47 : decode cX10_spells 47 = .ok (.goto (-32), 3) := by decide +kernel
theorem dX10_spells_50 : decode cX10_spells 50 = .ok (.iconst 1, 1) := by decide +kernel
theorem dX10_spells_51 : decode cX10_spells 51 = .ok (.ireturn, 1) := by decide +kernel
theorem dX10_valueOf_0 : decode cX10_valueOf 0 = .ok (.aload_n 0, 1) := by decide +kernel
theorem dX10_valueOf_1 : decode cX10_valueOf 1 = .ok (.getfield 9, 3) := by decide +kernel
theorem dX10_valueOf_4 : decode cX10_valueOf 4 = .ok (.iload_n 1, 1) := by decide +kernel
theorem dX10_valueOf_5 : decode cX10_valueOf 5 = .ok (.iaload, 1) := by decide +kernel
theorem dX10_valueOf_6 : decode cX10_valueOf 6 = .ok (.bipush 65, 2) := by decide +kernel
theorem dX10_valueOf_8 : decode cX10_valueOf 8 = .ok (.bipush 72, 2) := by decide +kernel
theorem dX10_valueOf_10 : decode cX10_valueOf 10 = .ok (.invokestatic 46, 3) := by decide +kernel
theorem dX10_valueOf_13 : decode cX10_valueOf 13 = .ok (.ifCond .eq 13, 3) := by decide +kernel
theorem dX10_valueOf_16 : decode cX10_valueOf 16 = .ok (.aload_n 0, 1) := by decide +kernel
theorem dX10_valueOf_17 : decode cX10_valueOf 17 = .ok (.getfield 9, 3) := by decide +kernel
theorem dX10_valueOf_20 : decode cX10_valueOf 20 = .ok (.iload_n 1, 1) := by decide +kernel
theorem dX10_valueOf_21 : decode cX10_valueOf 21 = .ok (.iaload, 1) := by decide +kernel
theorem dX10_valueOf_22 : decode cX10_valueOf 22 = .ok (.bipush 65, 2) := by decide +kernel
theorem dX10_valueOf_24 : decode cX10_valueOf 24 = .ok (.isub, 1) := by decide +kernel
theorem dX10_valueOf_25 : decode cX10_valueOf 25 = .ok (.ireturn, 1) := by decide +kernel
theorem dX10_valueOf_26 : decode cX10_valueOf 26 = .ok (.iconst 0, 1) := by decide +kernel
theorem dX10_valueOf_27 : decode cX10_valueOf 27 = .ok (.istore_n 3, 1) := by decide +kernel
theorem dX10_valueOf_28 : decode cX10_valueOf 28 = .ok (.iload_n 1, 1) := by decide +kernel
theorem dX10_valueOf_29 : decode cX10_valueOf 29 = .ok (.istore 4, 2) := by decide +kernel
theorem dX10_valueOf_31 : decode cX10_valueOf 31 = .ok (.iload 4, 2) := by decide +kernel
theorem dX10_valueOf_33 : decode cX10_valueOf 33 = .ok (.iload_n 2, 1) := by decide +kernel
theorem dX10_valueOf_34 : decode cX10_valueOf 34 = .ok (.if_icmp .ge 42, 3) := by decide +kernel
theorem dX10_valueOf_37 : decode cX10_valueOf 37 = .ok (.aload_n 0, 1) := by decide +kernel
theorem dX10_valueOf_38 : decode cX10_valueOf 38 = .ok (.getfield 9, 3) := by decide +kernel
theorem dX10_valueOf_41 : decode cX10_valueOf 41 = .ok (.iload 4, 2) := by decide +kernel
theorem dX10_valueOf_43 : decode cX10_valueOf 43 = .ok (.iaload, 1) := by decide +kernel
theorem dX10_valueOf_44 : decode cX10_valueOf 44 = .ok (.bipush 48, 2) := by decide +kernel
theorem dX10_valueOf_46 : decode cX10_valueOf 46 = .ok (.bipush 57, 2) := by decide +kernel
theorem dX10_valueOf_48 : decode cX10_valueOf 48 = .ok (.invokestatic 46, 3) := by decide +kernel
theorem dX10_valueOf_51 : decode cX10_valueOf 51 = .ok (.ifCond .eq 25, 3) := by decide +kernel
theorem dX10_valueOf_54 : decode cX10_valueOf 54 = .ok (.iload_n 3, 1) := by decide +kernel
theorem dX10_valueOf_55 : decode cX10_valueOf 55 = .ok (.bipush 10, 2) := by decide +kernel
theorem dX10_valueOf_57 : decode cX10_valueOf 57 = .ok (.imul, 1) := by decide +kernel
theorem dX10_valueOf_58 : decode cX10_valueOf 58 = .ok (.aload_n 0, 1) := by decide +kernel
theorem dX10_valueOf_59 : decode cX10_valueOf 59 = .ok (.getfield 9, 3) := by decide +kernel
theorem dX10_valueOf_62 : decode cX10_valueOf 62 = .ok (.iload 4, 2) := by decide +kernel
theorem dX10_valueOf_64 : decode cX10_valueOf 64 = .ok (.iaload, 1) := by decide +kernel
theorem dX10_valueOf_65 : decode cX10_valueOf 65 = .ok (.iadd, 1) := by decide +kernel
theorem dX10_valueOf_66 : decode cX10_valueOf 66 = .ok (.bipush 48, 2) := by decide +kernel
theorem dX10_valueOf_68 : decode cX10_valueOf 68 = .ok (.isub, 1) := by decide +kernel
theorem dX10_valueOf_69 : decode cX10_valueOf 69 = .ok (.istore_n 3, 1) := by decide +kernel
theorem dX10_valueOf_70 : decode cX10_valueOf 70 = .ok (.iinc 4 1, 3) := by decide +kernel
theorem dX10_valueOf_73 : decode cX10_valueOf 73 = .ok (.goto (-42), 3) := by decide +kernel
theorem dX10_valueOf_76 : decode cX10_valueOf 76 = .ok (.iload_n 3, 1) := by decide +kernel
theorem dX10_valueOf_77 : decode cX10_valueOf 77 = .ok (.ireturn, 1) := by decide +kernel
theorem dX11_init_0 : decode cX11_init 0 = .ok (.aload_n 0, 1) := by decide +kernel
theorem dX11_init_1 : decode cX11_init 1 = .ok (.invokespecial 1, 3) := by decide +kernel
theorem dX11_init_4 : decode cX11_init 4 = .ok (.aload_n 0, 1) := by decide +kernel
theorem dX11_init_5 : decode cX11_init 5 = .ok (.new 7, 3) := by decide +kernel
theorem dX11_init_8 : decode cX11_init 8 = .ok (.dup, 1) := by decide +kernel
theorem dX11_init_9 : decode cX11_init 9 = .ok (.invokespecial 9, 3) := by decide +kernel
theorem dX11_init_12 : decode cX11_init 12 = .ok (.putfield 10, 3) := by decide +kernel
theorem dX11_init_15 : decode cX11_init 15 = .ok (.aload_n 0, 1) := by decide +kernel
theorem dX11_init_16 : decode cX11_init 16 = .ok (.new 16, 3) := by decide +kernel
theorem dX11_init_19 : decode cX11_init 19 = .ok (.dup, 1) := by decide +kernel
theorem dX11_init_20 : decode cX11_init 20 = .ok (.invokespecial 18, 3) := by decide +kernel
theorem dX11_init_23 : decode cX11_init 23 = .ok (.putfield 19, 3) := by decide +kernel
theorem dX11_init_26 : decode cX11_init 26 = .ok (.aload_n 0, 1) := by decide +kernel
theorem dX11_init_27 : decode cX11_init 27 = .ok (.new 23, 3) := by decide +kernel
theorem dX11_init_30 : decode cX11_init 30 = .ok (.dup, 1) := by decide +kernel
theorem dX11_init_31 : decode cX11_init 31 = .ok (.invokespecial 25, 3) := by decide +kernel
theorem dX11_init_34 : decode cX11_init 34 = .ok (.putfield 26, 3) := by decide +kernel
theorem dX11_init_37 : decode cX11_init 37 = .ok (.aload_n 0, 1) := by decide +kernel
theorem dX11_init_38 : decode cX11_init 38 = .ok (.new 30, 3) := by decide +kernel
theorem dX11_init_41 : decode cX11_init 41 = .ok (.dup, 1) := by decide +kernel
theorem dX11_init_42 : decode cX11_init 42 = .ok (.aload_n 0, 1) := by decide +kernel
theorem dX11_init_43 : decode cX11_init 43 = .ok (.getfield 10, 3) := by decide +kernel
theorem dX11_init_46 : decode cX11_init 46 = .ok (.aload_n 0, 1) := by decide +kernel
theorem dX11_init_47 : decode cX11_init 47 = .ok (.getfield 26, 3) := by decide +kernel
theorem dX11_init_50 : decode cX11_init 50 = .ok (.invokespecial 32, 3) := by decide +kernel
theorem dX11_init_53 : decode cX11_init 53 = .ok (.putfield 35, 3) := by decide +kernel
theorem dX11_init_56 : decode cX11_init 56 = .ok (.aload_n 0, 1) := by decide +kernel
theorem dX11_init_57 : decode cX11_init 57 = .ok (.iconst 4, 1) := by decide +kernel
theorem dX11_init_58 : decode cX11_init 58 = .ok (.newarray .long, 2) := by decide +kernel
theorem dX11_init_60 : decode cX11_init 60 = .ok (.putfield 39, 3) := by decide +kernel
theorem dX11_init_63 : decode cX11_init 63 = .ok (.aload_n 0, 1) := by decide +kernel
theorem dX11_init_64 : decode cX11_init 64 = .ok (.iconst 0, 1) := by decide +kernel
theorem dX11_init_65 : decode cX11_init 65 = .ok (.putfield 43, 3) := by decide +kernel
theorem dX11_init_68 : decode cX11_init 68 = .ok (.aload_n 0, 1) := by decide +kernel
theorem dX11_init_69 : decode cX11_init 69 = .ok (.new 47, 3) := by decide +kernel
theorem dX11_init_72 : decode cX11_init 72 = .ok (.dup, 1) := by decide +kernel
theorem dX11_init_73 : decode cX11_init 73 = .ok (.invokespecial 49, 3) := by decide +kernel
theorem dX11_init_76 : decode cX11_init 76 = .ok (.putfield 50, 3) := by decide +kernel
theorem dX11_init_79 : decode cX11_init 79 = .ok (.aload_n 0, 1) := by decide +kernel
theorem dX11_init_80 : decode cX11_init 80 = .ok (.new 54, 3) := by decide +kernel
theorem dX11_init_83 : decode cX11_init 83 = .ok (.dup, 1) := by decide +kernel
theorem dX11_init_84 : decode cX11_init 84 = .ok (.aload_n 0, 1) := by decide +kernel
theorem dX11_init_85 : decode cX11_init 85 = .ok (.getfield 50, 3) := by decide +kernel
theorem dX11_init_88 : decode cX11_init 88 = .ok (.aload_n 0, 1) := by decide +kernel
theorem dX11_init_89 : decode cX11_init 89 = .ok (.getfield 26, 3) := by decide +kernel
theorem dX11_init_92 : decode cX11_init 92 = .ok (.invokespecial 56, 3) := by decide +kernel
theorem dX11_init_95 : decode cX11_init 95 = .ok (.putfield 59, 3) := by decide +kernel
theorem dX11_init_98 : decode cX11_init 98 = .ok (.aload_n 0, 1) := by decide +kernel
theorem dX11_init_99 : decode cX11_init 99 = .ok (.new 63, 3) := by decide +kernel
theorem dX11_init_102 : decode cX11_init 102 = .ok (.dup, 1) := by decide +kernel
theorem dX11_init_103 : decode cX11_init 103 = .ok (.invokespecial 65, 3) := by decide +kernel
theorem dX11_init_106 : decode cX11_init 106 = .ok (.putfield 66, 3) := by decide +kernel
theorem dX11_init_109 : decode cX11_init 109 = .ok (.aload_n 0, 1) := by decide +kernel
theorem dX11_init_110 : decode cX11_init 110 = .ok (.new 70, 3) := by decide +kernel
theorem dX11_init_113 : decode cX11_init 113 = .ok (.dup, 1) := by decide +kernel
theorem dX11_init_114 : decode cX11_init 114 = .ok (.invokespecial 72, 3) := by decide +kernel
theorem dX11_init_117 : decode cX11_init 117 = .ok (.putfield 73, 3) := by decide +kernel
theorem dX11_init_120 : decode cX11_init 120 = .ok (.aload_n 0, 1) := by decide +kernel
theorem dX11_init_121 : decode cX11_init 121 = .ok (.new 77, 3) := by decide +kernel
theorem dX11_init_124 : decode cX11_init 124 = .ok (.dup, 1) := by decide +kernel
theorem dX11_init_125 : decode cX11_init 125 = .ok (.aload_n 0, 1) := by decide +kernel
theorem dX11_init_126 : decode cX11_init 126 = .ok (.getfield 73, 3) := by decide +kernel
theorem dX11_init_129 : decode cX11_init 129 = .ok (.invokespecial 79, 3) := by decide +kernel
theorem dX11_init_132 : decode cX11_init 132 = .ok (.putfield 82, 3) := by decide +kernel
theorem dX11_init_135 : decode cX11_init 135 = .ok (.aload_n 0, 1) := by decide +kernel
theorem dX11_init_136 : decode cX11_init 136 = .ok (.new 86, 3) := by decide +kernel
theorem dX11_init_139 : decode cX11_init 139 = .ok (.dup, 1) := by decide +kernel
theorem dX11_init_140 : decode cX11_init 140 = .ok (.invokespecial 88, 3) := by decide +kernel
theorem dX11_init_143 : decode cX11_init 143 = .ok (.putfield 89, 3) := by decide +kernel
theorem dX11_init_146 : decode cX11_init 146 = .ok (.aload_n 0, 1) := by decide +kernel
theorem dX11_init_147 : decode cX11_init 147 = .ok (.new 86, 3) := by decide +kernel
theorem dX11_init_150 : decode cX11_init 150 = .ok (.dup, 1) := by decide +kernel
theorem dX11_init_151 : decode cX11_init 151 = .ok (.invokespecial 88, 3) := by decide +kernel
theorem dX11_init_154 : decode cX11_init 154 = .ok (.putfield 93, 3) := by decide +kernel
theorem dX11_init_157 : decode cX11_init 157 = .ok (.aload_n 0, 1) := by decide +kernel
theorem dX11_init_158 : decode cX11_init 158 = .ok (.iconst 4, 1) := by decide +kernel
theorem dX11_init_159 : decode cX11_init 159 = .ok (.anewarray 96, 3) := by decide +kernel
theorem dX11_init_162 : decode cX11_init 162 = .ok (.putfield 98, 3) := by decide +kernel
theorem dX11_init_165 : decode cX11_init 165 = .ok (.iconst 0, 1) := by decide +kernel
theorem dX11_init_166 : decode cX11_init 166 = .ok (.istore_n 1, 1) := by decide +kernel
theorem dX11_init_167 : decode cX11_init 167 = .ok (.iload_n 1, 1) := by decide +kernel
theorem dX11_init_168 : decode cX11_init 168 = .ok (.iconst 4, 1) := by decide +kernel
theorem dX11_init_169 : decode cX11_init 169 = .ok (.if_icmp .ge 22, 3) := by decide +kernel
theorem dX11_init_172 : decode cX11_init 172 = .ok (.aload_n 0, 1) := by decide +kernel
theorem dX11_init_173 : decode cX11_init 173 = .ok (.getfield 98, 3) := by decide +kernel
theorem dX11_init_176 : decode cX11_init 176 = .ok (.iload_n 1, 1) := by decide +kernel
theorem dX11_init_177 : decode cX11_init 177 = .ok (.new 96, 3) := by decide +kernel
theorem dX11_init_180 : decode cX11_init 180 = .ok (.dup, 1) := by decide +kernel
theorem dX11_init_181 : decode cX11_init 181 = .ok (.invokespecial 102, 3) := by decide +kernel
theorem dX11_init_184 : decode cX11_init 184 = .ok (.aastore, 1) := by decide +kernel
theorem dX11_init_185 : decode cX11_init 185 = .ok (.iinc 1 1, 3) := by decide +kernel
theorem dX11_init_188 : decode cX11_init 188 = .ok (.goto (-21), 3) := by decide +kernel
theorem dX11_init_191 : decode cX11_init 191 = .ok (.return_, 1) := by decide +kernel
theorem dX11_burl_0 : decode cX11_burl 0 = .ok (.iload_n 1, 1) := by decide +kernel
theorem dX11_burl_1 : decode cX11_burl 1 = .ok (.iconst 1, 1) := by decide +kernel
theorem dX11_burl_2 : decode cX11_burl 2 = .ok (.bipush 8, 2) := by decide +kernel
theorem dX11_burl_4 : decode cX11_burl 4 = .ok (.invokestatic 103, 3) := by decide +kernel
theorem dX11_burl_7 : decode cX11_burl 7 = .ok (.ifCond .eq 13, 3) := by decide +kernel
theorem dX11_burl_10 : decode cX11_burl 10 = .ok (.iload_n 2, 1) := by decide +kernel
theorem dX11_burl_11 : decode cX11_burl 11 = .ok (.iconst 1, 1) := by decide +kernel
theorem dX11_burl_12 : decode cX11_burl 12 = .ok (.bipush 8, 2) := by decide +kernel
theorem dX11_burl_14 : decode cX11_burl 14 = .ok (.invokestatic 103, 3) := by decide +kernel
theorem dX11_burl_17 : decode cX11_burl 17 = .ok (.ifCond .ne 5, 3) := by decide +kernel
theorem dX11_burl_20 : decode cX11_burl 20 = .ok (.iconst (-1), 1) := by decide +kernel
theorem dX11_burl_21 : decode cX11_burl 21 = .ok (.ireturn, 1) := by decide +kernel
theorem dX11_burl_22 : decode cX11_burl 22 = .ok (.aload_n 0, 1) := by decide +kernel
theorem dX11_burl_23 : decode cX11_burl 23 = .ok (.getfield 10, 3) := by decide +kernel
theorem dX11_burl_26 : decode cX11_burl 26 = .ok (.iload_n 1, 1) := by decide +kernel
theorem dX11_burl_27 : decode cX11_burl 27 = .ok (.iload_n 2, 1) := by decide +kernel
theorem dX11_burl_28 : decode cX11_burl 28 = .ok (.invokevirtual 107, 3) := by decide +kernel
theorem dX11_burl_31 : decode cX11_burl 31 = .ok (.aload_n 0, 1) := by decide +kernel
theorem dX11_burl_32 : decode cX11_burl 32 = .ok (.getfield 19, 3) := by decide +kernel
theorem dX11_burl_35 : decode cX11_burl 35 = .ok (.iconst 0, 1) := by decide +kernel
theorem dX11_burl_36 : decode cX11_burl 36 = .ok (.putfield 111, 3) := by decide +kernel
theorem dX11_burl_39 : decode cX11_burl 39 = .ok (.aload_n 0, 1) := by decide +kernel
theorem dX11_burl_40 : decode cX11_burl 40 = .ok (.iconst 0, 1) := by decide +kernel
theorem dX11_burl_41 : decode cX11_burl 41 = .ok (.putfield 43, 3) := by decide +kernel
theorem dX11_burl_44 : decode cX11_burl 44 = .ok (.iconst 1, 1) := by decide +kernel
theorem dX11_burl_45 : decode cX11_burl 45 = .ok (.ireturn, 1) := by decide +kernel
theorem dX11_crack_0 : decode cX11_crack 0 = .ok (.aload_n 0, 1) := by decide +kernel
theorem dX11_crack_1 : decode cX11_crack 1 = .ok (.getfield 10, 3) := by decide +kernel
theorem dX11_crack_4 : decode cX11_crack 4 = .ok (.iload_n 1, 1) := by decide +kernel
theorem dX11_crack_5 : decode cX11_crack 5 = .ok (.iload_n 2, 1) := by decide +kernel
theorem dX11_crack_6 : decode cX11_crack 6 = .ok (.invokevirtual 114, 3) := by decide +kernel
theorem dX11_crack_9 : decode cX11_crack 9 = .ok (.ifCond .ne 5, 3) := by decide +kernel
theorem dX11_crack_12 : decode cX11_crack 12 = .ok (.iconst (-1), 1) := by decide +kernel
theorem dX11_crack_13 : decode cX11_crack 13 = .ok (.ireturn, 1) := by decide +kernel
theorem dX11_crack_14 : decode cX11_crack 14 = .ok (.aload_n 0, 1) := by decide +kernel
theorem dX11_crack_15 : decode cX11_crack 15 = .ok (.getfield 19, 3) := by decide +kernel
theorem dX11_crack_18 : decode cX11_crack 18 = .ok (.aload_n 0, 1) := by decide +kernel
theorem dX11_crack_19 : decode cX11_crack 19 = .ok (.getfield 10, 3) := by decide +kernel
theorem dX11_crack_22 : decode cX11_crack 22 = .ok (.invokevirtual 118, 3) := by decide +kernel
theorem dX11_crack_25 : decode cX11_crack 25 = .ok (.aload_n 0, 1) := by decide +kernel
theorem dX11_crack_26 : decode cX11_crack 26 = .ok (.getfield 10, 3) := by decide +kernel
theorem dX11_crack_29 : decode cX11_crack 29 = .ok (.getfield 122, 3) := by decide +kernel
theorem dX11_crack_32 : decode cX11_crack 32 = .ok (.iload_n 1, 1) := by decide +kernel
theorem dX11_crack_33 : decode cX11_crack 33 = .ok (.iload_n 2, 1) := by decide +kernel
theorem dX11_crack_34 : decode cX11_crack 34 = .ok (.invokestatic 126, 3) := by decide +kernel
theorem dX11_crack_37 : decode cX11_crack 37 = .ok (.istore 4, 2) := by decide +kernel
theorem dX11_crack_39 : decode cX11_crack 39 = .ok (.aload_n 0, 1) := by decide +kernel
theorem dX11_crack_40 : decode cX11_crack 40 = .ok (.getfield 10, 3) := by decide +kernel
theorem dX11_crack_43 : decode cX11_crack 43 = .ok (.aload_n 0, 1) := by decide +kernel
theorem dX11_crack_44 : decode cX11_crack 44 = .ok (.getfield 10, 3) := by decide +kernel
theorem dX11_crack_47 : decode cX11_crack 47 = .ok (.getfield 122, 3) := by decide +kernel
theorem dX11_crack_50 : decode cX11_crack 50 = .ok (.iload_n 1, 1) := by decide +kernel
theorem dX11_crack_51 : decode cX11_crack 51 = .ok (.iload_n 2, 1) := by decide +kernel
theorem dX11_crack_52 : decode cX11_crack 52 = .ok (.iload_n 3, 1) := by decide +kernel
theorem dX11_crack_53 : decode cX11_crack 53 = .ok (.invokestatic 130, 3) := by decide +kernel
theorem dX11_crack_56 : decode cX11_crack 56 = .ok (.putfield 122, 3) := by decide +kernel
theorem dX11_crack_59 : decode cX11_crack 59 = .ok (.iload 4, 2) := by decide +kernel
theorem dX11_crack_61 : decode cX11_crack 61 = .ok (.ireturn, 1) := by decide +kernel
theorem dX11_grain_0 : decode cX11_grain 0 = .ok (.aload_n 0, 1) := by decide +kernel
theorem dX11_grain_1 : decode cX11_grain 1 = .ok (.getfield 10, 3) := by decide +kernel
theorem dX11_grain_4 : decode cX11_grain 4 = .ok (.iload_n 1, 1) := by decide +kernel
theorem dX11_grain_5 : decode cX11_grain 5 = .ok (.iload_n 2, 1) := by decide +kernel
theorem dX11_grain_6 : decode cX11_grain 6 = .ok (.invokevirtual 114, 3) := by decide +kernel
theorem dX11_grain_9 : decode cX11_grain 9 = .ok (.ifCond .eq 13, 3) := by decide +kernel
theorem dX11_grain_12 : decode cX11_grain 12 = .ok (.iload_n 3, 1) := by decide +kernel
theorem dX11_grain_13 : decode cX11_grain 13 = .ok (.iconst 0, 1) := by decide +kernel
theorem dX11_grain_14 : decode cX11_grain 14 = .ok (.bipush 9, 2) := by decide +kernel
theorem dX11_grain_16 : decode cX11_grain 16 = .ok (.invokestatic 103, 3) := by decide +kernel
theorem dX11_grain_19 : decode cX11_grain 19 = .ok (.ifCond .ne 5, 3) := by decide +kernel
theorem dX11_grain_22 : decode cX11_grain 22 = .ok (.iconst (-1), 1) := by decide +kernel
theorem dX11_grain_23 : decode cX11_grain 23 = .ok (.ireturn, 1) := by decide +kernel
theorem dX11_grain_24 : decode cX11_grain 24 = .ok (.aload_n 0, 1) := by decide +kernel
theorem dX11_grain_25 : decode cX11_grain 25 = .ok (.getfield 19, 3) := by decide +kernel
theorem dX11_grain_28 : decode cX11_grain 28 = .ok (.aload_n 0, 1) := by decide +kernel
theorem dX11_grain_29 : decode cX11_grain 29 = .ok (.getfield 10, 3) := by decide +kernel
theorem dX11_grain_32 : decode cX11_grain 32 = .ok (.invokevirtual 118, 3) := by decide +kernel
theorem dX11_grain_35 : decode cX11_grain 35 = .ok (.iload_n 1, 1) := by decide +kernel
theorem dX11_grain_36 : decode cX11_grain 36 = .ok (.iload_n 2, 1) := by decide +kernel
theorem dX11_grain_37 : decode cX11_grain 37 = .ok (.invokestatic 134, 3) := by decide +kernel
theorem dX11_grain_40 : decode cX11_grain 40 = .ok (.istore 4, 2) := by decide +kernel
theorem dX11_grain_42 : decode cX11_grain 42 = .ok (.aload_n 0, 1) := by decide +kernel
theorem dX11_grain_43 : decode cX11_grain 43 = .ok (.getfield 10, 3) := by decide +kernel
theorem dX11_grain_46 : decode cX11_grain 46 = .ok (.getfield 138, 3) := by decide +kernel
theorem dX11_grain_49 : decode cX11_grain 49 = .ok (.iload 4, 2) := by decide +kernel
theorem dX11_grain_51 : decode cX11_grain 51 = .ok (.iaload, 1) := by decide +kernel
theorem dX11_grain_52 : decode cX11_grain 52 = .ok (.istore 5, 2) := by decide +kernel
theorem dX11_grain_54 : decode cX11_grain 54 = .ok (.aload_n 0, 1) := by decide +kernel
theorem dX11_grain_55 : decode cX11_grain 55 = .ok (.getfield 10, 3) := by decide +kernel
theorem dX11_grain_58 : decode cX11_grain 58 = .ok (.getfield 138, 3) := by decide +kernel
theorem dX11_grain_61 : decode cX11_grain 61 = .ok (.iload 4, 2) := by decide +kernel
theorem dX11_grain_63 : decode cX11_grain 63 = .ok (.iload_n 3, 1) := by decide +kernel
theorem dX11_grain_64 : decode cX11_grain 64 = .ok (.iastore, 1) := by decide +kernel
theorem dX11_grain_65 : decode cX11_grain 65 = .ok (.iload 5, 2) := by decide +kernel
theorem dX11_grain_67 : decode cX11_grain 67 = .ok (.ireturn, 1) := by decide +kernel
theorem dX11_shape_0 : decode cX11_shape 0 = .ok (.iload_n 1, 1) := by decide +kernel
theorem dX11_shape_1 : decode cX11_shape 1 = .ok (.iconst 1, 1) := by decide +kernel
theorem dX11_shape_2 : decode cX11_shape 2 = .ok (.bipush 8, 2) := by decide +kernel
theorem dX11_shape_4 : decode cX11_shape 4 = .ok (.invokestatic 103, 3) := by decide +kernel
theorem dX11_shape_7 : decode cX11_shape 7 = .ok (.ifCond .eq 35, 3) := by decide +kernel
theorem dX11_shape_10 : decode cX11_shape 10 = .ok (.iload_n 2, 1) := by decide +kernel
theorem dX11_shape_11 : decode cX11_shape 11 = .ok (.iconst 1, 1) := by decide +kernel
theorem dX11_shape_12 : decode cX11_shape 12 = .ok (.bipush 8, 2) := by decide +kernel
theorem dX11_shape_14 : decode cX11_shape 14 = .ok (.invokestatic 103, 3) := by decide +kernel
theorem dX11_shape_17 : decode cX11_shape 17 = .ok (.ifCond .eq 25, 3) := by decide +kernel
theorem dX11_shape_20 : decode cX11_shape 20 = .ok (.iload_n 3, 1) := by decide +kernel
theorem dX11_shape_21 : decode cX11_shape 21 = .ok (.iconst 1, 1) := by decide +kernel
theorem dX11_shape_22 : decode cX11_shape 22 = .ok (.sipush 500, 3) := by decide +kernel
theorem dX11_shape_25 : decode cX11_shape 25 = .ok (.invokestatic 103, 3) := by decide +kernel
theorem dX11_shape_28 : decode cX11_shape 28 = .ok (.ifCond .eq 14, 3) := by decide +kernel
theorem dX11_shape_31 : decode cX11_shape 31 = .ok (.iload 4, 2) := by decide +kernel
theorem dX11_shape_33 : decode cX11_shape 33 = .ok (.iconst 0, 1) := by decide +kernel
theorem dX11_shape_34 : decode cX11_shape 34 = .ok (.bipush 9, 2) := by decide +kernel
theorem dX11_shape_36 : decode cX11_shape 36 = .ok (.invokestatic 103, 3) := by decide +kernel
theorem dX11_shape_39 : decode cX11_shape 39 = .ok (.ifCond .ne 5, 3) := by decide +kernel
theorem dX11_shape_42 : decode cX11_shape 42 = .ok (.iconst (-1), 1) := by decide +kernel
theorem dX11_shape_43 : decode cX11_shape 43 = .ok (.ireturn, 1) := by decide +kernel
theorem dX11_shape_44 : decode cX11_shape 44 = .ok (.aload_n 0, 1) := by decide +kernel
theorem dX11_shape_45 : decode cX11_shape 45 = .ok (.getfield 26, 3) := by decide +kernel
theorem dX11_shape_48 : decode cX11_shape 48 = .ok (.getfield 142, 3) := by decide +kernel
theorem dX11_shape_51 : decode cX11_shape 51 = .ok (.bipush 8, 2) := by decide +kernel
theorem dX11_shape_53 : decode cX11_shape 53 = .ok (.if_icmp .lt 6, 3) := by decide +kernel
theorem dX11_shape_56 : decode cX11_shape 56 = .ok (.bipush (-3), 2) := by decide +kernel
theorem dX11_shape_58 : decode cX11_shape 58 = .ok (.ireturn, 1) := by decide +kernel
theorem dX11_shape_59 : decode cX11_shape 59 = .ok (.aload_n 0, 1) := by decide +kernel
theorem dX11_shape_60 : decode cX11_shape 60 = .ok (.getfield 26, 3) := by decide +kernel
theorem dX11_shape_63 : decode cX11_shape 63 = .ok (.iload_n 1, 1) := by decide +kernel
theorem dX11_shape_64 : decode cX11_shape 64 = .ok (.iload_n 2, 1) := by decide +kernel
theorem dX11_shape_65 : decode cX11_shape 65 = .ok (.iload_n 3, 1) := by decide +kernel
theorem dX11_shape_66 : decode cX11_shape 66 = .ok (.iload 4, 2) := by decide +kernel
theorem dX11_shape_68 : decode cX11_shape 68 = .ok (.iload 5, 2) := by decide +kernel
theorem dX11_shape_70 : decode cX11_shape 70 = .ok (.invokevirtual 143, 3) := by decide +kernel
theorem dX11_shape_73 : decode cX11_shape 73 = .ok (.ireturn, 1) := by decide +kernel
theorem dX11_drop_0 : decode cX11_drop 0 = .ok (.aload_n 0, 1) := by decide +kernel
theorem dX11_drop_1 : decode cX11_drop 1 = .ok (.getfield 26, 3) := by decide +kernel
theorem dX11_drop_4 : decode cX11_drop 4 = .ok (.getfield 142, 3) := by decide +kernel
theorem dX11_drop_7 : decode cX11_drop 7 = .ok (.ifCond .ne 6, 3) := by decide +kernel
theorem dX11_drop_10 : decode cX11_drop 10 = .ok (.bipush (-4), 2) := by decide +kernel
theorem dX11_drop_12 : decode cX11_drop 12 = .ok (.ireturn, 1) := by decide +kernel
theorem dX11_drop_13 : decode cX11_drop 13 = .ok (.aload_n 0, 1) := by decide +kernel
theorem dX11_drop_14 : decode cX11_drop 14 = .ok (.getfield 59, 3) := by decide +kernel
theorem dX11_drop_17 : decode cX11_drop 17 = .ok (.aload_n 0, 1) := by decide +kernel
theorem dX11_drop_18 : decode cX11_drop 18 = .ok (.getfield 26, 3) := by decide +kernel
theorem dX11_drop_21 : decode cX11_drop 21 = .ok (.getfield 142, 3) := by decide +kernel
theorem dX11_drop_24 : decode cX11_drop 24 = .ok (.iconst 1, 1) := by decide +kernel
theorem dX11_drop_25 : decode cX11_drop 25 = .ok (.isub, 1) := by decide +kernel
theorem dX11_drop_26 : decode cX11_drop 26 = .ok (.invokevirtual 147, 3) := by decide +kernel
theorem dX11_drop_29 : decode cX11_drop 29 = .ok (.ifCond .eq 6, 3) := by decide +kernel
theorem dX11_drop_32 : decode cX11_drop 32 = .ok (.bipush (-2), 2) := by decide +kernel
theorem dX11_drop_34 : decode cX11_drop 34 = .ok (.ireturn, 1) := by decide +kernel
theorem dX11_drop_35 : decode cX11_drop 35 = .ok (.aload_n 0, 1) := by decide +kernel
theorem dX11_drop_36 : decode cX11_drop 36 = .ok (.getfield 26, 3) := by decide +kernel
theorem dX11_drop_39 : decode cX11_drop 39 = .ok (.dup, 1) := by decide +kernel
theorem dX11_drop_40 : decode cX11_drop 40 = .ok (.getfield 142, 3) := by decide +kernel
theorem dX11_drop_43 : decode cX11_drop 43 = .ok (.iconst 1, 1) := by decide +kernel
theorem dX11_drop_44 : decode cX11_drop 44 = .ok (.isub, 1) := by decide +kernel
theorem dX11_drop_45 : decode cX11_drop 45 = .ok (.putfield 142, 3) := by decide +kernel
theorem dX11_drop_48 : decode cX11_drop 48 = .ok (.aload_n 0, 1) := by decide +kernel
theorem dX11_drop_49 : decode cX11_drop 49 = .ok (.getfield 26, 3) := by decide +kernel
theorem dX11_drop_52 : decode cX11_drop 52 = .ok (.getfield 142, 3) := by decide +kernel
theorem dX11_drop_55 : decode cX11_drop 55 = .ok (.ireturn, 1) := by decide +kernel
theorem dX11_fits_0 : decode cX11_fits 0 = .ok (.aload_n 0, 1) := by decide +kernel
theorem dX11_fits_1 : decode cX11_fits 1 = .ok (.getfield 10, 3) := by decide +kernel
theorem dX11_fits_4 : decode cX11_fits 4 = .ok (.iload_n 1, 1) := by decide +kernel
theorem dX11_fits_5 : decode cX11_fits 5 = .ok (.iload_n 2, 1) := by decide +kernel
theorem dX11_fits_6 : decode cX11_fits 6 = .ok (.iload_n 3, 1) := by decide +kernel
theorem dX11_fits_7 : decode cX11_fits 7 = .ok (.iload 4, 2) := by decide +kernel
theorem dX11_fits_9 : decode cX11_fits 9 = .ok (.invokevirtual 151, 3) := by decide +kernel
theorem dX11_fits_12 : decode cX11_fits 12 = .ok (.ifCond .eq 15, 3) := by decide +kernel
theorem dX11_fits_15 : decode cX11_fits 15 = .ok (.aload_n 0, 1) := by decide +kernel
theorem dX11_fits_16 : decode cX11_fits 16 = .ok (.getfield 26, 3) := by decide +kernel
theorem dX11_fits_19 : decode cX11_fits 19 = .ok (.iload 5, 2) := by decide +kernel
theorem dX11_fits_21 : decode cX11_fits 21 = .ok (.invokevirtual 155, 3) := by decide +kernel
theorem dX11_fits_24 : decode cX11_fits 24 = .ok (.ifCond .ne 5, 3) := by decide +kernel
theorem dX11_fits_27 : decode cX11_fits 27 = .ok (.iconst (-1), 1) := by decide +kernel
theorem dX11_fits_28 : decode cX11_fits 28 = .ok (.ireturn, 1) := by decide +kernel
theorem dX11_fits_29 : decode cX11_fits 29 = .ok (.aload_n 0, 1) := by decide +kernel
theorem dX11_fits_30 : decode cX11_fits 30 = .ok (.getfield 26, 3) := by decide +kernel
theorem dX11_fits_33 : decode cX11_fits 33 = .ok (.iload 5, 2) := by decide +kernel
theorem dX11_fits_35 : decode cX11_fits 35 = .ok (.iload_n 3, 1) := by decide +kernel
theorem dX11_fits_36 : decode cX11_fits 36 = .ok (.iload 4, 2) := by decide +kernel
theorem dX11_fits_38 : decode cX11_fits 38 = .ok (.invokevirtual 158, 3) := by decide +kernel
theorem dX11_fits_41 : decode cX11_fits 41 = .ok (.ifCond .eq 32, 3) := by decide +kernel
theorem dX11_fits_44 : decode cX11_fits 44 = .ok (.aload_n 0, 1) := by decide +kernel
theorem dX11_fits_45 : decode cX11_fits 45 = .ok (.getfield 10, 3) := by decide +kernel
theorem dX11_fits_48 : decode cX11_fits 48 = .ok (.iload_n 1, 1) := by decide +kernel
theorem dX11_fits_49 : decode cX11_fits 49 = .ok (.iload_n 2, 1) := by decide +kernel
theorem dX11_fits_50 : decode cX11_fits 50 = .ok (.iload_n 3, 1) := by decide +kernel
theorem dX11_fits_51 : decode cX11_fits 51 = .ok (.iload 4, 2) := by decide +kernel
theorem dX11_fits_53 : decode cX11_fits 53 = .ok (.invokevirtual 161, 3) := by decide +kernel
theorem dX11_fits_56 : decode cX11_fits 56 = .ok (.aload_n 0, 1) := by decide +kernel
theorem dX11_fits_57 : decode cX11_fits 57 = .ok (.getfield 26, 3) := by decide +kernel
theorem dX11_fits_60 : decode cX11_fits 60 = .ok (.getfield 165, 3) := by decide +kernel
theorem dX11_fits_63 : decode cX11_fits 63 = .ok (.iload 5, 2) := by decide +kernel
theorem dX11_fits_65 : decode cX11_fits 65 = .ok (.iaload, 1) := by decide +kernel
theorem dX11_fits_66 : decode cX11_fits 66 = .ok (.if_icmp .lt 7, 3) := by decide +kernel
theorem dX11_fits_69 : decode cX11_fits 69 = .ok (.iconst 1, 1) := by decide +kernel
theorem dX11_fits_70 : decode cX11_fits 70 = .ok (.goto 4, 3) := by decide +kernel
theorem dX11_fits_73 : decode cX11_fits 73 = .ok (.iconst 0, 1) := by decide +kernel
theorem dX11_fits_74 : decode cX11_fits 74 = .ok (.ireturn, 1) := by decide +kernel
theorem dX11_open_0 : decode cX11_open 0 = .ok (.iconst 0, 1) := by decide +kernel
theorem dX11_open_1 : decode cX11_open 1 = .ok (.istore_n 1, 1) := by decide +kernel
theorem dX11_open_2 : decode cX11_open 2 = .ok (.iconst 0, 1) := by decide +kernel
theorem dX11_open_3 : decode cX11_open 3 = .ok (.istore_n 2, 1) := by decide +kernel
theorem dX11_open_4 : decode cX11_open 4 = .ok (.iload_n 2, 1) := by decide +kernel
theorem dX11_open_5 : decode cX11_open 5 = .ok (.aload_n 0, 1) := by decide +kernel
theorem dX11_open_6 : decode cX11_open 6 = .ok (.getfield 26, 3) := by decide +kernel
theorem dX11_open_9 : decode cX11_open 9 = .ok (.getfield 142, 3) := by decide +kernel
theorem dX11_open_12 : decode cX11_open 12 = .ok (.if_icmp .ge 23, 3) := by decide +kernel
theorem dX11_open_15 : decode cX11_open 15 = .ok (.aload_n 0, 1) := by decide +kernel
theorem dX11_open_16 : decode cX11_open 16 = .ok (.iload_n 2, 1) := by decide +kernel
theorem dX11_open_17 : decode cX11_open 17 = .ok (.invokevirtual 168, 3) := by decide +kernel
theorem dX11_open_20 : decode cX11_open 20 = .ok (.ifCond .eq 9, 3) := by decide +kernel
theorem dX11_open_23 : decode cX11_open 23 = .ok (.iload_n 1, 1) := by decide +kernel
theorem dX11_open_24 : decode cX11_open 24 = .ok (.iconst 1, 1) := by decide +kernel
theorem dX11_open_25 : decode cX11_open 25 = .ok (.iload_n 2, 1) := by decide +kernel
theorem dX11_open_26 : decode cX11_open 26 = .ok (.ishl, 1) := by decide +kernel
theorem dX11_open_27 : decode cX11_open 27 = .ok (.ior, 1) := by decide +kernel
theorem dX11_open_28 : decode cX11_open 28 = .ok (.istore_n 1, 1) := by decide +kernel
theorem dX11_open_29 : decode cX11_open 29 = .ok (.iinc 2 1, 3) := by decide +kernel
theorem dX11_open_32 : decode cX11_open 32 = .ok (.goto (-28), 3) := by decide +kernel
theorem dX11_open_35 : decode cX11_open 35 = .ok (.iload_n 1, 1) := by decide +kernel
theorem dX11_open_36 : decode cX11_open 36 = .ok (.ireturn, 1) := by decide +kernel
theorem dX11_isOpen_0 : decode cX11_isOpen 0 = .ok (.aload_n 0, 1) := by decide +kernel
theorem dX11_isOpen_1 : decode cX11_isOpen 1 = .ok (.getfield 26, 3) := by decide +kernel
