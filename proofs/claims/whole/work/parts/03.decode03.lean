theorem dX12_keeps_104 : decode cX12_keeps 104 = .ok (.iload_n 1, 1) := by decide +kernel
theorem dX12_keeps_105 : decode cX12_keeps 105 = .ok (.iadd, 1) := by decide +kernel
theorem dX12_keeps_106 : decode cX12_keeps 106 = .ok (.aload_n 0, 1) := by decide +kernel
theorem dX12_keeps_107 : decode cX12_keeps 107 = .ok (.getfield 20, 3) := by decide +kernel
theorem dX12_keeps_110 : decode cX12_keeps 110 = .ok (.iload_n 1, 1) := by decide +kernel
theorem dX12_keeps_111 : decode cX12_keeps 111 = .ok (.iaload, 1) := by decide +kernel
theorem dX12_keeps_112 : decode cX12_keeps 112 = .ok (.iastore, 1) := by decide +kernel
theorem dX12_keeps_113 : decode cX12_keeps 113 = .ok (.iinc 1 1, 3) := by decide +kernel
theorem dX12_keeps_116 : decode cX12_keeps 116 = .ok (.goto (-49), 3) := by decide +kernel
theorem dX12_keeps_119 : decode cX12_keeps 119 = .ok (.aload_n 0, 1) := by decide +kernel
theorem dX12_keeps_120 : decode cX12_keeps 120 = .ok (.dup, 1) := by decide +kernel
theorem dX12_keeps_121 : decode cX12_keeps 121 = .ok (.getfield 153, 3) := by decide +kernel
theorem dX12_keeps_124 : decode cX12_keeps 124 = .ok (.iconst 1, 1) := by decide +kernel
theorem dX12_keeps_125 : decode cX12_keeps 125 = .ok (.iadd, 1) := by decide +kernel
theorem dX12_keeps_126 : decode cX12_keeps 126 = .ok (.putfield 153, 3) := by decide +kernel
theorem dX12_keeps_129 : decode cX12_keeps 129 = .ok (.return_, 1) := by decide +kernel
theorem dX12_burl_0 : decode cX12_burl 0 = .ok (.iload_n 1, 1) := by decide +kernel
theorem dX12_burl_1 : decode cX12_burl 1 = .ok (.i2l, 1) := by decide +kernel
theorem dX12_burl_2 : decode cX12_burl 2 = .ok (.lconst 1, 1) := by decide +kernel
theorem dX12_burl_3 : decode cX12_burl 3 = .ok (.ldc2_w 156, 3) := by decide +kernel
theorem dX12_burl_6 : decode cX12_burl 6 = .ok (.invokestatic 145, 3) := by decide +kernel
theorem dX12_burl_9 : decode cX12_burl 9 = .ok (.ifCond .eq 15, 3) := by decide +kernel
theorem dX12_burl_12 : decode cX12_burl 12 = .ok (.iload_n 2, 1) := by decide +kernel
theorem dX12_burl_13 : decode cX12_burl 13 = .ok (.i2l, 1) := by decide +kernel
theorem dX12_burl_14 : decode cX12_burl 14 = .ok (.lconst 1, 1) := by decide +kernel
theorem dX12_burl_15 : decode cX12_burl 15 = .ok (.ldc2_w 156, 3) := by decide +kernel
theorem dX12_burl_18 : decode cX12_burl 18 = .ok (.invokestatic 145, 3) := by decide +kernel
theorem dX12_burl_21 : decode cX12_burl 21 = .ok (.ifCond .ne 5, 3) := by decide +kernel
theorem dX12_burl_24 : decode cX12_burl 24 = .ok (.iconst (-1), 1) := by decide +kernel
theorem dX12_burl_25 : decode cX12_burl 25 = .ok (.ireturn, 1) := by decide +kernel
theorem dX12_burl_26 : decode cX12_burl 26 = .ok (.aload_n 0, 1) := by decide +kernel
theorem dX12_burl_27 : decode cX12_burl 27 = .ok (.iload_n 1, 1) := by decide +kernel
theorem dX12_burl_28 : decode cX12_burl 28 = .ok (.putfield 7, 3) := by decide +kernel
theorem dX12_burl_31 : decode cX12_burl 31 = .ok (.aload_n 0, 1) := by decide +kernel
theorem dX12_burl_32 : decode cX12_burl 32 = .ok (.iload_n 2, 1) := by decide +kernel
theorem dX12_burl_33 : decode cX12_burl 33 = .ok (.putfield 13, 3) := by decide +kernel
theorem dX12_burl_36 : decode cX12_burl 36 = .ok (.aload_n 0, 1) := by decide +kernel
theorem dX12_burl_37 : decode cX12_burl 37 = .ok (.iconst 0, 1) := by decide +kernel
theorem dX12_burl_38 : decode cX12_burl 38 = .ok (.putfield 158, 3) := by decide +kernel
theorem dX12_burl_41 : decode cX12_burl 41 = .ok (.aload_n 0, 1) := by decide +kernel
theorem dX12_burl_42 : decode cX12_burl 42 = .ok (.iconst 0, 1) := by decide +kernel
theorem dX12_burl_43 : decode cX12_burl 43 = .ok (.putfield 153, 3) := by decide +kernel
theorem dX12_burl_46 : decode cX12_burl 46 = .ok (.iconst 0, 1) := by decide +kernel
theorem dX12_burl_47 : decode cX12_burl 47 = .ok (.istore_n 3, 1) := by decide +kernel
theorem dX12_burl_48 : decode cX12_burl 48 = .ok (.iload_n 3, 1) := by decide +kernel
theorem dX12_burl_49 : decode cX12_burl 49 = .ok (.bipush 64, 2) := by decide +kernel
theorem dX12_burl_51 : decode cX12_burl 51 = .ok (.if_icmp .ge 23, 3) := by decide +kernel
theorem dX12_burl_54 : decode cX12_burl 54 = .ok (.aload_n 0, 1) := by decide +kernel
theorem dX12_burl_55 : decode cX12_burl 55 = .ok (.getfield 16, 3) := by decide +kernel
theorem dX12_burl_58 : decode cX12_burl 58 = .ok (.iload_n 3, 1) := by decide +kernel
theorem dX12_burl_59 : decode cX12_burl 59 = .ok (.iconst 0, 1) := by decide +kernel
theorem dX12_burl_60 : decode cX12_burl 60 = .ok (.bastore, 1) := by decide +kernel
theorem dX12_burl_61 : decode cX12_burl 61 = .ok (.aload_n 0, 1) := by decide +kernel
theorem dX12_burl_62 : decode cX12_burl 62 = .ok (.getfield 20, 3) := by decide +kernel
theorem dX12_burl_65 : decode cX12_burl 65 = .ok (.iload_n 3, 1) := by decide +kernel
theorem dX12_burl_66 : decode cX12_burl 66 = .ok (.iconst 0, 1) := by decide +kernel
theorem dX12_burl_67 : decode cX12_burl 67 = .ok (.iastore, 1) := by decide +kernel
theorem dX12_burl_68 : decode cX12_burl 68 = .ok (.iinc 3 1, 3) := by decide +kernel
theorem dX12_burl_71 : decode cX12_burl 71 = .ok (.goto (-23), 3) := by decide +kernel
theorem dX12_burl_74 : decode cX12_burl 74 = .ok (.iconst 1, 1) := by decide +kernel
theorem dX12_burl_75 : decode cX12_burl 75 = .ok (.ireturn, 1) := by decide +kernel
theorem dX12_crack_0 : decode cX12_crack 0 = .ok (.aload_n 0, 1) := by decide +kernel
theorem dX12_crack_1 : decode cX12_crack 1 = .ok (.iload_n 1, 1) := by decide +kernel
theorem dX12_crack_2 : decode cX12_crack 2 = .ok (.iload_n 2, 1) := by decide +kernel
theorem dX12_crack_3 : decode cX12_crack 3 = .ok (.invokevirtual 149, 3) := by decide +kernel
theorem dX12_crack_6 : decode cX12_crack 6 = .ok (.ifCond .ne 5, 3) := by decide +kernel
theorem dX12_crack_9 : decode cX12_crack 9 = .ok (.iconst (-1), 1) := by decide +kernel
theorem dX12_crack_10 : decode cX12_crack 10 = .ok (.ireturn, 1) := by decide +kernel
theorem dX12_crack_11 : decode cX12_crack 11 = .ok (.aload_n 0, 1) := by decide +kernel
theorem dX12_crack_12 : decode cX12_crack 12 = .ok (.invokevirtual 161, 3) := by decide +kernel
theorem dX12_crack_15 : decode cX12_crack 15 = .ok (.aload_n 0, 1) := by decide +kernel
theorem dX12_crack_16 : decode cX12_crack 16 = .ok (.getfield 16, 3) := by decide +kernel
theorem dX12_crack_19 : decode cX12_crack 19 = .ok (.bipush 8, 2) := by decide +kernel
theorem dX12_crack_21 : decode cX12_crack 21 = .ok (.iload_n 2, 1) := by decide +kernel
theorem dX12_crack_22 : decode cX12_crack 22 = .ok (.imul, 1) := by decide +kernel
theorem dX12_crack_23 : decode cX12_crack 23 = .ok (.iload_n 1, 1) := by decide +kernel
theorem dX12_crack_24 : decode cX12_crack 24 = .ok (.iadd, 1) := by decide +kernel
theorem dX12_crack_25 : decode cX12_crack 25 = .ok (.baload, 1) := by decide +kernel
theorem dX12_crack_26 : decode cX12_crack 26 = .ok (.ifCond .eq 7, 3) := by decide +kernel
theorem dX12_crack_29 : decode cX12_crack 29 = .ok (.iconst 1, 1) := by decide +kernel
theorem dX12_crack_30 : decode cX12_crack 30 = .ok (.goto 4, 3) := by decide +kernel
theorem dX12_crack_33 : decode cX12_crack 33 = .ok (.iconst 0, 1) := by decide +kernel
theorem dX12_crack_34 : decode cX12_crack 34 = .ok (.istore 4, 2) := by decide +kernel
theorem dX12_crack_36 : decode cX12_crack 36 = .ok (.aload_n 0, 1) := by decide +kernel
theorem dX12_crack_37 : decode cX12_crack 37 = .ok (.getfield 16, 3) := by decide +kernel
theorem dX12_crack_40 : decode cX12_crack 40 = .ok (.bipush 8, 2) := by decide +kernel
theorem dX12_crack_42 : decode cX12_crack 42 = .ok (.iload_n 2, 1) := by decide +kernel
theorem dX12_crack_43 : decode cX12_crack 43 = .ok (.imul, 1) := by decide +kernel
theorem dX12_crack_44 : decode cX12_crack 44 = .ok (.iload_n 1, 1) := by decide +kernel
theorem dX12_crack_45 : decode cX12_crack 45 = .ok (.iadd, 1) := by decide +kernel
theorem dX12_crack_46 : decode cX12_crack 46 = .ok (.iload_n 3, 1) := by decide +kernel
theorem dX12_crack_47 : decode cX12_crack 47 = .ok (.bastore, 1) := by decide +kernel
theorem dX12_crack_48 : decode cX12_crack 48 = .ok (.iload 4, 2) := by decide +kernel
theorem dX12_crack_50 : decode cX12_crack 50 = .ok (.ireturn, 1) := by decide +kernel
theorem dX12_grain_0 : decode cX12_grain 0 = .ok (.aload_n 0, 1) := by decide +kernel
theorem dX12_grain_1 : decode cX12_grain 1 = .ok (.iload_n 1, 1) := by decide +kernel
theorem dX12_grain_2 : decode cX12_grain 2 = .ok (.iload_n 2, 1) := by decide +kernel
theorem dX12_grain_3 : decode cX12_grain 3 = .ok (.invokevirtual 149, 3) := by decide +kernel
theorem dX12_grain_6 : decode cX12_grain 6 = .ok (.ifCond .eq 15, 3) := by decide +kernel
theorem dX12_grain_9 : decode cX12_grain 9 = .ok (.iload_n 3, 1) := by decide +kernel
theorem dX12_grain_10 : decode cX12_grain 10 = .ok (.i2l, 1) := by decide +kernel
theorem dX12_grain_11 : decode cX12_grain 11 = .ok (.lconst 0, 1) := by decide +kernel
theorem dX12_grain_12 : decode cX12_grain 12 = .ok (.ldc2_w 164, 3) := by decide +kernel
theorem dX12_grain_15 : decode cX12_grain 15 = .ok (.invokestatic 145, 3) := by decide +kernel
theorem dX12_grain_18 : decode cX12_grain 18 = .ok (.ifCond .ne 5, 3) := by decide +kernel
theorem dX12_grain_21 : decode cX12_grain 21 = .ok (.iconst (-1), 1) := by decide +kernel
theorem dX12_grain_22 : decode cX12_grain 22 = .ok (.ireturn, 1) := by decide +kernel
theorem dX12_grain_23 : decode cX12_grain 23 = .ok (.aload_n 0, 1) := by decide +kernel
theorem dX12_grain_24 : decode cX12_grain 24 = .ok (.invokevirtual 161, 3) := by decide +kernel
theorem dX12_grain_27 : decode cX12_grain 27 = .ok (.aload_n 0, 1) := by decide +kernel
theorem dX12_grain_28 : decode cX12_grain 28 = .ok (.getfield 20, 3) := by decide +kernel
theorem dX12_grain_31 : decode cX12_grain 31 = .ok (.bipush 8, 2) := by decide +kernel
theorem dX12_grain_33 : decode cX12_grain 33 = .ok (.iload_n 2, 1) := by decide +kernel
theorem dX12_grain_34 : decode cX12_grain 34 = .ok (.imul, 1) := by decide +kernel
theorem dX12_grain_35 : decode cX12_grain 35 = .ok (.iload_n 1, 1) := by decide +kernel
theorem dX12_grain_36 : decode cX12_grain 36 = .ok (.iadd, 1) := by decide +kernel
theorem dX12_grain_37 : decode cX12_grain 37 = .ok (.iaload, 1) := by decide +kernel
theorem dX12_grain_38 : decode cX12_grain 38 = .ok (.istore 4, 2) := by decide +kernel
theorem dX12_grain_40 : decode cX12_grain 40 = .ok (.aload_n 0, 1) := by decide +kernel
theorem dX12_grain_41 : decode cX12_grain 41 = .ok (.getfield 20, 3) := by decide +kernel
theorem dX12_grain_44 : decode cX12_grain 44 = .ok (.bipush 8, 2) := by decide +kernel
theorem dX12_grain_46 : decode cX12_grain 46 = .ok (.iload_n 2, 1) := by decide +kernel
theorem dX12_grain_47 : decode cX12_grain 47 = .ok (.imul, 1) := by decide +kernel
theorem dX12_grain_48 : decode cX12_grain 48 = .ok (.iload_n 1, 1) := by decide +kernel
theorem dX12_grain_49 : decode cX12_grain 49 = .ok (.iadd, 1) := by decide +kernel
theorem dX12_grain_50 : decode cX12_grain 50 = .ok (.iload_n 3, 1) := by decide +kernel
theorem dX12_grain_51 : decode cX12_grain 51 = .ok (.iastore, 1) := by decide +kernel
theorem dX12_grain_52 : decode cX12_grain 52 = .ok (.iload 4, 2) := by decide +kernel
theorem dX12_grain_54 : decode cX12_grain 54 = .ok (.ireturn, 1) := by decide +kernel
theorem dX12_undo_0 : decode cX12_undo 0 = .ok (.aload_n 0, 1) := by decide +kernel
theorem dX12_undo_1 : decode cX12_undo 1 = .ok (.getfield 153, 3) := by decide +kernel
theorem dX12_undo_4 : decode cX12_undo 4 = .ok (.ifCond .ne 6, 3) := by decide +kernel
theorem dX12_undo_7 : decode cX12_undo 7 = .ok (.bipush (-4), 2) := by decide +kernel
theorem dX12_undo_9 : decode cX12_undo 9 = .ok (.ireturn, 1) := by decide +kernel
theorem dX12_undo_10 : decode cX12_undo 10 = .ok (.aload_n 0, 1) := by decide +kernel
theorem dX12_undo_11 : decode cX12_undo 11 = .ok (.dup, 1) := by decide +kernel
theorem dX12_undo_12 : decode cX12_undo 12 = .ok (.getfield 153, 3) := by decide +kernel
theorem dX12_undo_15 : decode cX12_undo 15 = .ok (.iconst 1, 1) := by decide +kernel
theorem dX12_undo_16 : decode cX12_undo 16 = .ok (.isub, 1) := by decide +kernel
theorem dX12_undo_17 : decode cX12_undo 17 = .ok (.putfield 153, 3) := by decide +kernel
theorem dX12_undo_20 : decode cX12_undo 20 = .ok (.iconst 0, 1) := by decide +kernel
theorem dX12_undo_21 : decode cX12_undo 21 = .ok (.istore_n 1, 1) := by decide +kernel
theorem dX12_undo_22 : decode cX12_undo 22 = .ok (.iload_n 1, 1) := by decide +kernel
theorem dX12_undo_23 : decode cX12_undo 23 = .ok (.bipush 64, 2) := by decide +kernel
theorem dX12_undo_25 : decode cX12_undo 25 = .ok (.if_icmp .ge 49, 3) := by decide +kernel
theorem dX12_undo_28 : decode cX12_undo 28 = .ok (.aload_n 0, 1) := by decide +kernel
theorem dX12_undo_29 : decode cX12_undo 29 = .ok (.getfield 16, 3) := by decide +kernel
theorem dX12_undo_32 : decode cX12_undo 32 = .ok (.iload_n 1, 1) := by decide +kernel
theorem dX12_undo_33 : decode cX12_undo 33 = .ok (.aload_n 0, 1) := by decide +kernel
theorem dX12_undo_34 : decode cX12_undo 34 = .ok (.getfield 27, 3) := by decide +kernel
theorem dX12_undo_37 : decode cX12_undo 37 = .ok (.bipush 64, 2) := by decide +kernel
theorem dX12_undo_39 : decode cX12_undo 39 = .ok (.aload_n 0, 1) := by decide +kernel
theorem dX12_undo_40 : decode cX12_undo 40 = .ok (.getfield 153, 3) := by decide +kernel
theorem dX12_undo_43 : decode cX12_undo 43 = .ok (.imul, 1) := by decide +kernel
theorem dX12_undo_44 : decode cX12_undo 44 = .ok (.iload_n 1, 1) := by decide +kernel
theorem dX12_undo_45 : decode cX12_undo 45 = .ok (.iadd, 1) := by decide +kernel
theorem dX12_undo_46 : decode cX12_undo 46 = .ok (.baload, 1) := by decide +kernel
theorem dX12_undo_47 : decode cX12_undo 47 = .ok (.bastore, 1) := by decide +kernel
theorem dX12_undo_48 : decode cX12_undo 48 = .ok (.aload_n 0, 1) := by decide +kernel
theorem dX12_undo_49 : decode cX12_undo 49 = .ok (.getfield 20, 3) := by decide +kernel
theorem dX12_undo_52 : decode cX12_undo 52 = .ok (.iload_n 1, 1) := by decide +kernel
theorem dX12_undo_53 : decode cX12_undo 53 = .ok (.aload_n 0, 1) := by decide +kernel
theorem dX12_undo_54 : decode cX12_undo 54 = .ok (.getfield 30, 3) := by decide +kernel
theorem dX12_undo_57 : decode cX12_undo 57 = .ok (.bipush 64, 2) := by decide +kernel
theorem dX12_undo_59 : decode cX12_undo 59 = .ok (.aload_n 0, 1) := by decide +kernel
theorem dX12_undo_60 : decode cX12_undo 60 = .ok (.getfield 153, 3) := by decide +kernel
theorem dX12_undo_63 : decode cX12_undo 63 = .ok (.imul, 1) := by decide +kernel
theorem dX12_undo_64 : decode cX12_undo 64 = .ok (.iload_n 1, 1) := by decide +kernel
theorem dX12_undo_65 : decode cX12_undo 65 = .ok (.iadd, 1) := by decide +kernel
theorem dX12_undo_66 : decode cX12_undo 66 = .ok (.iaload, 1) := by decide +kernel
theorem dX12_undo_67 : decode cX12_undo 67 = .ok (.iastore, 1) := by decide +kernel
theorem dX12_undo_68 : decode cX12_undo 68 = .ok (.iinc 1 1, 3) := by decide +kernel
theorem dX12_undo_71 : decode cX12_undo 71 = .ok (.goto (-49), 3) := by decide +kernel
theorem dX12_undo_74 : decode cX12_undo 74 = .ok (.aload_n 0, 1) := by decide +kernel
theorem dX12_undo_75 : decode cX12_undo 75 = .ok (.getfield 153, 3) := by decide +kernel
theorem dX12_undo_78 : decode cX12_undo 78 = .ok (.ireturn, 1) := by decide +kernel
theorem dX12_isShape_0 : decode cX12_isShape 0 = .ok (.iload_n 1, 1) := by decide +kernel
theorem dX12_isShape_1 : decode cX12_isShape 1 = .ok (.i2l, 1) := by decide +kernel
theorem dX12_isShape_2 : decode cX12_isShape 2 = .ok (.lconst 0, 1) := by decide +kernel
theorem dX12_isShape_3 : decode cX12_isShape 3 = .ok (.aload_n 0, 1) := by decide +kernel
theorem dX12_isShape_4 : decode cX12_isShape 4 = .ok (.getfield 166, 3) := by decide +kernel
theorem dX12_isShape_7 : decode cX12_isShape 7 = .ok (.iconst 1, 1) := by decide +kernel
theorem dX12_isShape_8 : decode cX12_isShape 8 = .ok (.isub, 1) := by decide +kernel
theorem dX12_isShape_9 : decode cX12_isShape 9 = .ok (.i2l, 1) := by decide +kernel
theorem dX12_isShape_10 : decode cX12_isShape 10 = .ok (.invokestatic 145, 3) := by decide +kernel
theorem dX12_isShape_13 : decode cX12_isShape 13 = .ok (.ireturn, 1) := by decide +kernel
theorem dX12_shape_0 : decode cX12_shape 0 = .ok (.iload_n 1, 1) := by decide +kernel
theorem dX12_shape_1 : decode cX12_shape 1 = .ok (.i2l, 1) := by decide +kernel
theorem dX12_shape_2 : decode cX12_shape 2 = .ok (.lconst 1, 1) := by decide +kernel
theorem dX12_shape_3 : decode cX12_shape 3 = .ok (.ldc2_w 156, 3) := by decide +kernel
theorem dX12_shape_6 : decode cX12_shape 6 = .ok (.invokestatic 145, 3) := by decide +kernel
theorem dX12_shape_9 : decode cX12_shape 9 = .ok (.ifCond .eq 40, 3) := by decide +kernel
theorem dX12_shape_12 : decode cX12_shape 12 = .ok (.iload_n 2, 1) := by decide +kernel
theorem dX12_shape_13 : decode cX12_shape 13 = .ok (.i2l, 1) := by decide +kernel
theorem dX12_shape_14 : decode cX12_shape 14 = .ok (.lconst 1, 1) := by decide +kernel
theorem dX12_shape_15 : decode cX12_shape 15 = .ok (.ldc2_w 156, 3) := by decide +kernel
theorem dX12_shape_18 : decode cX12_shape 18 = .ok (.invokestatic 145, 3) := by decide +kernel
theorem dX12_shape_21 : decode cX12_shape 21 = .ok (.ifCond .eq 28, 3) := by decide +kernel
theorem dX12_shape_24 : decode cX12_shape 24 = .ok (.iload_n 3, 1) := by decide +kernel
theorem dX12_shape_25 : decode cX12_shape 25 = .ok (.i2l, 1) := by decide +kernel
theorem dX12_shape_26 : decode cX12_shape 26 = .ok (.lconst 1, 1) := by decide +kernel
theorem dX12_shape_27 : decode cX12_shape 27 = .ok (.ldc2_w 169, 3) := by decide +kernel
theorem dX12_shape_30 : decode cX12_shape 30 = .ok (.invokestatic 145, 3) := by decide +kernel
theorem dX12_shape_33 : decode cX12_shape 33 = .ok (.ifCond .eq 16, 3) := by decide +kernel
theorem dX12_shape_36 : decode cX12_shape 36 = .ok (.iload 4, 2) := by decide +kernel
theorem dX12_shape_38 : decode cX12_shape 38 = .ok (.i2l, 1) := by decide +kernel
theorem dX12_shape_39 : decode cX12_shape 39 = .ok (.lconst 0, 1) := by decide +kernel
theorem dX12_shape_40 : decode cX12_shape 40 = .ok (.ldc2_w 164, 3) := by decide +kernel
theorem dX12_shape_43 : decode cX12_shape 43 = .ok (.invokestatic 145, 3) := by decide +kernel
theorem dX12_shape_46 : decode cX12_shape 46 = .ok (.ifCond .ne 5, 3) := by decide +kernel
theorem dX12_shape_49 : decode cX12_shape 49 = .ok (.iconst (-1), 1) := by decide +kernel
theorem dX12_shape_50 : decode cX12_shape 50 = .ok (.ireturn, 1) := by decide +kernel
theorem dX12_shape_51 : decode cX12_shape 51 = .ok (.aload_n 0, 1) := by decide +kernel
theorem dX12_shape_52 : decode cX12_shape 52 = .ok (.getfield 166, 3) := by decide +kernel
theorem dX12_shape_55 : decode cX12_shape 55 = .ok (.bipush 8, 2) := by decide +kernel
theorem dX12_shape_57 : decode cX12_shape 57 = .ok (.if_icmp .ne 6, 3) := by decide +kernel
theorem dX12_shape_60 : decode cX12_shape 60 = .ok (.bipush (-3), 2) := by decide +kernel
theorem dX12_shape_62 : decode cX12_shape 62 = .ok (.ireturn, 1) := by decide +kernel
theorem dX12_shape_63 : decode cX12_shape 63 = .ok (.aload_n 0, 1) := by decide +kernel
theorem dX12_shape_64 : decode cX12_shape 64 = .ok (.getfield 33, 3) := by decide +kernel
theorem dX12_shape_67 : decode cX12_shape 67 = .ok (.aload_n 0, 1) := by decide +kernel
theorem dX12_shape_68 : decode cX12_shape 68 = .ok (.getfield 166, 3) := by decide +kernel
theorem dX12_shape_71 : decode cX12_shape 71 = .ok (.iload_n 1, 1) := by decide +kernel
theorem dX12_shape_72 : decode cX12_shape 72 = .ok (.iastore, 1) := by decide +kernel
theorem dX12_shape_73 : decode cX12_shape 73 = .ok (.aload_n 0, 1) := by decide +kernel
theorem dX12_shape_74 : decode cX12_shape 74 = .ok (.getfield 36, 3) := by decide +kernel
theorem dX12_shape_77 : decode cX12_shape 77 = .ok (.aload_n 0, 1) := by decide +kernel
theorem dX12_shape_78 : decode cX12_shape 78 = .ok (.getfield 166, 3) := by decide +kernel
theorem dX12_shape_81 : decode cX12_shape 81 = .ok (.iload_n 2, 1) := by decide +kernel
theorem dX12_shape_82 : decode cX12_shape 82 = .ok (.iastore, 1) := by decide +kernel
theorem dX12_shape_83 : decode cX12_shape 83 = .ok (.aload_n 0, 1) := by decide +kernel
theorem dX12_shape_84 : decode cX12_shape 84 = .ok (.getfield 39, 3) := by decide +kernel
theorem dX12_shape_87 : decode cX12_shape 87 = .ok (.aload_n 0, 1) := by decide +kernel
theorem dX12_shape_88 : decode cX12_shape 88 = .ok (.getfield 166, 3) := by decide +kernel
theorem dX12_shape_91 : decode cX12_shape 91 = .ok (.iload_n 3, 1) := by decide +kernel
theorem dX12_shape_92 : decode cX12_shape 92 = .ok (.iastore, 1) := by decide +kernel
theorem dX12_shape_93 : decode cX12_shape 93 = .ok (.aload_n 0, 1) := by decide +kernel
theorem dX12_shape_94 : decode cX12_shape 94 = .ok (.getfield 42, 3) := by decide +kernel
theorem dX12_shape_97 : decode cX12_shape 97 = .ok (.aload_n 0, 1) := by decide +kernel
theorem dX12_shape_98 : decode cX12_shape 98 = .ok (.getfield 166, 3) := by decide +kernel
theorem dX12_shape_101 : decode cX12_shape 101 = .ok (.iload 4, 2) := by decide +kernel
theorem dX12_shape_103 : decode cX12_shape 103 = .ok (.iastore, 1) := by decide +kernel
theorem dX12_shape_104 : decode cX12_shape 104 = .ok (.aload_n 0, 1) := by decide +kernel
theorem dX12_shape_105 : decode cX12_shape 105 = .ok (.getfield 45, 3) := by decide +kernel
theorem dX12_shape_108 : decode cX12_shape 108 = .ok (.aload_n 0, 1) := by decide +kernel
theorem dX12_shape_109 : decode cX12_shape 109 = .ok (.getfield 166, 3) := by decide +kernel
theorem dX12_shape_112 : decode cX12_shape 112 = .ok (.iload 5, 2) := by decide +kernel
theorem dX12_shape_114 : decode cX12_shape 114 = .ok (.bastore, 1) := by decide +kernel
theorem dX12_shape_115 : decode cX12_shape 115 = .ok (.aload_n 0, 1) := by decide +kernel
theorem dX12_shape_116 : decode cX12_shape 116 = .ok (.dup, 1) := by decide +kernel
theorem dX12_shape_117 : decode cX12_shape 117 = .ok (.getfield 166, 3) := by decide +kernel
theorem dX12_shape_120 : decode cX12_shape 120 = .ok (.iconst 1, 1) := by decide +kernel
theorem dX12_shape_121 : decode cX12_shape 121 = .ok (.iadd, 1) := by decide +kernel
theorem dX12_shape_122 : decode cX12_shape 122 = .ok (.putfield 166, 3) := by decide +kernel
theorem dX12_shape_125 : decode cX12_shape 125 = .ok (.aload_n 0, 1) := by decide +kernel
theorem dX12_shape_126 : decode cX12_shape 126 = .ok (.getfield 166, 3) := by decide +kernel
theorem dX12_shape_129 : decode cX12_shape 129 = .ok (.iconst 1, 1) := by decide +kernel
theorem dX12_shape_130 : decode cX12_shape 130 = .ok (.isub, 1) := by decide +kernel
theorem dX12_shape_131 : decode cX12_shape 131 = .ok (.ireturn, 1) := by decide +kernel
theorem dX12_drop_0 : decode cX12_drop 0 = .ok (.aload_n 0, 1) := by decide +kernel
theorem dX12_drop_1 : decode cX12_drop 1 = .ok (.getfield 166, 3) := by decide +kernel
theorem dX12_drop_4 : decode cX12_drop 4 = .ok (.ifCond .ne 6, 3) := by decide +kernel
theorem dX12_drop_7 : decode cX12_drop 7 = .ok (.bipush (-4), 2) := by decide +kernel
theorem dX12_drop_9 : decode cX12_drop 9 = .ok (.ireturn, 1) := by decide +kernel
theorem dX12_drop_10 : decode cX12_drop 10 = .ok (.iconst 0, 1) := by decide +kernel
theorem dX12_drop_11 : decode cX12_drop 11 = .ok (.istore_n 1, 1) := by decide +kernel
theorem dX12_drop_12 : decode cX12_drop 12 = .ok (.iload_n 1, 1) := by decide +kernel
theorem dX12_drop_13 : decode cX12_drop 13 = .ok (.aload_n 0, 1) := by decide +kernel
theorem dX12_drop_14 : decode cX12_drop 14 = .ok (.getfield 171, 3) := by decide +kernel
theorem dX12_drop_17 : decode cX12_drop 17 = .ok (.if_icmp .ge 27, 3) := by decide +kernel
theorem dX12_drop_20 : decode cX12_drop 20 = .ok (.aload_n 0, 1) := by decide +kernel
theorem dX12_drop_21 : decode cX12_drop 21 = .ok (.getfield 66, 3) := by decide +kernel
theorem dX12_drop_24 : decode cX12_drop 24 = .ok (.iload_n 1, 1) := by decide +kernel
theorem dX12_drop_25 : decode cX12_drop 25 = .ok (.iaload, 1) := by decide +kernel
theorem dX12_drop_26 : decode cX12_drop 26 = .ok (.aload_n 0, 1) := by decide +kernel
theorem dX12_drop_27 : decode cX12_drop 27 = .ok (.getfield 166, 3) := by decide +kernel
theorem dX12_drop_30 : decode cX12_drop 30 = .ok (.iconst 1, 1) := by decide +kernel
theorem dX12_drop_31 : decode cX12_drop 31 = .ok (.isub, 1) := by decide +kernel
theorem dX12_drop_32 : decode cX12_drop 32 = .ok (.if_icmp .ne 6, 3) := by decide +kernel
theorem dX12_drop_35 : decode cX12_drop 35 = .ok (.bipush (-2), 2) := by decide +kernel
theorem dX12_drop_37 : decode cX12_drop 37 = .ok (.ireturn, 1) := by decide +kernel
theorem dX12_drop_38 : decode cX12_drop 38 = .ok (.iinc 1 1, 3) := by decide +kernel
theorem dX12_drop_41 : decode cX12_drop 41 = .ok (.goto (-29), 3) := by decide +kernel
theorem dX12_drop_44 : decode cX12_drop 44 = .ok (.aload_n 0, 1) := by decide +kernel
theorem dX12_drop_45 : decode cX12_drop 45 = .ok (.dup, 1) := by decide +kernel
theorem dX12_drop_46 : decode cX12_drop 46 = .ok (.getfield 166, 3) := by decide +kernel
theorem dX12_drop_49 : decode cX12_drop 49 = .ok (.iconst 1, 1) := by decide +kernel
theorem dX12_drop_50 : decode cX12_drop 50 = .ok (.isub, 1) := by decide +kernel
theorem dX12_drop_51 : decode cX12_drop 51 = .ok (.putfield 166, 3) := by decide +kernel
theorem dX12_drop_54 : decode cX12_drop 54 = .ok (.aload_n 0, 1) := by decide +kernel
theorem dX12_drop_55 : decode cX12_drop 55 = .ok (.getfield 166, 3) := by decide +kernel
theorem dX12_drop_58 : decode cX12_drop 58 = .ok (.ireturn, 1) := by decide +kernel
theorem dX12_isOfSize_0 : decode cX12_isOfSize 0 = .ok (.aload_n 0, 1) := by decide +kernel
theorem dX12_isOfSize_1 : decode cX12_isOfSize 1 = .ok (.getfield 33, 3) := by decide +kernel
theorem dX12_isOfSize_4 : decode cX12_isOfSize 4 = .ok (.iload_n 1, 1) := by decide +kernel
theorem dX12_isOfSize_5 : decode cX12_isOfSize 5 = .ok (.iaload, 1) := by decide +kernel
theorem dX12_isOfSize_6 : decode cX12_isOfSize 6 = .ok (.iload_n 2, 1) := by decide +kernel
theorem dX12_isOfSize_7 : decode cX12_isOfSize 7 = .ok (.if_icmp .ne 13, 3) := by decide +kernel
theorem dX12_isOfSize_10 : decode cX12_isOfSize 10 = .ok (.aload_n 0, 1) := by decide +kernel
theorem dX12_isOfSize_11 : decode cX12_isOfSize 11 = .ok (.getfield 36, 3) := by decide +kernel
theorem dX12_isOfSize_14 : decode cX12_isOfSize 14 = .ok (.iload_n 1, 1) := by decide +kernel
theorem dX12_isOfSize_15 : decode cX12_isOfSize 15 = .ok (.iaload, 1) := by decide +kernel
theorem dX12_isOfSize_16 : decode cX12_isOfSize 16 = .ok (.iload_n 3, 1) := by decide +kernel
theorem dX12_isOfSize_17 : decode cX12_isOfSize 17 = .ok (.if_icmp .eq 32, 3) := by decide +kernel
theorem dX12_isOfSize_20 : decode cX12_isOfSize 20 = .ok (.aload_n 0, 1) := by decide +kernel
theorem dX12_isOfSize_21 : decode cX12_isOfSize 21 = .ok (.getfield 45, 3) := by decide +kernel
theorem dX12_isOfSize_24 : decode cX12_isOfSize 24 = .ok (.iload_n 1, 1) := by decide +kernel
theorem dX12_isOfSize_25 : decode cX12_isOfSize 25 = .ok (.baload, 1) := by decide +kernel
theorem dX12_isOfSize_26 : decode cX12_isOfSize 26 = .ok (.ifCond .eq 27, 3) := by decide +kernel
theorem dX12_isOfSize_29 : decode cX12_isOfSize 29 = .ok (.aload_n 0, 1) := by decide +kernel
theorem dX12_isOfSize_30 : decode cX12_isOfSize 30 = .ok (.getfield 33, 3) := by decide +kernel
theorem dX12_isOfSize_33 : decode cX12_isOfSize 33 = .ok (.iload_n 1, 1) := by decide +kernel
theorem dX12_isOfSize_34 : decode cX12_isOfSize 34 = .ok (.iaload, 1) := by decide +kernel
theorem dX12_isOfSize_35 : decode cX12_isOfSize 35 = .ok (.iload_n 3, 1) := by decide +kernel
theorem dX12_isOfSize_36 : decode cX12_isOfSize 36 = .ok (.if_icmp .ne 17, 3) := by decide +kernel
theorem dX12_isOfSize_39 : decode cX12_isOfSize 39 = .ok (.aload_n 0, 1) := by decide +kernel
theorem dX12_isOfSize_40 : decode cX12_isOfSize 40 = .ok (.getfield 36, 3) := by decide +kernel
theorem dX12_isOfSize_43 : decode cX12_isOfSize 43 = .ok (.iload_n 1, 1) := by decide +kernel
theorem dX12_isOfSize_44 : decode cX12_isOfSize 44 = .ok (.iaload, 1) := by decide +kernel
theorem dX12_isOfSize_45 : decode cX12_isOfSize 45 = .ok (.iload_n 2, 1) := by decide +kernel
theorem dX12_isOfSize_46 : decode cX12_isOfSize 46 = .ok (.if_icmp .ne 7, 3) := by decide +kernel
theorem dX12_isOfSize_49 : decode cX12_isOfSize 49 = .ok (.iconst 1, 1) := by decide +kernel
theorem dX12_isOfSize_50 : decode cX12_isOfSize 50 = .ok (.goto 4, 3) := by decide +kernel
theorem dX12_isOfSize_53 : decode cX12_isOfSize 53 = .ok (.iconst 0, 1) := by decide +kernel
theorem dX12_isOfSize_54 : decode cX12_isOfSize 54 = .ok (.ireturn, 1) := by decide +kernel
theorem dX12_leastGrain_0 : decode cX12_leastGrain 0 = .ok (.bipush 9, 2) := by decide +kernel
theorem dX12_leastGrain_2 : decode cX12_leastGrain 2 = .ok (.istore 5, 2) := by decide +kernel
theorem dX12_leastGrain_4 : decode cX12_leastGrain 4 = .ok (.iload_n 2, 1) := by decide +kernel
theorem dX12_leastGrain_5 : decode cX12_leastGrain 5 = .ok (.istore 6, 2) := by decide +kernel
theorem dX12_leastGrain_7 : decode cX12_leastGrain 7 = .ok (.iload 6, 2) := by decide +kernel
theorem dX12_leastGrain_9 : decode cX12_leastGrain 9 = .ok (.iload_n 2, 1) := by decide +kernel
theorem dX12_leastGrain_10 : decode cX12_leastGrain 10 = .ok (.iload 4, 2) := by decide +kernel
theorem dX12_leastGrain_12 : decode cX12_leastGrain 12 = .ok (.iadd, 1) := by decide +kernel
theorem dX12_leastGrain_13 : decode cX12_leastGrain 13 = .ok (.if_icmp .ge 64, 3) := by decide +kernel
theorem dX12_leastGrain_16 : decode cX12_leastGrain 16 = .ok (.iload_n 1, 1) := by decide +kernel
theorem dX12_leastGrain_17 : decode cX12_leastGrain 17 = .ok (.istore 7, 2) := by decide +kernel
theorem dX12_leastGrain_19 : decode cX12_leastGrain 19 = .ok (.iload 7, 2) := by decide +kernel
theorem dX12_leastGrain_21 : decode cX12_leastGrain 21 = .ok (.iload_n 1, 1) := by decide +kernel
theorem dX12_leastGrain_22 : decode cX12_leastGrain 22 = .ok (.iload_n 3, 1) := by decide +kernel
theorem dX12_leastGrain_23 : decode cX12_leastGrain 23 = .ok (.iadd, 1) := by decide +kernel
theorem dX12_leastGrain_24 : decode cX12_leastGrain 24 = .ok (.if_icmp .ge 47, 3) := by decide +kernel
theorem dX12_leastGrain_27 : decode cX12_leastGrain 27 = .ok (.aload_n 0, 1) := by decide +kernel
theorem dX12_leastGrain_28 : decode cX12_leastGrain 28 = .ok (.getfield 20, 3) := by decide +kernel
theorem dX12_leastGrain_31 : decode cX12_leastGrain 31 = .ok (.bipush 8, 2) := by decide +kernel
theorem dX12_leastGrain_33 : decode cX12_leastGrain 33 = .ok (.iload 6, 2) := by decide +kernel
theorem dX12_leastGrain_35 : decode cX12_leastGrain 35 = .ok (.imul, 1) := by decide +kernel
theorem dX12_leastGrain_36 : decode cX12_leastGrain 36 = .ok (.iload 7, 2) := by decide +kernel
theorem dX12_leastGrain_38 : decode cX12_leastGrain 38 = .ok (.iadd, 1) := by decide +kernel
theorem dX12_leastGrain_39 : decode cX12_leastGrain 39 = .ok (.iaload, 1) := by decide +kernel
theorem dX12_leastGrain_40 : decode cX12_leastGrain 40 = .ok (.iload 5, 2) := by decide +kernel
theorem dX12_leastGrain_42 : decode cX12_leastGrain 42 = .ok (.if_icmp .ge 19, 3) := by decide +kernel
theorem dX12_leastGrain_45 : decode cX12_leastGrain 45 = .ok (.aload_n 0, 1) := by decide +kernel
theorem dX12_leastGrain_46 : decode cX12_leastGrain 46 = .ok (.getfield 20, 3) := by decide +kernel
theorem dX12_leastGrain_49 : decode cX12_leastGrain 49 = .ok (.bipush 8, 2) := by decide +kernel
theorem dX12_leastGrain_51 : decode cX12_leastGrain 51 = .ok (.iload 6, 2) := by decide +kernel
theorem dX12_leastGrain_53 : decode cX12_leastGrain 53 = .ok (.imul, 1) := by decide +kernel
theorem dX12_leastGrain_54 : decode cX12_leastGrain 54 = .ok (.iload 7, 2) := by decide +kernel
theorem dX12_leastGrain_56 : decode cX12_leastGrain 56 = .ok (.iadd, 1) := by decide +kernel
theorem dX12_leastGrain_57 : decode cX12_leastGrain 57 = .ok (.iaload, 1) := by decide +kernel
theorem dX12_leastGrain_58 : decode cX12_leastGrain 58 = .ok (.goto 5, 3) := by decide +kernel
theorem dX12_leastGrain_61 : decode cX12_leastGrain 61 = .ok (.iload 5, 2) := by decide +kernel
theorem dX12_leastGrain_63 : decode cX12_leastGrain 63 = .ok (.istore 5, 2) := by decide +kernel
theorem dX12_leastGrain_65 : decode cX12_leastGrain 65 = .ok (.iinc 7 1, 3) := by decide +kernel
theorem dX12_leastGrain_68 : decode cX12_leastGrain 68 = .ok (.goto (-49), 3) := by decide +kernel
theorem dX12_leastGrain_71 : decode cX12_leastGrain 71 = .ok (.iinc 6 1, 3) := by decide +kernel
theorem dX12_leastGrain_74 : decode cX12_leastGrain 74 = .ok (.goto (-67), 3) := by decide +kernel
theorem dX12_leastGrain_77 : decode cX12_leastGrain 77 = .ok (.iload 5, 2) := by decide +kernel
theorem dX12_leastGrain_79 : decode cX12_leastGrain 79 = .ok (.ireturn, 1) := by decide +kernel
theorem dX12_isWhole_0 : decode cX12_isWhole 0 = .ok (.iconst 1, 1) := by decide +kernel
theorem dX12_isWhole_1 : decode cX12_isWhole 1 = .ok (.istore 6, 2) := by decide +kernel
theorem dX12_isWhole_3 : decode cX12_isWhole 3 = .ok (.iload_n 2, 1) := by decide +kernel
theorem dX12_isWhole_4 : decode cX12_isWhole 4 = .ok (.istore 7, 2) := by decide +kernel
theorem dX12_isWhole_6 : decode cX12_isWhole 6 = .ok (.iload 7, 2) := by decide +kernel
theorem dX12_isWhole_8 : decode cX12_isWhole 8 = .ok (.iload_n 2, 1) := by decide +kernel
theorem dX12_isWhole_9 : decode cX12_isWhole 9 = .ok (.iload 4, 2) := by decide +kernel
theorem dX12_isWhole_11 : decode cX12_isWhole 11 = .ok (.iadd, 1) := by decide +kernel
theorem dX12_isWhole_12 : decode cX12_isWhole 12 = .ok (.if_icmp .ge 81, 3) := by decide +kernel
theorem dX12_isWhole_15 : decode cX12_isWhole 15 = .ok (.iload_n 1, 1) := by decide +kernel
theorem dX12_isWhole_16 : decode cX12_isWhole 16 = .ok (.istore 8, 2) := by decide +kernel
theorem dX12_isWhole_18 : decode cX12_isWhole 18 = .ok (.iload 8, 2) := by decide +kernel
theorem dX12_isWhole_20 : decode cX12_isWhole 20 = .ok (.iload_n 1, 1) := by decide +kernel
theorem dX12_isWhole_21 : decode cX12_isWhole 21 = .ok (.iload_n 3, 1) := by decide +kernel
theorem dX12_isWhole_22 : decode cX12_isWhole 22 = .ok (.iadd, 1) := by decide +kernel
theorem dX12_isWhole_23 : decode cX12_isWhole 23 = .ok (.if_icmp .ge 64, 3) := by decide +kernel
theorem dX12_isWhole_26 : decode cX12_isWhole 26 = .ok (.iload 6, 2) := by decide +kernel
theorem dX12_isWhole_28 : decode cX12_isWhole 28 = .ok (.ifCond .eq 50, 3) := by decide +kernel
theorem dX12_isWhole_31 : decode cX12_isWhole 31 = .ok (.aload_n 0, 1) := by decide +kernel
theorem dX12_isWhole_32 : decode cX12_isWhole 32 = .ok (.getfield 16, 3) := by decide +kernel
theorem dX12_isWhole_35 : decode cX12_isWhole 35 = .ok (.bipush 8, 2) := by decide +kernel
theorem dX12_isWhole_37 : decode cX12_isWhole 37 = .ok (.iload 7, 2) := by decide +kernel
theorem dX12_isWhole_39 : decode cX12_isWhole 39 = .ok (.imul, 1) := by decide +kernel
theorem dX12_isWhole_40 : decode cX12_isWhole 40 = .ok (.iload 8, 2) := by decide +kernel
theorem dX12_isWhole_42 : decode cX12_isWhole 42 = .ok (.iadd, 1) := by decide +kernel
theorem dX12_isWhole_43 : decode cX12_isWhole 43 = .ok (.baload, 1) := by decide +kernel
theorem dX12_isWhole_44 : decode cX12_isWhole 44 = .ok (.ifCond .ne 34, 3) := by decide +kernel
theorem dX12_isWhole_47 : decode cX12_isWhole 47 = .ok (.iload 5, 2) := by decide +kernel
theorem dX12_isWhole_49 : decode cX12_isWhole 49 = .ok (.ifCond .lt 25, 3) := by decide +kernel
theorem dX12_isWhole_52 : decode cX12_isWhole 52 = .ok (.aload_n 0, 1) := by decide +kernel
theorem dX12_isWhole_53 : decode cX12_isWhole 53 = .ok (.getfield 24, 3) := by decide +kernel
theorem dX12_isWhole_56 : decode cX12_isWhole 56 = .ok (.bipush 64, 2) := by decide +kernel
theorem dX12_isWhole_58 : decode cX12_isWhole 58 = .ok (.iload 5, 2) := by decide +kernel
theorem dX12_isWhole_60 : decode cX12_isWhole 60 = .ok (.imul, 1) := by decide +kernel
theorem dX12_isWhole_61 : decode cX12_isWhole 61 = .ok (.bipush 8, 2) := by decide +kernel
theorem dX12_isWhole_63 : decode cX12_isWhole 63 = .ok (.iload 7, 2) := by decide +kernel
theorem dX12_isWhole_65 : decode cX12_isWhole 65 = .ok (.imul, 1) := by decide +kernel
theorem dX12_isWhole_66 : decode cX12_isWhole 66 = .ok (.iadd, 1) := by decide +kernel
theorem dX12_isWhole_67 : decode cX12_isWhole 67 = .ok (.iload 8, 2) := by decide +kernel
theorem dX12_isWhole_69 : decode cX12_isWhole 69 = .ok (.iadd, 1) := by decide +kernel
theorem dX12_isWhole_70 : decode cX12_isWhole 70 = .ok (.baload, 1) := by decide +kernel
theorem dX12_isWhole_71 : decode cX12_isWhole 71 = .ok (.ifCond .ne 7, 3) := by decide +kernel
theorem dX12_isWhole_74 : decode cX12_isWhole 74 = .ok (.iconst 1, 1) := by decide +kernel
theorem dX12_isWhole_75 : decode cX12_isWhole 75 = .ok (.goto 4, 3) := by decide +kernel
theorem dX12_isWhole_78 : decode cX12_isWhole 78 = .ok (.iconst 0, 1) := by decide +kernel
theorem dX12_isWhole_79 : decode cX12_isWhole 79 = .ok (.istore 6, 2) := by decide +kernel
theorem dX12_isWhole_81 : decode cX12_isWhole 81 = .ok (.iinc 8 1, 3) := by decide +kernel
theorem dX12_isWhole_84 : decode cX12_isWhole 84 = .ok (.goto (-66), 3) := by decide +kernel
theorem dX12_isWhole_87 : decode cX12_isWhole 87 = .ok (.iinc 7 1, 3) := by decide +kernel
theorem dX12_isWhole_90 : decode cX12_isWhole 90 = .ok (.goto (-84), 3) := by decide +kernel
theorem dX12_isWhole_93 : decode cX12_isWhole 93 = .ok (.iload 6, 2) := by decide +kernel
theorem dX12_isWhole_95 : decode cX12_isWhole 95 = .ok (.ireturn, 1) := by decide +kernel
theorem dX12_doesFit_0 : decode cX12_doesFit 0 = .ok (.aload_n 0, 1) := by decide +kernel
theorem dX12_doesFit_1 : decode cX12_doesFit 1 = .ok (.iload 5, 2) := by decide +kernel
theorem dX12_doesFit_3 : decode cX12_doesFit 3 = .ok (.iload_n 3, 1) := by decide +kernel
theorem dX12_doesFit_4 : decode cX12_doesFit 4 = .ok (.iload 4, 2) := by decide +kernel
theorem dX12_doesFit_6 : decode cX12_doesFit 6 = .ok (.invokevirtual 174, 3) := by decide +kernel
theorem dX12_doesFit_9 : decode cX12_doesFit 9 = .ok (.ifCond .eq 40, 3) := by decide +kernel
theorem dX12_doesFit_12 : decode cX12_doesFit 12 = .ok (.aload_n 0, 1) := by decide +kernel
theorem dX12_doesFit_13 : decode cX12_doesFit 13 = .ok (.iload_n 1, 1) := by decide +kernel
theorem dX12_doesFit_14 : decode cX12_doesFit 14 = .ok (.iload_n 2, 1) := by decide +kernel
theorem dX12_doesFit_15 : decode cX12_doesFit 15 = .ok (.iload_n 3, 1) := by decide +kernel
theorem dX12_doesFit_16 : decode cX12_doesFit 16 = .ok (.iload 4, 2) := by decide +kernel
theorem dX12_doesFit_18 : decode cX12_doesFit 18 = .ok (.invokevirtual 178, 3) := by decide +kernel
theorem dX12_doesFit_21 : decode cX12_doesFit 21 = .ok (.aload_n 0, 1) := by decide +kernel
theorem dX12_doesFit_22 : decode cX12_doesFit 22 = .ok (.getfield 42, 3) := by decide +kernel
theorem dX12_doesFit_25 : decode cX12_doesFit 25 = .ok (.iload 5, 2) := by decide +kernel
theorem dX12_doesFit_27 : decode cX12_doesFit 27 = .ok (.iaload, 1) := by decide +kernel
theorem dX12_doesFit_28 : decode cX12_doesFit 28 = .ok (.if_icmp .lt 21, 3) := by decide +kernel
theorem dX12_doesFit_31 : decode cX12_doesFit 31 = .ok (.aload_n 0, 1) := by decide +kernel
theorem dX12_doesFit_32 : decode cX12_doesFit 32 = .ok (.iload_n 1, 1) := by decide +kernel
theorem dX12_doesFit_33 : decode cX12_doesFit 33 = .ok (.iload_n 2, 1) := by decide +kernel
theorem dX12_doesFit_34 : decode cX12_doesFit 34 = .ok (.iload_n 3, 1) := by decide +kernel
theorem dX12_doesFit_35 : decode cX12_doesFit 35 = .ok (.iload 4, 2) := by decide +kernel
theorem dX12_doesFit_37 : decode cX12_doesFit 37 = .ok (.iload 6, 2) := by decide +kernel
theorem dX12_doesFit_39 : decode cX12_doesFit 39 = .ok (.invokevirtual 182, 3) := by decide +kernel
theorem dX12_doesFit_42 : decode cX12_doesFit 42 = .ok (.ifCond .eq 7, 3) := by decide +kernel
theorem dX12_doesFit_45 : decode cX12_doesFit 45 = .ok (.iconst 1, 1) := by decide +kernel
theorem dX12_doesFit_46 : decode cX12_doesFit 46 = .ok (.goto 4, 3) := by decide +kernel
theorem dX12_doesFit_49 : decode cX12_doesFit 49 = .ok (.iconst 0, 1) := by decide +kernel
theorem dX12_doesFit_50 : decode cX12_doesFit 50 = .ok (.ireturn, 1) := by decide +kernel
theorem dX12_fits_0 : decode cX12_fits 0 = .ok (.aload_n 0, 1) := by decide +kernel
theorem dX12_fits_1 : decode cX12_fits 1 = .ok (.iload_n 1, 1) := by decide +kernel
theorem dX12_fits_2 : decode cX12_fits 2 = .ok (.iload_n 2, 1) := by decide +kernel
theorem dX12_fits_3 : decode cX12_fits 3 = .ok (.iload_n 3, 1) := by decide +kernel
theorem dX12_fits_4 : decode cX12_fits 4 = .ok (.iload 4, 2) := by decide +kernel
theorem dX12_fits_6 : decode cX12_fits 6 = .ok (.invokevirtual 186, 3) := by decide +kernel
theorem dX12_fits_9 : decode cX12_fits 9 = .ok (.ifCond .eq 12, 3) := by decide +kernel
theorem dX12_fits_12 : decode cX12_fits 12 = .ok (.aload_n 0, 1) := by decide +kernel
theorem dX12_fits_13 : decode cX12_fits 13 = .ok (.iload 5, 2) := by decide +kernel
theorem dX12_fits_15 : decode cX12_fits 15 = .ok (.invokevirtual 190, 3) := by decide +kernel
theorem dX12_fits_18 : decode cX12_fits 18 = .ok (.ifCond .ne 7, 3) := by decide +kernel
theorem dX12_fits_21 : decode cX12_fits 21 = .ok (.iconst (-1), 1) := by decide +kernel
theorem dX12_fits_22 : decode cX12_fits 22 = .ok (.goto 24, 3) := by decide +kernel
theorem dX12_fits_25 : decode cX12_fits 25 = .ok (.aload_n 0, 1) := by decide +kernel
theorem dX12_fits_26 : decode cX12_fits 26 = .ok (.iload_n 1, 1) := by decide +kernel
theorem dX12_fits_27 : decode cX12_fits 27 = .ok (.iload_n 2, 1) := by decide +kernel
theorem dX12_fits_28 : decode cX12_fits 28 = .ok (.iload_n 3, 1) := by decide +kernel
theorem dX12_fits_29 : decode cX12_fits 29 = .ok (.iload 4, 2) := by decide +kernel
theorem dX12_fits_31 : decode cX12_fits 31 = .ok (.iload 5, 2) := by decide +kernel
theorem dX12_fits_33 : decode cX12_fits 33 = .ok (.bipush (-4), 2) := by decide +kernel
theorem dX12_fits_35 : decode cX12_fits 35 = .ok (.invokevirtual 194, 3) := by decide +kernel
theorem dX12_fits_38 : decode cX12_fits 38 = .ok (.ifCond .eq 7, 3) := by decide +kernel
theorem dX12_fits_41 : decode cX12_fits 41 = .ok (.iconst 1, 1) := by decide +kernel
theorem dX12_fits_42 : decode cX12_fits 42 = .ok (.goto 4, 3) := by decide +kernel
theorem dX12_fits_45 : decode cX12_fits 45 = .ok (.iconst 0, 1) := by decide +kernel
theorem dX12_fits_46 : decode cX12_fits 46 = .ok (.ireturn, 1) := by decide +kernel
theorem dX12_isOpen_0 : decode cX12_isOpen 0 = .ok (.iconst 0, 1) := by decide +kernel
theorem dX12_isOpen_1 : decode cX12_isOpen 1 = .ok (.istore_n 2, 1) := by decide +kernel
theorem dX12_isOpen_2 : decode cX12_isOpen 2 = .ok (.iconst 0, 1) := by decide +kernel
theorem dX12_isOpen_3 : decode cX12_isOpen 3 = .ok (.istore_n 3, 1) := by decide +kernel
theorem dX12_isOpen_4 : decode cX12_isOpen 4 = .ok (.iload_n 3, 1) := by decide +kernel
theorem dX12_isOpen_5 : decode cX12_isOpen 5 = .ok (.sipush 4096, 3) := by decide +kernel
theorem dX12_isOpen_8 : decode cX12_isOpen 8 = .ok (.if_icmp .ge 99, 3) := by decide +kernel
theorem dX12_isOpen_11 : decode cX12_isOpen 11 = .ok (.iload_n 2, 1) := by decide +kernel
theorem dX12_isOpen_12 : decode cX12_isOpen 12 = .ok (.ifCond .ne 95, 3) := by decide +kernel
theorem dX12_isOpen_15 : decode cX12_isOpen 15 = .ok (.iload_n 3, 1) := by decide +kernel
theorem dX12_isOpen_16 : decode cX12_isOpen 16 = .ok (.bipush 8, 2) := by decide +kernel
theorem dX12_isOpen_18 : decode cX12_isOpen 18 = .ok (.irem, 1) := by decide +kernel
theorem dX12_isOpen_19 : decode cX12_isOpen 19 = .ok (.istore 4, 2) := by decide +kernel
theorem dX12_isOpen_21 : decode cX12_isOpen 21 = .ok (.iload_n 3, 1) := by decide +kernel
theorem dX12_isOpen_22 : decode cX12_isOpen 22 = .ok (.bipush 8, 2) := by decide +kernel
theorem dX12_isOpen_24 : decode cX12_isOpen 24 = .ok (.idiv, 1) := by decide +kernel
theorem dX12_isOpen_25 : decode cX12_isOpen 25 = .ok (.bipush 8, 2) := by decide +kernel
theorem dX12_isOpen_27 : decode cX12_isOpen 27 = .ok (.irem, 1) := by decide +kernel
theorem dX12_isOpen_28 : decode cX12_isOpen 28 = .ok (.istore 5, 2) := by decide +kernel
theorem dX12_isOpen_30 : decode cX12_isOpen 30 = .ok (.iload_n 3, 1) := by decide +kernel
theorem dX12_isOpen_31 : decode cX12_isOpen 31 = .ok (.bipush 64, 2) := by decide +kernel
theorem dX12_isOpen_33 : decode cX12_isOpen 33 = .ok (.idiv, 1) := by decide +kernel
theorem dX12_isOpen_34 : decode cX12_isOpen 34 = .ok (.bipush 8, 2) := by decide +kernel
theorem dX12_isOpen_36 : decode cX12_isOpen 36 = .ok (.irem, 1) := by decide +kernel
theorem dX12_isOpen_37 : decode cX12_isOpen 37 = .ok (.iconst 1, 1) := by decide +kernel
theorem dX12_isOpen_38 : decode cX12_isOpen 38 = .ok (.iadd, 1) := by decide +kernel
theorem dX12_isOpen_39 : decode cX12_isOpen 39 = .ok (.istore 6, 2) := by decide +kernel
theorem dX12_isOpen_41 : decode cX12_isOpen 41 = .ok (.iload_n 3, 1) := by decide +kernel
theorem dX12_isOpen_42 : decode cX12_isOpen 42 = .ok (.sipush 512, 3) := by decide +kernel
theorem dX12_isOpen_45 : decode cX12_isOpen 45 = .ok (.idiv, 1) := by decide +kernel
theorem dX12_isOpen_46 : decode cX12_isOpen 46 = .ok (.iconst 1, 1) := by decide +kernel
theorem dX12_isOpen_47 : decode cX12_isOpen 47 = .ok (.iadd, 1) := by decide +kernel
theorem dX12_isOpen_48 : decode cX12_isOpen 48 = .ok (.istore 7, 2) := by decide +kernel
theorem dX12_isOpen_50 : decode cX12_isOpen 50 = .ok (.aload_n 0, 1) := by decide +kernel
theorem dX12_isOpen_51 : decode cX12_isOpen 51 = .ok (.iload 4, 2) := by decide +kernel
theorem dX12_isOpen_53 : decode cX12_isOpen 53 = .ok (.iload 5, 2) := by decide +kernel
theorem dX12_isOpen_55 : decode cX12_isOpen 55 = .ok (.iload 6, 2) := by decide +kernel
theorem dX12_isOpen_57 : decode cX12_isOpen 57 = .ok (.iload 7, 2) := by decide +kernel
theorem dX12_isOpen_59 : decode cX12_isOpen 59 = .ok (.invokevirtual 186, 3) := by decide +kernel
theorem dX12_isOpen_62 : decode cX12_isOpen 62 = .ok (.ifCond .eq 37, 3) := by decide +kernel
theorem dX12_isOpen_65 : decode cX12_isOpen 65 = .ok (.aload_n 0, 1) := by decide +kernel
theorem dX12_isOpen_66 : decode cX12_isOpen 66 = .ok (.iload_n 1, 1) := by decide +kernel
theorem dX12_isOpen_67 : decode cX12_isOpen 67 = .ok (.iload 6, 2) := by decide +kernel
theorem dX12_isOpen_69 : decode cX12_isOpen 69 = .ok (.iload 7, 2) := by decide +kernel
theorem dX12_isOpen_71 : decode cX12_isOpen 71 = .ok (.invokevirtual 174, 3) := by decide +kernel
theorem dX12_isOpen_74 : decode cX12_isOpen 74 = .ok (.ifCond .eq 25, 3) := by decide +kernel
theorem dX12_isOpen_77 : decode cX12_isOpen 77 = .ok (.aload_n 0, 1) := by decide +kernel
theorem dX12_isOpen_78 : decode cX12_isOpen 78 = .ok (.iload 4, 2) := by decide +kernel
theorem dX12_isOpen_80 : decode cX12_isOpen 80 = .ok (.iload 5, 2) := by decide +kernel
theorem dX12_isOpen_82 : decode cX12_isOpen 82 = .ok (.iload 6, 2) := by decide +kernel
theorem dX12_isOpen_84 : decode cX12_isOpen 84 = .ok (.iload 7, 2) := by decide +kernel
theorem dX12_isOpen_86 : decode cX12_isOpen 86 = .ok (.iload_n 1, 1) := by decide +kernel
theorem dX12_isOpen_87 : decode cX12_isOpen 87 = .ok (.bipush (-4), 2) := by decide +kernel
theorem dX12_isOpen_89 : decode cX12_isOpen 89 = .ok (.invokevirtual 194, 3) := by decide +kernel
theorem dX12_isOpen_92 : decode cX12_isOpen 92 = .ok (.ifCond .eq 7, 3) := by decide +kernel
theorem dX12_isOpen_95 : decode cX12_isOpen 95 = .ok (.iconst 1, 1) := by decide +kernel
theorem dX12_isOpen_96 : decode cX12_isOpen 96 = .ok (.goto 4, 3) := by decide +kernel
theorem dX12_isOpen_99 : decode cX12_isOpen 99 = .ok (.iconst 0, 1) := by decide +kernel
theorem dX12_isOpen_100 : decode cX12_isOpen 100 = .ok (.istore_n 2, 1) := by decide +kernel
theorem dX12_isOpen_101 : decode cX12_isOpen 101 = .ok (.iinc 3 1, 3) := by decide +kernel
theorem dX12_isOpen_104 : decode cX12_isOpen 104 = .ok (.goto (-100), 3) := by decide +kernel
theorem dX12_isOpen_107 : decode cX12_isOpen 107 = .ok (.iload_n 2, 1) := by decide +kernel
theorem dX12_isOpen_108 : decode cX12_isOpen 108 = .ok (.ireturn, 1) := by decide +kernel
theorem dX12_open_0 : decode cX12_open 0 = .ok (.iconst 0, 1) := by decide +kernel
theorem dX12_open_1 : decode cX12_open 1 = .ok (.istore_n 1, 1) := by decide +kernel
theorem dX12_open_2 : decode cX12_open 2 = .ok (.iconst 0, 1) := by decide +kernel
theorem dX12_open_3 : decode cX12_open 3 = .ok (.istore_n 2, 1) := by decide +kernel
theorem dX12_open_4 : decode cX12_open 4 = .ok (.iload_n 2, 1) := by decide +kernel
theorem dX12_open_5 : decode cX12_open 5 = .ok (.aload_n 0, 1) := by decide +kernel
theorem dX12_open_6 : decode cX12_open 6 = .ok (.getfield 166, 3) := by decide +kernel
theorem dX12_open_9 : decode cX12_open 9 = .ok (.if_icmp .ge 27, 3) := by decide +kernel
theorem dX12_open_12 : decode cX12_open 12 = .ok (.iload_n 1, 1) := by decide +kernel
theorem dX12_open_13 : decode cX12_open 13 = .ok (.aload_n 0, 1) := by decide +kernel
theorem dX12_open_14 : decode cX12_open 14 = .ok (.iload_n 2, 1) := by decide +kernel
theorem dX12_open_15 : decode cX12_open 15 = .ok (.invokevirtual 198, 3) := by decide +kernel
theorem dX12_open_18 : decode cX12_open 18 = .ok (.ifCond .eq 9, 3) := by decide +kernel
theorem dX12_open_21 : decode cX12_open 21 = .ok (.iconst 1, 1) := by decide +kernel
theorem dX12_open_22 : decode cX12_open 22 = .ok (.iload_n 2, 1) := by decide +kernel
theorem dX12_open_23 : decode cX12_open 23 = .ok (.ishl, 1) := by decide +kernel
theorem dX12_open_24 : decode cX12_open 24 = .ok (.goto 4, 3) := by decide +kernel
theorem dX12_open_27 : decode cX12_open 27 = .ok (.iconst 0, 1) := by decide +kernel
theorem dX12_open_28 : decode cX12_open 28 = .ok (.ior, 1) := by decide +kernel
theorem dX12_open_29 : decode cX12_open 29 = .ok (.istore_n 1, 1) := by decide +kernel
theorem dX12_open_30 : decode cX12_open 30 = .ok (.iinc 2 1, 3) := by decide +kernel
theorem dX12_open_33 : decode cX12_open 33 = .ok (.goto (-29), 3) := by decide +kernel
theorem dX12_open_36 : decode cX12_open 36 = .ok (.iload_n 1, 1) := by decide +kernel
theorem dX12_open_37 : decode cX12_open 37 = .ok (.ireturn, 1) := by decide +kernel
theorem dX12_blockAt_0 : decode cX12_blockAt 0 = .ok (.sipush 512, 3) := by decide +kernel
theorem dX12_blockAt_3 : decode cX12_blockAt 3 = .ok (.iload_n 3, 1) := by decide +kernel
theorem dX12_blockAt_4 : decode cX12_blockAt 4 = .ok (.iconst 1, 1) := by decide +kernel
theorem dX12_blockAt_5 : decode cX12_blockAt 5 = .ok (.isub, 1) := by decide +kernel
theorem dX12_blockAt_6 : decode cX12_blockAt 6 = .ok (.imul, 1) := by decide +kernel
theorem dX12_blockAt_7 : decode cX12_blockAt 7 = .ok (.bipush 64, 2) := by decide +kernel
theorem dX12_blockAt_9 : decode cX12_blockAt 9 = .ok (.iload_n 2, 1) := by decide +kernel
theorem dX12_blockAt_10 : decode cX12_blockAt 10 = .ok (.iconst 1, 1) := by decide +kernel
theorem dX12_blockAt_11 : decode cX12_blockAt 11 = .ok (.isub, 1) := by decide +kernel
theorem dX12_blockAt_12 : decode cX12_blockAt 12 = .ok (.imul, 1) := by decide +kernel
theorem dX12_blockAt_13 : decode cX12_blockAt 13 = .ok (.iadd, 1) := by decide +kernel
theorem dX12_blockAt_14 : decode cX12_blockAt 14 = .ok (.bipush 8, 2) := by decide +kernel
theorem dX12_blockAt_16 : decode cX12_blockAt 16 = .ok (.iload_n 1, 1) := by decide +kernel
theorem dX12_blockAt_17 : decode cX12_blockAt 17 = .ok (.imul, 1) := by decide +kernel
theorem dX12_blockAt_18 : decode cX12_blockAt 18 = .ok (.iadd, 1) := by decide +kernel
theorem dX12_blockAt_19 : decode cX12_blockAt 19 = .ok (.iload_n 0, 1) := by decide +kernel
theorem dX12_blockAt_20 : decode cX12_blockAt 20 = .ok (.iadd, 1) := by decide +kernel
theorem dX12_blockAt_21 : decode cX12_blockAt 21 = .ok (.ireturn, 1) := by decide +kernel
theorem dX12_bringsOf_0 : decode cX12_bringsOf 0 = .ok (.aload_n 0, 1) := by decide +kernel
theorem dX12_bringsOf_1 : decode cX12_bringsOf 1 = .ok (.iload 5, 2) := by decide +kernel
theorem dX12_bringsOf_3 : decode cX12_bringsOf 3 = .ok (.iload_n 3, 1) := by decide +kernel
theorem dX12_bringsOf_4 : decode cX12_bringsOf 4 = .ok (.iload 4, 2) := by decide +kernel
theorem dX12_bringsOf_6 : decode cX12_bringsOf 6 = .ok (.invokevirtual 174, 3) := by decide +kernel
theorem dX12_bringsOf_9 : decode cX12_bringsOf 9 = .ok (.ifCond .ne 6, 3) := by decide +kernel
theorem dX12_bringsOf_12 : decode cX12_bringsOf 12 = .ok (.bipush (-4), 2) := by decide +kernel
theorem dX12_bringsOf_14 : decode cX12_bringsOf 14 = .ok (.ireturn, 1) := by decide +kernel
theorem dX12_bringsOf_15 : decode cX12_bringsOf 15 = .ok (.iload 6, 2) := by decide +kernel
theorem dX12_bringsOf_17 : decode cX12_bringsOf 17 = .ok (.bipush (-2), 2) := by decide +kernel
theorem dX12_bringsOf_19 : decode cX12_bringsOf 19 = .ok (.if_icmp .eq 32, 3) := by decide +kernel
theorem dX12_bringsOf_22 : decode cX12_bringsOf 22 = .ok (.aload_n 0, 1) := by decide +kernel
theorem dX12_bringsOf_23 : decode cX12_bringsOf 23 = .ok (.iload_n 1, 1) := by decide +kernel
theorem dX12_bringsOf_24 : decode cX12_bringsOf 24 = .ok (.iload_n 2, 1) := by decide +kernel
theorem dX12_bringsOf_25 : decode cX12_bringsOf 25 = .ok (.iload_n 3, 1) := by decide +kernel
theorem dX12_bringsOf_26 : decode cX12_bringsOf 26 = .ok (.iload 4, 2) := by decide +kernel
theorem dX12_bringsOf_28 : decode cX12_bringsOf 28 = .ok (.iload 5, 2) := by decide +kernel
theorem dX12_bringsOf_30 : decode cX12_bringsOf 30 = .ok (.iload 6, 2) := by decide +kernel
theorem dX12_bringsOf_32 : decode cX12_bringsOf 32 = .ok (.invokevirtual 194, 3) := by decide +kernel
theorem dX12_bringsOf_35 : decode cX12_bringsOf 35 = .ok (.ifCond .eq 13, 3) := by decide +kernel
theorem dX12_bringsOf_38 : decode cX12_bringsOf 38 = .ok (.aload_n 0, 1) := by decide +kernel
theorem dX12_bringsOf_39 : decode cX12_bringsOf 39 = .ok (.getfield 39, 3) := by decide +kernel
theorem dX12_bringsOf_42 : decode cX12_bringsOf 42 = .ok (.iload 5, 2) := by decide +kernel
theorem dX12_bringsOf_44 : decode cX12_bringsOf 44 = .ok (.iaload, 1) := by decide +kernel
theorem dX12_bringsOf_45 : decode cX12_bringsOf 45 = .ok (.goto 5, 3) := by decide +kernel
theorem dX12_bringsOf_48 : decode cX12_bringsOf 48 = .ok (.bipush (-4), 2) := by decide +kernel
theorem dX12_bringsOf_50 : decode cX12_bringsOf 50 = .ok (.ireturn, 1) := by decide +kernel
theorem dX12_bringsOf_51 : decode cX12_bringsOf 51 = .ok (.iconst 0, 1) := by decide +kernel
theorem dX12_bringsOf_52 : decode cX12_bringsOf 52 = .ok (.istore 7, 2) := by decide +kernel
theorem dX12_bringsOf_54 : decode cX12_bringsOf 54 = .ok (.iconst 0, 1) := by decide +kernel
theorem dX12_bringsOf_55 : decode cX12_bringsOf 55 = .ok (.istore 8, 2) := by decide +kernel
theorem dX12_bringsOf_57 : decode cX12_bringsOf 57 = .ok (.iload 8, 2) := by decide +kernel
theorem dX12_bringsOf_59 : decode cX12_bringsOf 59 = .ok (.aload_n 0, 1) := by decide +kernel
theorem dX12_bringsOf_60 : decode cX12_bringsOf 60 = .ok (.getfield 158, 3) := by decide +kernel
theorem dX12_bringsOf_63 : decode cX12_bringsOf 63 = .ok (.if_icmp .ge 41, 3) := by decide +kernel
theorem dX12_bringsOf_66 : decode cX12_bringsOf 66 = .ok (.iload 7, 2) := by decide +kernel
theorem dX12_bringsOf_68 : decode cX12_bringsOf 68 = .ok (.aload_n 0, 1) := by decide +kernel
theorem dX12_bringsOf_69 : decode cX12_bringsOf 69 = .ok (.iload_n 1, 1) := by decide +kernel
theorem dX12_bringsOf_70 : decode cX12_bringsOf 70 = .ok (.iload_n 2, 1) := by decide +kernel
theorem dX12_bringsOf_71 : decode cX12_bringsOf 71 = .ok (.iload_n 3, 1) := by decide +kernel
theorem dX12_bringsOf_72 : decode cX12_bringsOf 72 = .ok (.iload 4, 2) := by decide +kernel
theorem dX12_bringsOf_74 : decode cX12_bringsOf 74 = .ok (.iload 5, 2) := by decide +kernel
theorem dX12_bringsOf_76 : decode cX12_bringsOf 76 = .ok (.iload 8, 2) := by decide +kernel
theorem dX12_bringsOf_78 : decode cX12_bringsOf 78 = .ok (.invokevirtual 194, 3) := by decide +kernel
theorem dX12_bringsOf_81 : decode cX12_bringsOf 81 = .ok (.ifCond .eq 13, 3) := by decide +kernel
theorem dX12_bringsOf_84 : decode cX12_bringsOf 84 = .ok (.aload_n 0, 1) := by decide +kernel
theorem dX12_bringsOf_85 : decode cX12_bringsOf 85 = .ok (.getfield 39, 3) := by decide +kernel
theorem dX12_bringsOf_88 : decode cX12_bringsOf 88 = .ok (.iload 5, 2) := by decide +kernel
theorem dX12_bringsOf_90 : decode cX12_bringsOf 90 = .ok (.iaload, 1) := by decide +kernel
theorem dX12_bringsOf_91 : decode cX12_bringsOf 91 = .ok (.goto 4, 3) := by decide +kernel
theorem dX12_bringsOf_94 : decode cX12_bringsOf 94 = .ok (.iconst 0, 1) := by decide +kernel
theorem dX12_bringsOf_95 : decode cX12_bringsOf 95 = .ok (.iadd, 1) := by decide +kernel
theorem dX12_bringsOf_96 : decode cX12_bringsOf 96 = .ok (.istore 7, 2) := by decide +kernel
theorem dX12_bringsOf_98 : decode cX12_bringsOf 98 = .ok (.iinc 8 1, 3) := by decide +kernel
theorem dX12_bringsOf_101 : decode cX12_bringsOf 101 = .ok (.goto (-44), 3) := by decide +kernel
theorem dX12_bringsOf_104 : decode cX12_bringsOf 104 = .ok (.iload 7, 2) := by decide +kernel
theorem dX12_bringsOf_106 : decode cX12_bringsOf 106 = .ok (.ireturn, 1) := by decide +kernel
theorem dX12_fills_0 : decode cX12_fills 0 = .ok (.iconst 1, 1) := by decide +kernel
theorem dX12_fills_1 : decode cX12_fills 1 = .ok (.istore_n 2, 1) := by decide +kernel
theorem dX12_fills_2 : decode cX12_fills 2 = .ok (.iload_n 2, 1) := by decide +kernel
theorem dX12_fills_3 : decode cX12_fills 3 = .ok (.aload_n 0, 1) := by decide +kernel
theorem dX12_fills_4 : decode cX12_fills 4 = .ok (.getfield 13, 3) := by decide +kernel
theorem dX12_fills_7 : decode cX12_fills 7 = .ok (.if_icmp .gt 271, 3) := by decide +kernel
theorem dX12_fills_10 : decode cX12_fills 10 = .ok (.iconst 1, 1) := by decide +kernel
theorem dX12_fills_11 : decode cX12_fills 11 = .ok (.istore_n 3, 1) := by decide +kernel
theorem dX12_fills_12 : decode cX12_fills 12 = .ok (.iload_n 3, 1) := by decide +kernel
theorem dX12_fills_13 : decode cX12_fills 13 = .ok (.aload_n 0, 1) := by decide +kernel
theorem dX12_fills_14 : decode cX12_fills 14 = .ok (.getfield 7, 3) := by decide +kernel
theorem dX12_fills_17 : decode cX12_fills 17 = .ok (.if_icmp .gt 255, 3) := by decide +kernel
theorem dX12_fills_20 : decode cX12_fills 20 = .ok (.iconst 0, 1) := by decide +kernel
theorem dX12_fills_21 : decode cX12_fills 21 = .ok (.istore 4, 2) := by decide +kernel
theorem dX12_fills_23 : decode cX12_fills 23 = .ok (.iload 4, 2) := by decide +kernel
theorem dX12_fills_25 : decode cX12_fills 25 = .ok (.iload_n 2, 1) := by decide +kernel
theorem dX12_fills_26 : decode cX12_fills 26 = .ok (.iadd, 1) := by decide +kernel
theorem dX12_fills_27 : decode cX12_fills 27 = .ok (.aload_n 0, 1) := by decide +kernel
theorem dX12_fills_28 : decode cX12_fills 28 = .ok (.getfield 13, 3) := by decide +kernel
theorem dX12_fills_31 : decode cX12_fills 31 = .ok (.if_icmp .gt 235, 3) := by decide +kernel
theorem dX12_fills_34 : decode cX12_fills 34 = .ok (.iconst 0, 1) := by decide +kernel
theorem dX12_fills_35 : decode cX12_fills 35 = .ok (.istore 5, 2) := by decide +kernel
theorem dX12_fills_37 : decode cX12_fills 37 = .ok (.iload 5, 2) := by decide +kernel
theorem dX12_fills_39 : decode cX12_fills 39 = .ok (.iload_n 3, 1) := by decide +kernel
theorem dX12_fills_40 : decode cX12_fills 40 = .ok (.iadd, 1) := by decide +kernel
theorem dX12_fills_41 : decode cX12_fills 41 = .ok (.aload_n 0, 1) := by decide +kernel
theorem dX12_fills_42 : decode cX12_fills 42 = .ok (.getfield 7, 3) := by decide +kernel
theorem dX12_fills_45 : decode cX12_fills 45 = .ok (.if_icmp .gt 215, 3) := by decide +kernel
theorem dX12_fills_48 : decode cX12_fills 48 = .ok (.iconst 0, 1) := by decide +kernel
theorem dX12_fills_49 : decode cX12_fills 49 = .ok (.istore 6, 2) := by decide +kernel
theorem dX12_fills_51 : decode cX12_fills 51 = .ok (.iconst 0, 1) := by decide +kernel
theorem dX12_fills_52 : decode cX12_fills 52 = .ok (.istore 7, 2) := by decide +kernel
theorem dX12_fills_54 : decode cX12_fills 54 = .ok (.iload 7, 2) := by decide +kernel
theorem dX12_fills_56 : decode cX12_fills 56 = .ok (.aload_n 0, 1) := by decide +kernel
theorem dX12_fills_57 : decode cX12_fills 57 = .ok (.getfield 166, 3) := by decide +kernel
theorem dX12_fills_60 : decode cX12_fills 60 = .ok (.if_icmp .ge 40, 3) := by decide +kernel
theorem dX12_fills_63 : decode cX12_fills 63 = .ok (.aload_n 0, 1) := by decide +kernel
theorem dX12_fills_64 : decode cX12_fills 64 = .ok (.iload 5, 2) := by decide +kernel
theorem dX12_fills_66 : decode cX12_fills 66 = .ok (.iload 4, 2) := by decide +kernel
theorem dX12_fills_68 : decode cX12_fills 68 = .ok (.iload_n 3, 1) := by decide +kernel
theorem dX12_fills_69 : decode cX12_fills 69 = .ok (.iload_n 2, 1) := by decide +kernel
theorem dX12_fills_70 : decode cX12_fills 70 = .ok (.iload 7, 2) := by decide +kernel
theorem dX12_fills_72 : decode cX12_fills 72 = .ok (.iload_n 1, 1) := by decide +kernel
theorem dX12_fills_73 : decode cX12_fills 73 = .ok (.invokevirtual 201, 3) := by decide +kernel
theorem dX12_fills_76 : decode cX12_fills 76 = .ok (.istore 8, 2) := by decide +kernel
theorem dX12_fills_78 : decode cX12_fills 78 = .ok (.iload 8, 2) := by decide +kernel
theorem dX12_fills_80 : decode cX12_fills 80 = .ok (.iload 6, 2) := by decide +kernel
theorem dX12_fills_82 : decode cX12_fills 82 = .ok (.if_icmp .le 8, 3) := by decide +kernel
theorem dX12_fills_85 : decode cX12_fills 85 = .ok (.iload 8, 2) := by decide +kernel
theorem dX12_fills_87 : decode cX12_fills 87 = .ok (.goto 5, 3) := by decide +kernel
theorem dX12_fills_90 : decode cX12_fills 90 = .ok (.iload 6, 2) := by decide +kernel
theorem dX12_fills_92 : decode cX12_fills 92 = .ok (.istore 6, 2) := by decide +kernel
theorem dX12_fills_94 : decode cX12_fills 94 = .ok (.iinc 7 1, 3) := by decide +kernel
theorem dX12_fills_97 : decode cX12_fills 97 = .ok (.goto (-43), 3) := by decide +kernel
theorem dX12_fills_100 : decode cX12_fills 100 = .ok (.iconst 1, 1) := by decide +kernel
theorem dX12_fills_101 : decode cX12_fills 101 = .ok (.istore 7, 2) := by decide +kernel
theorem dX12_fills_103 : decode cX12_fills 103 = .ok (.iload 7, 2) := by decide +kernel
theorem dX12_fills_105 : decode cX12_fills 105 = .ok (.iload_n 3, 1) := by decide +kernel
theorem dX12_fills_106 : decode cX12_fills 106 = .ok (.if_icmp .ge 63, 3) := by decide +kernel
theorem dX12_fills_109 : decode cX12_fills 109 = .ok (.aload_n 0, 1) := by decide +kernel
theorem dX12_fills_110 : decode cX12_fills 110 = .ok (.getfield 48, 3) := by decide +kernel
theorem dX12_fills_113 : decode cX12_fills 113 = .ok (.iload 5, 2) := by decide +kernel
theorem dX12_fills_115 : decode cX12_fills 115 = .ok (.iload 4, 2) := by decide +kernel
theorem dX12_fills_117 : decode cX12_fills 117 = .ok (.iload 7, 2) := by decide +kernel
theorem dX12_fills_119 : decode cX12_fills 119 = .ok (.iload_n 2, 1) := by decide +kernel
theorem dX12_fills_120 : decode cX12_fills 120 = .ok (.invokestatic 205, 3) := by decide +kernel
theorem dX12_fills_123 : decode cX12_fills 123 = .ok (.iaload, 1) := by decide +kernel
theorem dX12_fills_124 : decode cX12_fills 124 = .ok (.aload_n 0, 1) := by decide +kernel
theorem dX12_fills_125 : decode cX12_fills 125 = .ok (.getfield 48, 3) := by decide +kernel
theorem dX12_fills_128 : decode cX12_fills 128 = .ok (.iload 5, 2) := by decide +kernel
theorem dX12_fills_130 : decode cX12_fills 130 = .ok (.iload 7, 2) := by decide +kernel
theorem dX12_fills_132 : decode cX12_fills 132 = .ok (.iadd, 1) := by decide +kernel
theorem dX12_fills_133 : decode cX12_fills 133 = .ok (.iload 4, 2) := by decide +kernel
theorem dX12_fills_135 : decode cX12_fills 135 = .ok (.iload_n 3, 1) := by decide +kernel
theorem dX12_fills_136 : decode cX12_fills 136 = .ok (.iload 7, 2) := by decide +kernel
theorem dX12_fills_138 : decode cX12_fills 138 = .ok (.isub, 1) := by decide +kernel
theorem dX12_fills_139 : decode cX12_fills 139 = .ok (.iload_n 2, 1) := by decide +kernel
theorem dX12_fills_140 : decode cX12_fills 140 = .ok (.invokestatic 205, 3) := by decide +kernel
theorem dX12_fills_143 : decode cX12_fills 143 = .ok (.iaload, 1) := by decide +kernel
theorem dX12_fills_144 : decode cX12_fills 144 = .ok (.iadd, 1) := by decide +kernel
theorem dX12_fills_145 : decode cX12_fills 145 = .ok (.istore 8, 2) := by decide +kernel
theorem dX12_fills_147 : decode cX12_fills 147 = .ok (.iload 8, 2) := by decide +kernel
theorem dX12_fills_149 : decode cX12_fills 149 = .ok (.iload 6, 2) := by decide +kernel
theorem dX12_fills_151 : decode cX12_fills 151 = .ok (.if_icmp .le 8, 3) := by decide +kernel
theorem dX12_fills_154 : decode cX12_fills 154 = .ok (.iload 8, 2) := by decide +kernel
theorem dX12_fills_156 : decode cX12_fills 156 = .ok (.goto 5, 3) := by decide +kernel
theorem dX12_fills_159 : decode cX12_fills 159 = .ok (.iload 6, 2) := by decide +kernel
theorem dX12_fills_161 : decode cX12_fills 161 = .ok (.istore 6, 2) := by decide +kernel
theorem dX12_fills_163 : decode cX12_fills 163 = .ok (.iinc 7 1, 3) := by decide +kernel
theorem dX12_fills_166 : decode cX12_fills 166 = .ok (.goto (-63), 3) := by decide +kernel
theorem dX12_fills_169 : decode cX12_fills 169 = .ok (.iconst 1, 1) := by decide +kernel
theorem dX12_fills_170 : decode cX12_fills 170 = .ok (.istore 7, 2) := by decide +kernel
theorem dX12_fills_172 : decode cX12_fills 172 = .ok (.iload 7, 2) := by decide +kernel
theorem dX12_fills_174 : decode cX12_fills 174 = .ok (.iload_n 2, 1) := by decide +kernel
theorem dX12_fills_175 : decode cX12_fills 175 = .ok (.if_icmp .ge 63, 3) := by decide +kernel
theorem dX12_fills_178 : decode cX12_fills 178 = .ok (.aload_n 0, 1) := by decide +kernel
theorem dX12_fills_179 : decode cX12_fills 179 = .ok (.getfield 48, 3) := by decide +kernel
theorem dX12_fills_182 : decode cX12_fills 182 = .ok (.iload 5, 2) := by decide +kernel
theorem dX12_fills_184 : decode cX12_fills 184 = .ok (.iload 4, 2) := by decide +kernel
theorem dX12_fills_186 : decode cX12_fills 186 = .ok (.iload_n 3, 1) := by decide +kernel
theorem dX12_fills_187 : decode cX12_fills 187 = .ok (.iload 7, 2) := by decide +kernel
theorem dX12_fills_189 : decode cX12_fills 189 = .ok (.invokestatic 205, 3) := by decide +kernel
theorem dX12_fills_192 : decode cX12_fills 192 = .ok (.iaload, 1) := by decide +kernel
theorem dX12_fills_193 : decode cX12_fills 193 = .ok (.aload_n 0, 1) := by decide +kernel
theorem dX12_fills_194 : decode cX12_fills 194 = .ok (.getfield 48, 3) := by decide +kernel
theorem dX12_fills_197 : decode cX12_fills 197 = .ok (.iload 5, 2) := by decide +kernel
theorem dX12_fills_199 : decode cX12_fills 199 = .ok (.iload 4, 2) := by decide +kernel
theorem dX12_fills_201 : decode cX12_fills 201 = .ok (.iload 7, 2) := by decide +kernel
theorem dX12_fills_203 : decode cX12_fills 203 = .ok (.iadd, 1) := by decide +kernel
theorem dX12_fills_204 : decode cX12_fills 204 = .ok (.iload_n 3, 1) := by decide +kernel
theorem dX12_fills_205 : decode cX12_fills 205 = .ok (.iload_n 2, 1) := by decide +kernel
theorem dX12_fills_206 : decode cX12_fills 206 = .ok (.iload 7, 2) := by decide +kernel
theorem dX12_fills_208 : decode cX12_fills 208 = .ok (.isub, 1) := by decide +kernel
theorem dX12_fills_209 : decode cX12_fills 209 = .ok (.invokestatic 205, 3) := by decide +kernel
theorem dX12_fills_212 : decode cX12_fills 212 = .ok (.iaload, 1) := by decide +kernel
theorem dX12_fills_213 : decode cX12_fills 213 = .ok (.iadd, 1) := by decide +kernel
theorem dX12_fills_214 : decode cX12_fills 214 = .ok (.istore 8, 2) := by decide +kernel
theorem dX12_fills_216 : decode cX12_fills 216 = .ok (.iload 8, 2) := by decide +kernel
theorem dX12_fills_218 : decode cX12_fills 218 = .ok (.iload 6, 2) := by decide +kernel
theorem dX12_fills_220 : decode cX12_fills 220 = .ok (.if_icmp .le 8, 3) := by decide +kernel
theorem dX12_fills_223 : decode cX12_fills 223 = .ok (.iload 8, 2) := by decide +kernel
theorem dX12_fills_225 : decode cX12_fills 225 = .ok (.goto 5, 3) := by decide +kernel
theorem dX12_fills_228 : decode cX12_fills 228 = .ok (.iload 6, 2) := by decide +kernel
theorem dX12_fills_230 : decode cX12_fills 230 = .ok (.istore 6, 2) := by decide +kernel
theorem dX12_fills_232 : decode cX12_fills 232 = .ok (.iinc 7 1, 3) := by decide +kernel
theorem dX12_fills_235 : decode cX12_fills 235 = .ok (.goto (-63), 3) := by decide +kernel
theorem dX12_fills_238 : decode cX12_fills 238 = .ok (.aload_n 0, 1) := by decide +kernel
theorem dX12_fills_239 : decode cX12_fills 239 = .ok (.getfield 48, 3) := by decide +kernel
theorem dX12_fills_242 : decode cX12_fills 242 = .ok (.iload 5, 2) := by decide +kernel
theorem dX12_fills_244 : decode cX12_fills 244 = .ok (.iload 4, 2) := by decide +kernel
theorem dX12_fills_246 : decode cX12_fills 246 = .ok (.iload_n 3, 1) := by decide +kernel
theorem dX12_fills_247 : decode cX12_fills 247 = .ok (.iload_n 2, 1) := by decide +kernel
theorem dX12_fills_248 : decode cX12_fills 248 = .ok (.invokestatic 205, 3) := by decide +kernel
theorem dX12_fills_251 : decode cX12_fills 251 = .ok (.iload 6, 2) := by decide +kernel
theorem dX12_fills_253 : decode cX12_fills 253 = .ok (.iastore, 1) := by decide +kernel
theorem dX12_fills_254 : decode cX12_fills 254 = .ok (.iinc 5 1, 3) := by decide +kernel
theorem dX12_fills_257 : decode cX12_fills 257 = .ok (.goto (-220), 3) := by decide +kernel
theorem dX12_fills_260 : decode cX12_fills 260 = .ok (.iinc 4 1, 3) := by decide +kernel
theorem dX12_fills_263 : decode cX12_fills 263 = .ok (.goto (-240), 3) := by decide +kernel
theorem dX12_fills_266 : decode cX12_fills 266 = .ok (.iinc 3 1, 3) := by decide +kernel
theorem dX12_fills_269 : decode cX12_fills 269 = .ok (.goto (-257), 3) := by decide +kernel
theorem dX12_fills_272 : decode cX12_fills 272 = .ok (.iinc 2 1, 3) := by decide +kernel
theorem dX12_fills_275 : decode cX12_fills 275 = .ok (.goto (-273), 3) := by decide +kernel
theorem dX12_fills_278 : decode cX12_fills 278 = .ok (.return_, 1) := by decide +kernel
theorem dX12_mostOfAll_0 : decode cX12_mostOfAll 0 = .ok (.aload_n 0, 1) := by decide +kernel
theorem dX12_mostOfAll_1 : decode cX12_mostOfAll 1 = .ok (.iload_n 1, 1) := by decide +kernel
theorem dX12_mostOfAll_2 : decode cX12_mostOfAll 2 = .ok (.invokevirtual 208, 3) := by decide +kernel
theorem dX12_mostOfAll_5 : decode cX12_mostOfAll 5 = .ok (.aload_n 0, 1) := by decide +kernel
theorem dX12_mostOfAll_6 : decode cX12_mostOfAll 6 = .ok (.getfield 48, 3) := by decide +kernel
theorem dX12_mostOfAll_9 : decode cX12_mostOfAll 9 = .ok (.iconst 0, 1) := by decide +kernel
theorem dX12_mostOfAll_10 : decode cX12_mostOfAll 10 = .ok (.iconst 0, 1) := by decide +kernel
theorem dX12_mostOfAll_11 : decode cX12_mostOfAll 11 = .ok (.aload_n 0, 1) := by decide +kernel
theorem dX12_mostOfAll_12 : decode cX12_mostOfAll 12 = .ok (.getfield 7, 3) := by decide +kernel
theorem dX12_mostOfAll_15 : decode cX12_mostOfAll 15 = .ok (.aload_n 0, 1) := by decide +kernel
theorem dX12_mostOfAll_16 : decode cX12_mostOfAll 16 = .ok (.getfield 13, 3) := by decide +kernel
theorem dX12_mostOfAll_19 : decode cX12_mostOfAll 19 = .ok (.invokestatic 205, 3) := by decide +kernel
theorem dX12_mostOfAll_22 : decode cX12_mostOfAll 22 = .ok (.iaload, 1) := by decide +kernel
theorem dX12_mostOfAll_23 : decode cX12_mostOfAll 23 = .ok (.ireturn, 1) := by decide +kernel
theorem dX12_most_0 : decode cX12_most 0 = .ok (.aload_n 0, 1) := by decide +kernel
theorem dX12_most_1 : decode cX12_most 1 = .ok (.iload_n 1, 1) := by decide +kernel
theorem dX12_most_2 : decode cX12_most 2 = .ok (.iload_n 2, 1) := by decide +kernel
theorem dX12_most_3 : decode cX12_most 3 = .ok (.iload_n 3, 1) := by decide +kernel
theorem dX12_most_4 : decode cX12_most 4 = .ok (.iload 4, 2) := by decide +kernel
theorem dX12_most_6 : decode cX12_most 6 = .ok (.invokevirtual 186, 3) := by decide +kernel
theorem dX12_most_9 : decode cX12_most 9 = .ok (.ifCond .ne 5, 3) := by decide +kernel
theorem dX12_most_12 : decode cX12_most 12 = .ok (.iconst (-1), 1) := by decide +kernel
theorem dX12_most_13 : decode cX12_most 13 = .ok (.ireturn, 1) := by decide +kernel
theorem dX12_most_14 : decode cX12_most 14 = .ok (.aload_n 0, 1) := by decide +kernel
theorem dX12_most_15 : decode cX12_most 15 = .ok (.iconst (-1), 1) := by decide +kernel
theorem dX12_most_16 : decode cX12_most 16 = .ok (.invokevirtual 208, 3) := by decide +kernel
theorem dX12_most_19 : decode cX12_most 19 = .ok (.aload_n 0, 1) := by decide +kernel
theorem dX12_most_20 : decode cX12_most 20 = .ok (.getfield 48, 3) := by decide +kernel
theorem dX12_most_23 : decode cX12_most 23 = .ok (.iload_n 1, 1) := by decide +kernel
theorem dX12_most_24 : decode cX12_most 24 = .ok (.iload_n 2, 1) := by decide +kernel
theorem dX12_most_25 : decode cX12_most 25 = .ok (.iload_n 3, 1) := by decide +kernel
theorem dX12_most_26 : decode cX12_most 26 = .ok (.iload 4, 2) := by decide +kernel
theorem dX12_most_28 : decode cX12_most 28 = .ok (.invokestatic 205, 3) := by decide +kernel
theorem dX12_most_31 : decode cX12_most 31 = .ok (.iaload, 1) := by decide +kernel
theorem dX12_most_32 : decode cX12_most 32 = .ok (.ireturn, 1) := by decide +kernel
theorem dX12_deed_0 : decode cX12_deed 0 = .ok (.aload_n 0, 1) := by decide +kernel
theorem dX12_deed_1 : decode cX12_deed 1 = .ok (.getfield 48, 3) := by decide +kernel
theorem dX12_deed_4 : decode cX12_deed 4 = .ok (.iload_n 1, 1) := by decide +kernel
theorem dX12_deed_5 : decode cX12_deed 5 = .ok (.iload_n 2, 1) := by decide +kernel
theorem dX12_deed_6 : decode cX12_deed 6 = .ok (.iload_n 3, 1) := by decide +kernel
theorem dX12_deed_7 : decode cX12_deed 7 = .ok (.iload 4, 2) := by decide +kernel
theorem dX12_deed_9 : decode cX12_deed 9 = .ok (.invokestatic 205, 3) := by decide +kernel
theorem dX12_deed_12 : decode cX12_deed 12 = .ok (.iaload, 1) := by decide +kernel
theorem dX12_deed_13 : decode cX12_deed 13 = .ok (.istore 6, 2) := by decide +kernel
theorem dX12_deed_15 : decode cX12_deed 15 = .ok (.iload 6, 2) := by decide +kernel
theorem dX12_deed_17 : decode cX12_deed 17 = .ok (.ifCond .ne 6, 3) := by decide +kernel
theorem dX12_deed_20 : decode cX12_deed 20 = .ok (.bipush (-5), 2) := by decide +kernel
theorem dX12_deed_22 : decode cX12_deed 22 = .ok (.ireturn, 1) := by decide +kernel
theorem dX12_deed_23 : decode cX12_deed 23 = .ok (.iconst 0, 1) := by decide +kernel
theorem dX12_deed_24 : decode cX12_deed 24 = .ok (.istore 7, 2) := by decide +kernel
theorem dX12_deed_26 : decode cX12_deed 26 = .ok (.iload 7, 2) := by decide +kernel
theorem dX12_deed_28 : decode cX12_deed 28 = .ok (.aload_n 0, 1) := by decide +kernel
theorem dX12_deed_29 : decode cX12_deed 29 = .ok (.getfield 166, 3) := by decide +kernel
theorem dX12_deed_32 : decode cX12_deed 32 = .ok (.if_icmp .ge 30, 3) := by decide +kernel
theorem dX12_deed_35 : decode cX12_deed 35 = .ok (.aload_n 0, 1) := by decide +kernel
theorem dX12_deed_36 : decode cX12_deed 36 = .ok (.iload_n 1, 1) := by decide +kernel
theorem dX12_deed_37 : decode cX12_deed 37 = .ok (.iload_n 2, 1) := by decide +kernel
theorem dX12_deed_38 : decode cX12_deed 38 = .ok (.iload_n 3, 1) := by decide +kernel
theorem dX12_deed_39 : decode cX12_deed 39 = .ok (.iload 4, 2) := by decide +kernel
theorem dX12_deed_41 : decode cX12_deed 41 = .ok (.iload 7, 2) := by decide +kernel
theorem dX12_deed_43 : decode cX12_deed 43 = .ok (.iload 5, 2) := by decide +kernel
theorem dX12_deed_45 : decode cX12_deed 45 = .ok (.invokevirtual 201, 3) := by decide +kernel
theorem dX12_deed_48 : decode cX12_deed 48 = .ok (.iload 6, 2) := by decide +kernel
theorem dX12_deed_50 : decode cX12_deed 50 = .ok (.if_icmp .ne 6, 3) := by decide +kernel
theorem dX12_deed_53 : decode cX12_deed 53 = .ok (.iload 7, 2) := by decide +kernel
theorem dX12_deed_55 : decode cX12_deed 55 = .ok (.ireturn, 1) := by decide +kernel
theorem dX12_deed_56 : decode cX12_deed 56 = .ok (.iinc 7 1, 3) := by decide +kernel
theorem dX12_deed_59 : decode cX12_deed 59 = .ok (.goto (-33), 3) := by decide +kernel
theorem dX12_deed_62 : decode cX12_deed 62 = .ok (.iconst 1, 1) := by decide +kernel
theorem dX12_deed_63 : decode cX12_deed 63 = .ok (.istore 7, 2) := by decide +kernel
theorem dX12_deed_65 : decode cX12_deed 65 = .ok (.iload 7, 2) := by decide +kernel
theorem dX12_deed_67 : decode cX12_deed 67 = .ok (.iload_n 3, 1) := by decide +kernel
theorem dX12_deed_68 : decode cX12_deed 68 = .ok (.if_icmp .ge 54, 3) := by decide +kernel
theorem dX12_deed_71 : decode cX12_deed 71 = .ok (.aload_n 0, 1) := by decide +kernel
theorem dX12_deed_72 : decode cX12_deed 72 = .ok (.getfield 48, 3) := by decide +kernel
theorem dX12_deed_75 : decode cX12_deed 75 = .ok (.iload_n 1, 1) := by decide +kernel
theorem dX12_deed_76 : decode cX12_deed 76 = .ok (.iload_n 2, 1) := by decide +kernel
theorem dX12_deed_77 : decode cX12_deed 77 = .ok (.iload 7, 2) := by decide +kernel
theorem dX12_deed_79 : decode cX12_deed 79 = .ok (.iload 4, 2) := by decide +kernel
theorem dX12_deed_81 : decode cX12_deed 81 = .ok (.invokestatic 205, 3) := by decide +kernel
theorem dX12_deed_84 : decode cX12_deed 84 = .ok (.iaload, 1) := by decide +kernel
theorem dX12_deed_85 : decode cX12_deed 85 = .ok (.aload_n 0, 1) := by decide +kernel
theorem dX12_deed_86 : decode cX12_deed 86 = .ok (.getfield 48, 3) := by decide +kernel
theorem dX12_deed_89 : decode cX12_deed 89 = .ok (.iload_n 1, 1) := by decide +kernel
theorem dX12_deed_90 : decode cX12_deed 90 = .ok (.iload 7, 2) := by decide +kernel
theorem dX12_deed_92 : decode cX12_deed 92 = .ok (.iadd, 1) := by decide +kernel
theorem dX12_deed_93 : decode cX12_deed 93 = .ok (.iload_n 2, 1) := by decide +kernel
theorem dX12_deed_94 : decode cX12_deed 94 = .ok (.iload_n 3, 1) := by decide +kernel
theorem dX12_deed_95 : decode cX12_deed 95 = .ok (.iload 7, 2) := by decide +kernel
theorem dX12_deed_97 : decode cX12_deed 97 = .ok (.isub, 1) := by decide +kernel
theorem dX12_deed_98 : decode cX12_deed 98 = .ok (.iload 4, 2) := by decide +kernel
theorem dX12_deed_100 : decode cX12_deed 100 = .ok (.invokestatic 205, 3) := by decide +kernel
theorem dX12_deed_103 : decode cX12_deed 103 = .ok (.iaload, 1) := by decide +kernel
theorem dX12_deed_104 : decode cX12_deed 104 = .ok (.iadd, 1) := by decide +kernel
theorem dX12_deed_105 : decode cX12_deed 105 = .ok (.iload 6, 2) := by decide +kernel
theorem dX12_deed_107 : decode cX12_deed 107 = .ok (.if_icmp .ne 9, 3) := by decide +kernel
theorem dX12_deed_110 : decode cX12_deed 110 = .ok (.bipush 100, 2) := by decide +kernel
theorem dX12_deed_112 : decode cX12_deed 112 = .ok (.iload 7, 2) := by decide +kernel
theorem dX12_deed_114 : decode cX12_deed 114 = .ok (.iadd, 1) := by decide +kernel
theorem dX12_deed_115 : decode cX12_deed 115 = .ok (.ireturn, 1) := by decide +kernel
theorem dX12_deed_116 : decode cX12_deed 116 = .ok (.iinc 7 1, 3) := by decide +kernel
theorem dX12_deed_119 : decode cX12_deed 119 = .ok (.goto (-54), 3) := by decide +kernel
theorem dX12_deed_122 : decode cX12_deed 122 = .ok (.iconst 1, 1) := by decide +kernel
theorem dX12_deed_123 : decode cX12_deed 123 = .ok (.istore 7, 2) := by decide +kernel
theorem dX12_deed_125 : decode cX12_deed 125 = .ok (.aload_n 0, 1) := by decide +kernel
theorem dX12_deed_126 : decode cX12_deed 126 = .ok (.getfield 48, 3) := by decide +kernel
theorem dX12_deed_129 : decode cX12_deed 129 = .ok (.iload_n 1, 1) := by decide +kernel
theorem dX12_deed_130 : decode cX12_deed 130 = .ok (.iload_n 2, 1) := by decide +kernel
theorem dX12_deed_131 : decode cX12_deed 131 = .ok (.iload_n 3, 1) := by decide +kernel
theorem dX12_deed_132 : decode cX12_deed 132 = .ok (.iload 7, 2) := by decide +kernel
theorem dX12_deed_134 : decode cX12_deed 134 = .ok (.invokestatic 205, 3) := by decide +kernel
theorem dX12_deed_137 : decode cX12_deed 137 = .ok (.iaload, 1) := by decide +kernel
theorem dX12_deed_138 : decode cX12_deed 138 = .ok (.aload_n 0, 1) := by decide +kernel
theorem dX12_deed_139 : decode cX12_deed 139 = .ok (.getfield 48, 3) := by decide +kernel
theorem dX12_deed_142 : decode cX12_deed 142 = .ok (.iload_n 1, 1) := by decide +kernel
theorem dX12_deed_143 : decode cX12_deed 143 = .ok (.iload_n 2, 1) := by decide +kernel
theorem dX12_deed_144 : decode cX12_deed 144 = .ok (.iload 7, 2) := by decide +kernel
theorem dX12_deed_146 : decode cX12_deed 146 = .ok (.iadd, 1) := by decide +kernel
theorem dX12_deed_147 : decode cX12_deed 147 = .ok (.iload_n 3, 1) := by decide +kernel
theorem dX12_deed_148 : decode cX12_deed 148 = .ok (.iload 4, 2) := by decide +kernel
theorem dX12_deed_150 : decode cX12_deed 150 = .ok (.iload 7, 2) := by decide +kernel
theorem dX12_deed_152 : decode cX12_deed 152 = .ok (.isub, 1) := by decide +kernel
theorem dX12_deed_153 : decode cX12_deed 153 = .ok (.invokestatic 205, 3) := by decide +kernel
theorem dX12_deed_156 : decode cX12_deed 156 = .ok (.iaload, 1) := by decide +kernel
theorem dX12_deed_157 : decode cX12_deed 157 = .ok (.iadd, 1) := by decide +kernel
theorem dX12_deed_158 : decode cX12_deed 158 = .ok (.iload 6, 2) := by decide +kernel
theorem dX12_deed_160 : decode cX12_deed 160 = .ok (.if_icmp .eq 9, 3) := by decide +kernel
theorem dX12_deed_163 : decode cX12_deed 163 = .ok (.iinc 7 1, 3) := by decide +kernel
theorem dX12_deed_166 : decode cX12_deed 166 = .ok (.goto (-41), 3) := by decide +kernel
theorem dX12_deed_169 : decode cX12_deed 169 = .ok (.sipush 200, 3) := by decide +kernel
theorem dX12_deed_172 : decode cX12_deed 172 = .ok (.iload 7, 2) := by decide +kernel
theorem dX12_deed_174 : decode cX12_deed 174 = .ok (.iadd, 1) := by decide +kernel
theorem dX12_deed_175 : decode cX12_deed 175 = .ok (.ireturn, 1) := by decide +kernel
theorem dX12_cut_0 : decode cX12_cut 0 = .ok (.aload_n 0, 1) := by decide +kernel
theorem dX12_cut_1 : decode cX12_cut 1 = .ok (.iload_n 1, 1) := by decide +kernel
theorem dX12_cut_2 : decode cX12_cut 2 = .ok (.iload_n 2, 1) := by decide +kernel
theorem dX12_cut_3 : decode cX12_cut 3 = .ok (.iload_n 3, 1) := by decide +kernel
theorem dX12_cut_4 : decode cX12_cut 4 = .ok (.iload 4, 2) := by decide +kernel
theorem dX12_cut_6 : decode cX12_cut 6 = .ok (.invokevirtual 186, 3) := by decide +kernel
theorem dX12_cut_9 : decode cX12_cut 9 = .ok (.ifCond .ne 5, 3) := by decide +kernel
theorem dX12_cut_12 : decode cX12_cut 12 = .ok (.iconst (-1), 1) := by decide +kernel
theorem dX12_cut_13 : decode cX12_cut 13 = .ok (.ireturn, 1) := by decide +kernel
theorem dX12_cut_14 : decode cX12_cut 14 = .ok (.aload_n 0, 1) := by decide +kernel
theorem dX12_cut_15 : decode cX12_cut 15 = .ok (.iconst (-1), 1) := by decide +kernel
theorem dX12_cut_16 : decode cX12_cut 16 = .ok (.invokevirtual 208, 3) := by decide +kernel
theorem dX12_cut_19 : decode cX12_cut 19 = .ok (.aload_n 0, 1) := by decide +kernel
theorem dX12_cut_20 : decode cX12_cut 20 = .ok (.iload_n 1, 1) := by decide +kernel
theorem dX12_cut_21 : decode cX12_cut 21 = .ok (.iload_n 2, 1) := by decide +kernel
theorem dX12_cut_22 : decode cX12_cut 22 = .ok (.iload_n 3, 1) := by decide +kernel
theorem dX12_cut_23 : decode cX12_cut 23 = .ok (.iload 4, 2) := by decide +kernel
theorem dX12_cut_25 : decode cX12_cut 25 = .ok (.iconst (-1), 1) := by decide +kernel
theorem dX12_cut_26 : decode cX12_cut 26 = .ok (.invokevirtual 212, 3) := by decide +kernel
theorem dX12_cut_29 : decode cX12_cut 29 = .ok (.ireturn, 1) := by decide +kernel
theorem dX12_sawn_0 : decode cX12_sawn 0 = .ok (.iload_n 1, 1) := by decide +kernel
theorem dX12_sawn_1 : decode cX12_sawn 1 = .ok (.i2l, 1) := by decide +kernel
theorem dX12_sawn_2 : decode cX12_sawn 2 = .ok (.lconst 0, 1) := by decide +kernel
theorem dX12_sawn_3 : decode cX12_sawn 3 = .ok (.ldc2_w 216, 3) := by decide +kernel
theorem dX12_sawn_6 : decode cX12_sawn 6 = .ok (.invokestatic 145, 3) := by decide +kernel
theorem dX12_sawn_9 : decode cX12_sawn 9 = .ok (.ifCond .ne 22, 3) := by decide +kernel
theorem dX12_sawn_12 : decode cX12_sawn 12 = .ok (.iload_n 1, 1) := by decide +kernel
theorem dX12_sawn_13 : decode cX12_sawn 13 = .ok (.bipush 10, 2) := by decide +kernel
theorem dX12_sawn_15 : decode cX12_sawn 15 = .ok (.if_icmp .lt 14, 3) := by decide +kernel
theorem dX12_sawn_18 : decode cX12_sawn 18 = .ok (.aload_n 0, 1) := by decide +kernel
theorem dX12_sawn_19 : decode cX12_sawn 19 = .ok (.iload_n 1, 1) := by decide +kernel
theorem dX12_sawn_20 : decode cX12_sawn 20 = .ok (.bipush 10, 2) := by decide +kernel
theorem dX12_sawn_22 : decode cX12_sawn 22 = .ok (.isub, 1) := by decide +kernel
theorem dX12_sawn_23 : decode cX12_sawn 23 = .ok (.invokevirtual 190, 3) := by decide +kernel
theorem dX12_sawn_26 : decode cX12_sawn 26 = .ok (.ifCond .ne 5, 3) := by decide +kernel
theorem dX12_sawn_29 : decode cX12_sawn 29 = .ok (.iconst (-1), 1) := by decide +kernel
theorem dX12_sawn_30 : decode cX12_sawn 30 = .ok (.ireturn, 1) := by decide +kernel
theorem dX12_sawn_31 : decode cX12_sawn 31 = .ok (.aload_n 0, 1) := by decide +kernel
theorem dX12_sawn_32 : decode cX12_sawn 32 = .ok (.iconst (-1), 1) := by decide +kernel
theorem dX12_sawn_33 : decode cX12_sawn 33 = .ok (.invokevirtual 218, 3) := by decide +kernel
theorem dX12_sawn_36 : decode cX12_sawn 36 = .ok (.istore_n 2, 1) := by decide +kernel
theorem dX12_sawn_37 : decode cX12_sawn 37 = .ok (.iconst 0, 1) := by decide +kernel
theorem dX12_sawn_38 : decode cX12_sawn 38 = .ok (.istore_n 3, 1) := by decide +kernel
theorem dX12_sawn_39 : decode cX12_sawn 39 = .ok (.iconst 0, 1) := by decide +kernel
theorem dX12_sawn_40 : decode cX12_sawn 40 = .ok (.istore 4, 2) := by decide +kernel
theorem dX12_sawn_42 : decode cX12_sawn 42 = .ok (.iconst 0, 1) := by decide +kernel
theorem dX12_sawn_43 : decode cX12_sawn 43 = .ok (.istore 5, 2) := by decide +kernel
theorem dX12_sawn_45 : decode cX12_sawn 45 = .ok (.iconst 0, 1) := by decide +kernel
theorem dX12_sawn_46 : decode cX12_sawn 46 = .ok (.istore 6, 2) := by decide +kernel
theorem dX12_sawn_48 : decode cX12_sawn 48 = .ok (.iconst 1, 1) := by decide +kernel
theorem dX12_sawn_49 : decode cX12_sawn 49 = .ok (.istore 7, 2) := by decide +kernel
theorem dX12_sawn_51 : decode cX12_sawn 51 = .ok (.aload_n 0, 1) := by decide +kernel
theorem dX12_sawn_52 : decode cX12_sawn 52 = .ok (.getfield 51, 3) := by decide +kernel
theorem dX12_sawn_55 : decode cX12_sawn 55 = .ok (.iconst 0, 1) := by decide +kernel
theorem dX12_sawn_56 : decode cX12_sawn 56 = .ok (.iconst 0, 1) := by decide +kernel
theorem dX12_sawn_57 : decode cX12_sawn 57 = .ok (.iconst 0, 1) := by decide +kernel
theorem dX12_sawn_58 : decode cX12_sawn 58 = .ok (.aload_n 0, 1) := by decide +kernel
theorem dX12_sawn_59 : decode cX12_sawn 59 = .ok (.getfield 7, 3) := by decide +kernel
theorem dX12_sawn_62 : decode cX12_sawn 62 = .ok (.aload_n 0, 1) := by decide +kernel
theorem dX12_sawn_63 : decode cX12_sawn 63 = .ok (.getfield 13, 3) := by decide +kernel
theorem dX12_sawn_66 : decode cX12_sawn 66 = .ok (.invokestatic 205, 3) := by decide +kernel
theorem dX12_sawn_69 : decode cX12_sawn 69 = .ok (.iastore, 1) := by decide +kernel
theorem dX12_sawn_70 : decode cX12_sawn 70 = .ok (.iload 7, 2) := by decide +kernel
theorem dX12_sawn_72 : decode cX12_sawn 72 = .ok (.ifCond .le 242, 3) := by decide +kernel
theorem dX12_sawn_75 : decode cX12_sawn 75 = .ok (.iinc 7 (-1), 3) := by decide +kernel
theorem dX12_sawn_78 : decode cX12_sawn 78 = .ok (.aload_n 0, 1) := by decide +kernel
theorem dX12_sawn_79 : decode cX12_sawn 79 = .ok (.getfield 51, 3) := by decide +kernel
theorem dX12_sawn_82 : decode cX12_sawn 82 = .ok (.iload 7, 2) := by decide +kernel
theorem dX12_sawn_84 : decode cX12_sawn 84 = .ok (.iaload, 1) := by decide +kernel
theorem dX12_sawn_85 : decode cX12_sawn 85 = .ok (.bipush 8, 2) := by decide +kernel
theorem dX12_sawn_87 : decode cX12_sawn 87 = .ok (.irem, 1) := by decide +kernel
theorem dX12_sawn_88 : decode cX12_sawn 88 = .ok (.istore 8, 2) := by decide +kernel
theorem dX12_sawn_90 : decode cX12_sawn 90 = .ok (.aload_n 0, 1) := by decide +kernel
theorem dX12_sawn_91 : decode cX12_sawn 91 = .ok (.getfield 51, 3) := by decide +kernel
theorem dX12_sawn_94 : decode cX12_sawn 94 = .ok (.iload 7, 2) := by decide +kernel
theorem dX12_sawn_96 : decode cX12_sawn 96 = .ok (.iaload, 1) := by decide +kernel
theorem dX12_sawn_97 : decode cX12_sawn 97 = .ok (.bipush 8, 2) := by decide +kernel
theorem dX12_sawn_99 : decode cX12_sawn 99 = .ok (.idiv, 1) := by decide +kernel
theorem dX12_sawn_100 : decode cX12_sawn 100 = .ok (.bipush 8, 2) := by decide +kernel
theorem dX12_sawn_102 : decode cX12_sawn 102 = .ok (.irem, 1) := by decide +kernel
theorem dX12_sawn_103 : decode cX12_sawn 103 = .ok (.istore 9, 2) := by decide +kernel
theorem dX12_sawn_105 : decode cX12_sawn 105 = .ok (.aload_n 0, 1) := by decide +kernel
theorem dX12_sawn_106 : decode cX12_sawn 106 = .ok (.getfield 51, 3) := by decide +kernel
theorem dX12_sawn_109 : decode cX12_sawn 109 = .ok (.iload 7, 2) := by decide +kernel
theorem dX12_sawn_111 : decode cX12_sawn 111 = .ok (.iaload, 1) := by decide +kernel
theorem dX12_sawn_112 : decode cX12_sawn 112 = .ok (.bipush 64, 2) := by decide +kernel
theorem dX12_sawn_114 : decode cX12_sawn 114 = .ok (.idiv, 1) := by decide +kernel
theorem dX12_sawn_115 : decode cX12_sawn 115 = .ok (.bipush 8, 2) := by decide +kernel
theorem dX12_sawn_117 : decode cX12_sawn 117 = .ok (.irem, 1) := by decide +kernel
theorem dX12_sawn_118 : decode cX12_sawn 118 = .ok (.iconst 1, 1) := by decide +kernel
theorem dX12_sawn_119 : decode cX12_sawn 119 = .ok (.iadd, 1) := by decide +kernel
theorem dX12_sawn_120 : decode cX12_sawn 120 = .ok (.istore 10, 2) := by decide +kernel
theorem dX12_sawn_122 : decode cX12_sawn 122 = .ok (.aload_n 0, 1) := by decide +kernel
theorem dX12_sawn_123 : decode cX12_sawn 123 = .ok (.getfield 51, 3) := by decide +kernel
theorem dX12_sawn_126 : decode cX12_sawn 126 = .ok (.iload 7, 2) := by decide +kernel
theorem dX12_sawn_128 : decode cX12_sawn 128 = .ok (.iaload, 1) := by decide +kernel
theorem dX12_sawn_129 : decode cX12_sawn 129 = .ok (.sipush 512, 3) := by decide +kernel
theorem dX12_sawn_132 : decode cX12_sawn 132 = .ok (.idiv, 1) := by decide +kernel
theorem dX12_sawn_133 : decode cX12_sawn 133 = .ok (.iconst 1, 1) := by decide +kernel
theorem dX12_sawn_134 : decode cX12_sawn 134 = .ok (.iadd, 1) := by decide +kernel
theorem dX12_sawn_135 : decode cX12_sawn 135 = .ok (.istore 11, 2) := by decide +kernel
theorem dX12_sawn_137 : decode cX12_sawn 137 = .ok (.aload_n 0, 1) := by decide +kernel
theorem dX12_sawn_138 : decode cX12_sawn 138 = .ok (.iload 8, 2) := by decide +kernel
theorem dX12_sawn_140 : decode cX12_sawn 140 = .ok (.iload 9, 2) := by decide +kernel
theorem dX12_sawn_142 : decode cX12_sawn 142 = .ok (.iload 10, 2) := by decide +kernel
theorem dX12_sawn_144 : decode cX12_sawn 144 = .ok (.iload 11, 2) := by decide +kernel
theorem dX12_sawn_146 : decode cX12_sawn 146 = .ok (.iconst (-1), 1) := by decide +kernel
theorem dX12_sawn_147 : decode cX12_sawn 147 = .ok (.invokevirtual 212, 3) := by decide +kernel
theorem dX12_sawn_150 : decode cX12_sawn 150 = .ok (.istore 12, 2) := by decide +kernel
theorem dX12_sawn_152 : decode cX12_sawn 152 = .ok (.iload 12, 2) := by decide +kernel
theorem dX12_sawn_154 : decode cX12_sawn 154 = .ok (.bipush (-5), 2) := by decide +kernel
theorem dX12_sawn_156 : decode cX12_sawn 156 = .ok (.if_icmp .ne 16, 3) := by decide +kernel
theorem dX12_sawn_159 : decode cX12_sawn 159 = .ok (.iload 5, 2) := by decide +kernel
theorem dX12_sawn_161 : decode cX12_sawn 161 = .ok (.iload 10, 2) := by decide +kernel
theorem dX12_sawn_163 : decode cX12_sawn 163 = .ok (.iload 11, 2) := by decide +kernel
theorem dX12_sawn_165 : decode cX12_sawn 165 = .ok (.imul, 1) := by decide +kernel
theorem dX12_sawn_166 : decode cX12_sawn 166 = .ok (.iadd, 1) := by decide +kernel
theorem dX12_sawn_167 : decode cX12_sawn 167 = .ok (.istore 5, 2) := by decide +kernel
theorem dX12_sawn_169 : decode cX12_sawn 169 = .ok (.goto 142, 3) := by decide +kernel
theorem dX12_sawn_172 : decode cX12_sawn 172 = .ok (.iload 12, 2) := by decide +kernel
theorem dX12_sawn_174 : decode cX12_sawn 174 = .ok (.bipush 100, 2) := by decide +kernel
theorem dX12_sawn_176 : decode cX12_sawn 176 = .ok (.if_icmp .ge 28, 3) := by decide +kernel
theorem dX12_sawn_179 : decode cX12_sawn 179 = .ok (.iinc 3 1, 3) := by decide +kernel
theorem dX12_sawn_182 : decode cX12_sawn 182 = .ok (.iload 6, 2) := by decide +kernel
theorem dX12_sawn_184 : decode cX12_sawn 184 = .ok (.iload 12, 2) := by decide +kernel
theorem dX12_sawn_186 : decode cX12_sawn 186 = .ok (.iload_n 1, 1) := by decide +kernel
theorem dX12_sawn_187 : decode cX12_sawn 187 = .ok (.bipush 10, 2) := by decide +kernel
theorem dX12_sawn_189 : decode cX12_sawn 189 = .ok (.isub, 1) := by decide +kernel
theorem dX12_sawn_190 : decode cX12_sawn 190 = .ok (.if_icmp .ne 7, 3) := by decide +kernel
theorem dX12_sawn_193 : decode cX12_sawn 193 = .ok (.iconst 1, 1) := by decide +kernel
theorem dX12_sawn_194 : decode cX12_sawn 194 = .ok (.goto 4, 3) := by decide +kernel
theorem dX12_sawn_197 : decode cX12_sawn 197 = .ok (.iconst 0, 1) := by decide +kernel
theorem dX12_sawn_198 : decode cX12_sawn 198 = .ok (.iadd, 1) := by decide +kernel
theorem dX12_sawn_199 : decode cX12_sawn 199 = .ok (.istore 6, 2) := by decide +kernel
theorem dX12_sawn_201 : decode cX12_sawn 201 = .ok (.goto 110, 3) := by decide +kernel
theorem dX12_sawn_204 : decode cX12_sawn 204 = .ok (.iinc 4 1, 3) := by decide +kernel
theorem dX12_sawn_207 : decode cX12_sawn 207 = .ok (.iload 12, 2) := by decide +kernel
theorem dX12_sawn_209 : decode cX12_sawn 209 = .ok (.bipush 100, 2) := by decide +kernel
theorem dX12_sawn_211 : decode cX12_sawn 211 = .ok (.irem, 1) := by decide +kernel
theorem dX12_sawn_212 : decode cX12_sawn 212 = .ok (.istore 13, 2) := by decide +kernel
theorem dX12_sawn_214 : decode cX12_sawn 214 = .ok (.aload_n 0, 1) := by decide +kernel
theorem dX12_sawn_215 : decode cX12_sawn 215 = .ok (.getfield 51, 3) := by decide +kernel
theorem dX12_sawn_218 : decode cX12_sawn 218 = .ok (.iload 7, 2) := by decide +kernel
theorem dX12_sawn_220 : decode cX12_sawn 220 = .ok (.iload 12, 2) := by decide +kernel
theorem dX12_sawn_222 : decode cX12_sawn 222 = .ok (.sipush 200, 3) := by decide +kernel
theorem dX12_sawn_225 : decode cX12_sawn 225 = .ok (.if_icmp .ge 17, 3) := by decide +kernel
theorem dX12_sawn_228 : decode cX12_sawn 228 = .ok (.iload 8, 2) := by decide +kernel
theorem dX12_sawn_230 : decode cX12_sawn 230 = .ok (.iload 9, 2) := by decide +kernel
theorem dX12_sawn_232 : decode cX12_sawn 232 = .ok (.iload 13, 2) := by decide +kernel
theorem dX12_sawn_234 : decode cX12_sawn 234 = .ok (.iload 11, 2) := by decide +kernel
theorem dX12_sawn_236 : decode cX12_sawn 236 = .ok (.invokestatic 205, 3) := by decide +kernel
theorem dX12_sawn_239 : decode cX12_sawn 239 = .ok (.goto 14, 3) := by decide +kernel
theorem dX12_sawn_242 : decode cX12_sawn 242 = .ok (.iload 8, 2) := by decide +kernel
theorem dX12_sawn_244 : decode cX12_sawn 244 = .ok (.iload 9, 2) := by decide +kernel
theorem dX12_sawn_246 : decode cX12_sawn 246 = .ok (.iload 10, 2) := by decide +kernel
theorem dX12_sawn_248 : decode cX12_sawn 248 = .ok (.iload 13, 2) := by decide +kernel
theorem dX12_sawn_250 : decode cX12_sawn 250 = .ok (.invokestatic 205, 3) := by decide +kernel
theorem dX12_sawn_253 : decode cX12_sawn 253 = .ok (.iastore, 1) := by decide +kernel
theorem dX12_sawn_254 : decode cX12_sawn 254 = .ok (.aload_n 0, 1) := by decide +kernel
theorem dX12_sawn_255 : decode cX12_sawn 255 = .ok (.getfield 51, 3) := by decide +kernel
theorem dX12_sawn_258 : decode cX12_sawn 258 = .ok (.iload 7, 2) := by decide +kernel
theorem dX12_sawn_260 : decode cX12_sawn 260 = .ok (.iconst 1, 1) := by decide +kernel
theorem dX12_sawn_261 : decode cX12_sawn 261 = .ok (.iadd, 1) := by decide +kernel
theorem dX12_sawn_262 : decode cX12_sawn 262 = .ok (.iload 12, 2) := by decide +kernel
theorem dX12_sawn_264 : decode cX12_sawn 264 = .ok (.sipush 200, 3) := by decide +kernel
theorem dX12_sawn_267 : decode cX12_sawn 267 = .ok (.if_icmp .ge 23, 3) := by decide +kernel
theorem dX12_sawn_270 : decode cX12_sawn 270 = .ok (.iload 8, 2) := by decide +kernel
theorem dX12_sawn_272 : decode cX12_sawn 272 = .ok (.iload 13, 2) := by decide +kernel
theorem dX12_sawn_274 : decode cX12_sawn 274 = .ok (.iadd, 1) := by decide +kernel
theorem dX12_sawn_275 : decode cX12_sawn 275 = .ok (.iload 9, 2) := by decide +kernel
theorem dX12_sawn_277 : decode cX12_sawn 277 = .ok (.iload 10, 2) := by decide +kernel
theorem dX12_sawn_279 : decode cX12_sawn 279 = .ok (.iload 13, 2) := by decide +kernel
theorem dX12_sawn_281 : decode cX12_sawn 281 = .ok (.isub, 1) := by decide +kernel
theorem dX12_sawn_282 : decode cX12_sawn 282 = .ok (.iload 11, 2) := by decide +kernel
theorem dX12_sawn_284 : decode cX12_sawn 284 = .ok (.invokestatic 205, 3) := by decide +kernel
theorem dX12_sawn_287 : decode cX12_sawn 287 = .ok (.goto 20, 3) := by decide +kernel
theorem dX12_sawn_290 : decode cX12_sawn 290 = .ok (.iload 8, 2) := by decide +kernel
theorem dX12_sawn_292 : decode cX12_sawn 292 = .ok (.iload 9, 2) := by decide +kernel
theorem dX12_sawn_294 : decode cX12_sawn 294 = .ok (.iload 13, 2) := by decide +kernel
theorem dX12_sawn_296 : decode cX12_sawn 296 = .ok (.iadd, 1) := by decide +kernel
theorem dX12_sawn_297 : decode cX12_sawn 297 = .ok (.iload 10, 2) := by decide +kernel
theorem dX12_sawn_299 : decode cX12_sawn 299 = .ok (.iload 11, 2) := by decide +kernel
theorem dX12_sawn_301 : decode cX12_sawn 301 = .ok (.iload 13, 2) := by decide +kernel
theorem dX12_sawn_303 : decode cX12_sawn 303 = .ok (.isub, 1) := by decide +kernel
theorem dX12_sawn_304 : decode cX12_sawn 304 = .ok (.invokestatic 205, 3) := by decide +kernel
theorem dX12_sawn_307 : decode cX12_sawn 307 = .ok (.iastore, 1) := by decide +kernel
theorem dX12_sawn_308 : decode cX12_sawn 308 = .ok (.iinc 7 2, 3) := by decide +kernel
theorem dX12_sawn_311 : decode cX12_sawn 311 = .ok (.goto (-241), 3) := by decide +kernel
theorem dX12_sawn_314 : decode cX12_sawn 314 = .ok (.iload_n 1, 1) := by decide +kernel
theorem dX12_sawn_315 : decode cX12_sawn 315 = .ok (.ifCond .ne 7, 3) := by decide +kernel
theorem dX12_sawn_318 : decode cX12_sawn 318 = .ok (.iload_n 2, 1) := by decide +kernel
theorem dX12_sawn_319 : decode cX12_sawn 319 = .ok (.goto 34, 3) := by decide +kernel
theorem dX12_sawn_322 : decode cX12_sawn 322 = .ok (.iload_n 1, 1) := by decide +kernel
theorem dX12_sawn_323 : decode cX12_sawn 323 = .ok (.iconst 1, 1) := by decide +kernel
theorem dX12_sawn_324 : decode cX12_sawn 324 = .ok (.if_icmp .ne 7, 3) := by decide +kernel
theorem dX12_sawn_327 : decode cX12_sawn 327 = .ok (.iload_n 3, 1) := by decide +kernel
theorem dX12_sawn_328 : decode cX12_sawn 328 = .ok (.goto 25, 3) := by decide +kernel
theorem dX12_sawn_331 : decode cX12_sawn 331 = .ok (.iload_n 1, 1) := by decide +kernel
theorem dX12_sawn_332 : decode cX12_sawn 332 = .ok (.iconst 2, 1) := by decide +kernel
theorem dX12_sawn_333 : decode cX12_sawn 333 = .ok (.if_icmp .ne 8, 3) := by decide +kernel
theorem dX12_sawn_336 : decode cX12_sawn 336 = .ok (.iload 4, 2) := by decide +kernel
theorem dX12_sawn_338 : decode cX12_sawn 338 = .ok (.goto 15, 3) := by decide +kernel
theorem dX12_sawn_341 : decode cX12_sawn 341 = .ok (.iload_n 1, 1) := by decide +kernel
theorem dX12_sawn_342 : decode cX12_sawn 342 = .ok (.iconst 3, 1) := by decide +kernel
theorem dX12_sawn_343 : decode cX12_sawn 343 = .ok (.if_icmp .ne 8, 3) := by decide +kernel
theorem dX12_sawn_346 : decode cX12_sawn 346 = .ok (.iload 5, 2) := by decide +kernel
theorem dX12_sawn_348 : decode cX12_sawn 348 = .ok (.goto 5, 3) := by decide +kernel
theorem dX12_sawn_351 : decode cX12_sawn 351 = .ok (.iload 6, 2) := by decide +kernel
theorem dX12_sawn_353 : decode cX12_sawn 353 = .ok (.ireturn, 1) := by decide +kernel
theorem dX12_costs_0 : decode cX12_costs 0 = .ok (.aload_n 0, 1) := by decide +kernel
theorem dX12_costs_1 : decode cX12_costs 1 = .ok (.iload_n 1, 1) := by decide +kernel
theorem dX12_costs_2 : decode cX12_costs 2 = .ok (.iload_n 2, 1) := by decide +kernel
theorem dX12_costs_3 : decode cX12_costs 3 = .ok (.invokevirtual 149, 3) := by decide +kernel
theorem dX12_costs_6 : decode cX12_costs 6 = .ok (.ifCond .ne 5, 3) := by decide +kernel
theorem dX12_costs_9 : decode cX12_costs 9 = .ok (.iconst (-1), 1) := by decide +kernel
theorem dX12_costs_10 : decode cX12_costs 10 = .ok (.ireturn, 1) := by decide +kernel
theorem dX12_costs_11 : decode cX12_costs 11 = .ok (.aload_n 0, 1) := by decide +kernel
theorem dX12_costs_12 : decode cX12_costs 12 = .ok (.iconst (-1), 1) := by decide +kernel
theorem dX12_costs_13 : decode cX12_costs 13 = .ok (.invokevirtual 218, 3) := by decide +kernel
theorem dX12_costs_16 : decode cX12_costs 16 = .ok (.istore_n 3, 1) := by decide +kernel
theorem dX12_costs_17 : decode cX12_costs 17 = .ok (.aload_n 0, 1) := by decide +kernel
theorem dX12_costs_18 : decode cX12_costs 18 = .ok (.getfield 16, 3) := by decide +kernel
theorem dX12_costs_21 : decode cX12_costs 21 = .ok (.bipush 8, 2) := by decide +kernel
theorem dX12_costs_23 : decode cX12_costs 23 = .ok (.iload_n 2, 1) := by decide +kernel
theorem dX12_costs_24 : decode cX12_costs 24 = .ok (.imul, 1) := by decide +kernel
theorem dX12_costs_25 : decode cX12_costs 25 = .ok (.iload_n 1, 1) := by decide +kernel
theorem dX12_costs_26 : decode cX12_costs 26 = .ok (.iadd, 1) := by decide +kernel
theorem dX12_costs_27 : decode cX12_costs 27 = .ok (.baload, 1) := by decide +kernel
theorem dX12_costs_28 : decode cX12_costs 28 = .ok (.istore 4, 2) := by decide +kernel
theorem dX12_costs_30 : decode cX12_costs 30 = .ok (.aload_n 0, 1) := by decide +kernel
theorem dX12_costs_31 : decode cX12_costs 31 = .ok (.getfield 16, 3) := by decide +kernel
theorem dX12_costs_34 : decode cX12_costs 34 = .ok (.bipush 8, 2) := by decide +kernel
theorem dX12_costs_36 : decode cX12_costs 36 = .ok (.iload_n 2, 1) := by decide +kernel
theorem dX12_costs_37 : decode cX12_costs 37 = .ok (.imul, 1) := by decide +kernel
theorem dX12_costs_38 : decode cX12_costs 38 = .ok (.iload_n 1, 1) := by decide +kernel
theorem dX12_costs_39 : decode cX12_costs 39 = .ok (.iadd, 1) := by decide +kernel
theorem dX12_costs_40 : decode cX12_costs 40 = .ok (.iconst 1, 1) := by decide +kernel
theorem dX12_costs_41 : decode cX12_costs 41 = .ok (.bastore, 1) := by decide +kernel
theorem dX12_costs_42 : decode cX12_costs 42 = .ok (.aload_n 0, 1) := by decide +kernel
theorem dX12_costs_43 : decode cX12_costs 43 = .ok (.iconst (-1), 1) := by decide +kernel
theorem dX12_costs_44 : decode cX12_costs 44 = .ok (.invokevirtual 218, 3) := by decide +kernel
theorem dX12_costs_47 : decode cX12_costs 47 = .ok (.istore 5, 2) := by decide +kernel
theorem dX12_costs_49 : decode cX12_costs 49 = .ok (.aload_n 0, 1) := by decide +kernel
theorem dX12_costs_50 : decode cX12_costs 50 = .ok (.getfield 16, 3) := by decide +kernel
theorem dX12_costs_53 : decode cX12_costs 53 = .ok (.bipush 8, 2) := by decide +kernel
theorem dX12_costs_55 : decode cX12_costs 55 = .ok (.iload_n 2, 1) := by decide +kernel
theorem dX12_costs_56 : decode cX12_costs 56 = .ok (.imul, 1) := by decide +kernel
theorem dX12_costs_57 : decode cX12_costs 57 = .ok (.iload_n 1, 1) := by decide +kernel
theorem dX12_costs_58 : decode cX12_costs 58 = .ok (.iadd, 1) := by decide +kernel
theorem dX12_costs_59 : decode cX12_costs 59 = .ok (.iload 4, 2) := by decide +kernel
theorem dX12_costs_61 : decode cX12_costs 61 = .ok (.bastore, 1) := by decide +kernel
theorem dX12_costs_62 : decode cX12_costs 62 = .ok (.iload_n 3, 1) := by decide +kernel
theorem dX12_costs_63 : decode cX12_costs 63 = .ok (.iload 5, 2) := by decide +kernel
theorem dX12_costs_65 : decode cX12_costs 65 = .ok (.isub, 1) := by decide +kernel
theorem dX12_costs_66 : decode cX12_costs 66 = .ok (.ireturn, 1) := by decide +kernel
theorem dX12_world_0 : decode cX12_world 0 = .ok (.aload_n 0, 1) := by decide +kernel
theorem dX12_world_1 : decode cX12_world 1 = .ok (.getfield 158, 3) := by decide +kernel
theorem dX12_world_4 : decode cX12_world 4 = .ok (.iconst 4, 1) := by decide +kernel
theorem dX12_world_5 : decode cX12_world 5 = .ok (.if_icmp .ne 6, 3) := by decide +kernel
theorem dX12_world_8 : decode cX12_world 8 = .ok (.bipush (-3), 2) := by decide +kernel
theorem dX12_world_10 : decode cX12_world 10 = .ok (.ireturn, 1) := by decide +kernel
theorem dX12_world_11 : decode cX12_world 11 = .ok (.iconst 0, 1) := by decide +kernel
theorem dX12_world_12 : decode cX12_world 12 = .ok (.istore_n 1, 1) := by decide +kernel
theorem dX12_world_13 : decode cX12_world 13 = .ok (.iload_n 1, 1) := by decide +kernel
theorem dX12_world_14 : decode cX12_world 14 = .ok (.bipush 64, 2) := by decide +kernel
theorem dX12_world_16 : decode cX12_world 16 = .ok (.if_icmp .ge 24, 3) := by decide +kernel
theorem dX12_world_19 : decode cX12_world 19 = .ok (.aload_n 0, 1) := by decide +kernel
theorem dX12_world_20 : decode cX12_world 20 = .ok (.getfield 24, 3) := by decide +kernel
theorem dX12_world_23 : decode cX12_world 23 = .ok (.bipush 64, 2) := by decide +kernel
theorem dX12_world_25 : decode cX12_world 25 = .ok (.aload_n 0, 1) := by decide +kernel
theorem dX12_world_26 : decode cX12_world 26 = .ok (.getfield 158, 3) := by decide +kernel
theorem dX12_world_29 : decode cX12_world 29 = .ok (.imul, 1) := by decide +kernel
theorem dX12_world_30 : decode cX12_world 30 = .ok (.iload_n 1, 1) := by decide +kernel
theorem dX12_world_31 : decode cX12_world 31 = .ok (.iadd, 1) := by decide +kernel
theorem dX12_world_32 : decode cX12_world 32 = .ok (.iconst 0, 1) := by decide +kernel
theorem dX12_world_33 : decode cX12_world 33 = .ok (.bastore, 1) := by decide +kernel
theorem dX12_world_34 : decode cX12_world 34 = .ok (.iinc 1 1, 3) := by decide +kernel
theorem dX12_world_37 : decode cX12_world 37 = .ok (.goto (-24), 3) := by decide +kernel
theorem dX12_world_40 : decode cX12_world 40 = .ok (.aload_n 0, 1) := by decide +kernel
theorem dX12_world_41 : decode cX12_world 41 = .ok (.dup, 1) := by decide +kernel
theorem dX12_world_42 : decode cX12_world 42 = .ok (.getfield 158, 3) := by decide +kernel
theorem dX12_world_45 : decode cX12_world 45 = .ok (.iconst 1, 1) := by decide +kernel
theorem dX12_world_46 : decode cX12_world 46 = .ok (.iadd, 1) := by decide +kernel
theorem dX12_world_47 : decode cX12_world 47 = .ok (.putfield 158, 3) := by decide +kernel
theorem dX12_world_50 : decode cX12_world 50 = .ok (.aload_n 0, 1) := by decide +kernel
theorem dX12_world_51 : decode cX12_world 51 = .ok (.getfield 158, 3) := by decide +kernel
theorem dX12_world_54 : decode cX12_world 54 = .ok (.iconst 1, 1) := by decide +kernel
theorem dX12_world_55 : decode cX12_world 55 = .ok (.isub, 1) := by decide +kernel
theorem dX12_world_56 : decode cX12_world 56 = .ok (.ireturn, 1) := by decide +kernel
theorem dX12_doubt_0 : decode cX12_doubt 0 = .ok (.iload_n 1, 1) := by decide +kernel
theorem dX12_doubt_1 : decode cX12_doubt 1 = .ok (.i2l, 1) := by decide +kernel
theorem dX12_doubt_2 : decode cX12_doubt 2 = .ok (.lconst 0, 1) := by decide +kernel
theorem dX12_doubt_3 : decode cX12_doubt 3 = .ok (.aload_n 0, 1) := by decide +kernel
theorem dX12_doubt_4 : decode cX12_doubt 4 = .ok (.getfield 158, 3) := by decide +kernel
theorem dX12_doubt_7 : decode cX12_doubt 7 = .ok (.iconst 1, 1) := by decide +kernel
theorem dX12_doubt_8 : decode cX12_doubt 8 = .ok (.isub, 1) := by decide +kernel
theorem dX12_doubt_9 : decode cX12_doubt 9 = .ok (.i2l, 1) := by decide +kernel
theorem dX12_doubt_10 : decode cX12_doubt 10 = .ok (.invokestatic 145, 3) := by decide +kernel
theorem dX12_doubt_13 : decode cX12_doubt 13 = .ok (.ifCond .eq 12, 3) := by decide +kernel
theorem dX12_doubt_16 : decode cX12_doubt 16 = .ok (.aload_n 0, 1) := by decide +kernel
theorem dX12_doubt_17 : decode cX12_doubt 17 = .ok (.iload_n 2, 1) := by decide +kernel
theorem dX12_doubt_18 : decode cX12_doubt 18 = .ok (.iload_n 3, 1) := by decide +kernel
theorem dX12_doubt_19 : decode cX12_doubt 19 = .ok (.invokevirtual 149, 3) := by decide +kernel
theorem dX12_doubt_22 : decode cX12_doubt 22 = .ok (.ifCond .ne 5, 3) := by decide +kernel
theorem dX12_doubt_25 : decode cX12_doubt 25 = .ok (.iconst (-1), 1) := by decide +kernel
theorem dX12_doubt_26 : decode cX12_doubt 26 = .ok (.ireturn, 1) := by decide +kernel
theorem dX12_doubt_27 : decode cX12_doubt 27 = .ok (.bipush 64, 2) := by decide +kernel
theorem dX12_doubt_29 : decode cX12_doubt 29 = .ok (.iload_n 1, 1) := by decide +kernel
theorem dX12_doubt_30 : decode cX12_doubt 30 = .ok (.imul, 1) := by decide +kernel
theorem dX12_doubt_31 : decode cX12_doubt 31 = .ok (.bipush 8, 2) := by decide +kernel
theorem dX12_doubt_33 : decode cX12_doubt 33 = .ok (.iload_n 3, 1) := by decide +kernel
theorem dX12_doubt_34 : decode cX12_doubt 34 = .ok (.imul, 1) := by decide +kernel
theorem dX12_doubt_35 : decode cX12_doubt 35 = .ok (.iadd, 1) := by decide +kernel
theorem dX12_doubt_36 : decode cX12_doubt 36 = .ok (.iload_n 2, 1) := by decide +kernel
theorem dX12_doubt_37 : decode cX12_doubt 37 = .ok (.iadd, 1) := by decide +kernel
theorem dX12_doubt_38 : decode cX12_doubt 38 = .ok (.istore 5, 2) := by decide +kernel
theorem dX12_doubt_40 : decode cX12_doubt 40 = .ok (.aload_n 0, 1) := by decide +kernel
theorem dX12_doubt_41 : decode cX12_doubt 41 = .ok (.getfield 24, 3) := by decide +kernel
theorem dX12_doubt_44 : decode cX12_doubt 44 = .ok (.iload 5, 2) := by decide +kernel
theorem dX12_doubt_46 : decode cX12_doubt 46 = .ok (.baload, 1) := by decide +kernel
theorem dX12_doubt_47 : decode cX12_doubt 47 = .ok (.ifCond .eq 7, 3) := by decide +kernel
theorem dX12_doubt_50 : decode cX12_doubt 50 = .ok (.iconst 1, 1) := by decide +kernel
theorem dX12_doubt_51 : decode cX12_doubt 51 = .ok (.goto 4, 3) := by decide +kernel
theorem dX12_doubt_54 : decode cX12_doubt 54 = .ok (.iconst 0, 1) := by decide +kernel
theorem dX12_doubt_55 : decode cX12_doubt 55 = .ok (.istore 6, 2) := by decide +kernel
theorem dX12_doubt_57 : decode cX12_doubt 57 = .ok (.aload_n 0, 1) := by decide +kernel
theorem dX12_doubt_58 : decode cX12_doubt 58 = .ok (.getfield 24, 3) := by decide +kernel
theorem dX12_doubt_61 : decode cX12_doubt 61 = .ok (.iload 5, 2) := by decide +kernel
theorem dX12_doubt_63 : decode cX12_doubt 63 = .ok (.iload 4, 2) := by decide +kernel
theorem dX12_doubt_65 : decode cX12_doubt 65 = .ok (.bastore, 1) := by decide +kernel
theorem dX12_doubt_66 : decode cX12_doubt 66 = .ok (.iload 6, 2) := by decide +kernel
theorem dX12_doubt_68 : decode cX12_doubt 68 = .ok (.ireturn, 1) := by decide +kernel
theorem dX12_choose_0 : decode cX12_choose 0 = .ok (.iload_n 1, 1) := by decide +kernel
theorem dX12_choose_1 : decode cX12_choose 1 = .ok (.i2l, 1) := by decide +kernel
theorem dX12_choose_2 : decode cX12_choose 2 = .ok (.lconst 0, 1) := by decide +kernel
theorem dX12_choose_3 : decode cX12_choose 3 = .ok (.ldc2_w 222, 3) := by decide +kernel
theorem dX12_choose_6 : decode cX12_choose 6 = .ok (.invokestatic 145, 3) := by decide +kernel
theorem dX12_choose_9 : decode cX12_choose 9 = .ok (.ifCond .ne 5, 3) := by decide +kernel
theorem dX12_choose_12 : decode cX12_choose 12 = .ok (.iconst (-1), 1) := by decide +kernel
theorem dX12_choose_13 : decode cX12_choose 13 = .ok (.ireturn, 1) := by decide +kernel
theorem dX12_choose_14 : decode cX12_choose 14 = .ok (.aload_n 0, 1) := by decide +kernel
theorem dX12_choose_15 : decode cX12_choose 15 = .ok (.getfield 158, 3) := by decide +kernel
theorem dX12_choose_18 : decode cX12_choose 18 = .ok (.ifCond .ne 6, 3) := by decide +kernel
theorem dX12_choose_21 : decode cX12_choose 21 = .ok (.bipush (-2), 2) := by decide +kernel
theorem dX12_choose_23 : decode cX12_choose 23 = .ok (.ireturn, 1) := by decide +kernel
theorem dX12_choose_24 : decode cX12_choose 24 = .ok (.iconst 0, 1) := by decide +kernel
theorem dX12_choose_25 : decode cX12_choose 25 = .ok (.istore_n 2, 1) := by decide +kernel
theorem dX12_choose_26 : decode cX12_choose 26 = .ok (.bipush (-4), 2) := by decide +kernel
theorem dX12_choose_28 : decode cX12_choose 28 = .ok (.istore_n 3, 1) := by decide +kernel
theorem dX12_choose_29 : decode cX12_choose 29 = .ok (.iconst 0, 1) := by decide +kernel
theorem dX12_choose_30 : decode cX12_choose 30 = .ok (.istore 4, 2) := by decide +kernel
theorem dX12_choose_32 : decode cX12_choose 32 = .ok (.iconst 0, 1) := by decide +kernel
theorem dX12_choose_33 : decode cX12_choose 33 = .ok (.istore 5, 2) := by decide +kernel
theorem dX12_choose_35 : decode cX12_choose 35 = .ok (.iload 5, 2) := by decide +kernel
theorem dX12_choose_37 : decode cX12_choose 37 = .ok (.aload_n 0, 1) := by decide +kernel
theorem dX12_choose_38 : decode cX12_choose 38 = .ok (.getfield 158, 3) := by decide +kernel
theorem dX12_choose_41 : decode cX12_choose 41 = .ok (.if_icmp .ge 57, 3) := by decide +kernel
theorem dX12_choose_44 : decode cX12_choose 44 = .ok (.aload_n 0, 1) := by decide +kernel
theorem dX12_choose_45 : decode cX12_choose 45 = .ok (.iload 5, 2) := by decide +kernel
theorem dX12_choose_47 : decode cX12_choose 47 = .ok (.invokevirtual 218, 3) := by decide +kernel
theorem dX12_choose_50 : decode cX12_choose 50 = .ok (.istore 6, 2) := by decide +kernel
theorem dX12_choose_52 : decode cX12_choose 52 = .ok (.iload_n 2, 1) := by decide +kernel
theorem dX12_choose_53 : decode cX12_choose 53 = .ok (.iload 6, 2) := by decide +kernel
theorem dX12_choose_55 : decode cX12_choose 55 = .ok (.iadd, 1) := by decide +kernel
theorem dX12_choose_56 : decode cX12_choose 56 = .ok (.istore_n 2, 1) := by decide +kernel
theorem dX12_choose_57 : decode cX12_choose 57 = .ok (.iload_n 3, 1) := by decide +kernel
theorem dX12_choose_58 : decode cX12_choose 58 = .ok (.bipush (-4), 2) := by decide +kernel
theorem dX12_choose_60 : decode cX12_choose 60 = .ok (.if_icmp .eq 9, 3) := by decide +kernel
theorem dX12_choose_63 : decode cX12_choose 63 = .ok (.iload 6, 2) := by decide +kernel
theorem dX12_choose_65 : decode cX12_choose 65 = .ok (.iload_n 3, 1) := by decide +kernel
theorem dX12_choose_66 : decode cX12_choose 66 = .ok (.if_icmp .ge 8, 3) := by decide +kernel
theorem dX12_choose_69 : decode cX12_choose 69 = .ok (.iload 6, 2) := by decide +kernel
theorem dX12_choose_71 : decode cX12_choose 71 = .ok (.goto 4, 3) := by decide +kernel
theorem dX12_choose_74 : decode cX12_choose 74 = .ok (.iload_n 3, 1) := by decide +kernel
theorem dX12_choose_75 : decode cX12_choose 75 = .ok (.istore_n 3, 1) := by decide +kernel
theorem dX12_choose_76 : decode cX12_choose 76 = .ok (.iload 6, 2) := by decide +kernel
theorem dX12_choose_78 : decode cX12_choose 78 = .ok (.iload 4, 2) := by decide +kernel
theorem dX12_choose_80 : decode cX12_choose 80 = .ok (.if_icmp .le 8, 3) := by decide +kernel
theorem dX12_choose_83 : decode cX12_choose 83 = .ok (.iload 6, 2) := by decide +kernel
theorem dX12_choose_85 : decode cX12_choose 85 = .ok (.goto 5, 3) := by decide +kernel
theorem dX12_choose_88 : decode cX12_choose 88 = .ok (.iload 4, 2) := by decide +kernel
theorem dX12_choose_90 : decode cX12_choose 90 = .ok (.istore 4, 2) := by decide +kernel
theorem dX12_choose_92 : decode cX12_choose 92 = .ok (.iinc 5 1, 3) := by decide +kernel
theorem dX12_choose_95 : decode cX12_choose 95 = .ok (.goto (-60), 3) := by decide +kernel
theorem dX12_choose_98 : decode cX12_choose 98 = .ok (.aload_n 0, 1) := by decide +kernel
theorem dX12_choose_99 : decode cX12_choose 99 = .ok (.bipush (-2), 2) := by decide +kernel
theorem dX12_choose_101 : decode cX12_choose 101 = .ok (.invokevirtual 218, 3) := by decide +kernel
theorem dX12_choose_104 : decode cX12_choose 104 = .ok (.istore 5, 2) := by decide +kernel
theorem dX12_choose_106 : decode cX12_choose 106 = .ok (.iload_n 1, 1) := by decide +kernel
theorem dX12_choose_107 : decode cX12_choose 107 = .ok (.ifCond .ne 7, 3) := by decide +kernel
theorem dX12_choose_110 : decode cX12_choose 110 = .ok (.iload_n 2, 1) := by decide +kernel
theorem dX12_choose_111 : decode cX12_choose 111 = .ok (.goto 60, 3) := by decide +kernel
theorem dX12_choose_114 : decode cX12_choose 114 = .ok (.iload_n 1, 1) := by decide +kernel
theorem dX12_choose_115 : decode cX12_choose 115 = .ok (.iconst 1, 1) := by decide +kernel
theorem dX12_choose_116 : decode cX12_choose 116 = .ok (.if_icmp .ne 8, 3) := by decide +kernel
theorem dX12_choose_119 : decode cX12_choose 119 = .ok (.iload 5, 2) := by decide +kernel
theorem dX12_choose_121 : decode cX12_choose 121 = .ok (.goto 50, 3) := by decide +kernel
theorem dX12_choose_124 : decode cX12_choose 124 = .ok (.iload_n 1, 1) := by decide +kernel
theorem dX12_choose_125 : decode cX12_choose 125 = .ok (.iconst 2, 1) := by decide +kernel
theorem dX12_choose_126 : decode cX12_choose 126 = .ok (.if_icmp .ne 10, 3) := by decide +kernel
theorem dX12_choose_129 : decode cX12_choose 129 = .ok (.iload_n 2, 1) := by decide +kernel
theorem dX12_choose_130 : decode cX12_choose 130 = .ok (.iload 5, 2) := by decide +kernel
theorem dX12_choose_132 : decode cX12_choose 132 = .ok (.isub, 1) := by decide +kernel
theorem dX12_choose_133 : decode cX12_choose 133 = .ok (.goto 38, 3) := by decide +kernel
theorem dX12_choose_136 : decode cX12_choose 136 = .ok (.iload_n 1, 1) := by decide +kernel
theorem dX12_choose_137 : decode cX12_choose 137 = .ok (.iconst 3, 1) := by decide +kernel
theorem dX12_choose_138 : decode cX12_choose 138 = .ok (.if_icmp .ne 22, 3) := by decide +kernel
theorem dX12_choose_141 : decode cX12_choose 141 = .ok (.aload_n 0, 1) := by decide +kernel
theorem dX12_choose_142 : decode cX12_choose 142 = .ok (.iconst 0, 1) := by decide +kernel
theorem dX12_choose_143 : decode cX12_choose 143 = .ok (.iconst 0, 1) := by decide +kernel
theorem dX12_choose_144 : decode cX12_choose 144 = .ok (.aload_n 0, 1) := by decide +kernel
theorem dX12_choose_145 : decode cX12_choose 145 = .ok (.getfield 7, 3) := by decide +kernel
theorem dX12_choose_148 : decode cX12_choose 148 = .ok (.aload_n 0, 1) := by decide +kernel
theorem dX12_choose_149 : decode cX12_choose 149 = .ok (.getfield 13, 3) := by decide +kernel
theorem dX12_choose_152 : decode cX12_choose 152 = .ok (.bipush (-2), 2) := by decide +kernel
theorem dX12_choose_154 : decode cX12_choose 154 = .ok (.invokevirtual 212, 3) := by decide +kernel
theorem dX12_choose_157 : decode cX12_choose 157 = .ok (.goto 14, 3) := by decide +kernel
theorem dX12_choose_160 : decode cX12_choose 160 = .ok (.iload_n 1, 1) := by decide +kernel
theorem dX12_choose_161 : decode cX12_choose 161 = .ok (.iconst 4, 1) := by decide +kernel
theorem dX12_choose_162 : decode cX12_choose 162 = .ok (.if_icmp .ne 7, 3) := by decide +kernel
theorem dX12_choose_165 : decode cX12_choose 165 = .ok (.iload_n 3, 1) := by decide +kernel
theorem dX12_choose_166 : decode cX12_choose 166 = .ok (.goto 5, 3) := by decide +kernel
theorem dX12_choose_169 : decode cX12_choose 169 = .ok (.iload 4, 2) := by decide +kernel
theorem dX12_choose_171 : decode cX12_choose 171 = .ok (.ireturn, 1) := by decide +kernel
theorem dX12_store_0 : decode cX12_store 0 = .ok (.iload_n 1, 1) := by decide +kernel
theorem dX12_store_1 : decode cX12_store 1 = .ok (.i2l, 1) := by decide +kernel
theorem dX12_store_2 : decode cX12_store 2 = .ok (.lconst 1, 1) := by decide +kernel
theorem dX12_store_3 : decode cX12_store 3 = .ok (.ldc2_w 156, 3) := by decide +kernel
theorem dX12_store_6 : decode cX12_store 6 = .ok (.invokestatic 145, 3) := by decide +kernel
theorem dX12_store_9 : decode cX12_store 9 = .ok (.ifCond .eq 40, 3) := by decide +kernel
theorem dX12_store_12 : decode cX12_store 12 = .ok (.iload_n 2, 1) := by decide +kernel
theorem dX12_store_13 : decode cX12_store 13 = .ok (.i2l, 1) := by decide +kernel
theorem dX12_store_14 : decode cX12_store 14 = .ok (.lconst 1, 1) := by decide +kernel
theorem dX12_store_15 : decode cX12_store 15 = .ok (.ldc2_w 156, 3) := by decide +kernel
theorem dX12_store_18 : decode cX12_store 18 = .ok (.invokestatic 145, 3) := by decide +kernel
theorem dX12_store_21 : decode cX12_store 21 = .ok (.ifCond .eq 28, 3) := by decide +kernel
theorem dX12_store_24 : decode cX12_store 24 = .ok (.iload_n 3, 1) := by decide +kernel
theorem dX12_store_25 : decode cX12_store 25 = .ok (.i2l, 1) := by decide +kernel
theorem dX12_store_26 : decode cX12_store 26 = .ok (.lconst 0, 1) := by decide +kernel
theorem dX12_store_27 : decode cX12_store 27 = .ok (.ldc2_w 164, 3) := by decide +kernel
theorem dX12_store_30 : decode cX12_store 30 = .ok (.invokestatic 145, 3) := by decide +kernel
theorem dX12_store_33 : decode cX12_store 33 = .ok (.ifCond .eq 16, 3) := by decide +kernel
theorem dX12_store_36 : decode cX12_store 36 = .ok (.iload 4, 2) := by decide +kernel
theorem dX12_store_38 : decode cX12_store 38 = .ok (.i2l, 1) := by decide +kernel
theorem dX12_store_39 : decode cX12_store 39 = .ok (.lconst 0, 1) := by decide +kernel
theorem dX12_store_40 : decode cX12_store 40 = .ok (.ldc2_w 224, 3) := by decide +kernel
theorem dX12_store_43 : decode cX12_store 43 = .ok (.invokestatic 145, 3) := by decide +kernel
theorem dX12_store_46 : decode cX12_store 46 = .ok (.ifCond .ne 5, 3) := by decide +kernel
theorem dX12_store_49 : decode cX12_store 49 = .ok (.iconst (-1), 1) := by decide +kernel
theorem dX12_store_50 : decode cX12_store 50 = .ok (.ireturn, 1) := by decide +kernel
theorem dX12_store_51 : decode cX12_store 51 = .ok (.aload_n 0, 1) := by decide +kernel
theorem dX12_store_52 : decode cX12_store 52 = .ok (.getfield 226, 3) := by decide +kernel
theorem dX12_store_55 : decode cX12_store 55 = .ok (.bipush 12, 2) := by decide +kernel
theorem dX12_store_57 : decode cX12_store 57 = .ok (.if_icmp .ne 6, 3) := by decide +kernel
theorem dX12_store_60 : decode cX12_store 60 = .ok (.bipush (-3), 2) := by decide +kernel
theorem dX12_store_62 : decode cX12_store 62 = .ok (.ireturn, 1) := by decide +kernel
theorem dX12_store_63 : decode cX12_store 63 = .ok (.aload_n 0, 1) := by decide +kernel
theorem dX12_store_64 : decode cX12_store 64 = .ok (.getfield 54, 3) := by decide +kernel
theorem dX12_store_67 : decode cX12_store 67 = .ok (.aload_n 0, 1) := by decide +kernel
theorem dX12_store_68 : decode cX12_store 68 = .ok (.getfield 226, 3) := by decide +kernel
theorem dX12_store_71 : decode cX12_store 71 = .ok (.iload_n 1, 1) := by decide +kernel
theorem dX12_store_72 : decode cX12_store 72 = .ok (.iastore, 1) := by decide +kernel
theorem dX12_store_73 : decode cX12_store 73 = .ok (.aload_n 0, 1) := by decide +kernel
theorem dX12_store_74 : decode cX12_store 74 = .ok (.getfield 57, 3) := by decide +kernel
theorem dX12_store_77 : decode cX12_store 77 = .ok (.aload_n 0, 1) := by decide +kernel
theorem dX12_store_78 : decode cX12_store 78 = .ok (.getfield 226, 3) := by decide +kernel
theorem dX12_store_81 : decode cX12_store 81 = .ok (.iload_n 2, 1) := by decide +kernel
theorem dX12_store_82 : decode cX12_store 82 = .ok (.iastore, 1) := by decide +kernel
theorem dX12_store_83 : decode cX12_store 83 = .ok (.aload_n 0, 1) := by decide +kernel
theorem dX12_store_84 : decode cX12_store 84 = .ok (.getfield 60, 3) := by decide +kernel
theorem dX12_store_87 : decode cX12_store 87 = .ok (.aload_n 0, 1) := by decide +kernel
theorem dX12_store_88 : decode cX12_store 88 = .ok (.getfield 226, 3) := by decide +kernel
theorem dX12_store_91 : decode cX12_store 91 = .ok (.iload_n 3, 1) := by decide +kernel
theorem dX12_store_92 : decode cX12_store 92 = .ok (.iastore, 1) := by decide +kernel
theorem dX12_store_93 : decode cX12_store 93 = .ok (.aload_n 0, 1) := by decide +kernel
theorem dX12_store_94 : decode cX12_store 94 = .ok (.getfield 63, 3) := by decide +kernel
theorem dX12_store_97 : decode cX12_store 97 = .ok (.aload_n 0, 1) := by decide +kernel
theorem dX12_store_98 : decode cX12_store 98 = .ok (.getfield 226, 3) := by decide +kernel
theorem dX12_store_101 : decode cX12_store 101 = .ok (.iload 4, 2) := by decide +kernel
theorem dX12_store_103 : decode cX12_store 103 = .ok (.iastore, 1) := by decide +kernel
theorem dX12_store_104 : decode cX12_store 104 = .ok (.aload_n 0, 1) := by decide +kernel
theorem dX12_store_105 : decode cX12_store 105 = .ok (.dup, 1) := by decide +kernel
theorem dX12_store_106 : decode cX12_store 106 = .ok (.getfield 226, 3) := by decide +kernel
theorem dX12_store_109 : decode cX12_store 109 = .ok (.iconst 1, 1) := by decide +kernel
theorem dX12_store_110 : decode cX12_store 110 = .ok (.iadd, 1) := by decide +kernel
theorem dX12_store_111 : decode cX12_store 111 = .ok (.putfield 226, 3) := by decide +kernel
theorem dX12_store_114 : decode cX12_store 114 = .ok (.aload_n 0, 1) := by decide +kernel
theorem dX12_store_115 : decode cX12_store 115 = .ok (.getfield 226, 3) := by decide +kernel
theorem dX12_store_118 : decode cX12_store 118 = .ok (.iconst 1, 1) := by decide +kernel
theorem dX12_store_119 : decode cX12_store 119 = .ok (.isub, 1) := by decide +kernel
theorem dX12_store_120 : decode cX12_store 120 = .ok (.ireturn, 1) := by decide +kernel
theorem dX12_doesFor_0 : decode cX12_doesFor 0 = .ok (.aload_n 0, 1) := by decide +kernel
theorem dX12_doesFor_1 : decode cX12_doesFor 1 = .ok (.getfield 66, 3) := by decide +kernel
theorem dX12_doesFor_4 : decode cX12_doesFor 4 = .ok (.iload_n 2, 1) := by decide +kernel
theorem dX12_doesFor_5 : decode cX12_doesFor 5 = .ok (.iaload, 1) := by decide +kernel
theorem dX12_doesFor_6 : decode cX12_doesFor 6 = .ok (.istore_n 3, 1) := by decide +kernel
theorem dX12_doesFor_7 : decode cX12_doesFor 7 = .ok (.aload_n 0, 1) := by decide +kernel
theorem dX12_doesFor_8 : decode cX12_doesFor 8 = .ok (.iload_n 3, 1) := by decide +kernel
theorem dX12_doesFor_9 : decode cX12_doesFor 9 = .ok (.aload_n 0, 1) := by decide +kernel
theorem dX12_doesFor_10 : decode cX12_doesFor 10 = .ok (.getfield 54, 3) := by decide +kernel
theorem dX12_doesFor_13 : decode cX12_doesFor 13 = .ok (.iload_n 1, 1) := by decide +kernel
theorem dX12_doesFor_14 : decode cX12_doesFor 14 = .ok (.iaload, 1) := by decide +kernel
theorem dX12_doesFor_15 : decode cX12_doesFor 15 = .ok (.aload_n 0, 1) := by decide +kernel
theorem dX12_doesFor_16 : decode cX12_doesFor 16 = .ok (.getfield 57, 3) := by decide +kernel
theorem dX12_doesFor_19 : decode cX12_doesFor 19 = .ok (.iload_n 1, 1) := by decide +kernel
theorem dX12_doesFor_20 : decode cX12_doesFor 20 = .ok (.iaload, 1) := by decide +kernel
theorem dX12_doesFor_21 : decode cX12_doesFor 21 = .ok (.invokevirtual 174, 3) := by decide +kernel
theorem dX12_doesFor_24 : decode cX12_doesFor 24 = .ok (.ifCond .eq 37, 3) := by decide +kernel
theorem dX12_doesFor_27 : decode cX12_doesFor 27 = .ok (.aload_n 0, 1) := by decide +kernel
theorem dX12_doesFor_28 : decode cX12_doesFor 28 = .ok (.getfield 60, 3) := by decide +kernel
theorem dX12_doesFor_31 : decode cX12_doesFor 31 = .ok (.iload_n 1, 1) := by decide +kernel
theorem dX12_doesFor_32 : decode cX12_doesFor 32 = .ok (.iaload, 1) := by decide +kernel
theorem dX12_doesFor_33 : decode cX12_doesFor 33 = .ok (.aload_n 0, 1) := by decide +kernel
theorem dX12_doesFor_34 : decode cX12_doesFor 34 = .ok (.getfield 42, 3) := by decide +kernel
theorem dX12_doesFor_37 : decode cX12_doesFor 37 = .ok (.iload_n 3, 1) := by decide +kernel
theorem dX12_doesFor_38 : decode cX12_doesFor 38 = .ok (.iaload, 1) := by decide +kernel
theorem dX12_doesFor_39 : decode cX12_doesFor 39 = .ok (.if_icmp .lt 22, 3) := by decide +kernel
theorem dX12_doesFor_42 : decode cX12_doesFor 42 = .ok (.aload_n 0, 1) := by decide +kernel
theorem dX12_doesFor_43 : decode cX12_doesFor 43 = .ok (.getfield 63, 3) := by decide +kernel
theorem dX12_doesFor_46 : decode cX12_doesFor 46 = .ok (.iload_n 1, 1) := by decide +kernel
theorem dX12_doesFor_47 : decode cX12_doesFor 47 = .ok (.iaload, 1) := by decide +kernel
theorem dX12_doesFor_48 : decode cX12_doesFor 48 = .ok (.aload_n 0, 1) := by decide +kernel
theorem dX12_doesFor_49 : decode cX12_doesFor 49 = .ok (.getfield 69, 3) := by decide +kernel
theorem dX12_doesFor_52 : decode cX12_doesFor 52 = .ok (.iload_n 2, 1) := by decide +kernel
theorem dX12_doesFor_53 : decode cX12_doesFor 53 = .ok (.iaload, 1) := by decide +kernel
theorem dX12_doesFor_54 : decode cX12_doesFor 54 = .ok (.if_icmp .lt 7, 3) := by decide +kernel
theorem dX12_doesFor_57 : decode cX12_doesFor 57 = .ok (.iconst 1, 1) := by decide +kernel
theorem dX12_doesFor_58 : decode cX12_doesFor 58 = .ok (.goto 4, 3) := by decide +kernel
theorem dX12_doesFor_61 : decode cX12_doesFor 61 = .ok (.iconst 0, 1) := by decide +kernel
theorem dX12_doesFor_62 : decode cX12_doesFor 62 = .ok (.ireturn, 1) := by decide +kernel
theorem dX12_stored_0 : decode cX12_stored 0 = .ok (.iload_n 1, 1) := by decide +kernel
theorem dX12_stored_1 : decode cX12_stored 1 = .ok (.i2l, 1) := by decide +kernel
theorem dX12_stored_2 : decode cX12_stored 2 = .ok (.lconst 0, 1) := by decide +kernel
theorem dX12_stored_3 : decode cX12_stored 3 = .ok (.aload_n 0, 1) := by decide +kernel
theorem dX12_stored_4 : decode cX12_stored 4 = .ok (.getfield 226, 3) := by decide +kernel
theorem dX12_stored_7 : decode cX12_stored 7 = .ok (.iconst 1, 1) := by decide +kernel
theorem dX12_stored_8 : decode cX12_stored 8 = .ok (.isub, 1) := by decide +kernel
theorem dX12_stored_9 : decode cX12_stored 9 = .ok (.i2l, 1) := by decide +kernel
theorem dX12_stored_10 : decode cX12_stored 10 = .ok (.invokestatic 145, 3) := by decide +kernel
theorem dX12_stored_13 : decode cX12_stored 13 = .ok (.ifCond .eq 15, 3) := by decide +kernel
theorem dX12_stored_16 : decode cX12_stored 16 = .ok (.iload_n 2, 1) := by decide +kernel
theorem dX12_stored_17 : decode cX12_stored 17 = .ok (.i2l, 1) := by decide +kernel
theorem dX12_stored_18 : decode cX12_stored 18 = .ok (.lconst 0, 1) := by decide +kernel
theorem dX12_stored_19 : decode cX12_stored 19 = .ok (.ldc2_w 229, 3) := by decide +kernel
theorem dX12_stored_22 : decode cX12_stored 22 = .ok (.invokestatic 145, 3) := by decide +kernel
theorem dX12_stored_25 : decode cX12_stored 25 = .ok (.ifCond .ne 5, 3) := by decide +kernel
theorem dX12_stored_28 : decode cX12_stored 28 = .ok (.iconst (-1), 1) := by decide +kernel
theorem dX12_stored_29 : decode cX12_stored 29 = .ok (.ireturn, 1) := by decide +kernel
theorem dX12_stored_30 : decode cX12_stored 30 = .ok (.iconst 0, 1) := by decide +kernel
theorem dX12_stored_31 : decode cX12_stored 31 = .ok (.istore_n 3, 1) := by decide +kernel
theorem dX12_stored_32 : decode cX12_stored 32 = .ok (.iconst 0, 1) := by decide +kernel
theorem dX12_stored_33 : decode cX12_stored 33 = .ok (.istore 4, 2) := by decide +kernel
theorem dX12_stored_35 : decode cX12_stored 35 = .ok (.iload 4, 2) := by decide +kernel
theorem dX12_stored_37 : decode cX12_stored 37 = .ok (.aload_n 0, 1) := by decide +kernel
theorem dX12_stored_38 : decode cX12_stored 38 = .ok (.getfield 171, 3) := by decide +kernel
theorem dX12_stored_41 : decode cX12_stored 41 = .ok (.if_icmp .ge 27, 3) := by decide +kernel
theorem dX12_stored_44 : decode cX12_stored 44 = .ok (.iload_n 3, 1) := by decide +kernel
theorem dX12_stored_45 : decode cX12_stored 45 = .ok (.aload_n 0, 1) := by decide +kernel
theorem dX12_stored_46 : decode cX12_stored 46 = .ok (.iload_n 1, 1) := by decide +kernel
theorem dX12_stored_47 : decode cX12_stored 47 = .ok (.iload 4, 2) := by decide +kernel
theorem dX12_stored_49 : decode cX12_stored 49 = .ok (.invokevirtual 231, 3) := by decide +kernel
theorem dX12_stored_52 : decode cX12_stored 52 = .ok (.ifCond .eq 7, 3) := by decide +kernel
theorem dX12_stored_55 : decode cX12_stored 55 = .ok (.iconst 1, 1) := by decide +kernel
theorem dX12_stored_56 : decode cX12_stored 56 = .ok (.goto 4, 3) := by decide +kernel
theorem dX12_stored_59 : decode cX12_stored 59 = .ok (.iconst 0, 1) := by decide +kernel
theorem dX12_stored_60 : decode cX12_stored 60 = .ok (.iadd, 1) := by decide +kernel
theorem dX12_stored_61 : decode cX12_stored 61 = .ok (.istore_n 3, 1) := by decide +kernel
theorem dX12_stored_62 : decode cX12_stored 62 = .ok (.iinc 4 1, 3) := by decide +kernel
theorem dX12_stored_65 : decode cX12_stored 65 = .ok (.goto (-30), 3) := by decide +kernel
theorem dX12_stored_68 : decode cX12_stored 68 = .ok (.iload_n 2, 1) := by decide +kernel
theorem dX12_stored_69 : decode cX12_stored 69 = .ok (.ifCond .ne 12, 3) := by decide +kernel
theorem dX12_stored_72 : decode cX12_stored 72 = .ok (.aload_n 0, 1) := by decide +kernel
theorem dX12_stored_73 : decode cX12_stored 73 = .ok (.getfield 54, 3) := by decide +kernel
theorem dX12_stored_76 : decode cX12_stored 76 = .ok (.iload_n 1, 1) := by decide +kernel
theorem dX12_stored_77 : decode cX12_stored 77 = .ok (.iaload, 1) := by decide +kernel
theorem dX12_stored_78 : decode cX12_stored 78 = .ok (.goto 46, 3) := by decide +kernel
theorem dX12_stored_81 : decode cX12_stored 81 = .ok (.iload_n 2, 1) := by decide +kernel
theorem dX12_stored_82 : decode cX12_stored 82 = .ok (.iconst 1, 1) := by decide +kernel
theorem dX12_stored_83 : decode cX12_stored 83 = .ok (.if_icmp .ne 12, 3) := by decide +kernel
theorem dX12_stored_86 : decode cX12_stored 86 = .ok (.aload_n 0, 1) := by decide +kernel
theorem dX12_stored_87 : decode cX12_stored 87 = .ok (.getfield 57, 3) := by decide +kernel
theorem dX12_stored_90 : decode cX12_stored 90 = .ok (.iload_n 1, 1) := by decide +kernel
theorem dX12_stored_91 : decode cX12_stored 91 = .ok (.iaload, 1) := by decide +kernel
theorem dX12_stored_92 : decode cX12_stored 92 = .ok (.goto 32, 3) := by decide +kernel
theorem dX12_stored_95 : decode cX12_stored 95 = .ok (.iload_n 2, 1) := by decide +kernel
theorem dX12_stored_96 : decode cX12_stored 96 = .ok (.iconst 2, 1) := by decide +kernel
theorem dX12_stored_97 : decode cX12_stored 97 = .ok (.if_icmp .ne 12, 3) := by decide +kernel
theorem dX12_stored_100 : decode cX12_stored 100 = .ok (.aload_n 0, 1) := by decide +kernel
theorem dX12_stored_101 : decode cX12_stored 101 = .ok (.getfield 60, 3) := by decide +kernel
theorem dX12_stored_104 : decode cX12_stored 104 = .ok (.iload_n 1, 1) := by decide +kernel
theorem dX12_stored_105 : decode cX12_stored 105 = .ok (.iaload, 1) := by decide +kernel
theorem dX12_stored_106 : decode cX12_stored 106 = .ok (.goto 18, 3) := by decide +kernel
theorem dX12_stored_109 : decode cX12_stored 109 = .ok (.iload_n 2, 1) := by decide +kernel
theorem dX12_stored_110 : decode cX12_stored 110 = .ok (.iconst 3, 1) := by decide +kernel
theorem dX12_stored_111 : decode cX12_stored 111 = .ok (.if_icmp .ne 12, 3) := by decide +kernel
theorem dX12_stored_114 : decode cX12_stored 114 = .ok (.aload_n 0, 1) := by decide +kernel
theorem dX12_stored_115 : decode cX12_stored 115 = .ok (.getfield 63, 3) := by decide +kernel
theorem dX12_stored_118 : decode cX12_stored 118 = .ok (.iload_n 1, 1) := by decide +kernel
theorem dX12_stored_119 : decode cX12_stored 119 = .ok (.iaload, 1) := by decide +kernel
theorem dX12_stored_120 : decode cX12_stored 120 = .ok (.goto 4, 3) := by decide +kernel
theorem dX12_stored_123 : decode cX12_stored 123 = .ok (.iload_n 3, 1) := by decide +kernel
theorem dX12_stored_124 : decode cX12_stored 124 = .ok (.ireturn, 1) := by decide +kernel
theorem dX12_age_0 : decode cX12_age 0 = .ok (.iconst 0, 1) := by decide +kernel
theorem dX12_age_1 : decode cX12_age 1 = .ok (.istore_n 1, 1) := by decide +kernel
theorem dX12_age_2 : decode cX12_age 2 = .ok (.iload_n 1, 1) := by decide +kernel
theorem dX12_age_3 : decode cX12_age 3 = .ok (.aload_n 0, 1) := by decide +kernel
theorem dX12_age_4 : decode cX12_age 4 = .ok (.getfield 226, 3) := by decide +kernel
theorem dX12_age_7 : decode cX12_age 7 = .ok (.if_icmp .ge 39, 3) := by decide +kernel
theorem dX12_age_10 : decode cX12_age 10 = .ok (.aload_n 0, 1) := by decide +kernel
theorem dX12_age_11 : decode cX12_age 11 = .ok (.getfield 63, 3) := by decide +kernel
theorem dX12_age_14 : decode cX12_age 14 = .ok (.iload_n 1, 1) := by decide +kernel
theorem dX12_age_15 : decode cX12_age 15 = .ok (.aload_n 0, 1) := by decide +kernel
theorem dX12_age_16 : decode cX12_age 16 = .ok (.getfield 63, 3) := by decide +kernel
theorem dX12_age_19 : decode cX12_age 19 = .ok (.iload_n 1, 1) := by decide +kernel
theorem dX12_age_20 : decode cX12_age 20 = .ok (.iaload, 1) := by decide +kernel
theorem dX12_age_21 : decode cX12_age 21 = .ok (.bipush 99, 2) := by decide +kernel
theorem dX12_age_23 : decode cX12_age 23 = .ok (.if_icmp .ge 14, 3) := by decide +kernel
theorem dX12_age_26 : decode cX12_age 26 = .ok (.aload_n 0, 1) := by decide +kernel
theorem dX12_age_27 : decode cX12_age 27 = .ok (.getfield 63, 3) := by decide +kernel
theorem dX12_age_30 : decode cX12_age 30 = .ok (.iload_n 1, 1) := by decide +kernel
theorem dX12_age_31 : decode cX12_age 31 = .ok (.iaload, 1) := by decide +kernel
theorem dX12_age_32 : decode cX12_age 32 = .ok (.iconst 1, 1) := by decide +kernel
theorem dX12_age_33 : decode cX12_age 33 = .ok (.iadd, 1) := by decide +kernel
theorem dX12_age_34 : decode cX12_age 34 = .ok (.goto 5, 3) := by decide +kernel
theorem dX12_age_37 : decode cX12_age 37 = .ok (.bipush 99, 2) := by decide +kernel
theorem dX12_age_39 : decode cX12_age 39 = .ok (.iastore, 1) := by decide +kernel
theorem dX12_age_40 : decode cX12_age 40 = .ok (.iinc 1 1, 3) := by decide +kernel
theorem dX12_age_43 : decode cX12_age 43 = .ok (.goto (-41), 3) := by decide +kernel
theorem dX12_age_46 : decode cX12_age 46 = .ok (.aload_n 0, 1) := by decide +kernel
theorem dX12_age_47 : decode cX12_age 47 = .ok (.getfield 226, 3) := by decide +kernel
theorem dX12_age_50 : decode cX12_age 50 = .ok (.ireturn, 1) := by decide +kernel
theorem dX12_order_0 : decode cX12_order 0 = .ok (.aload_n 0, 1) := by decide +kernel
theorem dX12_order_1 : decode cX12_order 1 = .ok (.iload_n 1, 1) := by decide +kernel
theorem dX12_order_2 : decode cX12_order 2 = .ok (.invokevirtual 190, 3) := by decide +kernel
theorem dX12_order_5 : decode cX12_order 5 = .ok (.ifCond .eq 27, 3) := by decide +kernel
theorem dX12_order_8 : decode cX12_order 8 = .ok (.iload_n 2, 1) := by decide +kernel
theorem dX12_order_9 : decode cX12_order 9 = .ok (.i2l, 1) := by decide +kernel
theorem dX12_order_10 : decode cX12_order 10 = .ok (.lconst 0, 1) := by decide +kernel
theorem dX12_order_11 : decode cX12_order 11 = .ok (.ldc2_w 224, 3) := by decide +kernel
theorem dX12_order_14 : decode cX12_order 14 = .ok (.invokestatic 145, 3) := by decide +kernel
theorem dX12_order_17 : decode cX12_order 17 = .ok (.ifCond .eq 15, 3) := by decide +kernel
theorem dX12_order_20 : decode cX12_order 20 = .ok (.iload_n 3, 1) := by decide +kernel
theorem dX12_order_21 : decode cX12_order 21 = .ok (.i2l, 1) := by decide +kernel
theorem dX12_order_22 : decode cX12_order 22 = .ok (.lconst 1, 1) := by decide +kernel
theorem dX12_order_23 : decode cX12_order 23 = .ok (.ldc2_w 234, 3) := by decide +kernel
theorem dX12_order_26 : decode cX12_order 26 = .ok (.invokestatic 145, 3) := by decide +kernel
theorem dX12_order_29 : decode cX12_order 29 = .ok (.ifCond .ne 5, 3) := by decide +kernel
theorem dX12_order_32 : decode cX12_order 32 = .ok (.iconst (-1), 1) := by decide +kernel
theorem dX12_order_33 : decode cX12_order 33 = .ok (.ireturn, 1) := by decide +kernel
theorem dX12_order_34 : decode cX12_order 34 = .ok (.aload_n 0, 1) := by decide +kernel
theorem dX12_order_35 : decode cX12_order 35 = .ok (.getfield 171, 3) := by decide +kernel
theorem dX12_order_38 : decode cX12_order 38 = .ok (.bipush 8, 2) := by decide +kernel
theorem dX12_order_40 : decode cX12_order 40 = .ok (.if_icmp .ne 6, 3) := by decide +kernel
theorem dX12_order_43 : decode cX12_order 43 = .ok (.bipush (-3), 2) := by decide +kernel
theorem dX12_order_45 : decode cX12_order 45 = .ok (.ireturn, 1) := by decide +kernel
theorem dX12_order_46 : decode cX12_order 46 = .ok (.aload_n 0, 1) := by decide +kernel
theorem dX12_order_47 : decode cX12_order 47 = .ok (.getfield 66, 3) := by decide +kernel
theorem dX12_order_50 : decode cX12_order 50 = .ok (.aload_n 0, 1) := by decide +kernel
theorem dX12_order_51 : decode cX12_order 51 = .ok (.getfield 171, 3) := by decide +kernel
theorem dX12_order_54 : decode cX12_order 54 = .ok (.iload_n 1, 1) := by decide +kernel
theorem dX12_order_55 : decode cX12_order 55 = .ok (.iastore, 1) := by decide +kernel
theorem dX12_order_56 : decode cX12_order 56 = .ok (.aload_n 0, 1) := by decide +kernel
theorem dX12_order_57 : decode cX12_order 57 = .ok (.getfield 69, 3) := by decide +kernel
theorem dX12_order_60 : decode cX12_order 60 = .ok (.aload_n 0, 1) := by decide +kernel
theorem dX12_order_61 : decode cX12_order 61 = .ok (.getfield 171, 3) := by decide +kernel
theorem dX12_order_64 : decode cX12_order 64 = .ok (.iload_n 2, 1) := by decide +kernel
theorem dX12_order_65 : decode cX12_order 65 = .ok (.iastore, 1) := by decide +kernel
theorem dX12_order_66 : decode cX12_order 66 = .ok (.aload_n 0, 1) := by decide +kernel
theorem dX12_order_67 : decode cX12_order 67 = .ok (.getfield 72, 3) := by decide +kernel
theorem dX12_order_70 : decode cX12_order 70 = .ok (.aload_n 0, 1) := by decide +kernel
theorem dX12_order_71 : decode cX12_order 71 = .ok (.getfield 171, 3) := by decide +kernel
theorem dX12_order_74 : decode cX12_order 74 = .ok (.iload_n 3, 1) := by decide +kernel
theorem dX12_order_75 : decode cX12_order 75 = .ok (.iastore, 1) := by decide +kernel
theorem dX12_order_76 : decode cX12_order 76 = .ok (.aload_n 0, 1) := by decide +kernel
theorem dX12_order_77 : decode cX12_order 77 = .ok (.dup, 1) := by decide +kernel
theorem dX12_order_78 : decode cX12_order 78 = .ok (.getfield 171, 3) := by decide +kernel
theorem dX12_order_81 : decode cX12_order 81 = .ok (.iconst 1, 1) := by decide +kernel
theorem dX12_order_82 : decode cX12_order 82 = .ok (.iadd, 1) := by decide +kernel
theorem dX12_order_83 : decode cX12_order 83 = .ok (.putfield 171, 3) := by decide +kernel
theorem dX12_order_86 : decode cX12_order 86 = .ok (.aload_n 0, 1) := by decide +kernel
theorem dX12_order_87 : decode cX12_order 87 = .ok (.getfield 171, 3) := by decide +kernel
theorem dX12_order_90 : decode cX12_order 90 = .ok (.iconst 1, 1) := by decide +kernel
theorem dX12_order_91 : decode cX12_order 91 = .ok (.isub, 1) := by decide +kernel
theorem dX12_order_92 : decode cX12_order 92 = .ok (.ireturn, 1) := by decide +kernel
theorem dX12_findFilled_0 : decode cX12_findFilled 0 = .ok (.iconst 0, 1) := by decide +kernel
theorem dX12_findFilled_1 : decode cX12_findFilled 1 = .ok (.istore_n 1, 1) := by decide +kernel
theorem dX12_findFilled_2 : decode cX12_findFilled 2 = .ok (.iload_n 1, 1) := by decide +kernel
theorem dX12_findFilled_3 : decode cX12_findFilled 3 = .ok (.sipush 4096, 3) := by decide +kernel
theorem dX12_findFilled_6 : decode cX12_findFilled 6 = .ok (.if_icmp .ge 25, 3) := by decide +kernel
theorem dX12_findFilled_9 : decode cX12_findFilled 9 = .ok (.aload_n 0, 1) := by decide +kernel
theorem dX12_findFilled_10 : decode cX12_findFilled 10 = .ok (.getfield 76, 3) := by decide +kernel
theorem dX12_findFilled_13 : decode cX12_findFilled 13 = .ok (.sipush 4096, 3) := by decide +kernel
theorem dX12_findFilled_16 : decode cX12_findFilled 16 = .ok (.aload_n 0, 1) := by decide +kernel
theorem dX12_findFilled_17 : decode cX12_findFilled 17 = .ok (.getfield 171, 3) := by decide +kernel
theorem dX12_findFilled_20 : decode cX12_findFilled 20 = .ok (.imul, 1) := by decide +kernel
theorem dX12_findFilled_21 : decode cX12_findFilled 21 = .ok (.iload_n 1, 1) := by decide +kernel
theorem dX12_findFilled_22 : decode cX12_findFilled 22 = .ok (.iadd, 1) := by decide +kernel
theorem dX12_findFilled_23 : decode cX12_findFilled 23 = .ok (.iconst 0, 1) := by decide +kernel
theorem dX12_findFilled_24 : decode cX12_findFilled 24 = .ok (.iastore, 1) := by decide +kernel
theorem dX12_findFilled_25 : decode cX12_findFilled 25 = .ok (.iinc 1 1, 3) := by decide +kernel
theorem dX12_findFilled_28 : decode cX12_findFilled 28 = .ok (.goto (-26), 3) := by decide +kernel
theorem dX12_findFilled_31 : decode cX12_findFilled 31 = .ok (.aload_n 0, 1) := by decide +kernel
theorem dX12_findFilled_32 : decode cX12_findFilled 32 = .ok (.getfield 171, 3) := by decide +kernel
theorem dX12_findFilled_35 : decode cX12_findFilled 35 = .ok (.iconst 1, 1) := by decide +kernel
theorem dX12_findFilled_36 : decode cX12_findFilled 36 = .ok (.isub, 1) := by decide +kernel
theorem dX12_findFilled_37 : decode cX12_findFilled 37 = .ok (.istore_n 1, 1) := by decide +kernel
theorem dX12_findFilled_38 : decode cX12_findFilled 38 = .ok (.iload_n 1, 1) := by decide +kernel
theorem dX12_findFilled_39 : decode cX12_findFilled 39 = .ok (.ifCond .lt 133, 3) := by decide +kernel
theorem dX12_findFilled_42 : decode cX12_findFilled 42 = .ok (.iconst 0, 1) := by decide +kernel
theorem dX12_findFilled_43 : decode cX12_findFilled 43 = .ok (.istore_n 2, 1) := by decide +kernel
theorem dX12_findFilled_44 : decode cX12_findFilled 44 = .ok (.iload_n 2, 1) := by decide +kernel
theorem dX12_findFilled_45 : decode cX12_findFilled 45 = .ok (.iconst 1, 1) := by decide +kernel
theorem dX12_findFilled_46 : decode cX12_findFilled 46 = .ok (.aload_n 0, 1) := by decide +kernel
theorem dX12_findFilled_47 : decode cX12_findFilled 47 = .ok (.getfield 226, 3) := by decide +kernel
theorem dX12_findFilled_50 : decode cX12_findFilled 50 = .ok (.ishl, 1) := by decide +kernel
theorem dX12_findFilled_51 : decode cX12_findFilled 51 = .ok (.if_icmp .ge 115, 3) := by decide +kernel
theorem dX12_findFilled_54 : decode cX12_findFilled 54 = .ok (.aload_n 0, 1) := by decide +kernel
theorem dX12_findFilled_55 : decode cX12_findFilled 55 = .ok (.getfield 76, 3) := by decide +kernel
theorem dX12_findFilled_58 : decode cX12_findFilled 58 = .ok (.sipush 4096, 3) := by decide +kernel
theorem dX12_findFilled_61 : decode cX12_findFilled 61 = .ok (.iload_n 1, 1) := by decide +kernel
theorem dX12_findFilled_62 : decode cX12_findFilled 62 = .ok (.iconst 1, 1) := by decide +kernel
theorem dX12_findFilled_63 : decode cX12_findFilled 63 = .ok (.iadd, 1) := by decide +kernel
theorem dX12_findFilled_64 : decode cX12_findFilled 64 = .ok (.imul, 1) := by decide +kernel
theorem dX12_findFilled_65 : decode cX12_findFilled 65 = .ok (.iload_n 2, 1) := by decide +kernel
theorem dX12_findFilled_66 : decode cX12_findFilled 66 = .ok (.iadd, 1) := by decide +kernel
theorem dX12_findFilled_67 : decode cX12_findFilled 67 = .ok (.iaload, 1) := by decide +kernel
theorem dX12_findFilled_68 : decode cX12_findFilled 68 = .ok (.istore_n 3, 1) := by decide +kernel
theorem dX12_findFilled_69 : decode cX12_findFilled 69 = .ok (.iconst 0, 1) := by decide +kernel
theorem dX12_findFilled_70 : decode cX12_findFilled 70 = .ok (.istore 4, 2) := by decide +kernel
theorem dX12_findFilled_72 : decode cX12_findFilled 72 = .ok (.iload 4, 2) := by decide +kernel
theorem dX12_findFilled_74 : decode cX12_findFilled 74 = .ok (.aload_n 0, 1) := by decide +kernel
theorem dX12_findFilled_75 : decode cX12_findFilled 75 = .ok (.getfield 226, 3) := by decide +kernel
theorem dX12_findFilled_78 : decode cX12_findFilled 78 = .ok (.if_icmp .ge 69, 3) := by decide +kernel
theorem dX12_findFilled_81 : decode cX12_findFilled 81 = .ok (.iload_n 2, 1) := by decide +kernel
theorem dX12_findFilled_82 : decode cX12_findFilled 82 = .ok (.iload 4, 2) := by decide +kernel
theorem dX12_findFilled_84 : decode cX12_findFilled 84 = .ok (.ishr, 1) := by decide +kernel
theorem dX12_findFilled_85 : decode cX12_findFilled 85 = .ok (.iconst 1, 1) := by decide +kernel
theorem dX12_findFilled_86 : decode cX12_findFilled 86 = .ok (.iand, 1) := by decide +kernel
theorem dX12_findFilled_87 : decode cX12_findFilled 87 = .ok (.ifCond .ne 54, 3) := by decide +kernel
theorem dX12_findFilled_90 : decode cX12_findFilled 90 = .ok (.aload_n 0, 1) := by decide +kernel
theorem dX12_findFilled_91 : decode cX12_findFilled 91 = .ok (.iload 4, 2) := by decide +kernel
theorem dX12_findFilled_93 : decode cX12_findFilled 93 = .ok (.iload_n 1, 1) := by decide +kernel
theorem dX12_findFilled_94 : decode cX12_findFilled 94 = .ok (.invokevirtual 231, 3) := by decide +kernel
theorem dX12_findFilled_97 : decode cX12_findFilled 97 = .ok (.ifCond .eq 44, 3) := by decide +kernel
theorem dX12_findFilled_100 : decode cX12_findFilled 100 = .ok (.aload_n 0, 1) := by decide +kernel
theorem dX12_findFilled_101 : decode cX12_findFilled 101 = .ok (.getfield 72, 3) := by decide +kernel
theorem dX12_findFilled_104 : decode cX12_findFilled 104 = .ok (.iload_n 1, 1) := by decide +kernel
theorem dX12_findFilled_105 : decode cX12_findFilled 105 = .ok (.iaload, 1) := by decide +kernel
theorem dX12_findFilled_106 : decode cX12_findFilled 106 = .ok (.aload_n 0, 1) := by decide +kernel
theorem dX12_findFilled_107 : decode cX12_findFilled 107 = .ok (.getfield 76, 3) := by decide +kernel
theorem dX12_findFilled_110 : decode cX12_findFilled 110 = .ok (.sipush 4096, 3) := by decide +kernel
theorem dX12_findFilled_113 : decode cX12_findFilled 113 = .ok (.iload_n 1, 1) := by decide +kernel
theorem dX12_findFilled_114 : decode cX12_findFilled 114 = .ok (.iconst 1, 1) := by decide +kernel
theorem dX12_findFilled_115 : decode cX12_findFilled 115 = .ok (.iadd, 1) := by decide +kernel
theorem dX12_findFilled_116 : decode cX12_findFilled 116 = .ok (.imul, 1) := by decide +kernel
theorem dX12_findFilled_117 : decode cX12_findFilled 117 = .ok (.iload_n 2, 1) := by decide +kernel
theorem dX12_findFilled_118 : decode cX12_findFilled 118 = .ok (.iconst 1, 1) := by decide +kernel
theorem dX12_findFilled_119 : decode cX12_findFilled 119 = .ok (.iload 4, 2) := by decide +kernel
theorem dX12_findFilled_121 : decode cX12_findFilled 121 = .ok (.ishl, 1) := by decide +kernel
theorem dX12_findFilled_122 : decode cX12_findFilled 122 = .ok (.ior, 1) := by decide +kernel
theorem dX12_findFilled_123 : decode cX12_findFilled 123 = .ok (.iadd, 1) := by decide +kernel
theorem dX12_findFilled_124 : decode cX12_findFilled 124 = .ok (.iaload, 1) := by decide +kernel
theorem dX12_findFilled_125 : decode cX12_findFilled 125 = .ok (.iadd, 1) := by decide +kernel
theorem dX12_findFilled_126 : decode cX12_findFilled 126 = .ok (.istore 5, 2) := by decide +kernel
theorem dX12_findFilled_128 : decode cX12_findFilled 128 = .ok (.iload 5, 2) := by decide +kernel
theorem dX12_findFilled_130 : decode cX12_findFilled 130 = .ok (.iload_n 3, 1) := by decide +kernel
theorem dX12_findFilled_131 : decode cX12_findFilled 131 = .ok (.if_icmp .le 8, 3) := by decide +kernel
theorem dX12_findFilled_134 : decode cX12_findFilled 134 = .ok (.iload 5, 2) := by decide +kernel
theorem dX12_findFilled_136 : decode cX12_findFilled 136 = .ok (.goto 4, 3) := by decide +kernel
theorem dX12_findFilled_139 : decode cX12_findFilled 139 = .ok (.iload_n 3, 1) := by decide +kernel
theorem dX12_findFilled_140 : decode cX12_findFilled 140 = .ok (.istore_n 3, 1) := by decide +kernel
theorem dX12_findFilled_141 : decode cX12_findFilled 141 = .ok (.iinc 4 1, 3) := by decide +kernel
theorem dX12_findFilled_144 : decode cX12_findFilled 144 = .ok (.goto (-72), 3) := by decide +kernel
theorem dX12_findFilled_147 : decode cX12_findFilled 147 = .ok (.aload_n 0, 1) := by decide +kernel
theorem dX12_findFilled_148 : decode cX12_findFilled 148 = .ok (.getfield 76, 3) := by decide +kernel
theorem dX12_findFilled_151 : decode cX12_findFilled 151 = .ok (.sipush 4096, 3) := by decide +kernel
theorem dX12_findFilled_154 : decode cX12_findFilled 154 = .ok (.iload_n 1, 1) := by decide +kernel
theorem dX12_findFilled_155 : decode cX12_findFilled 155 = .ok (.imul, 1) := by decide +kernel
theorem dX12_findFilled_156 : decode cX12_findFilled 156 = .ok (.iload_n 2, 1) := by decide +kernel
theorem dX12_findFilled_157 : decode cX12_findFilled 157 = .ok (.iadd, 1) := by decide +kernel
theorem dX12_findFilled_158 : decode cX12_findFilled 158 = .ok (.iload_n 3, 1) := by decide +kernel
theorem dX12_findFilled_159 : decode cX12_findFilled 159 = .ok (.iastore, 1) := by decide +kernel
theorem dX12_findFilled_160 : decode cX12_findFilled 160 = .ok (.iinc 2 1, 3) := by decide +kernel
theorem dX12_findFilled_163 : decode cX12_findFilled 163 = .ok (.goto (-119), 3) := by decide +kernel
theorem dX12_findFilled_166 : decode cX12_findFilled 166 = .ok (.iinc 1 (-1), 3) := by decide +kernel
theorem dX12_findFilled_169 : decode cX12_findFilled 169 = .ok (.goto (-131), 3) := by decide +kernel
theorem dX12_findFilled_172 : decode cX12_findFilled 172 = .ok (.iconst 0, 1) := by decide +kernel
theorem dX12_findFilled_173 : decode cX12_findFilled 173 = .ok (.istore_n 1, 1) := by decide +kernel
theorem dX12_findFilled_174 : decode cX12_findFilled 174 = .ok (.iconst 0, 1) := by decide +kernel
theorem dX12_findFilled_175 : decode cX12_findFilled 175 = .ok (.istore_n 2, 1) := by decide +kernel
theorem dX12_findFilled_176 : decode cX12_findFilled 176 = .ok (.iload_n 2, 1) := by decide +kernel
theorem dX12_findFilled_177 : decode cX12_findFilled 177 = .ok (.aload_n 0, 1) := by decide +kernel
theorem dX12_findFilled_178 : decode cX12_findFilled 178 = .ok (.getfield 171, 3) := by decide +kernel
theorem dX12_findFilled_181 : decode cX12_findFilled 181 = .ok (.if_icmp .ge 124, 3) := by decide +kernel
theorem dX12_findFilled_184 : decode cX12_findFilled 184 = .ok (.aload_n 0, 1) := by decide +kernel
theorem dX12_findFilled_185 : decode cX12_findFilled 185 = .ok (.getfield 79, 3) := by decide +kernel
theorem dX12_findFilled_188 : decode cX12_findFilled 188 = .ok (.iload_n 2, 1) := by decide +kernel
theorem dX12_findFilled_189 : decode cX12_findFilled 189 = .ok (.bipush (-4), 2) := by decide +kernel
theorem dX12_findFilled_191 : decode cX12_findFilled 191 = .ok (.iastore, 1) := by decide +kernel
theorem dX12_findFilled_192 : decode cX12_findFilled 192 = .ok (.aload_n 0, 1) := by decide +kernel
theorem dX12_findFilled_193 : decode cX12_findFilled 193 = .ok (.getfield 226, 3) := by decide +kernel
theorem dX12_findFilled_196 : decode cX12_findFilled 196 = .ok (.iconst 1, 1) := by decide +kernel
theorem dX12_findFilled_197 : decode cX12_findFilled 197 = .ok (.isub, 1) := by decide +kernel
theorem dX12_findFilled_198 : decode cX12_findFilled 198 = .ok (.istore_n 3, 1) := by decide +kernel
theorem dX12_findFilled_199 : decode cX12_findFilled 199 = .ok (.iload_n 3, 1) := by decide +kernel
theorem dX12_findFilled_200 : decode cX12_findFilled 200 = .ok (.ifCond .lt 73, 3) := by decide +kernel
theorem dX12_findFilled_203 : decode cX12_findFilled 203 = .ok (.iload_n 1, 1) := by decide +kernel
theorem dX12_findFilled_204 : decode cX12_findFilled 204 = .ok (.iload_n 3, 1) := by decide +kernel
theorem dX12_findFilled_205 : decode cX12_findFilled 205 = .ok (.ishr, 1) := by decide +kernel
theorem dX12_findFilled_206 : decode cX12_findFilled 206 = .ok (.iconst 1, 1) := by decide +kernel
theorem dX12_findFilled_207 : decode cX12_findFilled 207 = .ok (.iand, 1) := by decide +kernel
theorem dX12_findFilled_208 : decode cX12_findFilled 208 = .ok (.ifCond .ne 59, 3) := by decide +kernel
theorem dX12_findFilled_211 : decode cX12_findFilled 211 = .ok (.aload_n 0, 1) := by decide +kernel
theorem dX12_findFilled_212 : decode cX12_findFilled 212 = .ok (.iload_n 3, 1) := by decide +kernel
theorem dX12_findFilled_213 : decode cX12_findFilled 213 = .ok (.iload_n 2, 1) := by decide +kernel
theorem dX12_findFilled_214 : decode cX12_findFilled 214 = .ok (.invokevirtual 231, 3) := by decide +kernel
theorem dX12_findFilled_217 : decode cX12_findFilled 217 = .ok (.ifCond .eq 50, 3) := by decide +kernel
theorem dX12_findFilled_220 : decode cX12_findFilled 220 = .ok (.aload_n 0, 1) := by decide +kernel
theorem dX12_findFilled_221 : decode cX12_findFilled 221 = .ok (.getfield 72, 3) := by decide +kernel
theorem dX12_findFilled_224 : decode cX12_findFilled 224 = .ok (.iload_n 2, 1) := by decide +kernel
theorem dX12_findFilled_225 : decode cX12_findFilled 225 = .ok (.iaload, 1) := by decide +kernel
theorem dX12_findFilled_226 : decode cX12_findFilled 226 = .ok (.aload_n 0, 1) := by decide +kernel
theorem dX12_findFilled_227 : decode cX12_findFilled 227 = .ok (.getfield 76, 3) := by decide +kernel
theorem dX12_findFilled_230 : decode cX12_findFilled 230 = .ok (.sipush 4096, 3) := by decide +kernel
theorem dX12_findFilled_233 : decode cX12_findFilled 233 = .ok (.iload_n 2, 1) := by decide +kernel
theorem dX12_findFilled_234 : decode cX12_findFilled 234 = .ok (.iconst 1, 1) := by decide +kernel
theorem dX12_findFilled_235 : decode cX12_findFilled 235 = .ok (.iadd, 1) := by decide +kernel
theorem dX12_findFilled_236 : decode cX12_findFilled 236 = .ok (.imul, 1) := by decide +kernel
theorem dX12_findFilled_237 : decode cX12_findFilled 237 = .ok (.iload_n 1, 1) := by decide +kernel
theorem dX12_findFilled_238 : decode cX12_findFilled 238 = .ok (.iconst 1, 1) := by decide +kernel
theorem dX12_findFilled_239 : decode cX12_findFilled 239 = .ok (.iload_n 3, 1) := by decide +kernel
theorem dX12_findFilled_240 : decode cX12_findFilled 240 = .ok (.ishl, 1) := by decide +kernel
theorem dX12_findFilled_241 : decode cX12_findFilled 241 = .ok (.ior, 1) := by decide +kernel
theorem dX12_findFilled_242 : decode cX12_findFilled 242 = .ok (.iadd, 1) := by decide +kernel
theorem dX12_findFilled_243 : decode cX12_findFilled 243 = .ok (.iaload, 1) := by decide +kernel
theorem dX12_findFilled_244 : decode cX12_findFilled 244 = .ok (.iadd, 1) := by decide +kernel
theorem dX12_findFilled_245 : decode cX12_findFilled 245 = .ok (.aload_n 0, 1) := by decide +kernel
theorem dX12_findFilled_246 : decode cX12_findFilled 246 = .ok (.getfield 76, 3) := by decide +kernel
theorem dX12_findFilled_249 : decode cX12_findFilled 249 = .ok (.sipush 4096, 3) := by decide +kernel
theorem dX12_findFilled_252 : decode cX12_findFilled 252 = .ok (.iload_n 2, 1) := by decide +kernel
theorem dX12_findFilled_253 : decode cX12_findFilled 253 = .ok (.imul, 1) := by decide +kernel
theorem dX12_findFilled_254 : decode cX12_findFilled 254 = .ok (.iload_n 1, 1) := by decide +kernel
theorem dX12_findFilled_255 : decode cX12_findFilled 255 = .ok (.iadd, 1) := by decide +kernel
theorem dX12_findFilled_256 : decode cX12_findFilled 256 = .ok (.iaload, 1) := by decide +kernel
theorem dX12_findFilled_257 : decode cX12_findFilled 257 = .ok (.if_icmp .ne 10, 3) := by decide +kernel
theorem dX12_findFilled_260 : decode cX12_findFilled 260 = .ok (.aload_n 0, 1) := by decide +kernel
theorem dX12_findFilled_261 : decode cX12_findFilled 261 = .ok (.getfield 79, 3) := by decide +kernel
theorem dX12_findFilled_264 : decode cX12_findFilled 264 = .ok (.iload_n 2, 1) := by decide +kernel
theorem dX12_findFilled_265 : decode cX12_findFilled 265 = .ok (.iload_n 3, 1) := by decide +kernel
theorem dX12_findFilled_266 : decode cX12_findFilled 266 = .ok (.iastore, 1) := by decide +kernel
theorem dX12_findFilled_267 : decode cX12_findFilled 267 = .ok (.iinc 3 (-1), 3) := by decide +kernel
theorem dX12_findFilled_270 : decode cX12_findFilled 270 = .ok (.goto (-71), 3) := by decide +kernel
theorem dX12_findFilled_273 : decode cX12_findFilled 273 = .ok (.iload_n 1, 1) := by decide +kernel
theorem dX12_findFilled_274 : decode cX12_findFilled 274 = .ok (.aload_n 0, 1) := by decide +kernel
theorem dX12_findFilled_275 : decode cX12_findFilled 275 = .ok (.getfield 79, 3) := by decide +kernel
theorem dX12_findFilled_278 : decode cX12_findFilled 278 = .ok (.iload_n 2, 1) := by decide +kernel
theorem dX12_findFilled_279 : decode cX12_findFilled 279 = .ok (.iaload, 1) := by decide +kernel
theorem dX12_findFilled_280 : decode cX12_findFilled 280 = .ok (.bipush (-4), 2) := by decide +kernel
theorem dX12_findFilled_282 : decode cX12_findFilled 282 = .ok (.if_icmp .ne 7, 3) := by decide +kernel
theorem dX12_findFilled_285 : decode cX12_findFilled 285 = .ok (.iconst 0, 1) := by decide +kernel
theorem dX12_findFilled_286 : decode cX12_findFilled 286 = .ok (.goto 11, 3) := by decide +kernel
theorem dX12_findFilled_289 : decode cX12_findFilled 289 = .ok (.iconst 1, 1) := by decide +kernel
theorem dX12_findFilled_290 : decode cX12_findFilled 290 = .ok (.aload_n 0, 1) := by decide +kernel
theorem dX12_findFilled_291 : decode cX12_findFilled 291 = .ok (.getfield 79, 3) := by decide +kernel
theorem dX12_findFilled_294 : decode cX12_findFilled 294 = .ok (.iload_n 2, 1) := by decide +kernel
theorem dX12_findFilled_295 : decode cX12_findFilled 295 = .ok (.iaload, 1) := by decide +kernel
theorem dX12_findFilled_296 : decode cX12_findFilled 296 = .ok (.ishl, 1) := by decide +kernel
theorem dX12_findFilled_297 : decode cX12_findFilled 297 = .ok (.ior, 1) := by decide +kernel
theorem dX12_findFilled_298 : decode cX12_findFilled 298 = .ok (.istore_n 1, 1) := by decide +kernel
theorem dX12_findFilled_299 : decode cX12_findFilled 299 = .ok (.iinc 2 1, 3) := by decide +kernel
theorem dX12_findFilled_302 : decode cX12_findFilled 302 = .ok (.goto (-126), 3) := by decide +kernel
theorem dX12_findFilled_305 : decode cX12_findFilled 305 = .ok (.aload_n 0, 1) := by decide +kernel
theorem dX12_findFilled_306 : decode cX12_findFilled 306 = .ok (.getfield 76, 3) := by decide +kernel
theorem dX12_findFilled_309 : decode cX12_findFilled 309 = .ok (.iconst 0, 1) := by decide +kernel
theorem dX12_findFilled_310 : decode cX12_findFilled 310 = .ok (.iaload, 1) := by decide +kernel
theorem dX12_findFilled_311 : decode cX12_findFilled 311 = .ok (.ireturn, 1) := by decide +kernel
theorem dX12_filled_0 : decode cX12_filled 0 = .ok (.iload_n 1, 1) := by decide +kernel
theorem dX12_filled_1 : decode cX12_filled 1 = .ok (.i2l, 1) := by decide +kernel
theorem dX12_filled_2 : decode cX12_filled 2 = .ok (.lconst 0, 1) := by decide +kernel
theorem dX12_filled_3 : decode cX12_filled 3 = .ok (.lconst 1, 1) := by decide +kernel
theorem dX12_filled_4 : decode cX12_filled 4 = .ok (.invokestatic 145, 3) := by decide +kernel
theorem dX12_filled_7 : decode cX12_filled 7 = .ok (.ifCond .ne 24, 3) := by decide +kernel
theorem dX12_filled_10 : decode cX12_filled 10 = .ok (.iload_n 1, 1) := by decide +kernel
theorem dX12_filled_11 : decode cX12_filled 11 = .ok (.i2l, 1) := by decide +kernel
theorem dX12_filled_12 : decode cX12_filled 12 = .ok (.ldc2_w 236, 3) := by decide +kernel
theorem dX12_filled_15 : decode cX12_filled 15 = .ok (.bipush 9, 2) := by decide +kernel
