theorem dX0_init_0 : decode cX0_init 0 = .ok (.aload_n 0, 1) := by decide +kernel
theorem dX0_init_1 : decode cX0_init 1 = .ok (.invokespecial 3, 3) := by decide +kernel
theorem dX0_init_4 : decode cX0_init 4 = .ok (.aload_n 0, 1) := by decide +kernel
theorem dX0_init_5 : decode cX0_init 5 = .ok (.bipush 8, 2) := by decide +kernel
theorem dX0_init_7 : decode cX0_init 7 = .ok (.anewarray 9, 3) := by decide +kernel
theorem dX0_init_10 : decode cX0_init 10 = .ok (.putfield 11, 3) := by decide +kernel
theorem dX0_init_13 : decode cX0_init 13 = .ok (.aload_n 0, 1) := by decide +kernel
theorem dX0_init_14 : decode cX0_init 14 = .ok (.iconst 0, 1) := by decide +kernel
theorem dX0_init_15 : decode cX0_init 15 = .ok (.putfield 17, 3) := by decide +kernel
theorem dX0_init_18 : decode cX0_init 18 = .ok (.aload_n 0, 1) := by decide +kernel
theorem dX0_init_19 : decode cX0_init 19 = .ok (.iconst 0, 1) := by decide +kernel
theorem dX0_init_20 : decode cX0_init 20 = .ok (.putfield 21, 3) := by decide +kernel
theorem dX0_init_23 : decode cX0_init 23 = .ok (.iconst 0, 1) := by decide +kernel
theorem dX0_init_24 : decode cX0_init 24 = .ok (.istore_n 1, 1) := by decide +kernel
theorem dX0_init_25 : decode cX0_init 25 = .ok (.iload_n 1, 1) := by decide +kernel
theorem dX0_init_26 : decode cX0_init 26 = .ok (.bipush 8, 2) := by decide +kernel
theorem dX0_init_28 : decode cX0_init 28 = .ok (.if_icmp .ge 22, 3) := by decide +kernel
theorem dX0_init_31 : decode cX0_init 31 = .ok (.aload_n 0, 1) := by decide +kernel
theorem dX0_init_32 : decode cX0_init 32 = .ok (.getfield 11, 3) := by decide +kernel
theorem dX0_init_35 : decode cX0_init 35 = .ok (.iload_n 1, 1) := by decide +kernel
theorem dX0_init_36 : decode cX0_init 36 = .ok (.new 9, 3) := by decide +kernel
theorem dX0_init_39 : decode cX0_init 39 = .ok (.dup, 1) := by decide +kernel
theorem dX0_init_40 : decode cX0_init 40 = .ok (.invokespecial 24, 3) := by decide +kernel
theorem dX0_init_43 : decode cX0_init 43 = .ok (.aastore, 1) := by decide +kernel
theorem dX0_init_44 : decode cX0_init 44 = .ok (.iinc 1 1, 3) := by decide +kernel
theorem dX0_init_47 : decode cX0_init 47 = .ok (.goto (-22), 3) := by decide +kernel
theorem dX0_init_50 : decode cX0_init 50 = .ok (.return_, 1) := by decide +kernel
theorem dX0_keep_0 : decode cX0_keep 0 = .ok (.aload_n 0, 1) := by decide +kernel
theorem dX0_keep_1 : decode cX0_keep 1 = .ok (.getfield 11, 3) := by decide +kernel
theorem dX0_keep_4 : decode cX0_keep 4 = .ok (.aload_n 0, 1) := by decide +kernel
theorem dX0_keep_5 : decode cX0_keep 5 = .ok (.getfield 17, 3) := by decide +kernel
theorem dX0_keep_8 : decode cX0_keep 8 = .ok (.aaload, 1) := by decide +kernel
theorem dX0_keep_9 : decode cX0_keep 9 = .ok (.aload_n 1, 1) := by decide +kernel
theorem dX0_keep_10 : decode cX0_keep 10 = .ok (.invokevirtual 25, 3) := by decide +kernel
theorem dX0_keep_13 : decode cX0_keep 13 = .ok (.aload_n 0, 1) := by decide +kernel
theorem dX0_keep_14 : decode cX0_keep 14 = .ok (.aload_n 0, 1) := by decide +kernel
theorem dX0_keep_15 : decode cX0_keep 15 = .ok (.getfield 17, 3) := by decide +kernel
theorem dX0_keep_18 : decode cX0_keep 18 = .ok (.bipush 7, 2) := by decide +kernel
theorem dX0_keep_20 : decode cX0_keep 20 = .ok (.if_icmp .ne 7, 3) := by decide +kernel
theorem dX0_keep_23 : decode cX0_keep 23 = .ok (.iconst 0, 1) := by decide +kernel
theorem dX0_keep_24 : decode cX0_keep 24 = .ok (.goto 9, 3) := by decide +kernel
theorem dX0_keep_27 : decode cX0_keep 27 = .ok (.aload_n 0, 1) := by decide +kernel
theorem dX0_keep_28 : decode cX0_keep 28 = .ok (.getfield 17, 3) := by decide +kernel
theorem dX0_keep_31 : decode cX0_keep 31 = .ok (.iconst 1, 1) := by decide +kernel
theorem dX0_keep_32 : decode cX0_keep 32 = .ok (.iadd, 1) := by decide +kernel
theorem dX0_keep_33 : decode cX0_keep 33 = .ok (.putfield 17, 3) := by decide +kernel
theorem dX0_keep_36 : decode cX0_keep 36 = .ok (.aload_n 0, 1) := by decide +kernel
theorem dX0_keep_37 : decode cX0_keep 37 = .ok (.bipush 8, 2) := by decide +kernel
theorem dX0_keep_39 : decode cX0_keep 39 = .ok (.aload_n 0, 1) := by decide +kernel
theorem dX0_keep_40 : decode cX0_keep 40 = .ok (.getfield 21, 3) := by decide +kernel
theorem dX0_keep_43 : decode cX0_keep 43 = .ok (.iconst 1, 1) := by decide +kernel
theorem dX0_keep_44 : decode cX0_keep 44 = .ok (.iadd, 1) := by decide +kernel
theorem dX0_keep_45 : decode cX0_keep 45 = .ok (.invokestatic 29, 3) := by decide +kernel
theorem dX0_keep_48 : decode cX0_keep 48 = .ok (.putfield 21, 3) := by decide +kernel
theorem dX0_keep_51 : decode cX0_keep 51 = .ok (.return_, 1) := by decide +kernel
theorem dX0_takeBack_0 : decode cX0_takeBack 0 = .ok (.aload_n 0, 1) := by decide +kernel
theorem dX0_takeBack_1 : decode cX0_takeBack 1 = .ok (.aload_n 0, 1) := by decide +kernel
theorem dX0_takeBack_2 : decode cX0_takeBack 2 = .ok (.getfield 17, 3) := by decide +kernel
theorem dX0_takeBack_5 : decode cX0_takeBack 5 = .ok (.ifCond .ne 8, 3) := by decide +kernel
theorem dX0_takeBack_8 : decode cX0_takeBack 8 = .ok (.bipush 7, 2) := by decide +kernel
theorem dX0_takeBack_10 : decode cX0_takeBack 10 = .ok (.goto 9, 3) := by decide +kernel
theorem dX0_takeBack_13 : decode cX0_takeBack 13 = .ok (.aload_n 0, 1) := by decide +kernel
theorem dX0_takeBack_14 : decode cX0_takeBack 14 = .ok (.getfield 17, 3) := by decide +kernel
theorem dX0_takeBack_17 : decode cX0_takeBack 17 = .ok (.iconst 1, 1) := by decide +kernel
theorem dX0_takeBack_18 : decode cX0_takeBack 18 = .ok (.isub, 1) := by decide +kernel
theorem dX0_takeBack_19 : decode cX0_takeBack 19 = .ok (.putfield 17, 3) := by decide +kernel
theorem dX0_takeBack_22 : decode cX0_takeBack 22 = .ok (.aload_n 0, 1) := by decide +kernel
theorem dX0_takeBack_23 : decode cX0_takeBack 23 = .ok (.dup, 1) := by decide +kernel
theorem dX0_takeBack_24 : decode cX0_takeBack 24 = .ok (.getfield 21, 3) := by decide +kernel
theorem dX0_takeBack_27 : decode cX0_takeBack 27 = .ok (.iconst 1, 1) := by decide +kernel
theorem dX0_takeBack_28 : decode cX0_takeBack 28 = .ok (.isub, 1) := by decide +kernel
theorem dX0_takeBack_29 : decode cX0_takeBack 29 = .ok (.putfield 21, 3) := by decide +kernel
theorem dX0_takeBack_32 : decode cX0_takeBack 32 = .ok (.aload_n 1, 1) := by decide +kernel
theorem dX0_takeBack_33 : decode cX0_takeBack 33 = .ok (.aload_n 0, 1) := by decide +kernel
theorem dX0_takeBack_34 : decode cX0_takeBack 34 = .ok (.getfield 11, 3) := by decide +kernel
theorem dX0_takeBack_37 : decode cX0_takeBack 37 = .ok (.aload_n 0, 1) := by decide +kernel
theorem dX0_takeBack_38 : decode cX0_takeBack 38 = .ok (.getfield 17, 3) := by decide +kernel
theorem dX0_takeBack_41 : decode cX0_takeBack 41 = .ok (.aaload, 1) := by decide +kernel
theorem dX0_takeBack_42 : decode cX0_takeBack 42 = .ok (.invokevirtual 25, 3) := by decide +kernel
theorem dX0_takeBack_45 : decode cX0_takeBack 45 = .ok (.return_, 1) := by decide +kernel
theorem dX1_init_0 : decode cX1_init 0 = .ok (.aload_n 0, 1) := by decide +kernel
theorem dX1_init_1 : decode cX1_init 1 = .ok (.invokespecial 3, 3) := by decide +kernel
theorem dX1_init_4 : decode cX1_init 4 = .ok (.aload_n 0, 1) := by decide +kernel
theorem dX1_init_5 : decode cX1_init 5 = .ok (.iconst 4, 1) := by decide +kernel
theorem dX1_init_6 : decode cX1_init 6 = .ok (.putfield 9, 3) := by decide +kernel
theorem dX1_init_9 : decode cX1_init 9 = .ok (.aload_n 0, 1) := by decide +kernel
theorem dX1_init_10 : decode cX1_init 10 = .ok (.iconst 4, 1) := by decide +kernel
theorem dX1_init_11 : decode cX1_init 11 = .ok (.putfield 15, 3) := by decide +kernel
theorem dX1_init_14 : decode cX1_init 14 = .ok (.aload_n 0, 1) := by decide +kernel
theorem dX1_init_15 : decode cX1_init 15 = .ok (.lconst 0, 1) := by decide +kernel
theorem dX1_init_16 : decode cX1_init 16 = .ok (.putfield 18, 3) := by decide +kernel
theorem dX1_init_19 : decode cX1_init 19 = .ok (.aload_n 0, 1) := by decide +kernel
theorem dX1_init_20 : decode cX1_init 20 = .ok (.bipush 64, 2) := by decide +kernel
theorem dX1_init_22 : decode cX1_init 22 = .ok (.newarray .int, 2) := by decide +kernel
theorem dX1_init_24 : decode cX1_init 24 = .ok (.putfield 22, 3) := by decide +kernel
theorem dX1_init_27 : decode cX1_init 27 = .ok (.return_, 1) := by decide +kernel
theorem dX1_renew_0 : decode cX1_renew 0 = .ok (.aload_n 0, 1) := by decide +kernel
theorem dX1_renew_1 : decode cX1_renew 1 = .ok (.iload_n 1, 1) := by decide +kernel
theorem dX1_renew_2 : decode cX1_renew 2 = .ok (.putfield 9, 3) := by decide +kernel
theorem dX1_renew_5 : decode cX1_renew 5 = .ok (.aload_n 0, 1) := by decide +kernel
theorem dX1_renew_6 : decode cX1_renew 6 = .ok (.iload_n 2, 1) := by decide +kernel
theorem dX1_renew_7 : decode cX1_renew 7 = .ok (.putfield 15, 3) := by decide +kernel
theorem dX1_renew_10 : decode cX1_renew 10 = .ok (.aload_n 0, 1) := by decide +kernel
theorem dX1_renew_11 : decode cX1_renew 11 = .ok (.lconst 0, 1) := by decide +kernel
theorem dX1_renew_12 : decode cX1_renew 12 = .ok (.putfield 18, 3) := by decide +kernel
theorem dX1_renew_15 : decode cX1_renew 15 = .ok (.iconst 0, 1) := by decide +kernel
theorem dX1_renew_16 : decode cX1_renew 16 = .ok (.istore_n 3, 1) := by decide +kernel
theorem dX1_renew_17 : decode cX1_renew 17 = .ok (.iload_n 3, 1) := by decide +kernel
theorem dX1_renew_18 : decode cX1_renew 18 = .ok (.bipush 64, 2) := by decide +kernel
theorem dX1_renew_20 : decode cX1_renew 20 = .ok (.if_icmp .ge 16, 3) := by decide +kernel
theorem dX1_renew_23 : decode cX1_renew 23 = .ok (.aload_n 0, 1) := by decide +kernel
theorem dX1_renew_24 : decode cX1_renew 24 = .ok (.getfield 22, 3) := by decide +kernel
theorem dX1_renew_27 : decode cX1_renew 27 = .ok (.iload_n 3, 1) := by decide +kernel
theorem dX1_renew_28 : decode cX1_renew 28 = .ok (.iconst 0, 1) := by decide +kernel
theorem dX1_renew_29 : decode cX1_renew 29 = .ok (.iastore, 1) := by decide +kernel
theorem dX1_renew_30 : decode cX1_renew 30 = .ok (.iinc 3 1, 3) := by decide +kernel
theorem dX1_renew_33 : decode cX1_renew 33 = .ok (.goto (-16), 3) := by decide +kernel
theorem dX1_renew_36 : decode cX1_renew 36 = .ok (.return_, 1) := by decide +kernel
theorem dX1_copyFrom_0 : decode cX1_copyFrom 0 = .ok (.aload_n 0, 1) := by decide +kernel
theorem dX1_copyFrom_1 : decode cX1_copyFrom 1 = .ok (.aload_n 1, 1) := by decide +kernel
theorem dX1_copyFrom_2 : decode cX1_copyFrom 2 = .ok (.getfield 9, 3) := by decide +kernel
theorem dX1_copyFrom_5 : decode cX1_copyFrom 5 = .ok (.putfield 9, 3) := by decide +kernel
theorem dX1_copyFrom_8 : decode cX1_copyFrom 8 = .ok (.aload_n 0, 1) := by decide +kernel
theorem dX1_copyFrom_9 : decode cX1_copyFrom 9 = .ok (.aload_n 1, 1) := by decide +kernel
theorem dX1_copyFrom_10 : decode cX1_copyFrom 10 = .ok (.getfield 15, 3) := by decide +kernel
theorem dX1_copyFrom_13 : decode cX1_copyFrom 13 = .ok (.putfield 15, 3) := by decide +kernel
theorem dX1_copyFrom_16 : decode cX1_copyFrom 16 = .ok (.aload_n 0, 1) := by decide +kernel
theorem dX1_copyFrom_17 : decode cX1_copyFrom 17 = .ok (.aload_n 1, 1) := by decide +kernel
theorem dX1_copyFrom_18 : decode cX1_copyFrom 18 = .ok (.getfield 18, 3) := by decide +kernel
theorem dX1_copyFrom_21 : decode cX1_copyFrom 21 = .ok (.putfield 18, 3) := by decide +kernel
theorem dX1_copyFrom_24 : decode cX1_copyFrom 24 = .ok (.aload_n 1, 1) := by decide +kernel
theorem dX1_copyFrom_25 : decode cX1_copyFrom 25 = .ok (.getfield 22, 3) := by decide +kernel
theorem dX1_copyFrom_28 : decode cX1_copyFrom 28 = .ok (.iconst 0, 1) := by decide +kernel
theorem dX1_copyFrom_29 : decode cX1_copyFrom 29 = .ok (.aload_n 0, 1) := by decide +kernel
theorem dX1_copyFrom_30 : decode cX1_copyFrom 30 = .ok (.getfield 22, 3) := by decide +kernel
theorem dX1_copyFrom_33 : decode cX1_copyFrom 33 = .ok (.iconst 0, 1) := by decide +kernel
theorem dX1_copyFrom_34 : decode cX1_copyFrom 34 = .ok (.bipush 64, 2) := by decide +kernel
theorem dX1_copyFrom_36 : decode cX1_copyFrom 36 = .ok (.invokestatic 26, 3) := by decide +kernel
theorem dX1_copyFrom_39 : decode cX1_copyFrom 39 = .ok (.return_, 1) := by decide +kernel
theorem dX1_hasSquare_0 : decode cX1_hasSquare 0 = .ok (.iload_n 1, 1) := by decide +kernel
theorem dX1_hasSquare_1 : decode cX1_hasSquare 1 = .ok (.iconst 0, 1) := by decide +kernel
theorem dX1_hasSquare_2 : decode cX1_hasSquare 2 = .ok (.aload_n 0, 1) := by decide +kernel
theorem dX1_hasSquare_3 : decode cX1_hasSquare 3 = .ok (.getfield 9, 3) := by decide +kernel
theorem dX1_hasSquare_6 : decode cX1_hasSquare 6 = .ok (.iconst 1, 1) := by decide +kernel
theorem dX1_hasSquare_7 : decode cX1_hasSquare 7 = .ok (.isub, 1) := by decide +kernel
theorem dX1_hasSquare_8 : decode cX1_hasSquare 8 = .ok (.invokestatic 32, 3) := by decide +kernel
theorem dX1_hasSquare_11 : decode cX1_hasSquare 11 = .ok (.ifCond .eq 21, 3) := by decide +kernel
theorem dX1_hasSquare_14 : decode cX1_hasSquare 14 = .ok (.iload_n 2, 1) := by decide +kernel
theorem dX1_hasSquare_15 : decode cX1_hasSquare 15 = .ok (.iconst 0, 1) := by decide +kernel
theorem dX1_hasSquare_16 : decode cX1_hasSquare 16 = .ok (.aload_n 0, 1) := by decide +kernel
theorem dX1_hasSquare_17 : decode cX1_hasSquare 17 = .ok (.getfield 15, 3) := by decide +kernel
theorem dX1_hasSquare_20 : decode cX1_hasSquare 20 = .ok (.iconst 1, 1) := by decide +kernel
theorem dX1_hasSquare_21 : decode cX1_hasSquare 21 = .ok (.isub, 1) := by decide +kernel
theorem dX1_hasSquare_22 : decode cX1_hasSquare 22 = .ok (.invokestatic 32, 3) := by decide +kernel
theorem dX1_hasSquare_25 : decode cX1_hasSquare 25 = .ok (.ifCond .eq 7, 3) := by decide +kernel
theorem dX1_hasSquare_28 : decode cX1_hasSquare 28 = .ok (.iconst 1, 1) := by decide +kernel
theorem dX1_hasSquare_29 : decode cX1_hasSquare 29 = .ok (.goto 4, 3) := by decide +kernel
theorem dX1_hasSquare_32 : decode cX1_hasSquare 32 = .ok (.iconst 0, 1) := by decide +kernel
theorem dX1_hasSquare_33 : decode cX1_hasSquare 33 = .ok (.ireturn, 1) := by decide +kernel
theorem dX1_hasBlock_0 : decode cX1_hasBlock 0 = .ok (.iload_n 3, 1) := by decide +kernel
theorem dX1_hasBlock_1 : decode cX1_hasBlock 1 = .ok (.iconst 1, 1) := by decide +kernel
theorem dX1_hasBlock_2 : decode cX1_hasBlock 2 = .ok (.aload_n 0, 1) := by decide +kernel
theorem dX1_hasBlock_3 : decode cX1_hasBlock 3 = .ok (.getfield 9, 3) := by decide +kernel
theorem dX1_hasBlock_6 : decode cX1_hasBlock 6 = .ok (.invokestatic 32, 3) := by decide +kernel
theorem dX1_hasBlock_9 : decode cX1_hasBlock 9 = .ok (.ifCond .eq 49, 3) := by decide +kernel
theorem dX1_hasBlock_12 : decode cX1_hasBlock 12 = .ok (.iload 4, 2) := by decide +kernel
theorem dX1_hasBlock_14 : decode cX1_hasBlock 14 = .ok (.iconst 1, 1) := by decide +kernel
theorem dX1_hasBlock_15 : decode cX1_hasBlock 15 = .ok (.aload_n 0, 1) := by decide +kernel
theorem dX1_hasBlock_16 : decode cX1_hasBlock 16 = .ok (.getfield 15, 3) := by decide +kernel
theorem dX1_hasBlock_19 : decode cX1_hasBlock 19 = .ok (.invokestatic 32, 3) := by decide +kernel
theorem dX1_hasBlock_22 : decode cX1_hasBlock 22 = .ok (.ifCond .eq 36, 3) := by decide +kernel
theorem dX1_hasBlock_25 : decode cX1_hasBlock 25 = .ok (.iload_n 1, 1) := by decide +kernel
theorem dX1_hasBlock_26 : decode cX1_hasBlock 26 = .ok (.iconst 0, 1) := by decide +kernel
theorem dX1_hasBlock_27 : decode cX1_hasBlock 27 = .ok (.aload_n 0, 1) := by decide +kernel
theorem dX1_hasBlock_28 : decode cX1_hasBlock 28 = .ok (.getfield 9, 3) := by decide +kernel
theorem dX1_hasBlock_31 : decode cX1_hasBlock 31 = .ok (.iload_n 3, 1) := by decide +kernel
theorem dX1_hasBlock_32 : decode cX1_hasBlock 32 = .ok (.isub, 1) := by decide +kernel
theorem dX1_hasBlock_33 : decode cX1_hasBlock 33 = .ok (.invokestatic 32, 3) := by decide +kernel
theorem dX1_hasBlock_36 : decode cX1_hasBlock 36 = .ok (.ifCond .eq 22, 3) := by decide +kernel
theorem dX1_hasBlock_39 : decode cX1_hasBlock 39 = .ok (.iload_n 2, 1) := by decide +kernel
theorem dX1_hasBlock_40 : decode cX1_hasBlock 40 = .ok (.iconst 0, 1) := by decide +kernel
theorem dX1_hasBlock_41 : decode cX1_hasBlock 41 = .ok (.aload_n 0, 1) := by decide +kernel
theorem dX1_hasBlock_42 : decode cX1_hasBlock 42 = .ok (.getfield 15, 3) := by decide +kernel
theorem dX1_hasBlock_45 : decode cX1_hasBlock 45 = .ok (.iload 4, 2) := by decide +kernel
theorem dX1_hasBlock_47 : decode cX1_hasBlock 47 = .ok (.isub, 1) := by decide +kernel
theorem dX1_hasBlock_48 : decode cX1_hasBlock 48 = .ok (.invokestatic 32, 3) := by decide +kernel
theorem dX1_hasBlock_51 : decode cX1_hasBlock 51 = .ok (.ifCond .eq 7, 3) := by decide +kernel
theorem dX1_hasBlock_54 : decode cX1_hasBlock 54 = .ok (.iconst 1, 1) := by decide +kernel
theorem dX1_hasBlock_55 : decode cX1_hasBlock 55 = .ok (.goto 4, 3) := by decide +kernel
theorem dX1_hasBlock_58 : decode cX1_hasBlock 58 = .ok (.iconst 0, 1) := by decide +kernel
theorem dX1_hasBlock_59 : decode cX1_hasBlock 59 = .ok (.ireturn, 1) := by decide +kernel
theorem dX1_soundness_0 : decode cX1_soundness 0 = .ok (.bipush 9, 2) := by decide +kernel
theorem dX1_soundness_2 : decode cX1_soundness 2 = .ok (.istore 5, 2) := by decide +kernel
theorem dX1_soundness_4 : decode cX1_soundness 4 = .ok (.iload_n 2, 1) := by decide +kernel
theorem dX1_soundness_5 : decode cX1_soundness 5 = .ok (.istore 6, 2) := by decide +kernel
theorem dX1_soundness_7 : decode cX1_soundness 7 = .ok (.iload 6, 2) := by decide +kernel
theorem dX1_soundness_9 : decode cX1_soundness 9 = .ok (.iload_n 2, 1) := by decide +kernel
theorem dX1_soundness_10 : decode cX1_soundness 10 = .ok (.iload 4, 2) := by decide +kernel
theorem dX1_soundness_12 : decode cX1_soundness 12 = .ok (.iadd, 1) := by decide +kernel
theorem dX1_soundness_13 : decode cX1_soundness 13 = .ok (.if_icmp .ge 62, 3) := by decide +kernel
theorem dX1_soundness_16 : decode cX1_soundness 16 = .ok (.iload_n 1, 1) := by decide +kernel
theorem dX1_soundness_17 : decode cX1_soundness 17 = .ok (.istore 7, 2) := by decide +kernel
theorem dX1_soundness_19 : decode cX1_soundness 19 = .ok (.iload 7, 2) := by decide +kernel
theorem dX1_soundness_21 : decode cX1_soundness 21 = .ok (.iload_n 1, 1) := by decide +kernel
theorem dX1_soundness_22 : decode cX1_soundness 22 = .ok (.iload_n 3, 1) := by decide +kernel
theorem dX1_soundness_23 : decode cX1_soundness 23 = .ok (.iadd, 1) := by decide +kernel
theorem dX1_soundness_24 : decode cX1_soundness 24 = .ok (.if_icmp .ge 45, 3) := by decide +kernel
theorem dX1_soundness_27 : decode cX1_soundness 27 = .ok (.aload_n 0, 1) := by decide +kernel
theorem dX1_soundness_28 : decode cX1_soundness 28 = .ok (.getfield 18, 3) := by decide +kernel
theorem dX1_soundness_31 : decode cX1_soundness 31 = .ok (.iload 7, 2) := by decide +kernel
theorem dX1_soundness_33 : decode cX1_soundness 33 = .ok (.iload 6, 2) := by decide +kernel
theorem dX1_soundness_35 : decode cX1_soundness 35 = .ok (.invokestatic 36, 3) := by decide +kernel
theorem dX1_soundness_38 : decode cX1_soundness 38 = .ok (.iconst 1, 1) := by decide +kernel
theorem dX1_soundness_39 : decode cX1_soundness 39 = .ok (.if_icmp .ne 5, 3) := by decide +kernel
theorem dX1_soundness_42 : decode cX1_soundness 42 = .ok (.iconst (-1), 1) := by decide +kernel
theorem dX1_soundness_43 : decode cX1_soundness 43 = .ok (.ireturn, 1) := by decide +kernel
theorem dX1_soundness_44 : decode cX1_soundness 44 = .ok (.iload 5, 2) := by decide +kernel
theorem dX1_soundness_46 : decode cX1_soundness 46 = .ok (.aload_n 0, 1) := by decide +kernel
theorem dX1_soundness_47 : decode cX1_soundness 47 = .ok (.getfield 22, 3) := by decide +kernel
theorem dX1_soundness_50 : decode cX1_soundness 50 = .ok (.iload 7, 2) := by decide +kernel
theorem dX1_soundness_52 : decode cX1_soundness 52 = .ok (.iload 6, 2) := by decide +kernel
theorem dX1_soundness_54 : decode cX1_soundness 54 = .ok (.invokestatic 40, 3) := by decide +kernel
theorem dX1_soundness_57 : decode cX1_soundness 57 = .ok (.iaload, 1) := by decide +kernel
theorem dX1_soundness_58 : decode cX1_soundness 58 = .ok (.invokestatic 44, 3) := by decide +kernel
theorem dX1_soundness_61 : decode cX1_soundness 61 = .ok (.istore 5, 2) := by decide +kernel
theorem dX1_soundness_63 : decode cX1_soundness 63 = .ok (.iinc 7 1, 3) := by decide +kernel
theorem dX1_soundness_66 : decode cX1_soundness 66 = .ok (.goto (-47), 3) := by decide +kernel
theorem dX1_soundness_69 : decode cX1_soundness 69 = .ok (.iinc 6 1, 3) := by decide +kernel
theorem dX1_soundness_72 : decode cX1_soundness 72 = .ok (.goto (-65), 3) := by decide +kernel
theorem dX1_soundness_75 : decode cX1_soundness 75 = .ok (.iload 5, 2) := by decide +kernel
theorem dX1_soundness_77 : decode cX1_soundness 77 = .ok (.ireturn, 1) := by decide +kernel
theorem dX1_hasSound_0 : decode cX1_hasSound 0 = .ok (.iconst 0, 1) := by decide +kernel
theorem dX1_hasSound_1 : decode cX1_hasSound 1 = .ok (.istore 4, 2) := by decide +kernel
theorem dX1_hasSound_3 : decode cX1_hasSound 3 = .ok (.iload 4, 2) := by decide +kernel
theorem dX1_hasSound_5 : decode cX1_hasSound 5 = .ok (.iload_n 2, 1) := by decide +kernel
theorem dX1_hasSound_6 : decode cX1_hasSound 6 = .ok (.iadd, 1) := by decide +kernel
theorem dX1_hasSound_7 : decode cX1_hasSound 7 = .ok (.aload_n 0, 1) := by decide +kernel
theorem dX1_hasSound_8 : decode cX1_hasSound 8 = .ok (.getfield 15, 3) := by decide +kernel
theorem dX1_hasSound_11 : decode cX1_hasSound 11 = .ok (.if_icmp .gt 45, 3) := by decide +kernel
theorem dX1_hasSound_14 : decode cX1_hasSound 14 = .ok (.iconst 0, 1) := by decide +kernel
theorem dX1_hasSound_15 : decode cX1_hasSound 15 = .ok (.istore 5, 2) := by decide +kernel
theorem dX1_hasSound_17 : decode cX1_hasSound 17 = .ok (.iload 5, 2) := by decide +kernel
theorem dX1_hasSound_19 : decode cX1_hasSound 19 = .ok (.iload_n 1, 1) := by decide +kernel
theorem dX1_hasSound_20 : decode cX1_hasSound 20 = .ok (.iadd, 1) := by decide +kernel
theorem dX1_hasSound_21 : decode cX1_hasSound 21 = .ok (.aload_n 0, 1) := by decide +kernel
theorem dX1_hasSound_22 : decode cX1_hasSound 22 = .ok (.getfield 9, 3) := by decide +kernel
theorem dX1_hasSound_25 : decode cX1_hasSound 25 = .ok (.if_icmp .gt 25, 3) := by decide +kernel
theorem dX1_hasSound_28 : decode cX1_hasSound 28 = .ok (.aload_n 0, 1) := by decide +kernel
theorem dX1_hasSound_29 : decode cX1_hasSound 29 = .ok (.iload 5, 2) := by decide +kernel
theorem dX1_hasSound_31 : decode cX1_hasSound 31 = .ok (.iload 4, 2) := by decide +kernel
theorem dX1_hasSound_33 : decode cX1_hasSound 33 = .ok (.iload_n 1, 1) := by decide +kernel
theorem dX1_hasSound_34 : decode cX1_hasSound 34 = .ok (.iload_n 2, 1) := by decide +kernel
theorem dX1_hasSound_35 : decode cX1_hasSound 35 = .ok (.invokevirtual 49, 3) := by decide +kernel
theorem dX1_hasSound_38 : decode cX1_hasSound 38 = .ok (.iload_n 3, 1) := by decide +kernel
theorem dX1_hasSound_39 : decode cX1_hasSound 39 = .ok (.if_icmp .lt 5, 3) := by decide +kernel
theorem dX1_hasSound_42 : decode cX1_hasSound 42 = .ok (.iconst 1, 1) := by decide +kernel
theorem dX1_hasSound_43 : decode cX1_hasSound 43 = .ok (.ireturn, 1) := by decide +kernel
theorem dX1_hasSound_44 : decode cX1_hasSound 44 = .ok (.iinc 5 1, 3) := by decide +kernel
theorem dX1_hasSound_47 : decode cX1_hasSound 47 = .ok (.goto (-30), 3) := by decide +kernel
theorem dX1_hasSound_50 : decode cX1_hasSound 50 = .ok (.iinc 4 1, 3) := by decide +kernel
theorem dX1_hasSound_53 : decode cX1_hasSound 53 = .ok (.goto (-50), 3) := by decide +kernel
theorem dX1_hasSound_56 : decode cX1_hasSound 56 = .ok (.iconst 0, 1) := by decide +kernel
theorem dX1_hasSound_57 : decode cX1_hasSound 57 = .ok (.ireturn, 1) := by decide +kernel
theorem dX2_init_0 : decode cX2_init 0 = .ok (.aload_n 0, 1) := by decide +kernel
theorem dX2_init_1 : decode cX2_init 1 = .ok (.invokespecial 3, 3) := by decide +kernel
theorem dX2_init_4 : decode cX2_init 4 = .ok (.aload_n 0, 1) := by decide +kernel
theorem dX2_init_5 : decode cX2_init 5 = .ok (.iconst 0, 1) := by decide +kernel
theorem dX2_init_6 : decode cX2_init 6 = .ok (.putfield 9, 3) := by decide +kernel
theorem dX2_init_9 : decode cX2_init 9 = .ok (.aload_n 0, 1) := by decide +kernel
theorem dX2_init_10 : decode cX2_init 10 = .ok (.iconst 0, 1) := by decide +kernel
theorem dX2_init_11 : decode cX2_init 11 = .ok (.putfield 17, 3) := by decide +kernel
theorem dX2_init_14 : decode cX2_init 14 = .ok (.aload_n 0, 1) := by decide +kernel
theorem dX2_init_15 : decode cX2_init 15 = .ok (.iconst 0, 1) := by decide +kernel
theorem dX2_init_16 : decode cX2_init 16 = .ok (.putfield 20, 3) := by decide +kernel
theorem dX2_init_19 : decode cX2_init 19 = .ok (.aload_n 0, 1) := by decide +kernel
theorem dX2_init_20 : decode cX2_init 20 = .ok (.iconst 0, 1) := by decide +kernel
theorem dX2_init_21 : decode cX2_init 21 = .ok (.putfield 23, 3) := by decide +kernel
theorem dX2_init_24 : decode cX2_init 24 = .ok (.aload_n 0, 1) := by decide +kernel
theorem dX2_init_25 : decode cX2_init 25 = .ok (.iconst 0, 1) := by decide +kernel
theorem dX2_init_26 : decode cX2_init 26 = .ok (.putfield 26, 3) := by decide +kernel
theorem dX2_init_29 : decode cX2_init 29 = .ok (.aload_n 0, 1) := by decide +kernel
theorem dX2_init_30 : decode cX2_init 30 = .ok (.iconst 0, 1) := by decide +kernel
theorem dX2_init_31 : decode cX2_init 31 = .ok (.putfield 29, 3) := by decide +kernel
theorem dX2_init_34 : decode cX2_init 34 = .ok (.aload_n 0, 1) := by decide +kernel
theorem dX2_init_35 : decode cX2_init 35 = .ok (.aload_n 1, 1) := by decide +kernel
theorem dX2_init_36 : decode cX2_init 36 = .ok (.putfield 32, 3) := by decide +kernel
theorem dX2_init_39 : decode cX2_init 39 = .ok (.return_, 1) := by decide +kernel
theorem dX2_read_0 : decode cX2_read 0 = .ok (.aload_n 1, 1) := by decide +kernel
theorem dX2_read_1 : decode cX2_read 1 = .ok (.invokevirtual 36, 3) := by decide +kernel
theorem dX2_read_4 : decode cX2_read 4 = .ok (.aload_n 0, 1) := by decide +kernel
theorem dX2_read_5 : decode cX2_read 5 = .ok (.iconst 0, 1) := by decide +kernel
theorem dX2_read_6 : decode cX2_read 6 = .ok (.putfield 26, 3) := by decide +kernel
theorem dX2_read_9 : decode cX2_read 9 = .ok (.aload_n 0, 1) := by decide +kernel
theorem dX2_read_10 : decode cX2_read 10 = .ok (.iconst 0, 1) := by decide +kernel
theorem dX2_read_11 : decode cX2_read 11 = .ok (.putfield 29, 3) := by decide +kernel
theorem dX2_read_14 : decode cX2_read 14 = .ok (.aload_n 0, 1) := by decide +kernel
theorem dX2_read_15 : decode cX2_read 15 = .ok (.iconst 0, 1) := by decide +kernel
theorem dX2_read_16 : decode cX2_read 16 = .ok (.putfield 9, 3) := by decide +kernel
theorem dX2_read_19 : decode cX2_read 19 = .ok (.aload_n 0, 1) := by decide +kernel
theorem dX2_read_20 : decode cX2_read 20 = .ok (.getfield 32, 3) := by decide +kernel
theorem dX2_read_23 : decode cX2_read 23 = .ok (.invokevirtual 41, 3) := by decide +kernel
theorem dX2_read_26 : decode cX2_read 26 = .ok (.iconst 1, 1) := by decide +kernel
theorem dX2_read_27 : decode cX2_read 27 = .ok (.istore_n 2, 1) := by decide +kernel
theorem dX2_read_28 : decode cX2_read 28 = .ok (.iconst 0, 1) := by decide +kernel
theorem dX2_read_29 : decode cX2_read 29 = .ok (.istore_n 3, 1) := by decide +kernel
theorem dX2_read_30 : decode cX2_read 30 = .ok (.iload_n 3, 1) := by decide +kernel
theorem dX2_read_31 : decode cX2_read 31 = .ok (.sipush 200, 3) := by decide +kernel
theorem dX2_read_34 : decode cX2_read 34 = .ok (.if_icmp .gt 19, 3) := by decide +kernel
theorem dX2_read_37 : decode cX2_read 37 = .ok (.iload_n 2, 1) := by decide +kernel
theorem dX2_read_38 : decode cX2_read 38 = .ok (.ifCond .eq 15, 3) := by decide +kernel
theorem dX2_read_41 : decode cX2_read 41 = .ok (.aload_n 0, 1) := by decide +kernel
theorem dX2_read_42 : decode cX2_read 42 = .ok (.aload_n 1, 1) := by decide +kernel
theorem dX2_read_43 : decode cX2_read 43 = .ok (.invokevirtual 44, 3) := by decide +kernel
theorem dX2_read_46 : decode cX2_read 46 = .ok (.istore_n 2, 1) := by decide +kernel
theorem dX2_read_47 : decode cX2_read 47 = .ok (.iinc 3 1, 3) := by decide +kernel
theorem dX2_read_50 : decode cX2_read 50 = .ok (.goto (-20), 3) := by decide +kernel
theorem dX2_read_53 : decode cX2_read 53 = .ok (.return_, 1) := by decide +kernel
theorem dX2_readLaw_0 : decode cX2_readLaw 0 = .ok (.aload_n 0, 1) := by decide +kernel
theorem dX2_readLaw_1 : decode cX2_readLaw 1 = .ok (.invokevirtual 48, 3) := by decide +kernel
theorem dX2_readLaw_4 : decode cX2_readLaw 4 = .ok (.aload_n 0, 1) := by decide +kernel
theorem dX2_readLaw_5 : decode cX2_readLaw 5 = .ok (.getfield 17, 3) := by decide +kernel
theorem dX2_readLaw_8 : decode cX2_readLaw 8 = .ok (.ifCond .ne 5, 3) := by decide +kernel
theorem dX2_readLaw_11 : decode cX2_readLaw 11 = .ok (.iconst 0, 1) := by decide +kernel
theorem dX2_readLaw_12 : decode cX2_readLaw 12 = .ok (.ireturn, 1) := by decide +kernel
theorem dX2_readLaw_13 : decode cX2_readLaw 13 = .ok (.aload_n 0, 1) := by decide +kernel
theorem dX2_readLaw_14 : decode cX2_readLaw 14 = .ok (.getfield 17, 3) := by decide +kernel
theorem dX2_readLaw_17 : decode cX2_readLaw 17 = .ok (.tableswitch 105 1 9 #[96, 105, 105, 105, 51, 60, 69, 78, 87], 51) := by decide +kernel
theorem dX2_readLaw_68 : decode cX2_readLaw 68 = .ok (.aload_n 0, 1) := by decide +kernel
theorem dX2_readLaw_69 : decode cX2_readLaw 69 = .ok (.aload_n 1, 1) := by decide +kernel
theorem dX2_readLaw_70 : decode cX2_readLaw 70 = .ok (.invokevirtual 51, 3) := by decide +kernel
theorem dX2_readLaw_73 : decode cX2_readLaw 73 = .ok (.istore_n 2, 1) := by decide +kernel
theorem dX2_readLaw_74 : decode cX2_readLaw 74 = .ok (.goto 54, 3) := by decide +kernel
theorem dX2_readLaw_77 : decode cX2_readLaw 77 = .ok (.aload_n 0, 1) := by decide +kernel
theorem dX2_readLaw_78 : decode cX2_readLaw 78 = .ok (.aload_n 1, 1) := by decide +kernel
theorem dX2_readLaw_79 : decode cX2_readLaw 79 = .ok (.invokevirtual 54, 3) := by decide +kernel
theorem dX2_readLaw_82 : decode cX2_readLaw 82 = .ok (.istore_n 2, 1) := by decide +kernel
theorem dX2_readLaw_83 : decode cX2_readLaw 83 = .ok (.goto 45, 3) := by decide +kernel
theorem dX2_readLaw_86 : decode cX2_readLaw 86 = .ok (.aload_n 0, 1) := by decide +kernel
theorem dX2_readLaw_87 : decode cX2_readLaw 87 = .ok (.aload_n 1, 1) := by decide +kernel
theorem dX2_readLaw_88 : decode cX2_readLaw 88 = .ok (.invokevirtual 57, 3) := by decide +kernel
theorem dX2_readLaw_91 : decode cX2_readLaw 91 = .ok (.istore_n 2, 1) := by decide +kernel
theorem dX2_readLaw_92 : decode cX2_readLaw 92 = .ok (.goto 36, 3) := by decide +kernel
theorem dX2_readLaw_95 : decode cX2_readLaw 95 = .ok (.aload_n 0, 1) := by decide +kernel
theorem dX2_readLaw_96 : decode cX2_readLaw 96 = .ok (.aload_n 1, 1) := by decide +kernel
theorem dX2_readLaw_97 : decode cX2_readLaw 97 = .ok (.invokevirtual 60, 3) := by decide +kernel
theorem dX2_readLaw_100 : decode cX2_readLaw 100 = .ok (.istore_n 2, 1) := by decide +kernel
theorem dX2_readLaw_101 : decode cX2_readLaw 101 = .ok (.goto 27, 3) := by decide +kernel
theorem dX2_readLaw_104 : decode cX2_readLaw 104 = .ok (.aload_n 0, 1) := by decide +kernel
theorem dX2_readLaw_105 : decode cX2_readLaw 105 = .ok (.aload_n 1, 1) := by decide +kernel
theorem dX2_readLaw_106 : decode cX2_readLaw 106 = .ok (.invokevirtual 63, 3) := by decide +kernel
theorem dX2_readLaw_109 : decode cX2_readLaw 109 = .ok (.istore_n 2, 1) := by decide +kernel
theorem dX2_readLaw_110 : decode cX2_readLaw 110 = .ok (.goto 18, 3) := by decide +kernel
theorem dX2_readLaw_113 : decode cX2_readLaw 113 = .ok (.aload_n 0, 1) := by decide +kernel
theorem dX2_readLaw_114 : decode cX2_readLaw 114 = .ok (.iconst 1, 1) := by decide +kernel
theorem dX2_readLaw_115 : decode cX2_readLaw 115 = .ok (.invokevirtual 66, 3) := by decide +kernel
theorem dX2_readLaw_118 : decode cX2_readLaw 118 = .ok (.istore_n 2, 1) := by decide +kernel
theorem dX2_readLaw_119 : decode cX2_readLaw 119 = .ok (.goto 9, 3) := by decide +kernel
theorem dX2_readLaw_122 : decode cX2_readLaw 122 = .ok (.aload_n 0, 1) := by decide +kernel
theorem dX2_readLaw_123 : decode cX2_readLaw 123 = .ok (.iconst 2, 1) := by decide +kernel
theorem dX2_readLaw_124 : decode cX2_readLaw 124 = .ok (.invokevirtual 66, 3) := by decide +kernel
theorem dX2_readLaw_127 : decode cX2_readLaw 127 = .ok (.istore_n 2, 1) := by decide +kernel
theorem dX2_readLaw_128 : decode cX2_readLaw 128 = .ok (.iload_n 2, 1) := by decide +kernel
theorem dX2_readLaw_129 : decode cX2_readLaw 129 = .ok (.ifCond .eq 11, 3) := by decide +kernel
theorem dX2_readLaw_132 : decode cX2_readLaw 132 = .ok (.aload_n 0, 1) := by decide +kernel
theorem dX2_readLaw_133 : decode cX2_readLaw 133 = .ok (.iconst 4, 1) := by decide +kernel
theorem dX2_readLaw_134 : decode cX2_readLaw 134 = .ok (.invokevirtual 70, 3) := by decide +kernel
theorem dX2_readLaw_137 : decode cX2_readLaw 137 = .ok (.ifCond .ne 5, 3) := by decide +kernel
theorem dX2_readLaw_140 : decode cX2_readLaw 140 = .ok (.iconst 0, 1) := by decide +kernel
theorem dX2_readLaw_141 : decode cX2_readLaw 141 = .ok (.ireturn, 1) := by decide +kernel
theorem dX2_readLaw_142 : decode cX2_readLaw 142 = .ok (.aload_n 1, 1) := by decide +kernel
theorem dX2_readLaw_143 : decode cX2_readLaw 143 = .ok (.dup, 1) := by decide +kernel
theorem dX2_readLaw_144 : decode cX2_readLaw 144 = .ok (.getfield 73, 3) := by decide +kernel
theorem dX2_readLaw_147 : decode cX2_readLaw 147 = .ok (.iconst 1, 1) := by decide +kernel
theorem dX2_readLaw_148 : decode cX2_readLaw 148 = .ok (.iadd, 1) := by decide +kernel
theorem dX2_readLaw_149 : decode cX2_readLaw 149 = .ok (.putfield 73, 3) := by decide +kernel
theorem dX2_readLaw_152 : decode cX2_readLaw 152 = .ok (.iconst 1, 1) := by decide +kernel
theorem dX2_readLaw_153 : decode cX2_readLaw 153 = .ok (.ireturn, 1) := by decide +kernel
theorem dX2_readStamp_0 : decode cX2_readStamp 0 = .ok (.aload_n 0, 1) := by decide +kernel
theorem dX2_readStamp_1 : decode cX2_readStamp 1 = .ok (.iconst 0, 1) := by decide +kernel
theorem dX2_readStamp_2 : decode cX2_readStamp 2 = .ok (.bipush 7, 2) := by decide +kernel
theorem dX2_readStamp_4 : decode cX2_readStamp 4 = .ok (.invokevirtual 76, 3) := by decide +kernel
theorem dX2_readStamp_7 : decode cX2_readStamp 7 = .ok (.ifCond .ne 5, 3) := by decide +kernel
theorem dX2_readStamp_10 : decode cX2_readStamp 10 = .ok (.iconst 0, 1) := by decide +kernel
theorem dX2_readStamp_11 : decode cX2_readStamp 11 = .ok (.ireturn, 1) := by decide +kernel
theorem dX2_readStamp_12 : decode cX2_readStamp 12 = .ok (.aload_n 0, 1) := by decide +kernel
theorem dX2_readStamp_13 : decode cX2_readStamp 13 = .ok (.getfield 20, 3) := by decide +kernel
theorem dX2_readStamp_16 : decode cX2_readStamp 16 = .ok (.istore_n 2, 1) := by decide +kernel
theorem dX2_readStamp_17 : decode cX2_readStamp 17 = .ok (.aload_n 1, 1) := by decide +kernel
theorem dX2_readStamp_18 : decode cX2_readStamp 18 = .ok (.iload_n 2, 1) := by decide +kernel
theorem dX2_readStamp_19 : decode cX2_readStamp 19 = .ok (.invokevirtual 80, 3) := by decide +kernel
theorem dX2_readStamp_22 : decode cX2_readStamp 22 = .ok (.ifCond .eq 9, 3) := by decide +kernel
theorem dX2_readStamp_25 : decode cX2_readStamp 25 = .ok (.aload_n 0, 1) := by decide +kernel
theorem dX2_readStamp_26 : decode cX2_readStamp 26 = .ok (.iconst 4, 1) := by decide +kernel
theorem dX2_readStamp_27 : decode cX2_readStamp 27 = .ok (.invokevirtual 66, 3) := by decide +kernel
theorem dX2_readStamp_30 : decode cX2_readStamp 30 = .ok (.ireturn, 1) := by decide +kernel
theorem dX2_readStamp_31 : decode cX2_readStamp 31 = .ok (.aload_n 0, 1) := by decide +kernel
theorem dX2_readStamp_32 : decode cX2_readStamp 32 = .ok (.sipush 1800, 3) := by decide +kernel
theorem dX2_readStamp_35 : decode cX2_readStamp 35 = .ok (.sipush 2000, 3) := by decide +kernel
theorem dX2_readStamp_38 : decode cX2_readStamp 38 = .ok (.invokevirtual 76, 3) := by decide +kernel
theorem dX2_readStamp_41 : decode cX2_readStamp 41 = .ok (.ifCond .ne 5, 3) := by decide +kernel
theorem dX2_readStamp_44 : decode cX2_readStamp 44 = .ok (.iconst 0, 1) := by decide +kernel
theorem dX2_readStamp_45 : decode cX2_readStamp 45 = .ok (.ireturn, 1) := by decide +kernel
theorem dX2_readStamp_46 : decode cX2_readStamp 46 = .ok (.aload_n 0, 1) := by decide +kernel
theorem dX2_readStamp_47 : decode cX2_readStamp 47 = .ok (.getfield 20, 3) := by decide +kernel
theorem dX2_readStamp_50 : decode cX2_readStamp 50 = .ok (.istore_n 3, 1) := by decide +kernel
theorem dX2_readStamp_51 : decode cX2_readStamp 51 = .ok (.aload_n 0, 1) := by decide +kernel
theorem dX2_readStamp_52 : decode cX2_readStamp 52 = .ok (.iload_n 3, 1) := by decide +kernel
theorem dX2_readStamp_53 : decode cX2_readStamp 53 = .ok (.sipush 2000, 3) := by decide +kernel
theorem dX2_readStamp_56 : decode cX2_readStamp 56 = .ok (.invokevirtual 76, 3) := by decide +kernel
theorem dX2_readStamp_59 : decode cX2_readStamp 59 = .ok (.ifCond .ne 5, 3) := by decide +kernel
theorem dX2_readStamp_62 : decode cX2_readStamp 62 = .ok (.iconst 0, 1) := by decide +kernel
theorem dX2_readStamp_63 : decode cX2_readStamp 63 = .ok (.ireturn, 1) := by decide +kernel
theorem dX2_readStamp_64 : decode cX2_readStamp 64 = .ok (.aload_n 1, 1) := by decide +kernel
theorem dX2_readStamp_65 : decode cX2_readStamp 65 = .ok (.iload_n 2, 1) := by decide +kernel
theorem dX2_readStamp_66 : decode cX2_readStamp 66 = .ok (.iload_n 3, 1) := by decide +kernel
theorem dX2_readStamp_67 : decode cX2_readStamp 67 = .ok (.aload_n 0, 1) := by decide +kernel
theorem dX2_readStamp_68 : decode cX2_readStamp 68 = .ok (.getfield 20, 3) := by decide +kernel
theorem dX2_readStamp_71 : decode cX2_readStamp 71 = .ok (.invokevirtual 83, 3) := by decide +kernel
theorem dX2_readStamp_74 : decode cX2_readStamp 74 = .ok (.iconst 1, 1) := by decide +kernel
theorem dX2_readStamp_75 : decode cX2_readStamp 75 = .ok (.ireturn, 1) := by decide +kernel
theorem dX2_readBar_0 : decode cX2_readBar 0 = .ok (.aload_n 0, 1) := by decide +kernel
theorem dX2_readBar_1 : decode cX2_readBar 1 = .ok (.iconst 0, 1) := by decide +kernel
theorem dX2_readBar_2 : decode cX2_readBar 2 = .ok (.bipush 7, 2) := by decide +kernel
theorem dX2_readBar_4 : decode cX2_readBar 4 = .ok (.invokevirtual 76, 3) := by decide +kernel
theorem dX2_readBar_7 : decode cX2_readBar 7 = .ok (.ifCond .ne 5, 3) := by decide +kernel
theorem dX2_readBar_10 : decode cX2_readBar 10 = .ok (.iconst 0, 1) := by decide +kernel
theorem dX2_readBar_11 : decode cX2_readBar 11 = .ok (.ireturn, 1) := by decide +kernel
theorem dX2_readBar_12 : decode cX2_readBar 12 = .ok (.aload_n 0, 1) := by decide +kernel
theorem dX2_readBar_13 : decode cX2_readBar 13 = .ok (.getfield 20, 3) := by decide +kernel
theorem dX2_readBar_16 : decode cX2_readBar 16 = .ok (.istore_n 2, 1) := by decide +kernel
theorem dX2_readBar_17 : decode cX2_readBar 17 = .ok (.aload_n 0, 1) := by decide +kernel
theorem dX2_readBar_18 : decode cX2_readBar 18 = .ok (.iconst 0, 1) := by decide +kernel
theorem dX2_readBar_19 : decode cX2_readBar 19 = .ok (.bipush 7, 2) := by decide +kernel
theorem dX2_readBar_21 : decode cX2_readBar 21 = .ok (.invokevirtual 76, 3) := by decide +kernel
theorem dX2_readBar_24 : decode cX2_readBar 24 = .ok (.ifCond .ne 5, 3) := by decide +kernel
theorem dX2_readBar_27 : decode cX2_readBar 27 = .ok (.iconst 0, 1) := by decide +kernel
theorem dX2_readBar_28 : decode cX2_readBar 28 = .ok (.ireturn, 1) := by decide +kernel
theorem dX2_readBar_29 : decode cX2_readBar 29 = .ok (.aload_n 0, 1) := by decide +kernel
theorem dX2_readBar_30 : decode cX2_readBar 30 = .ok (.getfield 20, 3) := by decide +kernel
theorem dX2_readBar_33 : decode cX2_readBar 33 = .ok (.iload_n 2, 1) := by decide +kernel
theorem dX2_readBar_34 : decode cX2_readBar 34 = .ok (.if_icmp .ne 9, 3) := by decide +kernel
theorem dX2_readBar_37 : decode cX2_readBar 37 = .ok (.aload_n 0, 1) := by decide +kernel
theorem dX2_readBar_38 : decode cX2_readBar 38 = .ok (.iconst 3, 1) := by decide +kernel
theorem dX2_readBar_39 : decode cX2_readBar 39 = .ok (.invokevirtual 66, 3) := by decide +kernel
theorem dX2_readBar_42 : decode cX2_readBar 42 = .ok (.ireturn, 1) := by decide +kernel
theorem dX2_readBar_43 : decode cX2_readBar 43 = .ok (.aload_n 1, 1) := by decide +kernel
theorem dX2_readBar_44 : decode cX2_readBar 44 = .ok (.iload_n 2, 1) := by decide +kernel
theorem dX2_readBar_45 : decode cX2_readBar 45 = .ok (.aload_n 0, 1) := by decide +kernel
theorem dX2_readBar_46 : decode cX2_readBar 46 = .ok (.getfield 20, 3) := by decide +kernel
theorem dX2_readBar_49 : decode cX2_readBar 49 = .ok (.invokevirtual 87, 3) := by decide +kernel
theorem dX2_readBar_52 : decode cX2_readBar 52 = .ok (.iconst 1, 1) := by decide +kernel
theorem dX2_readBar_53 : decode cX2_readBar 53 = .ok (.ireturn, 1) := by decide +kernel
theorem dX2_readLimit_0 : decode cX2_readLimit 0 = .ok (.aload_n 1, 1) := by decide +kernel
theorem dX2_readLimit_1 : decode cX2_readLimit 1 = .ok (.getfield 91, 3) := by decide +kernel
theorem dX2_readLimit_4 : decode cX2_readLimit 4 = .ok (.ifCond .eq 9, 3) := by decide +kernel
theorem dX2_readLimit_7 : decode cX2_readLimit 7 = .ok (.aload_n 0, 1) := by decide +kernel
theorem dX2_readLimit_8 : decode cX2_readLimit 8 = .ok (.iconst 4, 1) := by decide +kernel
theorem dX2_readLimit_9 : decode cX2_readLimit 9 = .ok (.invokevirtual 66, 3) := by decide +kernel
theorem dX2_readLimit_12 : decode cX2_readLimit 12 = .ok (.ireturn, 1) := by decide +kernel
theorem dX2_readLimit_13 : decode cX2_readLimit 13 = .ok (.aload_n 0, 1) := by decide +kernel
theorem dX2_readLimit_14 : decode cX2_readLimit 14 = .ok (.iconst 0, 1) := by decide +kernel
theorem dX2_readLimit_15 : decode cX2_readLimit 15 = .ok (.bipush 50, 2) := by decide +kernel
theorem dX2_readLimit_17 : decode cX2_readLimit 17 = .ok (.invokevirtual 76, 3) := by decide +kernel
theorem dX2_readLimit_20 : decode cX2_readLimit 20 = .ok (.ifCond .ne 5, 3) := by decide +kernel
theorem dX2_readLimit_23 : decode cX2_readLimit 23 = .ok (.iconst 0, 1) := by decide +kernel
theorem dX2_readLimit_24 : decode cX2_readLimit 24 = .ok (.ireturn, 1) := by decide +kernel
theorem dX2_readLimit_25 : decode cX2_readLimit 25 = .ok (.aload_n 1, 1) := by decide +kernel
theorem dX2_readLimit_26 : decode cX2_readLimit 26 = .ok (.aload_n 0, 1) := by decide +kernel
theorem dX2_readLimit_27 : decode cX2_readLimit 27 = .ok (.getfield 20, 3) := by decide +kernel
theorem dX2_readLimit_30 : decode cX2_readLimit 30 = .ok (.invokevirtual 95, 3) := by decide +kernel
theorem dX2_readLimit_33 : decode cX2_readLimit 33 = .ok (.iconst 1, 1) := by decide +kernel
theorem dX2_readLimit_34 : decode cX2_readLimit 34 = .ok (.ireturn, 1) := by decide +kernel
theorem dX2_readLeast_0 : decode cX2_readLeast 0 = .ok (.aload_n 0, 1) := by decide +kernel
theorem dX2_readLeast_1 : decode cX2_readLeast 1 = .ok (.iconst 2, 1) := by decide +kernel
theorem dX2_readLeast_2 : decode cX2_readLeast 2 = .ok (.invokevirtual 70, 3) := by decide +kernel
theorem dX2_readLeast_5 : decode cX2_readLeast 5 = .ok (.ifCond .ne 5, 3) := by decide +kernel
theorem dX2_readLeast_8 : decode cX2_readLeast 8 = .ok (.iconst 0, 1) := by decide +kernel
theorem dX2_readLeast_9 : decode cX2_readLeast 9 = .ok (.ireturn, 1) := by decide +kernel
theorem dX2_readLeast_10 : decode cX2_readLeast 10 = .ok (.aload_n 0, 1) := by decide +kernel
theorem dX2_readLeast_11 : decode cX2_readLeast 11 = .ok (.getfield 20, 3) := by decide +kernel
theorem dX2_readLeast_14 : decode cX2_readLeast 14 = .ok (.istore_n 2, 1) := by decide +kernel
theorem dX2_readLeast_15 : decode cX2_readLeast 15 = .ok (.aload_n 1, 1) := by decide +kernel
theorem dX2_readLeast_16 : decode cX2_readLeast 16 = .ok (.iload_n 2, 1) := by decide +kernel
theorem dX2_readLeast_17 : decode cX2_readLeast 17 = .ok (.invokevirtual 99, 3) := by decide +kernel
theorem dX2_readLeast_20 : decode cX2_readLeast 20 = .ok (.ifCond .eq 9, 3) := by decide +kernel
theorem dX2_readLeast_23 : decode cX2_readLeast 23 = .ok (.aload_n 0, 1) := by decide +kernel
theorem dX2_readLeast_24 : decode cX2_readLeast 24 = .ok (.iconst 4, 1) := by decide +kernel
theorem dX2_readLeast_25 : decode cX2_readLeast 25 = .ok (.invokevirtual 66, 3) := by decide +kernel
theorem dX2_readLeast_28 : decode cX2_readLeast 28 = .ok (.ireturn, 1) := by decide +kernel
theorem dX2_readLeast_29 : decode cX2_readLeast 29 = .ok (.aload_n 0, 1) := by decide +kernel
theorem dX2_readLeast_30 : decode cX2_readLeast 30 = .ok (.iconst 0, 1) := by decide +kernel
theorem dX2_readLeast_31 : decode cX2_readLeast 31 = .ok (.iconst 5, 1) := by decide +kernel
theorem dX2_readLeast_32 : decode cX2_readLeast 32 = .ok (.invokevirtual 76, 3) := by decide +kernel
theorem dX2_readLeast_35 : decode cX2_readLeast 35 = .ok (.ifCond .ne 5, 3) := by decide +kernel
theorem dX2_readLeast_38 : decode cX2_readLeast 38 = .ok (.iconst 0, 1) := by decide +kernel
theorem dX2_readLeast_39 : decode cX2_readLeast 39 = .ok (.ireturn, 1) := by decide +kernel
theorem dX2_readLeast_40 : decode cX2_readLeast 40 = .ok (.aload_n 1, 1) := by decide +kernel
theorem dX2_readLeast_41 : decode cX2_readLeast 41 = .ok (.iload_n 2, 1) := by decide +kernel
theorem dX2_readLeast_42 : decode cX2_readLeast 42 = .ok (.aload_n 0, 1) := by decide +kernel
theorem dX2_readLeast_43 : decode cX2_readLeast 43 = .ok (.getfield 20, 3) := by decide +kernel
theorem dX2_readLeast_46 : decode cX2_readLeast 46 = .ok (.invokevirtual 102, 3) := by decide +kernel
theorem dX2_readLeast_49 : decode cX2_readLeast 49 = .ok (.iconst 1, 1) := by decide +kernel
theorem dX2_readLeast_50 : decode cX2_readLeast 50 = .ok (.ireturn, 1) := by decide +kernel
theorem dX2_readSecond_0 : decode cX2_readSecond 0 = .ok (.aload_n 0, 1) := by decide +kernel
theorem dX2_readSecond_1 : decode cX2_readSecond 1 = .ok (.iconst 2, 1) := by decide +kernel
theorem dX2_readSecond_2 : decode cX2_readSecond 2 = .ok (.invokevirtual 70, 3) := by decide +kernel
theorem dX2_readSecond_5 : decode cX2_readSecond 5 = .ok (.ifCond .ne 5, 3) := by decide +kernel
theorem dX2_readSecond_8 : decode cX2_readSecond 8 = .ok (.iconst 0, 1) := by decide +kernel
theorem dX2_readSecond_9 : decode cX2_readSecond 9 = .ok (.ireturn, 1) := by decide +kernel
theorem dX2_readSecond_10 : decode cX2_readSecond 10 = .ok (.aload_n 0, 1) := by decide +kernel
theorem dX2_readSecond_11 : decode cX2_readSecond 11 = .ok (.getfield 20, 3) := by decide +kernel
theorem dX2_readSecond_14 : decode cX2_readSecond 14 = .ok (.istore_n 2, 1) := by decide +kernel
theorem dX2_readSecond_15 : decode cX2_readSecond 15 = .ok (.aload_n 1, 1) := by decide +kernel
theorem dX2_readSecond_16 : decode cX2_readSecond 16 = .ok (.iload_n 2, 1) := by decide +kernel
theorem dX2_readSecond_17 : decode cX2_readSecond 17 = .ok (.invokevirtual 105, 3) := by decide +kernel
theorem dX2_readSecond_20 : decode cX2_readSecond 20 = .ok (.ifCond .eq 9, 3) := by decide +kernel
theorem dX2_readSecond_23 : decode cX2_readSecond 23 = .ok (.aload_n 0, 1) := by decide +kernel
theorem dX2_readSecond_24 : decode cX2_readSecond 24 = .ok (.iconst 4, 1) := by decide +kernel
theorem dX2_readSecond_25 : decode cX2_readSecond 25 = .ok (.invokevirtual 66, 3) := by decide +kernel
theorem dX2_readSecond_28 : decode cX2_readSecond 28 = .ok (.ireturn, 1) := by decide +kernel
theorem dX2_readSecond_29 : decode cX2_readSecond 29 = .ok (.aload_n 0, 1) := by decide +kernel
theorem dX2_readSecond_30 : decode cX2_readSecond 30 = .ok (.iconst 2, 1) := by decide +kernel
theorem dX2_readSecond_31 : decode cX2_readSecond 31 = .ok (.invokevirtual 70, 3) := by decide +kernel
theorem dX2_readSecond_34 : decode cX2_readSecond 34 = .ok (.ifCond .ne 5, 3) := by decide +kernel
theorem dX2_readSecond_37 : decode cX2_readSecond 37 = .ok (.iconst 0, 1) := by decide +kernel
theorem dX2_readSecond_38 : decode cX2_readSecond 38 = .ok (.ireturn, 1) := by decide +kernel
theorem dX2_readSecond_39 : decode cX2_readSecond 39 = .ok (.aload_n 1, 1) := by decide +kernel
theorem dX2_readSecond_40 : decode cX2_readSecond 40 = .ok (.aload_n 0, 1) := by decide +kernel
theorem dX2_readSecond_41 : decode cX2_readSecond 41 = .ok (.getfield 20, 3) := by decide +kernel
theorem dX2_readSecond_44 : decode cX2_readSecond 44 = .ok (.iload_n 2, 1) := by decide +kernel
theorem dX2_readSecond_45 : decode cX2_readSecond 45 = .ok (.invokevirtual 108, 3) := by decide +kernel
theorem dX2_readSecond_48 : decode cX2_readSecond 48 = .ok (.ifCond .eq 9, 3) := by decide +kernel
theorem dX2_readSecond_51 : decode cX2_readSecond 51 = .ok (.aload_n 0, 1) := by decide +kernel
theorem dX2_readSecond_52 : decode cX2_readSecond 52 = .ok (.iconst 5, 1) := by decide +kernel
theorem dX2_readSecond_53 : decode cX2_readSecond 53 = .ok (.invokevirtual 66, 3) := by decide +kernel
theorem dX2_readSecond_56 : decode cX2_readSecond 56 = .ok (.ireturn, 1) := by decide +kernel
theorem dX2_readSecond_57 : decode cX2_readSecond 57 = .ok (.aload_n 1, 1) := by decide +kernel
theorem dX2_readSecond_58 : decode cX2_readSecond 58 = .ok (.getfield 111, 3) := by decide +kernel
theorem dX2_readSecond_61 : decode cX2_readSecond 61 = .ok (.iload_n 2, 1) := by decide +kernel
theorem dX2_readSecond_62 : decode cX2_readSecond 62 = .ok (.aload_n 0, 1) := by decide +kernel
theorem dX2_readSecond_63 : decode cX2_readSecond 63 = .ok (.getfield 20, 3) := by decide +kernel
theorem dX2_readSecond_66 : decode cX2_readSecond 66 = .ok (.iastore, 1) := by decide +kernel
theorem dX2_readSecond_67 : decode cX2_readSecond 67 = .ok (.iconst 1, 1) := by decide +kernel
theorem dX2_readSecond_68 : decode cX2_readSecond 68 = .ok (.ireturn, 1) := by decide +kernel
theorem dX2_advance_0 : decode cX2_advance 0 = .ok (.aload_n 0, 1) := by decide +kernel
theorem dX2_advance_1 : decode cX2_advance 1 = .ok (.aload_n 0, 1) := by decide +kernel
theorem dX2_advance_2 : decode cX2_advance 2 = .ok (.getfield 32, 3) := by decide +kernel
theorem dX2_advance_5 : decode cX2_advance 5 = .ok (.getfield 115, 3) := by decide +kernel
theorem dX2_advance_8 : decode cX2_advance 8 = .ok (.aload_n 0, 1) := by decide +kernel
theorem dX2_advance_9 : decode cX2_advance 9 = .ok (.getfield 9, 3) := by decide +kernel
theorem dX2_advance_12 : decode cX2_advance 12 = .ok (.iaload, 1) := by decide +kernel
theorem dX2_advance_13 : decode cX2_advance 13 = .ok (.putfield 17, 3) := by decide +kernel
theorem dX2_advance_16 : decode cX2_advance 16 = .ok (.aload_n 0, 1) := by decide +kernel
theorem dX2_advance_17 : decode cX2_advance 17 = .ok (.aload_n 0, 1) := by decide +kernel
theorem dX2_advance_18 : decode cX2_advance 18 = .ok (.getfield 32, 3) := by decide +kernel
theorem dX2_advance_21 : decode cX2_advance 21 = .ok (.getfield 118, 3) := by decide +kernel
theorem dX2_advance_24 : decode cX2_advance 24 = .ok (.aload_n 0, 1) := by decide +kernel
theorem dX2_advance_25 : decode cX2_advance 25 = .ok (.getfield 9, 3) := by decide +kernel
theorem dX2_advance_28 : decode cX2_advance 28 = .ok (.iaload, 1) := by decide +kernel
theorem dX2_advance_29 : decode cX2_advance 29 = .ok (.putfield 20, 3) := by decide +kernel
theorem dX2_advance_32 : decode cX2_advance 32 = .ok (.aload_n 0, 1) := by decide +kernel
theorem dX2_advance_33 : decode cX2_advance 33 = .ok (.aload_n 0, 1) := by decide +kernel
theorem dX2_advance_34 : decode cX2_advance 34 = .ok (.getfield 32, 3) := by decide +kernel
theorem dX2_advance_37 : decode cX2_advance 37 = .ok (.getfield 121, 3) := by decide +kernel
theorem dX2_advance_40 : decode cX2_advance 40 = .ok (.aload_n 0, 1) := by decide +kernel
theorem dX2_advance_41 : decode cX2_advance 41 = .ok (.getfield 9, 3) := by decide +kernel
theorem dX2_advance_44 : decode cX2_advance 44 = .ok (.iaload, 1) := by decide +kernel
theorem dX2_advance_45 : decode cX2_advance 45 = .ok (.putfield 23, 3) := by decide +kernel
theorem dX2_advance_48 : decode cX2_advance 48 = .ok (.aload_n 0, 1) := by decide +kernel
theorem dX2_advance_49 : decode cX2_advance 49 = .ok (.getfield 9, 3) := by decide +kernel
theorem dX2_advance_52 : decode cX2_advance 52 = .ok (.aload_n 0, 1) := by decide +kernel
theorem dX2_advance_53 : decode cX2_advance 53 = .ok (.getfield 32, 3) := by decide +kernel
theorem dX2_advance_56 : decode cX2_advance 56 = .ok (.getfield 124, 3) := by decide +kernel
theorem dX2_advance_59 : decode cX2_advance 59 = .ok (.iconst 1, 1) := by decide +kernel
theorem dX2_advance_60 : decode cX2_advance 60 = .ok (.isub, 1) := by decide +kernel
theorem dX2_advance_61 : decode cX2_advance 61 = .ok (.if_icmp .ge 13, 3) := by decide +kernel
theorem dX2_advance_64 : decode cX2_advance 64 = .ok (.aload_n 0, 1) := by decide +kernel
theorem dX2_advance_65 : decode cX2_advance 65 = .ok (.dup, 1) := by decide +kernel
theorem dX2_advance_66 : decode cX2_advance 66 = .ok (.getfield 9, 3) := by decide +kernel
theorem dX2_advance_69 : decode cX2_advance 69 = .ok (.iconst 1, 1) := by decide +kernel
theorem dX2_advance_70 : decode cX2_advance 70 = .ok (.iadd, 1) := by decide +kernel
theorem dX2_advance_71 : decode cX2_advance 71 = .ok (.putfield 9, 3) := by decide +kernel
theorem dX2_advance_74 : decode cX2_advance 74 = .ok (.return_, 1) := by decide +kernel
theorem dX2_expect_0 : decode cX2_expect 0 = .ok (.aload_n 0, 1) := by decide +kernel
theorem dX2_expect_1 : decode cX2_expect 1 = .ok (.invokevirtual 48, 3) := by decide +kernel
theorem dX2_expect_4 : decode cX2_expect 4 = .ok (.aload_n 0, 1) := by decide +kernel
theorem dX2_expect_5 : decode cX2_expect 5 = .ok (.getfield 17, 3) := by decide +kernel
theorem dX2_expect_8 : decode cX2_expect 8 = .ok (.iconst 1, 1) := by decide +kernel
theorem dX2_expect_9 : decode cX2_expect 9 = .ok (.if_icmp .ne 9, 3) := by decide +kernel
theorem dX2_expect_12 : decode cX2_expect 12 = .ok (.aload_n 0, 1) := by decide +kernel
theorem dX2_expect_13 : decode cX2_expect 13 = .ok (.iconst 1, 1) := by decide +kernel
theorem dX2_expect_14 : decode cX2_expect 14 = .ok (.invokevirtual 66, 3) := by decide +kernel
theorem dX2_expect_17 : decode cX2_expect 17 = .ok (.ireturn, 1) := by decide +kernel
theorem dX2_expect_18 : decode cX2_expect 18 = .ok (.aload_n 0, 1) := by decide +kernel
theorem dX2_expect_19 : decode cX2_expect 19 = .ok (.getfield 17, 3) := by decide +kernel
theorem dX2_expect_22 : decode cX2_expect 22 = .ok (.iload_n 1, 1) := by decide +kernel
theorem dX2_expect_23 : decode cX2_expect 23 = .ok (.if_icmp .eq 11, 3) := by decide +kernel
theorem dX2_expect_26 : decode cX2_expect 26 = .ok (.aload_n 0, 1) := by decide +kernel
theorem dX2_expect_27 : decode cX2_expect 27 = .ok (.iconst 2, 1) := by decide +kernel
theorem dX2_expect_28 : decode cX2_expect 28 = .ok (.invokevirtual 66, 3) := by decide +kernel
theorem dX2_expect_31 : decode cX2_expect 31 = .ok (.ifCond .eq 7, 3) := by decide +kernel
theorem dX2_expect_34 : decode cX2_expect 34 = .ok (.iconst 1, 1) := by decide +kernel
theorem dX2_expect_35 : decode cX2_expect 35 = .ok (.goto 4, 3) := by decide +kernel
theorem dX2_expect_38 : decode cX2_expect 38 = .ok (.iconst 0, 1) := by decide +kernel
theorem dX2_expect_39 : decode cX2_expect 39 = .ok (.ireturn, 1) := by decide +kernel
theorem dX2_expectNumber_0 : decode cX2_expectNumber 0 = .ok (.aload_n 0, 1) := by decide +kernel
theorem dX2_expectNumber_1 : decode cX2_expectNumber 1 = .ok (.iconst 3, 1) := by decide +kernel
theorem dX2_expectNumber_2 : decode cX2_expectNumber 2 = .ok (.invokevirtual 70, 3) := by decide +kernel
theorem dX2_expectNumber_5 : decode cX2_expectNumber 5 = .ok (.ifCond .eq 27, 3) := by decide +kernel
theorem dX2_expectNumber_8 : decode cX2_expectNumber 8 = .ok (.aload_n 0, 1) := by decide +kernel
theorem dX2_expectNumber_9 : decode cX2_expectNumber 9 = .ok (.getfield 20, 3) := by decide +kernel
theorem dX2_expectNumber_12 : decode cX2_expectNumber 12 = .ok (.iload_n 1, 1) := by decide +kernel
theorem dX2_expectNumber_13 : decode cX2_expectNumber 13 = .ok (.iload_n 2, 1) := by decide +kernel
theorem dX2_expectNumber_14 : decode cX2_expectNumber 14 = .ok (.invokestatic 127, 3) := by decide +kernel
theorem dX2_expectNumber_17 : decode cX2_expectNumber 17 = .ok (.ifCond .ne 11, 3) := by decide +kernel
theorem dX2_expectNumber_20 : decode cX2_expectNumber 20 = .ok (.aload_n 0, 1) := by decide +kernel
theorem dX2_expectNumber_21 : decode cX2_expectNumber 21 = .ok (.iconst 3, 1) := by decide +kernel
theorem dX2_expectNumber_22 : decode cX2_expectNumber 22 = .ok (.invokevirtual 66, 3) := by decide +kernel
theorem dX2_expectNumber_25 : decode cX2_expectNumber 25 = .ok (.ifCond .eq 7, 3) := by decide +kernel
theorem dX2_expectNumber_28 : decode cX2_expectNumber 28 = .ok (.iconst 1, 1) := by decide +kernel
theorem dX2_expectNumber_29 : decode cX2_expectNumber 29 = .ok (.goto 4, 3) := by decide +kernel
theorem dX2_expectNumber_32 : decode cX2_expectNumber 32 = .ok (.iconst 0, 1) := by decide +kernel
theorem dX2_expectNumber_33 : decode cX2_expectNumber 33 = .ok (.ireturn, 1) := by decide +kernel
theorem dX2_fail_0 : decode cX2_fail 0 = .ok (.aload_n 0, 1) := by decide +kernel
theorem dX2_fail_1 : decode cX2_fail 1 = .ok (.iload_n 1, 1) := by decide +kernel
theorem dX2_fail_2 : decode cX2_fail 2 = .ok (.putfield 26, 3) := by decide +kernel
theorem dX2_fail_5 : decode cX2_fail 5 = .ok (.aload_n 0, 1) := by decide +kernel
theorem dX2_fail_6 : decode cX2_fail 6 = .ok (.aload_n 0, 1) := by decide +kernel
theorem dX2_fail_7 : decode cX2_fail 7 = .ok (.getfield 23, 3) := by decide +kernel
theorem dX2_fail_10 : decode cX2_fail 10 = .ok (.putfield 29, 3) := by decide +kernel
theorem dX2_fail_13 : decode cX2_fail 13 = .ok (.iconst 0, 1) := by decide +kernel
theorem dX2_fail_14 : decode cX2_fail 14 = .ok (.ireturn, 1) := by decide +kernel
theorem dX3_init_0 : decode cX3_init 0 = .ok (.aload_n 0, 1) := by decide +kernel
theorem dX3_init_1 : decode cX3_init 1 = .ok (.invokespecial 3, 3) := by decide +kernel
theorem dX3_init_4 : decode cX3_init 4 = .ok (.aload_n 0, 1) := by decide +kernel
theorem dX3_init_5 : decode cX3_init 5 = .ok (.bipush 8, 2) := by decide +kernel
theorem dX3_init_7 : decode cX3_init 7 = .ok (.newarray .int, 2) := by decide +kernel
theorem dX3_init_9 : decode cX3_init 9 = .ok (.putfield 9, 3) := by decide +kernel
theorem dX3_init_12 : decode cX3_init 12 = .ok (.aload_n 0, 1) := by decide +kernel
theorem dX3_init_13 : decode cX3_init 13 = .ok (.bipush 8, 2) := by decide +kernel
theorem dX3_init_15 : decode cX3_init 15 = .ok (.newarray .int, 2) := by decide +kernel
theorem dX3_init_17 : decode cX3_init 17 = .ok (.putfield 15, 3) := by decide +kernel
theorem dX3_init_20 : decode cX3_init 20 = .ok (.aload_n 0, 1) := by decide +kernel
theorem dX3_init_21 : decode cX3_init 21 = .ok (.bipush 8, 2) := by decide +kernel
theorem dX3_init_23 : decode cX3_init 23 = .ok (.newarray .int, 2) := by decide +kernel
theorem dX3_init_25 : decode cX3_init 25 = .ok (.putfield 18, 3) := by decide +kernel
theorem dX3_init_28 : decode cX3_init 28 = .ok (.aload_n 0, 1) := by decide +kernel
theorem dX3_init_29 : decode cX3_init 29 = .ok (.bipush 8, 2) := by decide +kernel
theorem dX3_init_31 : decode cX3_init 31 = .ok (.newarray .int, 2) := by decide +kernel
theorem dX3_init_33 : decode cX3_init 33 = .ok (.putfield 21, 3) := by decide +kernel
theorem dX3_init_36 : decode cX3_init 36 = .ok (.aload_n 0, 1) := by decide +kernel
theorem dX3_init_37 : decode cX3_init 37 = .ok (.bipush 8, 2) := by decide +kernel
theorem dX3_init_39 : decode cX3_init 39 = .ok (.newarray .int, 2) := by decide +kernel
theorem dX3_init_41 : decode cX3_init 41 = .ok (.putfield 24, 3) := by decide +kernel
theorem dX3_init_44 : decode cX3_init 44 = .ok (.aload_n 0, 1) := by decide +kernel
theorem dX3_init_45 : decode cX3_init 45 = .ok (.iconst 0, 1) := by decide +kernel
theorem dX3_init_46 : decode cX3_init 46 = .ok (.putfield 27, 3) := by decide +kernel
theorem dX3_init_49 : decode cX3_init 49 = .ok (.aload_n 0, 1) := by decide +kernel
theorem dX3_init_50 : decode cX3_init 50 = .ok (.iconst 0, 1) := by decide +kernel
theorem dX3_init_51 : decode cX3_init 51 = .ok (.putfield 31, 3) := by decide +kernel
theorem dX3_init_54 : decode cX3_init 54 = .ok (.aload_n 0, 1) := by decide +kernel
theorem dX3_init_55 : decode cX3_init 55 = .ok (.iconst 0, 1) := by decide +kernel
theorem dX3_init_56 : decode cX3_init 56 = .ok (.putfield 34, 3) := by decide +kernel
theorem dX3_init_59 : decode cX3_init 59 = .ok (.aload_n 0, 1) := by decide +kernel
theorem dX3_init_60 : decode cX3_init 60 = .ok (.iconst 0, 1) := by decide +kernel
theorem dX3_init_61 : decode cX3_init 61 = .ok (.putfield 37, 3) := by decide +kernel
theorem dX3_init_64 : decode cX3_init 64 = .ok (.aload_n 0, 1) := by decide +kernel
theorem dX3_init_65 : decode cX3_init 65 = .ok (.iconst 0, 1) := by decide +kernel
theorem dX3_init_66 : decode cX3_init 66 = .ok (.putfield 40, 3) := by decide +kernel
theorem dX3_init_69 : decode cX3_init 69 = .ok (.aload_n 0, 1) := by decide +kernel
theorem dX3_init_70 : decode cX3_init 70 = .ok (.invokevirtual 44, 3) := by decide +kernel
theorem dX3_init_73 : decode cX3_init 73 = .ok (.return_, 1) := by decide +kernel
theorem dX3_forget_0 : decode cX3_forget 0 = .ok (.iconst 0, 1) := by decide +kernel
theorem dX3_forget_1 : decode cX3_forget 1 = .ok (.istore_n 1, 1) := by decide +kernel
theorem dX3_forget_2 : decode cX3_forget 2 = .ok (.iload_n 1, 1) := by decide +kernel
theorem dX3_forget_3 : decode cX3_forget 3 = .ok (.bipush 8, 2) := by decide +kernel
theorem dX3_forget_5 : decode cX3_forget 5 = .ok (.if_icmp .ge 34, 3) := by decide +kernel
theorem dX3_forget_8 : decode cX3_forget 8 = .ok (.aload_n 0, 1) := by decide +kernel
theorem dX3_forget_9 : decode cX3_forget 9 = .ok (.getfield 9, 3) := by decide +kernel
theorem dX3_forget_12 : decode cX3_forget 12 = .ok (.iload_n 1, 1) := by decide +kernel
theorem dX3_forget_13 : decode cX3_forget 13 = .ok (.sipush 1800, 3) := by decide +kernel
theorem dX3_forget_16 : decode cX3_forget 16 = .ok (.iastore, 1) := by decide +kernel
theorem dX3_forget_17 : decode cX3_forget 17 = .ok (.aload_n 0, 1) := by decide +kernel
theorem dX3_forget_18 : decode cX3_forget 18 = .ok (.getfield 15, 3) := by decide +kernel
theorem dX3_forget_21 : decode cX3_forget 21 = .ok (.iload_n 1, 1) := by decide +kernel
theorem dX3_forget_22 : decode cX3_forget 22 = .ok (.sipush 2000, 3) := by decide +kernel
theorem dX3_forget_25 : decode cX3_forget 25 = .ok (.iastore, 1) := by decide +kernel
theorem dX3_forget_26 : decode cX3_forget 26 = .ok (.aload_n 0, 1) := by decide +kernel
theorem dX3_forget_27 : decode cX3_forget 27 = .ok (.getfield 18, 3) := by decide +kernel
theorem dX3_forget_30 : decode cX3_forget 30 = .ok (.iload_n 1, 1) := by decide +kernel
theorem dX3_forget_31 : decode cX3_forget 31 = .ok (.iconst 0, 1) := by decide +kernel
theorem dX3_forget_32 : decode cX3_forget 32 = .ok (.iastore, 1) := by decide +kernel
theorem dX3_forget_33 : decode cX3_forget 33 = .ok (.iinc 1 1, 3) := by decide +kernel
theorem dX3_forget_36 : decode cX3_forget 36 = .ok (.goto (-34), 3) := by decide +kernel
theorem dX3_forget_39 : decode cX3_forget 39 = .ok (.iconst 0, 1) := by decide +kernel
theorem dX3_forget_40 : decode cX3_forget 40 = .ok (.istore_n 1, 1) := by decide +kernel
theorem dX3_forget_41 : decode cX3_forget 41 = .ok (.iload_n 1, 1) := by decide +kernel
theorem dX3_forget_42 : decode cX3_forget 42 = .ok (.bipush 8, 2) := by decide +kernel
theorem dX3_forget_44 : decode cX3_forget 44 = .ok (.if_icmp .ge 24, 3) := by decide +kernel
theorem dX3_forget_47 : decode cX3_forget 47 = .ok (.aload_n 0, 1) := by decide +kernel
theorem dX3_forget_48 : decode cX3_forget 48 = .ok (.getfield 21, 3) := by decide +kernel
theorem dX3_forget_51 : decode cX3_forget 51 = .ok (.iload_n 1, 1) := by decide +kernel
theorem dX3_forget_52 : decode cX3_forget 52 = .ok (.iconst 0, 1) := by decide +kernel
theorem dX3_forget_53 : decode cX3_forget 53 = .ok (.iastore, 1) := by decide +kernel
theorem dX3_forget_54 : decode cX3_forget 54 = .ok (.aload_n 0, 1) := by decide +kernel
theorem dX3_forget_55 : decode cX3_forget 55 = .ok (.getfield 24, 3) := by decide +kernel
theorem dX3_forget_58 : decode cX3_forget 58 = .ok (.iload_n 1, 1) := by decide +kernel
theorem dX3_forget_59 : decode cX3_forget 59 = .ok (.bipush (-4), 2) := by decide +kernel
theorem dX3_forget_61 : decode cX3_forget 61 = .ok (.iastore, 1) := by decide +kernel
theorem dX3_forget_62 : decode cX3_forget 62 = .ok (.iinc 1 1, 3) := by decide +kernel
theorem dX3_forget_65 : decode cX3_forget 65 = .ok (.goto (-24), 3) := by decide +kernel
theorem dX3_forget_68 : decode cX3_forget 68 = .ok (.aload_n 0, 1) := by decide +kernel
theorem dX3_forget_69 : decode cX3_forget 69 = .ok (.iconst 5, 1) := by decide +kernel
theorem dX3_forget_70 : decode cX3_forget 70 = .ok (.putfield 27, 3) := by decide +kernel
theorem dX3_forget_73 : decode cX3_forget 73 = .ok (.aload_n 0, 1) := by decide +kernel
theorem dX3_forget_74 : decode cX3_forget 74 = .ok (.iconst 0, 1) := by decide +kernel
theorem dX3_forget_75 : decode cX3_forget 75 = .ok (.putfield 31, 3) := by decide +kernel
theorem dX3_forget_78 : decode cX3_forget 78 = .ok (.aload_n 0, 1) := by decide +kernel
theorem dX3_forget_79 : decode cX3_forget 79 = .ok (.iconst 0, 1) := by decide +kernel
theorem dX3_forget_80 : decode cX3_forget 80 = .ok (.putfield 34, 3) := by decide +kernel
theorem dX3_forget_83 : decode cX3_forget 83 = .ok (.aload_n 0, 1) := by decide +kernel
theorem dX3_forget_84 : decode cX3_forget 84 = .ok (.iconst 0, 1) := by decide +kernel
theorem dX3_forget_85 : decode cX3_forget 85 = .ok (.putfield 37, 3) := by decide +kernel
theorem dX3_forget_88 : decode cX3_forget 88 = .ok (.aload_n 0, 1) := by decide +kernel
theorem dX3_forget_89 : decode cX3_forget 89 = .ok (.iconst 0, 1) := by decide +kernel
theorem dX3_forget_90 : decode cX3_forget 90 = .ok (.putfield 40, 3) := by decide +kernel
theorem dX3_forget_93 : decode cX3_forget 93 = .ok (.return_, 1) := by decide +kernel
theorem dX3_hasStamp_0 : decode cX3_hasStamp 0 = .ok (.aload_n 0, 1) := by decide +kernel
theorem dX3_hasStamp_1 : decode cX3_hasStamp 1 = .ok (.getfield 34, 3) := by decide +kernel
theorem dX3_hasStamp_4 : decode cX3_hasStamp 4 = .ok (.iload_n 1, 1) := by decide +kernel
theorem dX3_hasStamp_5 : decode cX3_hasStamp 5 = .ok (.ishr, 1) := by decide +kernel
theorem dX3_hasStamp_6 : decode cX3_hasStamp 6 = .ok (.iconst 1, 1) := by decide +kernel
theorem dX3_hasStamp_7 : decode cX3_hasStamp 7 = .ok (.iand, 1) := by decide +kernel
theorem dX3_hasStamp_8 : decode cX3_hasStamp 8 = .ok (.iconst 1, 1) := by decide +kernel
theorem dX3_hasStamp_9 : decode cX3_hasStamp 9 = .ok (.if_icmp .ne 7, 3) := by decide +kernel
theorem dX3_hasStamp_12 : decode cX3_hasStamp 12 = .ok (.iconst 1, 1) := by decide +kernel
theorem dX3_hasStamp_13 : decode cX3_hasStamp 13 = .ok (.goto 4, 3) := by decide +kernel
theorem dX3_hasStamp_16 : decode cX3_hasStamp 16 = .ok (.iconst 0, 1) := by decide +kernel
theorem dX3_hasStamp_17 : decode cX3_hasStamp 17 = .ok (.ireturn, 1) := by decide +kernel
theorem dX3_hasLeast_0 : decode cX3_hasLeast 0 = .ok (.aload_n 0, 1) := by decide +kernel
theorem dX3_hasLeast_1 : decode cX3_hasLeast 1 = .ok (.getfield 37, 3) := by decide +kernel
theorem dX3_hasLeast_4 : decode cX3_hasLeast 4 = .ok (.iload_n 1, 1) := by decide +kernel
theorem dX3_hasLeast_5 : decode cX3_hasLeast 5 = .ok (.ishr, 1) := by decide +kernel
theorem dX3_hasLeast_6 : decode cX3_hasLeast 6 = .ok (.iconst 1, 1) := by decide +kernel
theorem dX3_hasLeast_7 : decode cX3_hasLeast 7 = .ok (.iand, 1) := by decide +kernel
theorem dX3_hasLeast_8 : decode cX3_hasLeast 8 = .ok (.iconst 1, 1) := by decide +kernel
theorem dX3_hasLeast_9 : decode cX3_hasLeast 9 = .ok (.if_icmp .ne 7, 3) := by decide +kernel
theorem dX3_hasLeast_12 : decode cX3_hasLeast 12 = .ok (.iconst 1, 1) := by decide +kernel
theorem dX3_hasLeast_13 : decode cX3_hasLeast 13 = .ok (.goto 4, 3) := by decide +kernel
theorem dX3_hasLeast_16 : decode cX3_hasLeast 16 = .ok (.iconst 0, 1) := by decide +kernel
theorem dX3_hasLeast_17 : decode cX3_hasLeast 17 = .ok (.ireturn, 1) := by decide +kernel
theorem dX3_hasSecond_0 : decode cX3_hasSecond 0 = .ok (.aload_n 0, 1) := by decide +kernel
theorem dX3_hasSecond_1 : decode cX3_hasSecond 1 = .ok (.getfield 24, 3) := by decide +kernel
theorem dX3_hasSecond_4 : decode cX3_hasSecond 4 = .ok (.iload_n 1, 1) := by decide +kernel
theorem dX3_hasSecond_5 : decode cX3_hasSecond 5 = .ok (.iaload, 1) := by decide +kernel
theorem dX3_hasSecond_6 : decode cX3_hasSecond 6 = .ok (.bipush (-4), 2) := by decide +kernel
theorem dX3_hasSecond_8 : decode cX3_hasSecond 8 = .ok (.if_icmp .eq 7, 3) := by decide +kernel
theorem dX3_hasSecond_11 : decode cX3_hasSecond 11 = .ok (.iconst 1, 1) := by decide +kernel
theorem dX3_hasSecond_12 : decode cX3_hasSecond 12 = .ok (.goto 4, 3) := by decide +kernel
theorem dX3_hasSecond_15 : decode cX3_hasSecond 15 = .ok (.iconst 0, 1) := by decide +kernel
theorem dX3_hasSecond_16 : decode cX3_hasSecond 16 = .ok (.ireturn, 1) := by decide +kernel
theorem dX3_tellStamp_0 : decode cX3_tellStamp 0 = .ok (.aload_n 0, 1) := by decide +kernel
theorem dX3_tellStamp_1 : decode cX3_tellStamp 1 = .ok (.getfield 9, 3) := by decide +kernel
theorem dX3_tellStamp_4 : decode cX3_tellStamp 4 = .ok (.iload_n 1, 1) := by decide +kernel
theorem dX3_tellStamp_5 : decode cX3_tellStamp 5 = .ok (.iload_n 2, 1) := by decide +kernel
theorem dX3_tellStamp_6 : decode cX3_tellStamp 6 = .ok (.iastore, 1) := by decide +kernel
theorem dX3_tellStamp_7 : decode cX3_tellStamp 7 = .ok (.aload_n 0, 1) := by decide +kernel
theorem dX3_tellStamp_8 : decode cX3_tellStamp 8 = .ok (.getfield 15, 3) := by decide +kernel
theorem dX3_tellStamp_11 : decode cX3_tellStamp 11 = .ok (.iload_n 1, 1) := by decide +kernel
theorem dX3_tellStamp_12 : decode cX3_tellStamp 12 = .ok (.iload_n 3, 1) := by decide +kernel
theorem dX3_tellStamp_13 : decode cX3_tellStamp 13 = .ok (.iastore, 1) := by decide +kernel
theorem dX3_tellStamp_14 : decode cX3_tellStamp 14 = .ok (.aload_n 0, 1) := by decide +kernel
theorem dX3_tellStamp_15 : decode cX3_tellStamp 15 = .ok (.dup, 1) := by decide +kernel
theorem dX3_tellStamp_16 : decode cX3_tellStamp 16 = .ok (.getfield 34, 3) := by decide +kernel
theorem dX3_tellStamp_19 : decode cX3_tellStamp 19 = .ok (.iconst 1, 1) := by decide +kernel
theorem dX3_tellStamp_20 : decode cX3_tellStamp 20 = .ok (.iload_n 1, 1) := by decide +kernel
theorem dX3_tellStamp_21 : decode cX3_tellStamp 21 = .ok (.ishl, 1) := by decide +kernel
theorem dX3_tellStamp_22 : decode cX3_tellStamp 22 = .ok (.ior, 1) := by decide +kernel
theorem dX3_tellStamp_23 : decode cX3_tellStamp 23 = .ok (.putfield 34, 3) := by decide +kernel
theorem dX3_tellStamp_26 : decode cX3_tellStamp 26 = .ok (.return_, 1) := by decide +kernel
theorem dX3_tellBar_0 : decode cX3_tellBar 0 = .ok (.aload_n 0, 1) := by decide +kernel
theorem dX3_tellBar_1 : decode cX3_tellBar 1 = .ok (.getfield 18, 3) := by decide +kernel
theorem dX3_tellBar_4 : decode cX3_tellBar 4 = .ok (.iload_n 1, 1) := by decide +kernel
theorem dX3_tellBar_5 : decode cX3_tellBar 5 = .ok (.dup2, 1) := by decide +kernel
theorem dX3_tellBar_6 : decode cX3_tellBar 6 = .ok (.iaload, 1) := by decide +kernel
theorem dX3_tellBar_7 : decode cX3_tellBar 7 = .ok (.iconst 1, 1) := by decide +kernel
theorem dX3_tellBar_8 : decode cX3_tellBar 8 = .ok (.iload_n 2, 1) := by decide +kernel
theorem dX3_tellBar_9 : decode cX3_tellBar 9 = .ok (.ishl, 1) := by decide +kernel
theorem dX3_tellBar_10 : decode cX3_tellBar 10 = .ok (.ior, 1) := by decide +kernel
theorem dX3_tellBar_11 : decode cX3_tellBar 11 = .ok (.iastore, 1) := by decide +kernel
theorem dX3_tellBar_12 : decode cX3_tellBar 12 = .ok (.aload_n 0, 1) := by decide +kernel
theorem dX3_tellBar_13 : decode cX3_tellBar 13 = .ok (.getfield 18, 3) := by decide +kernel
theorem dX3_tellBar_16 : decode cX3_tellBar 16 = .ok (.iload_n 2, 1) := by decide +kernel
theorem dX3_tellBar_17 : decode cX3_tellBar 17 = .ok (.dup2, 1) := by decide +kernel
theorem dX3_tellBar_18 : decode cX3_tellBar 18 = .ok (.iaload, 1) := by decide +kernel
theorem dX3_tellBar_19 : decode cX3_tellBar 19 = .ok (.iconst 1, 1) := by decide +kernel
theorem dX3_tellBar_20 : decode cX3_tellBar 20 = .ok (.iload_n 1, 1) := by decide +kernel
theorem dX3_tellBar_21 : decode cX3_tellBar 21 = .ok (.ishl, 1) := by decide +kernel
theorem dX3_tellBar_22 : decode cX3_tellBar 22 = .ok (.ior, 1) := by decide +kernel
theorem dX3_tellBar_23 : decode cX3_tellBar 23 = .ok (.iastore, 1) := by decide +kernel
theorem dX3_tellBar_24 : decode cX3_tellBar 24 = .ok (.return_, 1) := by decide +kernel
theorem dX3_tellLimit_0 : decode cX3_tellLimit 0 = .ok (.aload_n 0, 1) := by decide +kernel
theorem dX3_tellLimit_1 : decode cX3_tellLimit 1 = .ok (.iload_n 1, 1) := by decide +kernel
theorem dX3_tellLimit_2 : decode cX3_tellLimit 2 = .ok (.putfield 27, 3) := by decide +kernel
theorem dX3_tellLimit_5 : decode cX3_tellLimit 5 = .ok (.aload_n 0, 1) := by decide +kernel
theorem dX3_tellLimit_6 : decode cX3_tellLimit 6 = .ok (.iconst 1, 1) := by decide +kernel
theorem dX3_tellLimit_7 : decode cX3_tellLimit 7 = .ok (.putfield 40, 3) := by decide +kernel
theorem dX3_tellLimit_10 : decode cX3_tellLimit 10 = .ok (.return_, 1) := by decide +kernel
theorem dX3_tellLeast_0 : decode cX3_tellLeast 0 = .ok (.aload_n 0, 1) := by decide +kernel
theorem dX3_tellLeast_1 : decode cX3_tellLeast 1 = .ok (.getfield 21, 3) := by decide +kernel
theorem dX3_tellLeast_4 : decode cX3_tellLeast 4 = .ok (.iload_n 1, 1) := by decide +kernel
theorem dX3_tellLeast_5 : decode cX3_tellLeast 5 = .ok (.iload_n 2, 1) := by decide +kernel
theorem dX3_tellLeast_6 : decode cX3_tellLeast 6 = .ok (.iastore, 1) := by decide +kernel
theorem dX3_tellLeast_7 : decode cX3_tellLeast 7 = .ok (.aload_n 0, 1) := by decide +kernel
theorem dX3_tellLeast_8 : decode cX3_tellLeast 8 = .ok (.dup, 1) := by decide +kernel
theorem dX3_tellLeast_9 : decode cX3_tellLeast 9 = .ok (.getfield 37, 3) := by decide +kernel
theorem dX3_tellLeast_12 : decode cX3_tellLeast 12 = .ok (.iconst 1, 1) := by decide +kernel
theorem dX3_tellLeast_13 : decode cX3_tellLeast 13 = .ok (.iload_n 1, 1) := by decide +kernel
theorem dX3_tellLeast_14 : decode cX3_tellLeast 14 = .ok (.ishl, 1) := by decide +kernel
theorem dX3_tellLeast_15 : decode cX3_tellLeast 15 = .ok (.ior, 1) := by decide +kernel
theorem dX3_tellLeast_16 : decode cX3_tellLeast 16 = .ok (.putfield 37, 3) := by decide +kernel
theorem dX3_tellLeast_19 : decode cX3_tellLeast 19 = .ok (.return_, 1) := by decide +kernel
theorem dX3_leadsTo_0 : decode cX3_leadsTo 0 = .ok (.iload_n 1, 1) := by decide +kernel
theorem dX3_leadsTo_1 : decode cX3_leadsTo 1 = .ok (.istore_n 3, 1) := by decide +kernel
theorem dX3_leadsTo_2 : decode cX3_leadsTo 2 = .ok (.iconst 0, 1) := by decide +kernel
theorem dX3_leadsTo_3 : decode cX3_leadsTo 3 = .ok (.istore 4, 2) := by decide +kernel
theorem dX3_leadsTo_5 : decode cX3_leadsTo 5 = .ok (.iload 4, 2) := by decide +kernel
theorem dX3_leadsTo_7 : decode cX3_leadsTo 7 = .ok (.bipush 8, 2) := by decide +kernel
theorem dX3_leadsTo_9 : decode cX3_leadsTo 9 = .ok (.if_icmp .ge 29, 3) := by decide +kernel
theorem dX3_leadsTo_12 : decode cX3_leadsTo 12 = .ok (.iload_n 3, 1) := by decide +kernel
theorem dX3_leadsTo_13 : decode cX3_leadsTo 13 = .ok (.bipush (-4), 2) := by decide +kernel
theorem dX3_leadsTo_15 : decode cX3_leadsTo 15 = .ok (.if_icmp .eq 23, 3) := by decide +kernel
theorem dX3_leadsTo_18 : decode cX3_leadsTo 18 = .ok (.iload_n 3, 1) := by decide +kernel
theorem dX3_leadsTo_19 : decode cX3_leadsTo 19 = .ok (.iload_n 2, 1) := by decide +kernel
theorem dX3_leadsTo_20 : decode cX3_leadsTo 20 = .ok (.if_icmp .ne 5, 3) := by decide +kernel
theorem dX3_leadsTo_23 : decode cX3_leadsTo 23 = .ok (.iconst 1, 1) := by decide +kernel
theorem dX3_leadsTo_24 : decode cX3_leadsTo 24 = .ok (.ireturn, 1) := by decide +kernel
theorem dX3_leadsTo_25 : decode cX3_leadsTo 25 = .ok (.aload_n 0, 1) := by decide +kernel
theorem dX3_leadsTo_26 : decode cX3_leadsTo 26 = .ok (.getfield 24, 3) := by decide +kernel
theorem dX3_leadsTo_29 : decode cX3_leadsTo 29 = .ok (.iload_n 3, 1) := by decide +kernel
theorem dX3_leadsTo_30 : decode cX3_leadsTo 30 = .ok (.iaload, 1) := by decide +kernel
theorem dX3_leadsTo_31 : decode cX3_leadsTo 31 = .ok (.istore_n 3, 1) := by decide +kernel
theorem dX3_leadsTo_32 : decode cX3_leadsTo 32 = .ok (.iinc 4 1, 3) := by decide +kernel
theorem dX3_leadsTo_35 : decode cX3_leadsTo 35 = .ok (.goto (-30), 3) := by decide +kernel
theorem dX3_leadsTo_38 : decode cX3_leadsTo 38 = .ok (.iconst 0, 1) := by decide +kernel
theorem dX3_leadsTo_39 : decode cX3_leadsTo 39 = .ok (.ireturn, 1) := by decide +kernel
theorem dX3_seller_0 : decode cX3_seller 0 = .ok (.iload_n 1, 1) := by decide +kernel
theorem dX3_seller_1 : decode cX3_seller 1 = .ok (.istore_n 3, 1) := by decide +kernel
theorem dX3_seller_2 : decode cX3_seller 2 = .ok (.iconst 0, 1) := by decide +kernel
theorem dX3_seller_3 : decode cX3_seller 3 = .ok (.istore 4, 2) := by decide +kernel
theorem dX3_seller_5 : decode cX3_seller 5 = .ok (.iload 4, 2) := by decide +kernel
theorem dX3_seller_7 : decode cX3_seller 7 = .ok (.bipush 8, 2) := by decide +kernel
theorem dX3_seller_9 : decode cX3_seller 9 = .ok (.if_icmp .ge 34, 3) := by decide +kernel
theorem dX3_seller_12 : decode cX3_seller 12 = .ok (.iload_n 3, 1) := by decide +kernel
theorem dX3_seller_13 : decode cX3_seller 13 = .ok (.bipush (-4), 2) := by decide +kernel
theorem dX3_seller_15 : decode cX3_seller 15 = .ok (.if_icmp .eq 28, 3) := by decide +kernel
theorem dX3_seller_18 : decode cX3_seller 18 = .ok (.iload_n 2, 1) := by decide +kernel
theorem dX3_seller_19 : decode cX3_seller 19 = .ok (.aload_n 0, 1) := by decide +kernel
theorem dX3_seller_20 : decode cX3_seller 20 = .ok (.getfield 21, 3) := by decide +kernel
theorem dX3_seller_23 : decode cX3_seller 23 = .ok (.iload_n 3, 1) := by decide +kernel
theorem dX3_seller_24 : decode cX3_seller 24 = .ok (.iaload, 1) := by decide +kernel
theorem dX3_seller_25 : decode cX3_seller 25 = .ok (.if_icmp .lt 5, 3) := by decide +kernel
theorem dX3_seller_28 : decode cX3_seller 28 = .ok (.iload_n 3, 1) := by decide +kernel
theorem dX3_seller_29 : decode cX3_seller 29 = .ok (.ireturn, 1) := by decide +kernel
theorem dX3_seller_30 : decode cX3_seller 30 = .ok (.aload_n 0, 1) := by decide +kernel
theorem dX3_seller_31 : decode cX3_seller 31 = .ok (.getfield 24, 3) := by decide +kernel
theorem dX3_seller_34 : decode cX3_seller 34 = .ok (.iload_n 3, 1) := by decide +kernel
theorem dX3_seller_35 : decode cX3_seller 35 = .ok (.iaload, 1) := by decide +kernel
theorem dX3_seller_36 : decode cX3_seller 36 = .ok (.istore_n 3, 1) := by decide +kernel
theorem dX3_seller_37 : decode cX3_seller 37 = .ok (.iinc 4 1, 3) := by decide +kernel
theorem dX3_seller_40 : decode cX3_seller 40 = .ok (.goto (-35), 3) := by decide +kernel
theorem dX3_seller_43 : decode cX3_seller 43 = .ok (.bipush (-4), 2) := by decide +kernel
theorem dX3_seller_45 : decode cX3_seller 45 = .ok (.ireturn, 1) := by decide +kernel
theorem dX3_stepsToSell_0 : decode cX3_stepsToSell 0 = .ok (.iload_n 1, 1) := by decide +kernel
theorem dX3_stepsToSell_1 : decode cX3_stepsToSell 1 = .ok (.istore_n 3, 1) := by decide +kernel
theorem dX3_stepsToSell_2 : decode cX3_stepsToSell 2 = .ok (.iconst 0, 1) := by decide +kernel
theorem dX3_stepsToSell_3 : decode cX3_stepsToSell 3 = .ok (.istore 4, 2) := by decide +kernel
theorem dX3_stepsToSell_5 : decode cX3_stepsToSell 5 = .ok (.iconst 0, 1) := by decide +kernel
theorem dX3_stepsToSell_6 : decode cX3_stepsToSell 6 = .ok (.istore 5, 2) := by decide +kernel
theorem dX3_stepsToSell_8 : decode cX3_stepsToSell 8 = .ok (.iload 5, 2) := by decide +kernel
theorem dX3_stepsToSell_10 : decode cX3_stepsToSell 10 = .ok (.bipush 8, 2) := by decide +kernel
theorem dX3_stepsToSell_12 : decode cX3_stepsToSell 12 = .ok (.if_icmp .ge 43, 3) := by decide +kernel
theorem dX3_stepsToSell_15 : decode cX3_stepsToSell 15 = .ok (.iload_n 2, 1) := by decide +kernel
theorem dX3_stepsToSell_16 : decode cX3_stepsToSell 16 = .ok (.aload_n 0, 1) := by decide +kernel
theorem dX3_stepsToSell_17 : decode cX3_stepsToSell 17 = .ok (.getfield 21, 3) := by decide +kernel
theorem dX3_stepsToSell_20 : decode cX3_stepsToSell 20 = .ok (.iload_n 3, 1) := by decide +kernel
theorem dX3_stepsToSell_21 : decode cX3_stepsToSell 21 = .ok (.iaload, 1) := by decide +kernel
theorem dX3_stepsToSell_22 : decode cX3_stepsToSell 22 = .ok (.if_icmp .ge 14, 3) := by decide +kernel
theorem dX3_stepsToSell_25 : decode cX3_stepsToSell 25 = .ok (.aload_n 0, 1) := by decide +kernel
theorem dX3_stepsToSell_26 : decode cX3_stepsToSell 26 = .ok (.getfield 24, 3) := by decide +kernel
theorem dX3_stepsToSell_29 : decode cX3_stepsToSell 29 = .ok (.iload_n 3, 1) := by decide +kernel
theorem dX3_stepsToSell_30 : decode cX3_stepsToSell 30 = .ok (.iaload, 1) := by decide +kernel
theorem dX3_stepsToSell_31 : decode cX3_stepsToSell 31 = .ok (.bipush (-4), 2) := by decide +kernel
theorem dX3_stepsToSell_33 : decode cX3_stepsToSell 33 = .ok (.if_icmp .ne 6, 3) := by decide +kernel
theorem dX3_stepsToSell_36 : decode cX3_stepsToSell 36 = .ok (.iload 4, 2) := by decide +kernel
theorem dX3_stepsToSell_38 : decode cX3_stepsToSell 38 = .ok (.ireturn, 1) := by decide +kernel
theorem dX3_stepsToSell_39 : decode cX3_stepsToSell 39 = .ok (.aload_n 0, 1) := by decide +kernel
theorem dX3_stepsToSell_40 : decode cX3_stepsToSell 40 = .ok (.getfield 24, 3) := by decide +kernel
theorem dX3_stepsToSell_43 : decode cX3_stepsToSell 43 = .ok (.iload_n 3, 1) := by decide +kernel
theorem dX3_stepsToSell_44 : decode cX3_stepsToSell 44 = .ok (.iaload, 1) := by decide +kernel
theorem dX3_stepsToSell_45 : decode cX3_stepsToSell 45 = .ok (.istore_n 3, 1) := by decide +kernel
theorem dX3_stepsToSell_46 : decode cX3_stepsToSell 46 = .ok (.iinc 4 1, 3) := by decide +kernel
theorem dX3_stepsToSell_49 : decode cX3_stepsToSell 49 = .ok (.iinc 5 1, 3) := by decide +kernel
theorem dX3_stepsToSell_52 : decode cX3_stepsToSell 52 = .ok (.goto (-44), 3) := by decide +kernel
theorem dX3_stepsToSell_55 : decode cX3_stepsToSell 55 = .ok (.iload 4, 2) := by decide +kernel
theorem dX3_stepsToSell_57 : decode cX3_stepsToSell 57 = .ok (.ireturn, 1) := by decide +kernel
theorem dX3_firstYear_0 : decode cX3_firstYear 0 = .ok (.sipush 1800, 3) := by decide +kernel
theorem dX3_firstYear_3 : decode cX3_firstYear 3 = .ok (.istore_n 2, 1) := by decide +kernel
theorem dX3_firstYear_4 : decode cX3_firstYear 4 = .ok (.iconst 0, 1) := by decide +kernel
theorem dX3_firstYear_5 : decode cX3_firstYear 5 = .ok (.istore_n 3, 1) := by decide +kernel
theorem dX3_firstYear_6 : decode cX3_firstYear 6 = .ok (.iload_n 3, 1) := by decide +kernel
theorem dX3_firstYear_7 : decode cX3_firstYear 7 = .ok (.bipush 8, 2) := by decide +kernel
theorem dX3_firstYear_9 : decode cX3_firstYear 9 = .ok (.if_icmp .ge 29, 3) := by decide +kernel
theorem dX3_firstYear_12 : decode cX3_firstYear 12 = .ok (.iload_n 1, 1) := by decide +kernel
theorem dX3_firstYear_13 : decode cX3_firstYear 13 = .ok (.iload_n 3, 1) := by decide +kernel
theorem dX3_firstYear_14 : decode cX3_firstYear 14 = .ok (.ishr, 1) := by decide +kernel
theorem dX3_firstYear_15 : decode cX3_firstYear 15 = .ok (.iconst 1, 1) := by decide +kernel
theorem dX3_firstYear_16 : decode cX3_firstYear 16 = .ok (.iand, 1) := by decide +kernel
theorem dX3_firstYear_17 : decode cX3_firstYear 17 = .ok (.iconst 1, 1) := by decide +kernel
theorem dX3_firstYear_18 : decode cX3_firstYear 18 = .ok (.if_icmp .ne 14, 3) := by decide +kernel
theorem dX3_firstYear_21 : decode cX3_firstYear 21 = .ok (.iload_n 2, 1) := by decide +kernel
theorem dX3_firstYear_22 : decode cX3_firstYear 22 = .ok (.aload_n 0, 1) := by decide +kernel
theorem dX3_firstYear_23 : decode cX3_firstYear 23 = .ok (.getfield 9, 3) := by decide +kernel
theorem dX3_firstYear_26 : decode cX3_firstYear 26 = .ok (.iload_n 3, 1) := by decide +kernel
theorem dX3_firstYear_27 : decode cX3_firstYear 27 = .ok (.iaload, 1) := by decide +kernel
theorem dX3_firstYear_28 : decode cX3_firstYear 28 = .ok (.invokestatic 47, 3) := by decide +kernel
theorem dX3_firstYear_31 : decode cX3_firstYear 31 = .ok (.istore_n 2, 1) := by decide +kernel
theorem dX3_firstYear_32 : decode cX3_firstYear 32 = .ok (.iinc 3 1, 3) := by decide +kernel
theorem dX3_firstYear_35 : decode cX3_firstYear 35 = .ok (.goto (-29), 3) := by decide +kernel
theorem dX3_firstYear_38 : decode cX3_firstYear 38 = .ok (.iload_n 2, 1) := by decide +kernel
theorem dX3_firstYear_39 : decode cX3_firstYear 39 = .ok (.ireturn, 1) := by decide +kernel
theorem dX3_lastYear_0 : decode cX3_lastYear 0 = .ok (.sipush 2000, 3) := by decide +kernel
theorem dX3_lastYear_3 : decode cX3_lastYear 3 = .ok (.istore_n 2, 1) := by decide +kernel
theorem dX3_lastYear_4 : decode cX3_lastYear 4 = .ok (.iconst 0, 1) := by decide +kernel
theorem dX3_lastYear_5 : decode cX3_lastYear 5 = .ok (.istore_n 3, 1) := by decide +kernel
theorem dX3_lastYear_6 : decode cX3_lastYear 6 = .ok (.iload_n 3, 1) := by decide +kernel
theorem dX3_lastYear_7 : decode cX3_lastYear 7 = .ok (.bipush 8, 2) := by decide +kernel
theorem dX3_lastYear_9 : decode cX3_lastYear 9 = .ok (.if_icmp .ge 29, 3) := by decide +kernel
theorem dX3_lastYear_12 : decode cX3_lastYear 12 = .ok (.iload_n 1, 1) := by decide +kernel
theorem dX3_lastYear_13 : decode cX3_lastYear 13 = .ok (.iload_n 3, 1) := by decide +kernel
theorem dX3_lastYear_14 : decode cX3_lastYear 14 = .ok (.ishr, 1) := by decide +kernel
theorem dX3_lastYear_15 : decode cX3_lastYear 15 = .ok (.iconst 1, 1) := by decide +kernel
theorem dX3_lastYear_16 : decode cX3_lastYear 16 = .ok (.iand, 1) := by decide +kernel
theorem dX3_lastYear_17 : decode cX3_lastYear 17 = .ok (.iconst 1, 1) := by decide +kernel
theorem dX3_lastYear_18 : decode cX3_lastYear 18 = .ok (.if_icmp .ne 14, 3) := by decide +kernel
theorem dX3_lastYear_21 : decode cX3_lastYear 21 = .ok (.iload_n 2, 1) := by decide +kernel
theorem dX3_lastYear_22 : decode cX3_lastYear 22 = .ok (.aload_n 0, 1) := by decide +kernel
theorem dX3_lastYear_23 : decode cX3_lastYear 23 = .ok (.getfield 15, 3) := by decide +kernel
theorem dX3_lastYear_26 : decode cX3_lastYear 26 = .ok (.iload_n 3, 1) := by decide +kernel
theorem dX3_lastYear_27 : decode cX3_lastYear 27 = .ok (.iaload, 1) := by decide +kernel
theorem dX3_lastYear_28 : decode cX3_lastYear 28 = .ok (.invokestatic 53, 3) := by decide +kernel
theorem dX3_lastYear_31 : decode cX3_lastYear 31 = .ok (.istore_n 2, 1) := by decide +kernel
theorem dX3_lastYear_32 : decode cX3_lastYear 32 = .ok (.iinc 3 1, 3) := by decide +kernel
theorem dX3_lastYear_35 : decode cX3_lastYear 35 = .ok (.goto (-29), 3) := by decide +kernel
theorem dX3_lastYear_38 : decode cX3_lastYear 38 = .ok (.iload_n 2, 1) := by decide +kernel
theorem dX3_lastYear_39 : decode cX3_lastYear 39 = .ok (.ireturn, 1) := by decide +kernel
theorem dX3_clash_0 : decode cX3_clash 0 = .ok (.iconst 0, 1) := by decide +kernel
theorem dX3_clash_1 : decode cX3_clash 1 = .ok (.istore_n 2, 1) := by decide +kernel
theorem dX3_clash_2 : decode cX3_clash 2 = .ok (.iload_n 2, 1) := by decide +kernel
theorem dX3_clash_3 : decode cX3_clash 3 = .ok (.bipush 8, 2) := by decide +kernel
theorem dX3_clash_5 : decode cX3_clash 5 = .ok (.if_icmp .ge 31, 3) := by decide +kernel
theorem dX3_clash_8 : decode cX3_clash 8 = .ok (.iload_n 1, 1) := by decide +kernel
theorem dX3_clash_9 : decode cX3_clash 9 = .ok (.iload_n 2, 1) := by decide +kernel
theorem dX3_clash_10 : decode cX3_clash 10 = .ok (.ishr, 1) := by decide +kernel
theorem dX3_clash_11 : decode cX3_clash 11 = .ok (.iconst 1, 1) := by decide +kernel
theorem dX3_clash_12 : decode cX3_clash 12 = .ok (.iand, 1) := by decide +kernel
theorem dX3_clash_13 : decode cX3_clash 13 = .ok (.iconst 1, 1) := by decide +kernel
theorem dX3_clash_14 : decode cX3_clash 14 = .ok (.if_icmp .ne 16, 3) := by decide +kernel
theorem dX3_clash_17 : decode cX3_clash 17 = .ok (.aload_n 0, 1) := by decide +kernel
theorem dX3_clash_18 : decode cX3_clash 18 = .ok (.getfield 18, 3) := by decide +kernel
theorem dX3_clash_21 : decode cX3_clash 21 = .ok (.iload_n 2, 1) := by decide +kernel
theorem dX3_clash_22 : decode cX3_clash 22 = .ok (.iaload, 1) := by decide +kernel
theorem dX3_clash_23 : decode cX3_clash 23 = .ok (.iload_n 1, 1) := by decide +kernel
theorem dX3_clash_24 : decode cX3_clash 24 = .ok (.iand, 1) := by decide +kernel
theorem dX3_clash_25 : decode cX3_clash 25 = .ok (.ifCond .eq 5, 3) := by decide +kernel
theorem dX3_clash_28 : decode cX3_clash 28 = .ok (.iconst 1, 1) := by decide +kernel
theorem dX3_clash_29 : decode cX3_clash 29 = .ok (.ireturn, 1) := by decide +kernel
theorem dX3_clash_30 : decode cX3_clash 30 = .ok (.iinc 2 1, 3) := by decide +kernel
theorem dX3_clash_33 : decode cX3_clash 33 = .ok (.goto (-31), 3) := by decide +kernel
theorem dX3_clash_36 : decode cX3_clash 36 = .ok (.iconst 0, 1) := by decide +kernel
theorem dX3_clash_37 : decode cX3_clash 37 = .ok (.ireturn, 1) := by decide +kernel
theorem dX3_yearCount_0 : decode cX3_yearCount 0 = .ok (.aload_n 0, 1) := by decide +kernel
theorem dX3_yearCount_1 : decode cX3_yearCount 1 = .ok (.iload_n 1, 1) := by decide +kernel
theorem dX3_yearCount_2 : decode cX3_yearCount 2 = .ok (.invokevirtual 56, 3) := by decide +kernel
theorem dX3_yearCount_5 : decode cX3_yearCount 5 = .ok (.ifCond .eq 7, 3) := by decide +kernel
theorem dX3_yearCount_8 : decode cX3_yearCount 8 = .ok (.iconst 0, 1) := by decide +kernel
theorem dX3_yearCount_9 : decode cX3_yearCount 9 = .ok (.goto 20, 3) := by decide +kernel
theorem dX3_yearCount_12 : decode cX3_yearCount 12 = .ok (.iconst 0, 1) := by decide +kernel
theorem dX3_yearCount_13 : decode cX3_yearCount 13 = .ok (.aload_n 0, 1) := by decide +kernel
theorem dX3_yearCount_14 : decode cX3_yearCount 14 = .ok (.iload_n 1, 1) := by decide +kernel
theorem dX3_yearCount_15 : decode cX3_yearCount 15 = .ok (.invokevirtual 60, 3) := by decide +kernel
theorem dX3_yearCount_18 : decode cX3_yearCount 18 = .ok (.aload_n 0, 1) := by decide +kernel
theorem dX3_yearCount_19 : decode cX3_yearCount 19 = .ok (.iload_n 1, 1) := by decide +kernel
theorem dX3_yearCount_20 : decode cX3_yearCount 20 = .ok (.invokevirtual 64, 3) := by decide +kernel
theorem dX3_yearCount_23 : decode cX3_yearCount 23 = .ok (.isub, 1) := by decide +kernel
theorem dX3_yearCount_24 : decode cX3_yearCount 24 = .ok (.iconst 1, 1) := by decide +kernel
theorem dX3_yearCount_25 : decode cX3_yearCount 25 = .ok (.iadd, 1) := by decide +kernel
theorem dX3_yearCount_26 : decode cX3_yearCount 26 = .ok (.invokestatic 47, 3) := by decide +kernel
theorem dX3_yearCount_29 : decode cX3_yearCount 29 = .ok (.ireturn, 1) := by decide +kernel
theorem dX3_mayBeOf_0 : decode cX3_mayBeOf 0 = .ok (.aload_n 0, 1) := by decide +kernel
theorem dX3_mayBeOf_1 : decode cX3_mayBeOf 1 = .ok (.iload_n 1, 1) := by decide +kernel
theorem dX3_mayBeOf_2 : decode cX3_mayBeOf 2 = .ok (.invokevirtual 56, 3) := by decide +kernel
theorem dX3_mayBeOf_5 : decode cX3_mayBeOf 5 = .ok (.ifCond .ne 24, 3) := by decide +kernel
theorem dX3_mayBeOf_8 : decode cX3_mayBeOf 8 = .ok (.iload_n 2, 1) := by decide +kernel
theorem dX3_mayBeOf_9 : decode cX3_mayBeOf 9 = .ok (.aload_n 0, 1) := by decide +kernel
theorem dX3_mayBeOf_10 : decode cX3_mayBeOf 10 = .ok (.iload_n 1, 1) := by decide +kernel
theorem dX3_mayBeOf_11 : decode cX3_mayBeOf 11 = .ok (.invokevirtual 64, 3) := by decide +kernel
theorem dX3_mayBeOf_14 : decode cX3_mayBeOf 14 = .ok (.aload_n 0, 1) := by decide +kernel
theorem dX3_mayBeOf_15 : decode cX3_mayBeOf 15 = .ok (.iload_n 1, 1) := by decide +kernel
theorem dX3_mayBeOf_16 : decode cX3_mayBeOf 16 = .ok (.invokevirtual 60, 3) := by decide +kernel
theorem dX3_mayBeOf_19 : decode cX3_mayBeOf 19 = .ok (.invokestatic 67, 3) := by decide +kernel
theorem dX3_mayBeOf_22 : decode cX3_mayBeOf 22 = .ok (.ifCond .eq 7, 3) := by decide +kernel
theorem dX3_mayBeOf_25 : decode cX3_mayBeOf 25 = .ok (.iconst 1, 1) := by decide +kernel
theorem dX3_mayBeOf_26 : decode cX3_mayBeOf 26 = .ok (.goto 4, 3) := by decide +kernel
theorem dX3_mayBeOf_29 : decode cX3_mayBeOf 29 = .ok (.iconst 0, 1) := by decide +kernel
theorem dX3_mayBeOf_30 : decode cX3_mayBeOf 30 = .ok (.ireturn, 1) := by decide +kernel
theorem dX4_init_0 : decode cX4_init 0 = .ok (.aload_n 0, 1) := by decide +kernel
theorem dX4_init_1 : decode cX4_init 1 = .ok (.invokespecial 3, 3) := by decide +kernel
theorem dX4_init_4 : decode cX4_init 4 = .ok (.aload_n 0, 1) := by decide +kernel
theorem dX4_init_5 : decode cX4_init 5 = .ok (.bipush 8, 2) := by decide +kernel
theorem dX4_init_7 : decode cX4_init 7 = .ok (.newarray .int, 2) := by decide +kernel
theorem dX4_init_9 : decode cX4_init 9 = .ok (.putfield 9, 3) := by decide +kernel
theorem dX4_init_12 : decode cX4_init 12 = .ok (.aload_n 0, 1) := by decide +kernel
theorem dX4_init_13 : decode cX4_init 13 = .ok (.bipush 8, 2) := by decide +kernel
theorem dX4_init_15 : decode cX4_init 15 = .ok (.newarray .int, 2) := by decide +kernel
theorem dX4_init_17 : decode cX4_init 17 = .ok (.putfield 15, 3) := by decide +kernel
theorem dX4_init_20 : decode cX4_init 20 = .ok (.aload_n 0, 1) := by decide +kernel
theorem dX4_init_21 : decode cX4_init 21 = .ok (.bipush 8, 2) := by decide +kernel
theorem dX4_init_23 : decode cX4_init 23 = .ok (.newarray .int, 2) := by decide +kernel
theorem dX4_init_25 : decode cX4_init 25 = .ok (.putfield 18, 3) := by decide +kernel
theorem dX4_init_28 : decode cX4_init 28 = .ok (.aload_n 0, 1) := by decide +kernel
theorem dX4_init_29 : decode cX4_init 29 = .ok (.iconst 0, 1) := by decide +kernel
theorem dX4_init_30 : decode cX4_init 30 = .ok (.putfield 21, 3) := by decide +kernel
theorem dX4_init_33 : decode cX4_init 33 = .ok (.aload_n 0, 1) := by decide +kernel
theorem dX4_init_34 : decode cX4_init 34 = .ok (.bipush 8, 2) := by decide +kernel
theorem dX4_init_36 : decode cX4_init 36 = .ok (.newarray .int, 2) := by decide +kernel
theorem dX4_init_38 : decode cX4_init 38 = .ok (.putfield 25, 3) := by decide +kernel
theorem dX4_init_41 : decode cX4_init 41 = .ok (.aload_n 0, 1) := by decide +kernel
theorem dX4_init_42 : decode cX4_init 42 = .ok (.bipush 8, 2) := by decide +kernel
theorem dX4_init_44 : decode cX4_init 44 = .ok (.newarray .int, 2) := by decide +kernel
theorem dX4_init_46 : decode cX4_init 46 = .ok (.putfield 28, 3) := by decide +kernel
theorem dX4_init_49 : decode cX4_init 49 = .ok (.aload_n 0, 1) := by decide +kernel
theorem dX4_init_50 : decode cX4_init 50 = .ok (.bipush 12, 2) := by decide +kernel
theorem dX4_init_52 : decode cX4_init 52 = .ok (.newarray .int, 2) := by decide +kernel
theorem dX4_init_54 : decode cX4_init 54 = .ok (.putfield 31, 3) := by decide +kernel
theorem dX4_init_57 : decode cX4_init 57 = .ok (.aload_n 0, 1) := by decide +kernel
theorem dX4_init_58 : decode cX4_init 58 = .ok (.iconst 0, 1) := by decide +kernel
theorem dX4_init_59 : decode cX4_init 59 = .ok (.putfield 34, 3) := by decide +kernel
theorem dX4_init_62 : decode cX4_init 62 = .ok (.aload_n 0, 1) := by decide +kernel
theorem dX4_init_63 : decode cX4_init 63 = .ok (.iconst 0, 1) := by decide +kernel
theorem dX4_init_64 : decode cX4_init 64 = .ok (.putfield 37, 3) := by decide +kernel
theorem dX4_init_67 : decode cX4_init 67 = .ok (.aload_n 0, 1) := by decide +kernel
theorem dX4_init_68 : decode cX4_init 68 = .ok (.aload_n 1, 1) := by decide +kernel
theorem dX4_init_69 : decode cX4_init 69 = .ok (.putfield 40, 3) := by decide +kernel
theorem dX4_init_72 : decode cX4_init 72 = .ok (.aload_n 0, 1) := by decide +kernel
theorem dX4_init_73 : decode cX4_init 73 = .ok (.aload_n 2, 1) := by decide +kernel
theorem dX4_init_74 : decode cX4_init 74 = .ok (.putfield 44, 3) := by decide +kernel
theorem dX4_init_77 : decode cX4_init 77 = .ok (.return_, 1) := by decide +kernel
theorem dX4_add_0 : decode cX4_add 0 = .ok (.aload_n 0, 1) := by decide +kernel
theorem dX4_add_1 : decode cX4_add 1 = .ok (.getfield 9, 3) := by decide +kernel
theorem dX4_add_4 : decode cX4_add 4 = .ok (.aload_n 0, 1) := by decide +kernel
theorem dX4_add_5 : decode cX4_add 5 = .ok (.getfield 21, 3) := by decide +kernel
theorem dX4_add_8 : decode cX4_add 8 = .ok (.iload_n 1, 1) := by decide +kernel
theorem dX4_add_9 : decode cX4_add 9 = .ok (.iastore, 1) := by decide +kernel
theorem dX4_add_10 : decode cX4_add 10 = .ok (.aload_n 0, 1) := by decide +kernel
theorem dX4_add_11 : decode cX4_add 11 = .ok (.getfield 15, 3) := by decide +kernel
theorem dX4_add_14 : decode cX4_add 14 = .ok (.aload_n 0, 1) := by decide +kernel
theorem dX4_add_15 : decode cX4_add 15 = .ok (.getfield 21, 3) := by decide +kernel
theorem dX4_add_18 : decode cX4_add 18 = .ok (.iload_n 2, 1) := by decide +kernel
theorem dX4_add_19 : decode cX4_add 19 = .ok (.iastore, 1) := by decide +kernel
theorem dX4_add_20 : decode cX4_add 20 = .ok (.aload_n 0, 1) := by decide +kernel
theorem dX4_add_21 : decode cX4_add 21 = .ok (.getfield 18, 3) := by decide +kernel
theorem dX4_add_24 : decode cX4_add 24 = .ok (.aload_n 0, 1) := by decide +kernel
theorem dX4_add_25 : decode cX4_add 25 = .ok (.getfield 21, 3) := by decide +kernel
theorem dX4_add_28 : decode cX4_add 28 = .ok (.iload_n 3, 1) := by decide +kernel
theorem dX4_add_29 : decode cX4_add 29 = .ok (.iastore, 1) := by decide +kernel
theorem dX4_add_30 : decode cX4_add 30 = .ok (.aload_n 0, 1) := by decide +kernel
theorem dX4_add_31 : decode cX4_add 31 = .ok (.dup, 1) := by decide +kernel
theorem dX4_add_32 : decode cX4_add 32 = .ok (.getfield 21, 3) := by decide +kernel
theorem dX4_add_35 : decode cX4_add 35 = .ok (.iconst 1, 1) := by decide +kernel
theorem dX4_add_36 : decode cX4_add 36 = .ok (.iadd, 1) := by decide +kernel
theorem dX4_add_37 : decode cX4_add 37 = .ok (.putfield 21, 3) := by decide +kernel
theorem dX4_add_40 : decode cX4_add 40 = .ok (.aload_n 0, 1) := by decide +kernel
theorem dX4_add_41 : decode cX4_add 41 = .ok (.getfield 21, 3) := by decide +kernel
theorem dX4_add_44 : decode cX4_add 44 = .ok (.iconst 1, 1) := by decide +kernel
theorem dX4_add_45 : decode cX4_add 45 = .ok (.isub, 1) := by decide +kernel
theorem dX4_add_46 : decode cX4_add 46 = .ok (.ireturn, 1) := by decide +kernel
theorem dX4_want_0 : decode cX4_want 0 = .ok (.iconst 0, 1) := by decide +kernel
theorem dX4_want_1 : decode cX4_want 1 = .ok (.istore_n 2, 1) := by decide +kernel
theorem dX4_want_2 : decode cX4_want 2 = .ok (.iload_n 2, 1) := by decide +kernel
theorem dX4_want_3 : decode cX4_want 3 = .ok (.aload_n 0, 1) := by decide +kernel
theorem dX4_want_4 : decode cX4_want 4 = .ok (.getfield 21, 3) := by decide +kernel
theorem dX4_want_7 : decode cX4_want 7 = .ok (.if_icmp .ge 21, 3) := by decide +kernel
theorem dX4_want_10 : decode cX4_want 10 = .ok (.aload_n 0, 1) := by decide +kernel
theorem dX4_want_11 : decode cX4_want 11 = .ok (.getfield 9, 3) := by decide +kernel
theorem dX4_want_14 : decode cX4_want 14 = .ok (.iload_n 2, 1) := by decide +kernel
theorem dX4_want_15 : decode cX4_want 15 = .ok (.iaload, 1) := by decide +kernel
theorem dX4_want_16 : decode cX4_want 16 = .ok (.iload_n 1, 1) := by decide +kernel
theorem dX4_want_17 : decode cX4_want 17 = .ok (.if_icmp .ne 5, 3) := by decide +kernel
theorem dX4_want_20 : decode cX4_want 20 = .ok (.iconst 1, 1) := by decide +kernel
theorem dX4_want_21 : decode cX4_want 21 = .ok (.ireturn, 1) := by decide +kernel
theorem dX4_want_22 : decode cX4_want 22 = .ok (.iinc 2 1, 3) := by decide +kernel
theorem dX4_want_25 : decode cX4_want 25 = .ok (.goto (-23), 3) := by decide +kernel
theorem dX4_want_28 : decode cX4_want 28 = .ok (.iconst 0, 1) := by decide +kernel
theorem dX4_want_29 : decode cX4_want 29 = .ok (.ireturn, 1) := by decide +kernel
theorem dX4_doesFor_0 : decode cX4_doesFor 0 = .ok (.aload_n 0, 1) := by decide +kernel
theorem dX4_doesFor_1 : decode cX4_doesFor 1 = .ok (.getfield 9, 3) := by decide +kernel
theorem dX4_doesFor_4 : decode cX4_doesFor 4 = .ok (.iload_n 2, 1) := by decide +kernel
theorem dX4_doesFor_5 : decode cX4_doesFor 5 = .ok (.iaload, 1) := by decide +kernel
theorem dX4_doesFor_6 : decode cX4_doesFor 6 = .ok (.istore_n 3, 1) := by decide +kernel
theorem dX4_doesFor_7 : decode cX4_doesFor 7 = .ok (.aload_n 0, 1) := by decide +kernel
theorem dX4_doesFor_8 : decode cX4_doesFor 8 = .ok (.getfield 44, 3) := by decide +kernel
theorem dX4_doesFor_11 : decode cX4_doesFor 11 = .ok (.iload_n 3, 1) := by decide +kernel
theorem dX4_doesFor_12 : decode cX4_doesFor 12 = .ok (.aload_n 0, 1) := by decide +kernel
theorem dX4_doesFor_13 : decode cX4_doesFor 13 = .ok (.getfield 40, 3) := by decide +kernel
theorem dX4_doesFor_16 : decode cX4_doesFor 16 = .ok (.getfield 48, 3) := by decide +kernel
theorem dX4_doesFor_19 : decode cX4_doesFor 19 = .ok (.iload_n 1, 1) := by decide +kernel
theorem dX4_doesFor_20 : decode cX4_doesFor 20 = .ok (.iaload, 1) := by decide +kernel
theorem dX4_doesFor_21 : decode cX4_doesFor 21 = .ok (.aload_n 0, 1) := by decide +kernel
theorem dX4_doesFor_22 : decode cX4_doesFor 22 = .ok (.getfield 40, 3) := by decide +kernel
theorem dX4_doesFor_25 : decode cX4_doesFor 25 = .ok (.getfield 53, 3) := by decide +kernel
theorem dX4_doesFor_28 : decode cX4_doesFor 28 = .ok (.iload_n 1, 1) := by decide +kernel
theorem dX4_doesFor_29 : decode cX4_doesFor 29 = .ok (.iaload, 1) := by decide +kernel
theorem dX4_doesFor_30 : decode cX4_doesFor 30 = .ok (.invokevirtual 56, 3) := by decide +kernel
theorem dX4_doesFor_33 : decode cX4_doesFor 33 = .ok (.ifCond .eq 46, 3) := by decide +kernel
theorem dX4_doesFor_36 : decode cX4_doesFor 36 = .ok (.aload_n 0, 1) := by decide +kernel
theorem dX4_doesFor_37 : decode cX4_doesFor 37 = .ok (.getfield 40, 3) := by decide +kernel
theorem dX4_doesFor_40 : decode cX4_doesFor 40 = .ok (.getfield 62, 3) := by decide +kernel
theorem dX4_doesFor_43 : decode cX4_doesFor 43 = .ok (.iload_n 1, 1) := by decide +kernel
theorem dX4_doesFor_44 : decode cX4_doesFor 44 = .ok (.iaload, 1) := by decide +kernel
theorem dX4_doesFor_45 : decode cX4_doesFor 45 = .ok (.aload_n 0, 1) := by decide +kernel
theorem dX4_doesFor_46 : decode cX4_doesFor 46 = .ok (.getfield 44, 3) := by decide +kernel
theorem dX4_doesFor_49 : decode cX4_doesFor 49 = .ok (.getfield 65, 3) := by decide +kernel
theorem dX4_doesFor_52 : decode cX4_doesFor 52 = .ok (.iload_n 3, 1) := by decide +kernel
theorem dX4_doesFor_53 : decode cX4_doesFor 53 = .ok (.iaload, 1) := by decide +kernel
theorem dX4_doesFor_54 : decode cX4_doesFor 54 = .ok (.if_icmp .lt 25, 3) := by decide +kernel
theorem dX4_doesFor_57 : decode cX4_doesFor 57 = .ok (.aload_n 0, 1) := by decide +kernel
theorem dX4_doesFor_58 : decode cX4_doesFor 58 = .ok (.getfield 40, 3) := by decide +kernel
theorem dX4_doesFor_61 : decode cX4_doesFor 61 = .ok (.getfield 68, 3) := by decide +kernel
theorem dX4_doesFor_64 : decode cX4_doesFor 64 = .ok (.iload_n 1, 1) := by decide +kernel
theorem dX4_doesFor_65 : decode cX4_doesFor 65 = .ok (.iaload, 1) := by decide +kernel
theorem dX4_doesFor_66 : decode cX4_doesFor 66 = .ok (.aload_n 0, 1) := by decide +kernel
theorem dX4_doesFor_67 : decode cX4_doesFor 67 = .ok (.getfield 15, 3) := by decide +kernel
theorem dX4_doesFor_70 : decode cX4_doesFor 70 = .ok (.iload_n 2, 1) := by decide +kernel
theorem dX4_doesFor_71 : decode cX4_doesFor 71 = .ok (.iaload, 1) := by decide +kernel
theorem dX4_doesFor_72 : decode cX4_doesFor 72 = .ok (.if_icmp .lt 7, 3) := by decide +kernel
theorem dX4_doesFor_75 : decode cX4_doesFor 75 = .ok (.iconst 1, 1) := by decide +kernel
theorem dX4_doesFor_76 : decode cX4_doesFor 76 = .ok (.goto 4, 3) := by decide +kernel
theorem dX4_doesFor_79 : decode cX4_doesFor 79 = .ok (.iconst 0, 1) := by decide +kernel
theorem dX4_doesFor_80 : decode cX4_doesFor 80 = .ok (.ireturn, 1) := by decide +kernel
theorem dX4_servedBy_0 : decode cX4_servedBy 0 = .ok (.iconst 0, 1) := by decide +kernel
theorem dX4_servedBy_1 : decode cX4_servedBy 1 = .ok (.istore_n 2, 1) := by decide +kernel
theorem dX4_servedBy_2 : decode cX4_servedBy 2 = .ok (.iconst 0, 1) := by decide +kernel
theorem dX4_servedBy_3 : decode cX4_servedBy 3 = .ok (.istore_n 3, 1) := by decide +kernel
theorem dX4_servedBy_4 : decode cX4_servedBy 4 = .ok (.iload_n 3, 1) := by decide +kernel
theorem dX4_servedBy_5 : decode cX4_servedBy 5 = .ok (.aload_n 0, 1) := by decide +kernel
theorem dX4_servedBy_6 : decode cX4_servedBy 6 = .ok (.getfield 21, 3) := by decide +kernel
theorem dX4_servedBy_9 : decode cX4_servedBy 9 = .ok (.if_icmp .ge 21, 3) := by decide +kernel
theorem dX4_servedBy_12 : decode cX4_servedBy 12 = .ok (.aload_n 0, 1) := by decide +kernel
theorem dX4_servedBy_13 : decode cX4_servedBy 13 = .ok (.iload_n 1, 1) := by decide +kernel
theorem dX4_servedBy_14 : decode cX4_servedBy 14 = .ok (.iload_n 3, 1) := by decide +kernel
theorem dX4_servedBy_15 : decode cX4_servedBy 15 = .ok (.invokevirtual 71, 3) := by decide +kernel
theorem dX4_servedBy_18 : decode cX4_servedBy 18 = .ok (.ifCond .eq 6, 3) := by decide +kernel
theorem dX4_servedBy_21 : decode cX4_servedBy 21 = .ok (.iinc 2 1, 3) := by decide +kernel
theorem dX4_servedBy_24 : decode cX4_servedBy 24 = .ok (.iinc 3 1, 3) := by decide +kernel
theorem dX4_servedBy_27 : decode cX4_servedBy 27 = .ok (.goto (-23), 3) := by decide +kernel
theorem dX4_servedBy_30 : decode cX4_servedBy 30 = .ok (.iload_n 2, 1) := by decide +kernel
theorem dX4_servedBy_31 : decode cX4_servedBy 31 = .ok (.ireturn, 1) := by decide +kernel
theorem dX4_fill_0 : decode cX4_fill 0 = .ok (.aload_n 0, 1) := by decide +kernel
theorem dX4_fill_1 : decode cX4_fill 1 = .ok (.invokevirtual 75, 3) := by decide +kernel
theorem dX4_fill_4 : decode cX4_fill 4 = .ok (.iconst 1, 1) := by decide +kernel
theorem dX4_fill_5 : decode cX4_fill 5 = .ok (.aload_n 0, 1) := by decide +kernel
theorem dX4_fill_6 : decode cX4_fill 6 = .ok (.getfield 21, 3) := by decide +kernel
theorem dX4_fill_9 : decode cX4_fill 9 = .ok (.ishl, 1) := by decide +kernel
theorem dX4_fill_10 : decode cX4_fill 10 = .ok (.iconst 1, 1) := by decide +kernel
theorem dX4_fill_11 : decode cX4_fill 11 = .ok (.isub, 1) := by decide +kernel
theorem dX4_fill_12 : decode cX4_fill 12 = .ok (.istore_n 1, 1) := by decide +kernel
theorem dX4_fill_13 : decode cX4_fill 13 = .ok (.iconst 1, 1) := by decide +kernel
theorem dX4_fill_14 : decode cX4_fill 14 = .ok (.aload_n 0, 1) := by decide +kernel
theorem dX4_fill_15 : decode cX4_fill 15 = .ok (.getfield 40, 3) := by decide +kernel
theorem dX4_fill_18 : decode cX4_fill 18 = .ok (.getfield 78, 3) := by decide +kernel
theorem dX4_fill_21 : decode cX4_fill 21 = .ok (.ishl, 1) := by decide +kernel
theorem dX4_fill_22 : decode cX4_fill 22 = .ok (.iconst 1, 1) := by decide +kernel
theorem dX4_fill_23 : decode cX4_fill 23 = .ok (.isub, 1) := by decide +kernel
theorem dX4_fill_24 : decode cX4_fill 24 = .ok (.istore_n 2, 1) := by decide +kernel
theorem dX4_fill_25 : decode cX4_fill 25 = .ok (.aload_n 0, 1) := by decide +kernel
theorem dX4_fill_26 : decode cX4_fill 26 = .ok (.iload_n 1, 1) := by decide +kernel
theorem dX4_fill_27 : decode cX4_fill 27 = .ok (.iload_n 2, 1) := by decide +kernel
theorem dX4_fill_28 : decode cX4_fill 28 = .ok (.invokevirtual 79, 3) := by decide +kernel
theorem dX4_fill_31 : decode cX4_fill 31 = .ok (.istore_n 3, 1) := by decide +kernel
theorem dX4_fill_32 : decode cX4_fill 32 = .ok (.iload_n 3, 1) := by decide +kernel
theorem dX4_fill_33 : decode cX4_fill 33 = .ok (.istore 4, 2) := by decide +kernel
theorem dX4_fill_35 : decode cX4_fill 35 = .ok (.iconst 0, 1) := by decide +kernel
theorem dX4_fill_36 : decode cX4_fill 36 = .ok (.istore 5, 2) := by decide +kernel
theorem dX4_fill_38 : decode cX4_fill 38 = .ok (.iload 5, 2) := by decide +kernel
theorem dX4_fill_40 : decode cX4_fill 40 = .ok (.aload_n 0, 1) := by decide +kernel
theorem dX4_fill_41 : decode cX4_fill 41 = .ok (.getfield 21, 3) := by decide +kernel
theorem dX4_fill_44 : decode cX4_fill 44 = .ok (.if_icmp .ge 73, 3) := by decide +kernel
theorem dX4_fill_47 : decode cX4_fill 47 = .ok (.iload_n 1, 1) := by decide +kernel
theorem dX4_fill_48 : decode cX4_fill 48 = .ok (.iconst 1, 1) := by decide +kernel
theorem dX4_fill_49 : decode cX4_fill 49 = .ok (.iload 5, 2) := by decide +kernel
theorem dX4_fill_51 : decode cX4_fill 51 = .ok (.ishl, 1) := by decide +kernel
theorem dX4_fill_52 : decode cX4_fill 52 = .ok (.iconst (-1), 1) := by decide +kernel
theorem dX4_fill_53 : decode cX4_fill 53 = .ok (.ixor, 1) := by decide +kernel
theorem dX4_fill_54 : decode cX4_fill 54 = .ok (.iand, 1) := by decide +kernel
theorem dX4_fill_55 : decode cX4_fill 55 = .ok (.istore_n 1, 1) := by decide +kernel
theorem dX4_fill_56 : decode cX4_fill 56 = .ok (.aload_n 0, 1) := by decide +kernel
theorem dX4_fill_57 : decode cX4_fill 57 = .ok (.getfield 25, 3) := by decide +kernel
theorem dX4_fill_60 : decode cX4_fill 60 = .ok (.iload 5, 2) := by decide +kernel
theorem dX4_fill_62 : decode cX4_fill 62 = .ok (.aload_n 0, 1) := by decide +kernel
theorem dX4_fill_63 : decode cX4_fill 63 = .ok (.iload 5, 2) := by decide +kernel
theorem dX4_fill_65 : decode cX4_fill 65 = .ok (.iload_n 1, 1) := by decide +kernel
theorem dX4_fill_66 : decode cX4_fill 66 = .ok (.iload_n 2, 1) := by decide +kernel
theorem dX4_fill_67 : decode cX4_fill 67 = .ok (.iload 4, 2) := by decide +kernel
theorem dX4_fill_69 : decode cX4_fill 69 = .ok (.invokevirtual 83, 3) := by decide +kernel
theorem dX4_fill_72 : decode cX4_fill 72 = .ok (.iastore, 1) := by decide +kernel
theorem dX4_fill_73 : decode cX4_fill 73 = .ok (.aload_n 0, 1) := by decide +kernel
theorem dX4_fill_74 : decode cX4_fill 74 = .ok (.getfield 25, 3) := by decide +kernel
theorem dX4_fill_77 : decode cX4_fill 77 = .ok (.iload 5, 2) := by decide +kernel
theorem dX4_fill_79 : decode cX4_fill 79 = .ok (.iaload, 1) := by decide +kernel
theorem dX4_fill_80 : decode cX4_fill 80 = .ok (.bipush (-4), 2) := by decide +kernel
theorem dX4_fill_82 : decode cX4_fill 82 = .ok (.if_icmp .eq 29, 3) := by decide +kernel
theorem dX4_fill_85 : decode cX4_fill 85 = .ok (.iload_n 2, 1) := by decide +kernel
theorem dX4_fill_86 : decode cX4_fill 86 = .ok (.iconst 1, 1) := by decide +kernel
theorem dX4_fill_87 : decode cX4_fill 87 = .ok (.aload_n 0, 1) := by decide +kernel
theorem dX4_fill_88 : decode cX4_fill 88 = .ok (.getfield 25, 3) := by decide +kernel
theorem dX4_fill_91 : decode cX4_fill 91 = .ok (.iload 5, 2) := by decide +kernel
theorem dX4_fill_93 : decode cX4_fill 93 = .ok (.iaload, 1) := by decide +kernel
theorem dX4_fill_94 : decode cX4_fill 94 = .ok (.ishl, 1) := by decide +kernel
theorem dX4_fill_95 : decode cX4_fill 95 = .ok (.iconst (-1), 1) := by decide +kernel
theorem dX4_fill_96 : decode cX4_fill 96 = .ok (.ixor, 1) := by decide +kernel
theorem dX4_fill_97 : decode cX4_fill 97 = .ok (.iand, 1) := by decide +kernel
theorem dX4_fill_98 : decode cX4_fill 98 = .ok (.istore_n 2, 1) := by decide +kernel
theorem dX4_fill_99 : decode cX4_fill 99 = .ok (.iload 4, 2) := by decide +kernel
theorem dX4_fill_101 : decode cX4_fill 101 = .ok (.aload_n 0, 1) := by decide +kernel
theorem dX4_fill_102 : decode cX4_fill 102 = .ok (.getfield 18, 3) := by decide +kernel
theorem dX4_fill_105 : decode cX4_fill 105 = .ok (.iload 5, 2) := by decide +kernel
theorem dX4_fill_107 : decode cX4_fill 107 = .ok (.iaload, 1) := by decide +kernel
theorem dX4_fill_108 : decode cX4_fill 108 = .ok (.isub, 1) := by decide +kernel
theorem dX4_fill_109 : decode cX4_fill 109 = .ok (.istore 4, 2) := by decide +kernel
theorem dX4_fill_111 : decode cX4_fill 111 = .ok (.iinc 5 1, 3) := by decide +kernel
theorem dX4_fill_114 : decode cX4_fill 114 = .ok (.goto (-76), 3) := by decide +kernel
theorem dX4_fill_117 : decode cX4_fill 117 = .ok (.iload_n 3, 1) := by decide +kernel
theorem dX4_fill_118 : decode cX4_fill 118 = .ok (.ireturn, 1) := by decide +kernel
theorem dX4_findSuiting_0 : decode cX4_findSuiting 0 = .ok (.iconst 0, 1) := by decide +kernel
theorem dX4_findSuiting_1 : decode cX4_findSuiting 1 = .ok (.istore_n 1, 1) := by decide +kernel
theorem dX4_findSuiting_2 : decode cX4_findSuiting 2 = .ok (.iload_n 1, 1) := by decide +kernel
theorem dX4_findSuiting_3 : decode cX4_findSuiting 3 = .ok (.aload_n 0, 1) := by decide +kernel
theorem dX4_findSuiting_4 : decode cX4_findSuiting 4 = .ok (.getfield 21, 3) := by decide +kernel
theorem dX4_findSuiting_7 : decode cX4_findSuiting 7 = .ok (.if_icmp .ge 56, 3) := by decide +kernel
theorem dX4_findSuiting_10 : decode cX4_findSuiting 10 = .ok (.aload_n 0, 1) := by decide +kernel
theorem dX4_findSuiting_11 : decode cX4_findSuiting 11 = .ok (.getfield 28, 3) := by decide +kernel
theorem dX4_findSuiting_14 : decode cX4_findSuiting 14 = .ok (.iload_n 1, 1) := by decide +kernel
theorem dX4_findSuiting_15 : decode cX4_findSuiting 15 = .ok (.iconst 0, 1) := by decide +kernel
theorem dX4_findSuiting_16 : decode cX4_findSuiting 16 = .ok (.iastore, 1) := by decide +kernel
theorem dX4_findSuiting_17 : decode cX4_findSuiting 17 = .ok (.iconst 0, 1) := by decide +kernel
theorem dX4_findSuiting_18 : decode cX4_findSuiting 18 = .ok (.istore_n 2, 1) := by decide +kernel
theorem dX4_findSuiting_19 : decode cX4_findSuiting 19 = .ok (.iload_n 2, 1) := by decide +kernel
theorem dX4_findSuiting_20 : decode cX4_findSuiting 20 = .ok (.aload_n 0, 1) := by decide +kernel
theorem dX4_findSuiting_21 : decode cX4_findSuiting 21 = .ok (.getfield 40, 3) := by decide +kernel
theorem dX4_findSuiting_24 : decode cX4_findSuiting 24 = .ok (.getfield 78, 3) := by decide +kernel
theorem dX4_findSuiting_27 : decode cX4_findSuiting 27 = .ok (.if_icmp .ge 30, 3) := by decide +kernel
theorem dX4_findSuiting_30 : decode cX4_findSuiting 30 = .ok (.aload_n 0, 1) := by decide +kernel
theorem dX4_findSuiting_31 : decode cX4_findSuiting 31 = .ok (.iload_n 2, 1) := by decide +kernel
theorem dX4_findSuiting_32 : decode cX4_findSuiting 32 = .ok (.iload_n 1, 1) := by decide +kernel
theorem dX4_findSuiting_33 : decode cX4_findSuiting 33 = .ok (.invokevirtual 71, 3) := by decide +kernel
theorem dX4_findSuiting_36 : decode cX4_findSuiting 36 = .ok (.ifCond .eq 15, 3) := by decide +kernel
theorem dX4_findSuiting_39 : decode cX4_findSuiting 39 = .ok (.aload_n 0, 1) := by decide +kernel
theorem dX4_findSuiting_40 : decode cX4_findSuiting 40 = .ok (.getfield 28, 3) := by decide +kernel
theorem dX4_findSuiting_43 : decode cX4_findSuiting 43 = .ok (.iload_n 1, 1) := by decide +kernel
theorem dX4_findSuiting_44 : decode cX4_findSuiting 44 = .ok (.dup2, 1) := by decide +kernel
theorem dX4_findSuiting_45 : decode cX4_findSuiting 45 = .ok (.iaload, 1) := by decide +kernel
theorem dX4_findSuiting_46 : decode cX4_findSuiting 46 = .ok (.iconst 1, 1) := by decide +kernel
theorem dX4_findSuiting_47 : decode cX4_findSuiting 47 = .ok (.iload_n 2, 1) := by decide +kernel
theorem dX4_findSuiting_48 : decode cX4_findSuiting 48 = .ok (.ishl, 1) := by decide +kernel
theorem dX4_findSuiting_49 : decode cX4_findSuiting 49 = .ok (.ior, 1) := by decide +kernel
theorem dX4_findSuiting_50 : decode cX4_findSuiting 50 = .ok (.iastore, 1) := by decide +kernel
theorem dX4_findSuiting_51 : decode cX4_findSuiting 51 = .ok (.iinc 2 1, 3) := by decide +kernel
theorem dX4_findSuiting_54 : decode cX4_findSuiting 54 = .ok (.goto (-35), 3) := by decide +kernel
theorem dX4_findSuiting_57 : decode cX4_findSuiting 57 = .ok (.iinc 1 1, 3) := by decide +kernel
theorem dX4_findSuiting_60 : decode cX4_findSuiting 60 = .ok (.goto (-58), 3) := by decide +kernel
theorem dX4_findSuiting_63 : decode cX4_findSuiting 63 = .ok (.return_, 1) := by decide +kernel
theorem dX4_leastBlock_0 : decode cX4_leastBlock 0 = .ok (.iconst 0, 1) := by decide +kernel
theorem dX4_leastBlock_1 : decode cX4_leastBlock 1 = .ok (.istore 5, 2) := by decide +kernel
theorem dX4_leastBlock_3 : decode cX4_leastBlock 3 = .ok (.iload 5, 2) := by decide +kernel
theorem dX4_leastBlock_5 : decode cX4_leastBlock 5 = .ok (.aload_n 0, 1) := by decide +kernel
theorem dX4_leastBlock_6 : decode cX4_leastBlock 6 = .ok (.getfield 40, 3) := by decide +kernel
theorem dX4_leastBlock_9 : decode cX4_leastBlock 9 = .ok (.getfield 78, 3) := by decide +kernel
theorem dX4_leastBlock_12 : decode cX4_leastBlock 12 = .ok (.if_icmp .ge 65, 3) := by decide +kernel
theorem dX4_leastBlock_15 : decode cX4_leastBlock 15 = .ok (.aload_n 0, 1) := by decide +kernel
theorem dX4_leastBlock_16 : decode cX4_leastBlock 16 = .ok (.getfield 28, 3) := by decide +kernel
theorem dX4_leastBlock_19 : decode cX4_leastBlock 19 = .ok (.iload_n 1, 1) := by decide +kernel
theorem dX4_leastBlock_20 : decode cX4_leastBlock 20 = .ok (.iaload, 1) := by decide +kernel
theorem dX4_leastBlock_21 : decode cX4_leastBlock 21 = .ok (.iload_n 3, 1) := by decide +kernel
theorem dX4_leastBlock_22 : decode cX4_leastBlock 22 = .ok (.iand, 1) := by decide +kernel
theorem dX4_leastBlock_23 : decode cX4_leastBlock 23 = .ok (.iconst 1, 1) := by decide +kernel
theorem dX4_leastBlock_24 : decode cX4_leastBlock 24 = .ok (.iload 5, 2) := by decide +kernel
theorem dX4_leastBlock_26 : decode cX4_leastBlock 26 = .ok (.ishl, 1) := by decide +kernel
theorem dX4_leastBlock_27 : decode cX4_leastBlock 27 = .ok (.iand, 1) := by decide +kernel
theorem dX4_leastBlock_28 : decode cX4_leastBlock 28 = .ok (.ifCond .eq 7, 3) := by decide +kernel
theorem dX4_leastBlock_31 : decode cX4_leastBlock 31 = .ok (.iconst 1, 1) := by decide +kernel
theorem dX4_leastBlock_32 : decode cX4_leastBlock 32 = .ok (.goto 4, 3) := by decide +kernel
theorem dX4_leastBlock_35 : decode cX4_leastBlock 35 = .ok (.iconst 0, 1) := by decide +kernel
theorem dX4_leastBlock_36 : decode cX4_leastBlock 36 = .ok (.istore 6, 2) := by decide +kernel
theorem dX4_leastBlock_38 : decode cX4_leastBlock 38 = .ok (.iload 6, 2) := by decide +kernel
theorem dX4_leastBlock_40 : decode cX4_leastBlock 40 = .ok (.ifCond .eq 31, 3) := by decide +kernel
theorem dX4_leastBlock_43 : decode cX4_leastBlock 43 = .ok (.aload_n 0, 1) := by decide +kernel
theorem dX4_leastBlock_44 : decode cX4_leastBlock 44 = .ok (.getfield 18, 3) := by decide +kernel
theorem dX4_leastBlock_47 : decode cX4_leastBlock 47 = .ok (.iload_n 1, 1) := by decide +kernel
theorem dX4_leastBlock_48 : decode cX4_leastBlock 48 = .ok (.iaload, 1) := by decide +kernel
theorem dX4_leastBlock_49 : decode cX4_leastBlock 49 = .ok (.aload_n 0, 1) := by decide +kernel
theorem dX4_leastBlock_50 : decode cX4_leastBlock 50 = .ok (.iload_n 2, 1) := by decide +kernel
theorem dX4_leastBlock_51 : decode cX4_leastBlock 51 = .ok (.iload_n 3, 1) := by decide +kernel
theorem dX4_leastBlock_52 : decode cX4_leastBlock 52 = .ok (.iconst 1, 1) := by decide +kernel
theorem dX4_leastBlock_53 : decode cX4_leastBlock 53 = .ok (.iload 5, 2) := by decide +kernel
theorem dX4_leastBlock_55 : decode cX4_leastBlock 55 = .ok (.ishl, 1) := by decide +kernel
theorem dX4_leastBlock_56 : decode cX4_leastBlock 56 = .ok (.iconst (-1), 1) := by decide +kernel
theorem dX4_leastBlock_57 : decode cX4_leastBlock 57 = .ok (.ixor, 1) := by decide +kernel
theorem dX4_leastBlock_58 : decode cX4_leastBlock 58 = .ok (.iand, 1) := by decide +kernel
theorem dX4_leastBlock_59 : decode cX4_leastBlock 59 = .ok (.invokevirtual 79, 3) := by decide +kernel
theorem dX4_leastBlock_62 : decode cX4_leastBlock 62 = .ok (.iadd, 1) := by decide +kernel
theorem dX4_leastBlock_63 : decode cX4_leastBlock 63 = .ok (.iload 4, 2) := by decide +kernel
theorem dX4_leastBlock_65 : decode cX4_leastBlock 65 = .ok (.if_icmp .ne 6, 3) := by decide +kernel
theorem dX4_leastBlock_68 : decode cX4_leastBlock 68 = .ok (.iload 5, 2) := by decide +kernel
theorem dX4_leastBlock_70 : decode cX4_leastBlock 70 = .ok (.ireturn, 1) := by decide +kernel
theorem dX4_leastBlock_71 : decode cX4_leastBlock 71 = .ok (.iinc 5 1, 3) := by decide +kernel
theorem dX4_leastBlock_74 : decode cX4_leastBlock 74 = .ok (.goto (-71), 3) := by decide +kernel
theorem dX4_leastBlock_77 : decode cX4_leastBlock 77 = .ok (.bipush (-4), 2) := by decide +kernel
theorem dX4_leastBlock_79 : decode cX4_leastBlock 79 = .ok (.ireturn, 1) := by decide +kernel
theorem dX4_bestSum_0 : decode cX4_bestSum 0 = .ok (.iconst 0, 1) := by decide +kernel
theorem dX4_bestSum_1 : decode cX4_bestSum 1 = .ok (.istore_n 3, 1) := by decide +kernel
theorem dX4_bestSum_2 : decode cX4_bestSum 2 = .ok (.iload_n 3, 1) := by decide +kernel
theorem dX4_bestSum_3 : decode cX4_bestSum 3 = .ok (.bipush 12, 2) := by decide +kernel
theorem dX4_bestSum_5 : decode cX4_bestSum 5 = .ok (.if_icmp .ge 17, 3) := by decide +kernel
theorem dX4_bestSum_8 : decode cX4_bestSum 8 = .ok (.aload_n 0, 1) := by decide +kernel
theorem dX4_bestSum_9 : decode cX4_bestSum 9 = .ok (.getfield 31, 3) := by decide +kernel
theorem dX4_bestSum_12 : decode cX4_bestSum 12 = .ok (.iload_n 3, 1) := by decide +kernel
theorem dX4_bestSum_13 : decode cX4_bestSum 13 = .ok (.bipush (-4), 2) := by decide +kernel
theorem dX4_bestSum_15 : decode cX4_bestSum 15 = .ok (.iastore, 1) := by decide +kernel
theorem dX4_bestSum_16 : decode cX4_bestSum 16 = .ok (.iinc 3 1, 3) := by decide +kernel
theorem dX4_bestSum_19 : decode cX4_bestSum 19 = .ok (.goto (-17), 3) := by decide +kernel
theorem dX4_bestSum_22 : decode cX4_bestSum 22 = .ok (.aload_n 0, 1) := by decide +kernel
theorem dX4_bestSum_23 : decode cX4_bestSum 23 = .ok (.iload_n 2, 1) := by decide +kernel
theorem dX4_bestSum_24 : decode cX4_bestSum 24 = .ok (.putfield 34, 3) := by decide +kernel
theorem dX4_bestSum_27 : decode cX4_bestSum 27 = .ok (.iconst 0, 1) := by decide +kernel
theorem dX4_bestSum_28 : decode cX4_bestSum 28 = .ok (.istore_n 3, 1) := by decide +kernel
theorem dX4_bestSum_29 : decode cX4_bestSum 29 = .ok (.iload_n 1, 1) := by decide +kernel
theorem dX4_bestSum_30 : decode cX4_bestSum 30 = .ok (.istore 4, 2) := by decide +kernel
theorem dX4_bestSum_32 : decode cX4_bestSum 32 = .ok (.iconst 0, 1) := by decide +kernel
theorem dX4_bestSum_33 : decode cX4_bestSum 33 = .ok (.istore 5, 2) := by decide +kernel
theorem dX4_bestSum_35 : decode cX4_bestSum 35 = .ok (.iload 5, 2) := by decide +kernel
theorem dX4_bestSum_37 : decode cX4_bestSum 37 = .ok (.bipush 8, 2) := by decide +kernel
theorem dX4_bestSum_39 : decode cX4_bestSum 39 = .ok (.if_icmp .ge 58, 3) := by decide +kernel
theorem dX4_bestSum_42 : decode cX4_bestSum 42 = .ok (.iload 4, 2) := by decide +kernel
theorem dX4_bestSum_44 : decode cX4_bestSum 44 = .ok (.ifCond .eq 53, 3) := by decide +kernel
theorem dX4_bestSum_47 : decode cX4_bestSum 47 = .ok (.aload_n 0, 1) := by decide +kernel
theorem dX4_bestSum_48 : decode cX4_bestSum 48 = .ok (.iload 4, 2) := by decide +kernel
theorem dX4_bestSum_50 : decode cX4_bestSum 50 = .ok (.invokevirtual 87, 3) := by decide +kernel
theorem dX4_bestSum_53 : decode cX4_bestSum 53 = .ok (.istore 6, 2) := by decide +kernel
theorem dX4_bestSum_55 : decode cX4_bestSum 55 = .ok (.iload 4, 2) := by decide +kernel
theorem dX4_bestSum_57 : decode cX4_bestSum 57 = .ok (.iconst 1, 1) := by decide +kernel
theorem dX4_bestSum_58 : decode cX4_bestSum 58 = .ok (.iload 6, 2) := by decide +kernel
theorem dX4_bestSum_60 : decode cX4_bestSum 60 = .ok (.ishl, 1) := by decide +kernel
theorem dX4_bestSum_61 : decode cX4_bestSum 61 = .ok (.iconst (-1), 1) := by decide +kernel
theorem dX4_bestSum_62 : decode cX4_bestSum 62 = .ok (.ixor, 1) := by decide +kernel
theorem dX4_bestSum_63 : decode cX4_bestSum 63 = .ok (.iand, 1) := by decide +kernel
theorem dX4_bestSum_64 : decode cX4_bestSum 64 = .ok (.istore 4, 2) := by decide +kernel
theorem dX4_bestSum_66 : decode cX4_bestSum 66 = .ok (.aload_n 0, 1) := by decide +kernel
theorem dX4_bestSum_67 : decode cX4_bestSum 67 = .ok (.iconst 0, 1) := by decide +kernel
theorem dX4_bestSum_68 : decode cX4_bestSum 68 = .ok (.putfield 37, 3) := by decide +kernel
theorem dX4_bestSum_71 : decode cX4_bestSum 71 = .ok (.aload_n 0, 1) := by decide +kernel
theorem dX4_bestSum_72 : decode cX4_bestSum 72 = .ok (.iload 6, 2) := by decide +kernel
theorem dX4_bestSum_74 : decode cX4_bestSum 74 = .ok (.iconst 0, 1) := by decide +kernel
theorem dX4_bestSum_75 : decode cX4_bestSum 75 = .ok (.invokevirtual 91, 3) := by decide +kernel
theorem dX4_bestSum_78 : decode cX4_bestSum 78 = .ok (.ifCond .eq 13, 3) := by decide +kernel
theorem dX4_bestSum_81 : decode cX4_bestSum 81 = .ok (.iload_n 3, 1) := by decide +kernel
theorem dX4_bestSum_82 : decode cX4_bestSum 82 = .ok (.aload_n 0, 1) := by decide +kernel
theorem dX4_bestSum_83 : decode cX4_bestSum 83 = .ok (.getfield 18, 3) := by decide +kernel
theorem dX4_bestSum_86 : decode cX4_bestSum 86 = .ok (.iload 6, 2) := by decide +kernel
theorem dX4_bestSum_88 : decode cX4_bestSum 88 = .ok (.iaload, 1) := by decide +kernel
theorem dX4_bestSum_89 : decode cX4_bestSum 89 = .ok (.iadd, 1) := by decide +kernel
theorem dX4_bestSum_90 : decode cX4_bestSum 90 = .ok (.istore_n 3, 1) := by decide +kernel
theorem dX4_bestSum_91 : decode cX4_bestSum 91 = .ok (.iinc 5 1, 3) := by decide +kernel
theorem dX4_bestSum_94 : decode cX4_bestSum 94 = .ok (.goto (-59), 3) := by decide +kernel
theorem dX4_bestSum_97 : decode cX4_bestSum 97 = .ok (.iload_n 3, 1) := by decide +kernel
theorem dX4_bestSum_98 : decode cX4_bestSum 98 = .ok (.ireturn, 1) := by decide +kernel
theorem dX4_bestPaid_0 : decode cX4_bestPaid 0 = .ok (.iconst 0, 1) := by decide +kernel
theorem dX4_bestPaid_1 : decode cX4_bestPaid 1 = .ok (.istore_n 2, 1) := by decide +kernel
theorem dX4_bestPaid_2 : decode cX4_bestPaid 2 = .ok (.iconst 0, 1) := by decide +kernel
theorem dX4_bestPaid_3 : decode cX4_bestPaid 3 = .ok (.istore_n 3, 1) := by decide +kernel
theorem dX4_bestPaid_4 : decode cX4_bestPaid 4 = .ok (.iconst 0, 1) := by decide +kernel
theorem dX4_bestPaid_5 : decode cX4_bestPaid 5 = .ok (.istore 4, 2) := by decide +kernel
theorem dX4_bestPaid_7 : decode cX4_bestPaid 7 = .ok (.iload 4, 2) := by decide +kernel
theorem dX4_bestPaid_9 : decode cX4_bestPaid 9 = .ok (.aload_n 0, 1) := by decide +kernel
theorem dX4_bestPaid_10 : decode cX4_bestPaid 10 = .ok (.getfield 21, 3) := by decide +kernel
theorem dX4_bestPaid_13 : decode cX4_bestPaid 13 = .ok (.if_icmp .ge 41, 3) := by decide +kernel
theorem dX4_bestPaid_16 : decode cX4_bestPaid 16 = .ok (.iload_n 1, 1) := by decide +kernel
theorem dX4_bestPaid_17 : decode cX4_bestPaid 17 = .ok (.iload 4, 2) := by decide +kernel
theorem dX4_bestPaid_19 : decode cX4_bestPaid 19 = .ok (.ishr, 1) := by decide +kernel
theorem dX4_bestPaid_20 : decode cX4_bestPaid 20 = .ok (.iconst 1, 1) := by decide +kernel
theorem dX4_bestPaid_21 : decode cX4_bestPaid 21 = .ok (.iand, 1) := by decide +kernel
theorem dX4_bestPaid_22 : decode cX4_bestPaid 22 = .ok (.iconst 1, 1) := by decide +kernel
theorem dX4_bestPaid_23 : decode cX4_bestPaid 23 = .ok (.if_icmp .ne 25, 3) := by decide +kernel
theorem dX4_bestPaid_26 : decode cX4_bestPaid 26 = .ok (.aload_n 0, 1) := by decide +kernel
theorem dX4_bestPaid_27 : decode cX4_bestPaid 27 = .ok (.getfield 18, 3) := by decide +kernel
theorem dX4_bestPaid_30 : decode cX4_bestPaid 30 = .ok (.iload 4, 2) := by decide +kernel
theorem dX4_bestPaid_32 : decode cX4_bestPaid 32 = .ok (.iaload, 1) := by decide +kernel
theorem dX4_bestPaid_33 : decode cX4_bestPaid 33 = .ok (.iload_n 3, 1) := by decide +kernel
theorem dX4_bestPaid_34 : decode cX4_bestPaid 34 = .ok (.if_icmp .le 14, 3) := by decide +kernel
theorem dX4_bestPaid_37 : decode cX4_bestPaid 37 = .ok (.iload 4, 2) := by decide +kernel
theorem dX4_bestPaid_39 : decode cX4_bestPaid 39 = .ok (.istore_n 2, 1) := by decide +kernel
theorem dX4_bestPaid_40 : decode cX4_bestPaid 40 = .ok (.aload_n 0, 1) := by decide +kernel
theorem dX4_bestPaid_41 : decode cX4_bestPaid 41 = .ok (.getfield 18, 3) := by decide +kernel
theorem dX4_bestPaid_44 : decode cX4_bestPaid 44 = .ok (.iload 4, 2) := by decide +kernel
theorem dX4_bestPaid_46 : decode cX4_bestPaid 46 = .ok (.iaload, 1) := by decide +kernel
theorem dX4_bestPaid_47 : decode cX4_bestPaid 47 = .ok (.istore_n 3, 1) := by decide +kernel
theorem dX4_bestPaid_48 : decode cX4_bestPaid 48 = .ok (.iinc 4 1, 3) := by decide +kernel
theorem dX4_bestPaid_51 : decode cX4_bestPaid 51 = .ok (.goto (-44), 3) := by decide +kernel
theorem dX4_bestPaid_54 : decode cX4_bestPaid 54 = .ok (.iload_n 2, 1) := by decide +kernel
theorem dX4_bestPaid_55 : decode cX4_bestPaid 55 = .ok (.ireturn, 1) := by decide +kernel
theorem dX4_makeRoom_0 : decode cX4_makeRoom 0 = .ok (.iload_n 2, 1) := by decide +kernel
theorem dX4_makeRoom_1 : decode cX4_makeRoom 1 = .ok (.bipush 8, 2) := by decide +kernel
theorem dX4_makeRoom_3 : decode cX4_makeRoom 3 = .ok (.if_icmp .lt 5, 3) := by decide +kernel
theorem dX4_makeRoom_6 : decode cX4_makeRoom 6 = .ok (.iconst 0, 1) := by decide +kernel
theorem dX4_makeRoom_7 : decode cX4_makeRoom 7 = .ok (.ireturn, 1) := by decide +kernel
theorem dX4_makeRoom_8 : decode cX4_makeRoom 8 = .ok (.iconst 0, 1) := by decide +kernel
theorem dX4_makeRoom_9 : decode cX4_makeRoom 9 = .ok (.istore_n 3, 1) := by decide +kernel
theorem dX4_makeRoom_10 : decode cX4_makeRoom 10 = .ok (.iload_n 3, 1) := by decide +kernel
theorem dX4_makeRoom_11 : decode cX4_makeRoom 11 = .ok (.aload_n 0, 1) := by decide +kernel
theorem dX4_makeRoom_12 : decode cX4_makeRoom 12 = .ok (.getfield 40, 3) := by decide +kernel
theorem dX4_makeRoom_15 : decode cX4_makeRoom 15 = .ok (.getfield 78, 3) := by decide +kernel
theorem dX4_makeRoom_18 : decode cX4_makeRoom 18 = .ok (.if_icmp .ge 91, 3) := by decide +kernel
theorem dX4_makeRoom_21 : decode cX4_makeRoom 21 = .ok (.iconst 1, 1) := by decide +kernel
theorem dX4_makeRoom_22 : decode cX4_makeRoom 22 = .ok (.iload_n 3, 1) := by decide +kernel
theorem dX4_makeRoom_23 : decode cX4_makeRoom 23 = .ok (.ishl, 1) := by decide +kernel
theorem dX4_makeRoom_24 : decode cX4_makeRoom 24 = .ok (.istore 4, 2) := by decide +kernel
theorem dX4_makeRoom_26 : decode cX4_makeRoom 26 = .ok (.aload_n 0, 1) := by decide +kernel
theorem dX4_makeRoom_27 : decode cX4_makeRoom 27 = .ok (.getfield 28, 3) := by decide +kernel
theorem dX4_makeRoom_30 : decode cX4_makeRoom 30 = .ok (.iload_n 1, 1) := by decide +kernel
theorem dX4_makeRoom_31 : decode cX4_makeRoom 31 = .ok (.iaload, 1) := by decide +kernel
theorem dX4_makeRoom_32 : decode cX4_makeRoom 32 = .ok (.aload_n 0, 1) := by decide +kernel
theorem dX4_makeRoom_33 : decode cX4_makeRoom 33 = .ok (.getfield 34, 3) := by decide +kernel
theorem dX4_makeRoom_36 : decode cX4_makeRoom 36 = .ok (.iand, 1) := by decide +kernel
theorem dX4_makeRoom_37 : decode cX4_makeRoom 37 = .ok (.iload 4, 2) := by decide +kernel
theorem dX4_makeRoom_39 : decode cX4_makeRoom 39 = .ok (.iand, 1) := by decide +kernel
theorem dX4_makeRoom_40 : decode cX4_makeRoom 40 = .ok (.ifCond .eq 63, 3) := by decide +kernel
theorem dX4_makeRoom_43 : decode cX4_makeRoom 43 = .ok (.aload_n 0, 1) := by decide +kernel
theorem dX4_makeRoom_44 : decode cX4_makeRoom 44 = .ok (.getfield 37, 3) := by decide +kernel
theorem dX4_makeRoom_47 : decode cX4_makeRoom 47 = .ok (.iload 4, 2) := by decide +kernel
theorem dX4_makeRoom_49 : decode cX4_makeRoom 49 = .ok (.iand, 1) := by decide +kernel
theorem dX4_makeRoom_50 : decode cX4_makeRoom 50 = .ok (.ifCond .eq 6, 3) := by decide +kernel
theorem dX4_makeRoom_53 : decode cX4_makeRoom 53 = .ok (.goto 50, 3) := by decide +kernel
theorem dX4_makeRoom_56 : decode cX4_makeRoom 56 = .ok (.aload_n 0, 1) := by decide +kernel
theorem dX4_makeRoom_57 : decode cX4_makeRoom 57 = .ok (.dup, 1) := by decide +kernel
theorem dX4_makeRoom_58 : decode cX4_makeRoom 58 = .ok (.getfield 37, 3) := by decide +kernel
theorem dX4_makeRoom_61 : decode cX4_makeRoom 61 = .ok (.iload 4, 2) := by decide +kernel
theorem dX4_makeRoom_63 : decode cX4_makeRoom 63 = .ok (.ior, 1) := by decide +kernel
theorem dX4_makeRoom_64 : decode cX4_makeRoom 64 = .ok (.putfield 37, 3) := by decide +kernel
theorem dX4_makeRoom_67 : decode cX4_makeRoom 67 = .ok (.aload_n 0, 1) := by decide +kernel
theorem dX4_makeRoom_68 : decode cX4_makeRoom 68 = .ok (.getfield 31, 3) := by decide +kernel
theorem dX4_makeRoom_71 : decode cX4_makeRoom 71 = .ok (.iload_n 3, 1) := by decide +kernel
theorem dX4_makeRoom_72 : decode cX4_makeRoom 72 = .ok (.iaload, 1) := by decide +kernel
theorem dX4_makeRoom_73 : decode cX4_makeRoom 73 = .ok (.bipush (-4), 2) := by decide +kernel
theorem dX4_makeRoom_75 : decode cX4_makeRoom 75 = .ok (.if_icmp .eq 19, 3) := by decide +kernel
theorem dX4_makeRoom_78 : decode cX4_makeRoom 78 = .ok (.aload_n 0, 1) := by decide +kernel
theorem dX4_makeRoom_79 : decode cX4_makeRoom 79 = .ok (.aload_n 0, 1) := by decide +kernel
theorem dX4_makeRoom_80 : decode cX4_makeRoom 80 = .ok (.getfield 31, 3) := by decide +kernel
theorem dX4_makeRoom_83 : decode cX4_makeRoom 83 = .ok (.iload_n 3, 1) := by decide +kernel
theorem dX4_makeRoom_84 : decode cX4_makeRoom 84 = .ok (.iaload, 1) := by decide +kernel
theorem dX4_makeRoom_85 : decode cX4_makeRoom 85 = .ok (.iload_n 2, 1) := by decide +kernel
theorem dX4_makeRoom_86 : decode cX4_makeRoom 86 = .ok (.iconst 1, 1) := by decide +kernel
theorem dX4_makeRoom_87 : decode cX4_makeRoom 87 = .ok (.iadd, 1) := by decide +kernel
theorem dX4_makeRoom_88 : decode cX4_makeRoom 88 = .ok (.invokevirtual 91, 3) := by decide +kernel
theorem dX4_makeRoom_91 : decode cX4_makeRoom 91 = .ok (.ifCond .eq 12, 3) := by decide +kernel
theorem dX4_makeRoom_94 : decode cX4_makeRoom 94 = .ok (.aload_n 0, 1) := by decide +kernel
theorem dX4_makeRoom_95 : decode cX4_makeRoom 95 = .ok (.getfield 31, 3) := by decide +kernel
theorem dX4_makeRoom_98 : decode cX4_makeRoom 98 = .ok (.iload_n 3, 1) := by decide +kernel
theorem dX4_makeRoom_99 : decode cX4_makeRoom 99 = .ok (.iload_n 1, 1) := by decide +kernel
theorem dX4_makeRoom_100 : decode cX4_makeRoom 100 = .ok (.iastore, 1) := by decide +kernel
theorem dX4_makeRoom_101 : decode cX4_makeRoom 101 = .ok (.iconst 1, 1) := by decide +kernel
theorem dX4_makeRoom_102 : decode cX4_makeRoom 102 = .ok (.ireturn, 1) := by decide +kernel
theorem dX4_makeRoom_103 : decode cX4_makeRoom 103 = .ok (.iinc 3 1, 3) := by decide +kernel
theorem dX4_makeRoom_106 : decode cX4_makeRoom 106 = .ok (.goto (-96), 3) := by decide +kernel
theorem dX4_makeRoom_109 : decode cX4_makeRoom 109 = .ok (.iconst 0, 1) := by decide +kernel
theorem dX4_makeRoom_110 : decode cX4_makeRoom 110 = .ok (.ireturn, 1) := by decide +kernel
theorem dX4_givenBlocks_0 : decode cX4_givenBlocks 0 = .ok (.iconst 0, 1) := by decide +kernel
theorem dX4_givenBlocks_1 : decode cX4_givenBlocks 1 = .ok (.istore_n 1, 1) := by decide +kernel
theorem dX4_givenBlocks_2 : decode cX4_givenBlocks 2 = .ok (.iconst 0, 1) := by decide +kernel
theorem dX4_givenBlocks_3 : decode cX4_givenBlocks 3 = .ok (.istore_n 2, 1) := by decide +kernel
theorem dX4_givenBlocks_4 : decode cX4_givenBlocks 4 = .ok (.iload_n 2, 1) := by decide +kernel
theorem dX4_givenBlocks_5 : decode cX4_givenBlocks 5 = .ok (.aload_n 0, 1) := by decide +kernel
theorem dX4_givenBlocks_6 : decode cX4_givenBlocks 6 = .ok (.getfield 21, 3) := by decide +kernel
theorem dX4_givenBlocks_9 : decode cX4_givenBlocks 9 = .ok (.if_icmp .ge 31, 3) := by decide +kernel
theorem dX4_givenBlocks_12 : decode cX4_givenBlocks 12 = .ok (.aload_n 0, 1) := by decide +kernel
theorem dX4_givenBlocks_13 : decode cX4_givenBlocks 13 = .ok (.getfield 25, 3) := by decide +kernel
theorem dX4_givenBlocks_16 : decode cX4_givenBlocks 16 = .ok (.iload_n 2, 1) := by decide +kernel
theorem dX4_givenBlocks_17 : decode cX4_givenBlocks 17 = .ok (.iaload, 1) := by decide +kernel
theorem dX4_givenBlocks_18 : decode cX4_givenBlocks 18 = .ok (.bipush (-4), 2) := by decide +kernel
theorem dX4_givenBlocks_20 : decode cX4_givenBlocks 20 = .ok (.if_icmp .eq 14, 3) := by decide +kernel
theorem dX4_givenBlocks_23 : decode cX4_givenBlocks 23 = .ok (.iload_n 1, 1) := by decide +kernel
theorem dX4_givenBlocks_24 : decode cX4_givenBlocks 24 = .ok (.iconst 1, 1) := by decide +kernel
theorem dX4_givenBlocks_25 : decode cX4_givenBlocks 25 = .ok (.aload_n 0, 1) := by decide +kernel
theorem dX4_givenBlocks_26 : decode cX4_givenBlocks 26 = .ok (.getfield 25, 3) := by decide +kernel
theorem dX4_givenBlocks_29 : decode cX4_givenBlocks 29 = .ok (.iload_n 2, 1) := by decide +kernel
theorem dX4_givenBlocks_30 : decode cX4_givenBlocks 30 = .ok (.iaload, 1) := by decide +kernel
theorem dX4_givenBlocks_31 : decode cX4_givenBlocks 31 = .ok (.ishl, 1) := by decide +kernel
theorem dX4_givenBlocks_32 : decode cX4_givenBlocks 32 = .ok (.ior, 1) := by decide +kernel
theorem dX4_givenBlocks_33 : decode cX4_givenBlocks 33 = .ok (.istore_n 1, 1) := by decide +kernel
theorem dX4_givenBlocks_34 : decode cX4_givenBlocks 34 = .ok (.iinc 2 1, 3) := by decide +kernel
theorem dX4_givenBlocks_37 : decode cX4_givenBlocks 37 = .ok (.goto (-33), 3) := by decide +kernel
theorem dX4_givenBlocks_40 : decode cX4_givenBlocks 40 = .ok (.iload_n 1, 1) := by decide +kernel
theorem dX4_givenBlocks_41 : decode cX4_givenBlocks 41 = .ok (.ireturn, 1) := by decide +kernel
theorem dX4_removeFilled_0 : decode cX4_removeFilled 0 = .ok (.aload_n 0, 1) := by decide +kernel
theorem dX4_removeFilled_1 : decode cX4_removeFilled 1 = .ok (.getfield 21, 3) := by decide +kernel
theorem dX4_removeFilled_4 : decode cX4_removeFilled 4 = .ok (.istore_n 1, 1) := by decide +kernel
theorem dX4_removeFilled_5 : decode cX4_removeFilled 5 = .ok (.aload_n 0, 1) := by decide +kernel
theorem dX4_removeFilled_6 : decode cX4_removeFilled 6 = .ok (.iconst 0, 1) := by decide +kernel
theorem dX4_removeFilled_7 : decode cX4_removeFilled 7 = .ok (.putfield 21, 3) := by decide +kernel
theorem dX4_removeFilled_10 : decode cX4_removeFilled 10 = .ok (.iconst 0, 1) := by decide +kernel
theorem dX4_removeFilled_11 : decode cX4_removeFilled 11 = .ok (.istore_n 2, 1) := by decide +kernel
theorem dX4_removeFilled_12 : decode cX4_removeFilled 12 = .ok (.iload_n 2, 1) := by decide +kernel
theorem dX4_removeFilled_13 : decode cX4_removeFilled 13 = .ok (.iload_n 1, 1) := by decide +kernel
theorem dX4_removeFilled_14 : decode cX4_removeFilled 14 = .ok (.if_icmp .ge 43, 3) := by decide +kernel
theorem dX4_removeFilled_17 : decode cX4_removeFilled 17 = .ok (.aload_n 0, 1) := by decide +kernel
theorem dX4_removeFilled_18 : decode cX4_removeFilled 18 = .ok (.getfield 25, 3) := by decide +kernel
theorem dX4_removeFilled_21 : decode cX4_removeFilled 21 = .ok (.iload_n 2, 1) := by decide +kernel
theorem dX4_removeFilled_22 : decode cX4_removeFilled 22 = .ok (.iaload, 1) := by decide +kernel
theorem dX4_removeFilled_23 : decode cX4_removeFilled 23 = .ok (.bipush (-4), 2) := by decide +kernel
theorem dX4_removeFilled_25 : decode cX4_removeFilled 25 = .ok (.if_icmp .ne 26, 3) := by decide +kernel
theorem dX4_removeFilled_28 : decode cX4_removeFilled 28 = .ok (.aload_n 0, 1) := by decide +kernel
theorem dX4_removeFilled_29 : decode cX4_removeFilled 29 = .ok (.aload_n 0, 1) := by decide +kernel
theorem dX4_removeFilled_30 : decode cX4_removeFilled 30 = .ok (.getfield 9, 3) := by decide +kernel
theorem dX4_removeFilled_33 : decode cX4_removeFilled 33 = .ok (.iload_n 2, 1) := by decide +kernel
theorem dX4_removeFilled_34 : decode cX4_removeFilled 34 = .ok (.iaload, 1) := by decide +kernel
theorem dX4_removeFilled_35 : decode cX4_removeFilled 35 = .ok (.aload_n 0, 1) := by decide +kernel
theorem dX4_removeFilled_36 : decode cX4_removeFilled 36 = .ok (.getfield 15, 3) := by decide +kernel
theorem dX4_removeFilled_39 : decode cX4_removeFilled 39 = .ok (.iload_n 2, 1) := by decide +kernel
theorem dX4_removeFilled_40 : decode cX4_removeFilled 40 = .ok (.iaload, 1) := by decide +kernel
theorem dX4_removeFilled_41 : decode cX4_removeFilled 41 = .ok (.aload_n 0, 1) := by decide +kernel
theorem dX4_removeFilled_42 : decode cX4_removeFilled 42 = .ok (.getfield 18, 3) := by decide +kernel
theorem dX4_removeFilled_45 : decode cX4_removeFilled 45 = .ok (.iload_n 2, 1) := by decide +kernel
theorem dX4_removeFilled_46 : decode cX4_removeFilled 46 = .ok (.iaload, 1) := by decide +kernel
theorem dX4_removeFilled_47 : decode cX4_removeFilled 47 = .ok (.invokevirtual 94, 3) := by decide +kernel
theorem dX4_removeFilled_50 : decode cX4_removeFilled 50 = .ok (.pop, 1) := by decide +kernel
theorem dX4_removeFilled_51 : decode cX4_removeFilled 51 = .ok (.iinc 2 1, 3) := by decide +kernel
theorem dX4_removeFilled_54 : decode cX4_removeFilled 54 = .ok (.goto (-42), 3) := by decide +kernel
theorem dX4_removeFilled_57 : decode cX4_removeFilled 57 = .ok (.return_, 1) := by decide +kernel
theorem dX5_init_0 : decode cX5_init 0 = .ok (.aload_n 0, 1) := by decide +kernel
theorem dX5_init_1 : decode cX5_init 1 = .ok (.invokespecial 3, 3) := by decide +kernel
theorem dX5_init_4 : decode cX5_init 4 = .ok (.aload_n 0, 1) := by decide +kernel
theorem dX5_init_5 : decode cX5_init 5 = .ok (.bipush 12, 2) := by decide +kernel
theorem dX5_init_7 : decode cX5_init 7 = .ok (.newarray .int, 2) := by decide +kernel
theorem dX5_init_9 : decode cX5_init 9 = .ok (.putfield 9, 3) := by decide +kernel
theorem dX5_init_12 : decode cX5_init 12 = .ok (.aload_n 0, 1) := by decide +kernel
theorem dX5_init_13 : decode cX5_init 13 = .ok (.bipush 12, 2) := by decide +kernel
theorem dX5_init_15 : decode cX5_init 15 = .ok (.newarray .int, 2) := by decide +kernel
theorem dX5_init_17 : decode cX5_init 17 = .ok (.putfield 15, 3) := by decide +kernel
theorem dX5_init_20 : decode cX5_init 20 = .ok (.aload_n 0, 1) := by decide +kernel
theorem dX5_init_21 : decode cX5_init 21 = .ok (.bipush 12, 2) := by decide +kernel
theorem dX5_init_23 : decode cX5_init 23 = .ok (.newarray .int, 2) := by decide +kernel
theorem dX5_init_25 : decode cX5_init 25 = .ok (.putfield 18, 3) := by decide +kernel
theorem dX5_init_28 : decode cX5_init 28 = .ok (.aload_n 0, 1) := by decide +kernel
theorem dX5_init_29 : decode cX5_init 29 = .ok (.bipush 12, 2) := by decide +kernel
theorem dX5_init_31 : decode cX5_init 31 = .ok (.newarray .int, 2) := by decide +kernel
theorem dX5_init_33 : decode cX5_init 33 = .ok (.putfield 21, 3) := by decide +kernel
theorem dX5_init_36 : decode cX5_init 36 = .ok (.aload_n 0, 1) := by decide +kernel
theorem dX5_init_37 : decode cX5_init 37 = .ok (.bipush 12, 2) := by decide +kernel
theorem dX5_init_39 : decode cX5_init 39 = .ok (.newarray .int, 2) := by decide +kernel
theorem dX5_init_41 : decode cX5_init 41 = .ok (.putfield 24, 3) := by decide +kernel
theorem dX5_init_44 : decode cX5_init 44 = .ok (.aload_n 0, 1) := by decide +kernel
theorem dX5_init_45 : decode cX5_init 45 = .ok (.bipush 12, 2) := by decide +kernel
theorem dX5_init_47 : decode cX5_init 47 = .ok (.newarray .int, 2) := by decide +kernel
theorem dX5_init_49 : decode cX5_init 49 = .ok (.putfield 27, 3) := by decide +kernel
theorem dX5_init_52 : decode cX5_init 52 = .ok (.aload_n 0, 1) := by decide +kernel
theorem dX5_init_53 : decode cX5_init 53 = .ok (.iconst 0, 1) := by decide +kernel
theorem dX5_init_54 : decode cX5_init 54 = .ok (.putfield 30, 3) := by decide +kernel
theorem dX5_init_57 : decode cX5_init 57 = .ok (.return_, 1) := by decide +kernel
theorem dX5_add_0 : decode cX5_add 0 = .ok (.aload_n 0, 1) := by decide +kernel
theorem dX5_add_1 : decode cX5_add 1 = .ok (.getfield 9, 3) := by decide +kernel
theorem dX5_add_4 : decode cX5_add 4 = .ok (.aload_n 0, 1) := by decide +kernel
theorem dX5_add_5 : decode cX5_add 5 = .ok (.getfield 30, 3) := by decide +kernel
theorem dX5_add_8 : decode cX5_add 8 = .ok (.iload_n 1, 1) := by decide +kernel
theorem dX5_add_9 : decode cX5_add 9 = .ok (.iastore, 1) := by decide +kernel
theorem dX5_add_10 : decode cX5_add 10 = .ok (.aload_n 0, 1) := by decide +kernel
theorem dX5_add_11 : decode cX5_add 11 = .ok (.getfield 21, 3) := by decide +kernel
theorem dX5_add_14 : decode cX5_add 14 = .ok (.aload_n 0, 1) := by decide +kernel
theorem dX5_add_15 : decode cX5_add 15 = .ok (.getfield 30, 3) := by decide +kernel
theorem dX5_add_18 : decode cX5_add 18 = .ok (.iload_n 2, 1) := by decide +kernel
theorem dX5_add_19 : decode cX5_add 19 = .ok (.iastore, 1) := by decide +kernel
theorem dX5_add_20 : decode cX5_add 20 = .ok (.aload_n 0, 1) := by decide +kernel
theorem dX5_add_21 : decode cX5_add 21 = .ok (.getfield 24, 3) := by decide +kernel
theorem dX5_add_24 : decode cX5_add 24 = .ok (.aload_n 0, 1) := by decide +kernel
theorem dX5_add_25 : decode cX5_add 25 = .ok (.getfield 30, 3) := by decide +kernel
theorem dX5_add_28 : decode cX5_add 28 = .ok (.iload_n 3, 1) := by decide +kernel
theorem dX5_add_29 : decode cX5_add 29 = .ok (.iastore, 1) := by decide +kernel
theorem dX5_add_30 : decode cX5_add 30 = .ok (.aload_n 0, 1) := by decide +kernel
theorem dX5_add_31 : decode cX5_add 31 = .ok (.getfield 27, 3) := by decide +kernel
theorem dX5_add_34 : decode cX5_add 34 = .ok (.aload_n 0, 1) := by decide +kernel
theorem dX5_add_35 : decode cX5_add 35 = .ok (.getfield 30, 3) := by decide +kernel
theorem dX5_add_38 : decode cX5_add 38 = .ok (.iload 4, 2) := by decide +kernel
theorem dX5_add_40 : decode cX5_add 40 = .ok (.iastore, 1) := by decide +kernel
theorem dX5_add_41 : decode cX5_add 41 = .ok (.aload_n 0, 1) := by decide +kernel
theorem dX5_add_42 : decode cX5_add 42 = .ok (.dup, 1) := by decide +kernel
theorem dX5_add_43 : decode cX5_add 43 = .ok (.getfield 30, 3) := by decide +kernel
theorem dX5_add_46 : decode cX5_add 46 = .ok (.iconst 1, 1) := by decide +kernel
theorem dX5_add_47 : decode cX5_add 47 = .ok (.iadd, 1) := by decide +kernel
theorem dX5_add_48 : decode cX5_add 48 = .ok (.putfield 30, 3) := by decide +kernel
theorem dX5_add_51 : decode cX5_add 51 = .ok (.aload_n 0, 1) := by decide +kernel
theorem dX5_add_52 : decode cX5_add 52 = .ok (.getfield 30, 3) := by decide +kernel
theorem dX5_add_55 : decode cX5_add 55 = .ok (.iconst 1, 1) := by decide +kernel
theorem dX5_add_56 : decode cX5_add 56 = .ok (.isub, 1) := by decide +kernel
theorem dX5_add_57 : decode cX5_add 57 = .ok (.ireturn, 1) := by decide +kernel
theorem dX5_judge_0 : decode cX5_judge 0 = .ok (.iload_n 2, 1) := by decide +kernel
theorem dX5_judge_1 : decode cX5_judge 1 = .ok (.iload_n 3, 1) := by decide +kernel
theorem dX5_judge_2 : decode cX5_judge 2 = .ok (.iload 4, 2) := by decide +kernel
theorem dX5_judge_4 : decode cX5_judge 4 = .ok (.invokestatic 34, 3) := by decide +kernel
theorem dX5_judge_7 : decode cX5_judge 7 = .ok (.invokestatic 34, 3) := by decide +kernel
theorem dX5_judge_10 : decode cX5_judge 10 = .ok (.istore 5, 2) := by decide +kernel
theorem dX5_judge_12 : decode cX5_judge 12 = .ok (.iload_n 2, 1) := by decide +kernel
theorem dX5_judge_13 : decode cX5_judge 13 = .ok (.iload_n 3, 1) := by decide +kernel
theorem dX5_judge_14 : decode cX5_judge 14 = .ok (.iload 4, 2) := by decide +kernel
theorem dX5_judge_16 : decode cX5_judge 16 = .ok (.invokestatic 40, 3) := by decide +kernel
theorem dX5_judge_19 : decode cX5_judge 19 = .ok (.invokestatic 40, 3) := by decide +kernel
theorem dX5_judge_22 : decode cX5_judge 22 = .ok (.istore 6, 2) := by decide +kernel
theorem dX5_judge_24 : decode cX5_judge 24 = .ok (.aload_n 0, 1) := by decide +kernel
theorem dX5_judge_25 : decode cX5_judge 25 = .ok (.getfield 15, 3) := by decide +kernel
theorem dX5_judge_28 : decode cX5_judge 28 = .ok (.iload_n 1, 1) := by decide +kernel
theorem dX5_judge_29 : decode cX5_judge 29 = .ok (.iload_n 2, 1) := by decide +kernel
theorem dX5_judge_30 : decode cX5_judge 30 = .ok (.iload_n 3, 1) := by decide +kernel
theorem dX5_judge_31 : decode cX5_judge 31 = .ok (.iadd, 1) := by decide +kernel
theorem dX5_judge_32 : decode cX5_judge 32 = .ok (.iload 4, 2) := by decide +kernel
theorem dX5_judge_34 : decode cX5_judge 34 = .ok (.iadd, 1) := by decide +kernel
theorem dX5_judge_35 : decode cX5_judge 35 = .ok (.iload 5, 2) := by decide +kernel
theorem dX5_judge_37 : decode cX5_judge 37 = .ok (.isub, 1) := by decide +kernel
theorem dX5_judge_38 : decode cX5_judge 38 = .ok (.iload 6, 2) := by decide +kernel
theorem dX5_judge_40 : decode cX5_judge 40 = .ok (.isub, 1) := by decide +kernel
theorem dX5_judge_41 : decode cX5_judge 41 = .ok (.iastore, 1) := by decide +kernel
theorem dX5_judge_42 : decode cX5_judge 42 = .ok (.aload_n 0, 1) := by decide +kernel
theorem dX5_judge_43 : decode cX5_judge 43 = .ok (.getfield 18, 3) := by decide +kernel
theorem dX5_judge_46 : decode cX5_judge 46 = .ok (.iload_n 1, 1) := by decide +kernel
theorem dX5_judge_47 : decode cX5_judge 47 = .ok (.iload 5, 2) := by decide +kernel
theorem dX5_judge_49 : decode cX5_judge 49 = .ok (.iload 6, 2) := by decide +kernel
theorem dX5_judge_51 : decode cX5_judge 51 = .ok (.isub, 1) := by decide +kernel
theorem dX5_judge_52 : decode cX5_judge 52 = .ok (.iconst 1, 1) := by decide +kernel
theorem dX5_judge_53 : decode cX5_judge 53 = .ok (.if_icmp .gt 7, 3) := by decide +kernel
theorem dX5_judge_56 : decode cX5_judge 56 = .ok (.iconst 1, 1) := by decide +kernel
theorem dX5_judge_57 : decode cX5_judge 57 = .ok (.goto 4, 3) := by decide +kernel
theorem dX5_judge_60 : decode cX5_judge 60 = .ok (.iconst 0, 1) := by decide +kernel
theorem dX5_judge_61 : decode cX5_judge 61 = .ok (.iastore, 1) := by decide +kernel
theorem dX5_judge_62 : decode cX5_judge 62 = .ok (.return_, 1) := by decide +kernel
theorem dX5_has_0 : decode cX5_has 0 = .ok (.iload_n 1, 1) := by decide +kernel
theorem dX5_has_1 : decode cX5_has 1 = .ok (.iconst 0, 1) := by decide +kernel
theorem dX5_has_2 : decode cX5_has 2 = .ok (.aload_n 0, 1) := by decide +kernel
theorem dX5_has_3 : decode cX5_has 3 = .ok (.getfield 30, 3) := by decide +kernel
theorem dX5_has_6 : decode cX5_has 6 = .ok (.iconst 1, 1) := by decide +kernel
theorem dX5_has_7 : decode cX5_has 7 = .ok (.isub, 1) := by decide +kernel
theorem dX5_has_8 : decode cX5_has 8 = .ok (.invokestatic 43, 3) := by decide +kernel
theorem dX5_has_11 : decode cX5_has 11 = .ok (.ireturn, 1) := by decide +kernel
theorem dX5_howMany_0 : decode cX5_howMany 0 = .ok (.iconst 0, 1) := by decide +kernel
theorem dX5_howMany_1 : decode cX5_howMany 1 = .ok (.istore_n 2, 1) := by decide +kernel
theorem dX5_howMany_2 : decode cX5_howMany 2 = .ok (.iconst 0, 1) := by decide +kernel
theorem dX5_howMany_3 : decode cX5_howMany 3 = .ok (.istore_n 3, 1) := by decide +kernel
theorem dX5_howMany_4 : decode cX5_howMany 4 = .ok (.iload_n 3, 1) := by decide +kernel
theorem dX5_howMany_5 : decode cX5_howMany 5 = .ok (.aload_n 0, 1) := by decide +kernel
theorem dX5_howMany_6 : decode cX5_howMany 6 = .ok (.getfield 30, 3) := by decide +kernel
theorem dX5_howMany_9 : decode cX5_howMany 9 = .ok (.if_icmp .ge 22, 3) := by decide +kernel
theorem dX5_howMany_12 : decode cX5_howMany 12 = .ok (.aload_n 0, 1) := by decide +kernel
theorem dX5_howMany_13 : decode cX5_howMany 13 = .ok (.getfield 9, 3) := by decide +kernel
theorem dX5_howMany_16 : decode cX5_howMany 16 = .ok (.iload_n 3, 1) := by decide +kernel
theorem dX5_howMany_17 : decode cX5_howMany 17 = .ok (.iaload, 1) := by decide +kernel
theorem dX5_howMany_18 : decode cX5_howMany 18 = .ok (.iload_n 1, 1) := by decide +kernel
theorem dX5_howMany_19 : decode cX5_howMany 19 = .ok (.if_icmp .ne 6, 3) := by decide +kernel
theorem dX5_howMany_22 : decode cX5_howMany 22 = .ok (.iinc 2 1, 3) := by decide +kernel
theorem dX5_howMany_25 : decode cX5_howMany 25 = .ok (.iinc 3 1, 3) := by decide +kernel
theorem dX5_howMany_28 : decode cX5_howMany 28 = .ok (.goto (-24), 3) := by decide +kernel
theorem dX5_howMany_31 : decode cX5_howMany 31 = .ok (.iload_n 2, 1) := by decide +kernel
theorem dX5_howMany_32 : decode cX5_howMany 32 = .ok (.ireturn, 1) := by decide +kernel
theorem dX5_sumIn_0 : decode cX5_sumIn 0 = .ok (.iconst 0, 1) := by decide +kernel
theorem dX5_sumIn_1 : decode cX5_sumIn 1 = .ok (.istore_n 3, 1) := by decide +kernel
theorem dX5_sumIn_2 : decode cX5_sumIn 2 = .ok (.iconst 0, 1) := by decide +kernel
theorem dX5_sumIn_3 : decode cX5_sumIn 3 = .ok (.istore 4, 2) := by decide +kernel
theorem dX5_sumIn_5 : decode cX5_sumIn 5 = .ok (.iload 4, 2) := by decide +kernel
theorem dX5_sumIn_7 : decode cX5_sumIn 7 = .ok (.aload_n 0, 1) := by decide +kernel
theorem dX5_sumIn_8 : decode cX5_sumIn 8 = .ok (.getfield 30, 3) := by decide +kernel
theorem dX5_sumIn_11 : decode cX5_sumIn 11 = .ok (.if_icmp .ge 27, 3) := by decide +kernel
theorem dX5_sumIn_14 : decode cX5_sumIn 14 = .ok (.aload_n 0, 1) := by decide +kernel
theorem dX5_sumIn_15 : decode cX5_sumIn 15 = .ok (.getfield 9, 3) := by decide +kernel
theorem dX5_sumIn_18 : decode cX5_sumIn 18 = .ok (.iload 4, 2) := by decide +kernel
theorem dX5_sumIn_20 : decode cX5_sumIn 20 = .ok (.iaload, 1) := by decide +kernel
theorem dX5_sumIn_21 : decode cX5_sumIn 21 = .ok (.iload_n 2, 1) := by decide +kernel
theorem dX5_sumIn_22 : decode cX5_sumIn 22 = .ok (.if_icmp .ne 10, 3) := by decide +kernel
theorem dX5_sumIn_25 : decode cX5_sumIn 25 = .ok (.iload_n 3, 1) := by decide +kernel
theorem dX5_sumIn_26 : decode cX5_sumIn 26 = .ok (.aload_n 1, 1) := by decide +kernel
theorem dX5_sumIn_27 : decode cX5_sumIn 27 = .ok (.iload 4, 2) := by decide +kernel
theorem dX5_sumIn_29 : decode cX5_sumIn 29 = .ok (.iaload, 1) := by decide +kernel
theorem dX5_sumIn_30 : decode cX5_sumIn 30 = .ok (.iadd, 1) := by decide +kernel
theorem dX5_sumIn_31 : decode cX5_sumIn 31 = .ok (.istore_n 3, 1) := by decide +kernel
theorem dX5_sumIn_32 : decode cX5_sumIn 32 = .ok (.iinc 4 1, 3) := by decide +kernel
theorem dX5_sumIn_35 : decode cX5_sumIn 35 = .ok (.goto (-30), 3) := by decide +kernel
theorem dX5_sumIn_38 : decode cX5_sumIn 38 = .ok (.iload_n 3, 1) := by decide +kernel
theorem dX5_sumIn_39 : decode cX5_sumIn 39 = .ok (.ireturn, 1) := by decide +kernel
theorem dX5_distanceOff_0 : decode cX5_distanceOff 0 = .ok (.aload_n 0, 1) := by decide +kernel
theorem dX5_distanceOff_1 : decode cX5_distanceOff 1 = .ok (.aload_n 0, 1) := by decide +kernel
theorem dX5_distanceOff_2 : decode cX5_distanceOff 2 = .ok (.getfield 24, 3) := by decide +kernel
theorem dX5_distanceOff_5 : decode cX5_distanceOff 5 = .ok (.iload_n 1, 1) := by decide +kernel
theorem dX5_distanceOff_6 : decode cX5_distanceOff 6 = .ok (.invokevirtual 47, 3) := by decide +kernel
theorem dX5_distanceOff_9 : decode cX5_distanceOff 9 = .ok (.invokestatic 51, 3) := by decide +kernel
theorem dX5_distanceOff_12 : decode cX5_distanceOff 12 = .ok (.ireturn, 1) := by decide +kernel
theorem dX5_isOff_0 : decode cX5_isOff 0 = .ok (.aload_n 0, 1) := by decide +kernel
theorem dX5_isOff_1 : decode cX5_isOff 1 = .ok (.iload_n 1, 1) := by decide +kernel
theorem dX5_isOff_2 : decode cX5_isOff 2 = .ok (.invokevirtual 55, 3) := by decide +kernel
theorem dX5_isOff_5 : decode cX5_isOff 5 = .ok (.istore_n 3, 1) := by decide +kernel
theorem dX5_isOff_6 : decode cX5_isOff 6 = .ok (.iload_n 3, 1) := by decide +kernel
theorem dX5_isOff_7 : decode cX5_isOff 7 = .ok (.iconst 2, 1) := by decide +kernel
theorem dX5_isOff_8 : decode cX5_isOff 8 = .ok (.if_icmp .lt 18, 3) := by decide +kernel
theorem dX5_isOff_11 : decode cX5_isOff 11 = .ok (.aload_n 0, 1) := by decide +kernel
theorem dX5_isOff_12 : decode cX5_isOff 12 = .ok (.iload_n 1, 1) := by decide +kernel
theorem dX5_isOff_13 : decode cX5_isOff 13 = .ok (.invokevirtual 58, 3) := by decide +kernel
theorem dX5_isOff_16 : decode cX5_isOff 16 = .ok (.iload_n 2, 1) := by decide +kernel
theorem dX5_isOff_17 : decode cX5_isOff 17 = .ok (.iload_n 3, 1) := by decide +kernel
theorem dX5_isOff_18 : decode cX5_isOff 18 = .ok (.imul, 1) := by decide +kernel
theorem dX5_isOff_19 : decode cX5_isOff 19 = .ok (.if_icmp .le 7, 3) := by decide +kernel
theorem dX5_isOff_22 : decode cX5_isOff 22 = .ok (.iconst 1, 1) := by decide +kernel
theorem dX5_isOff_23 : decode cX5_isOff 23 = .ok (.goto 4, 3) := by decide +kernel
theorem dX5_isOff_26 : decode cX5_isOff 26 = .ok (.iconst 0, 1) := by decide +kernel
theorem dX5_isOff_27 : decode cX5_isOff 27 = .ok (.ireturn, 1) := by decide +kernel
theorem dX5_isWorse_0 : decode cX5_isWorse 0 = .ok (.aload_n 0, 1) := by decide +kernel
theorem dX5_isWorse_1 : decode cX5_isWorse 1 = .ok (.iload_n 1, 1) := by decide +kernel
theorem dX5_isWorse_2 : decode cX5_isWorse 2 = .ok (.invokevirtual 58, 3) := by decide +kernel
theorem dX5_isWorse_5 : decode cX5_isWorse 5 = .ok (.aload_n 0, 1) := by decide +kernel
theorem dX5_isWorse_6 : decode cX5_isWorse 6 = .ok (.iload_n 2, 1) := by decide +kernel
theorem dX5_isWorse_7 : decode cX5_isWorse 7 = .ok (.invokevirtual 55, 3) := by decide +kernel
theorem dX5_isWorse_10 : decode cX5_isWorse 10 = .ok (.imul, 1) := by decide +kernel
theorem dX5_isWorse_11 : decode cX5_isWorse 11 = .ok (.aload_n 0, 1) := by decide +kernel
theorem dX5_isWorse_12 : decode cX5_isWorse 12 = .ok (.iload_n 2, 1) := by decide +kernel
theorem dX5_isWorse_13 : decode cX5_isWorse 13 = .ok (.invokevirtual 58, 3) := by decide +kernel
theorem dX5_isWorse_16 : decode cX5_isWorse 16 = .ok (.aload_n 0, 1) := by decide +kernel
theorem dX5_isWorse_17 : decode cX5_isWorse 17 = .ok (.iload_n 1, 1) := by decide +kernel
theorem dX5_isWorse_18 : decode cX5_isWorse 18 = .ok (.invokevirtual 55, 3) := by decide +kernel
theorem dX5_isWorse_21 : decode cX5_isWorse 21 = .ok (.imul, 1) := by decide +kernel
theorem dX5_isWorse_22 : decode cX5_isWorse 22 = .ok (.if_icmp .le 7, 3) := by decide +kernel
theorem dX5_isWorse_25 : decode cX5_isWorse 25 = .ok (.iconst 1, 1) := by decide +kernel
theorem dX5_isWorse_26 : decode cX5_isWorse 26 = .ok (.goto 4, 3) := by decide +kernel
theorem dX5_isWorse_29 : decode cX5_isWorse 29 = .ok (.iconst 0, 1) := by decide +kernel
theorem dX5_isWorse_30 : decode cX5_isWorse 30 = .ok (.ireturn, 1) := by decide +kernel
theorem dX5_longestRun_0 : decode cX5_longestRun 0 = .ok (.iconst 0, 1) := by decide +kernel
theorem dX5_longestRun_1 : decode cX5_longestRun 1 = .ok (.istore_n 2, 1) := by decide +kernel
theorem dX5_longestRun_2 : decode cX5_longestRun 2 = .ok (.iconst 0, 1) := by decide +kernel
theorem dX5_longestRun_3 : decode cX5_longestRun 3 = .ok (.istore_n 3, 1) := by decide +kernel
theorem dX5_longestRun_4 : decode cX5_longestRun 4 = .ok (.iconst 0, 1) := by decide +kernel
theorem dX5_longestRun_5 : decode cX5_longestRun 5 = .ok (.istore 4, 2) := by decide +kernel
theorem dX5_longestRun_7 : decode cX5_longestRun 7 = .ok (.iconst 0, 1) := by decide +kernel
theorem dX5_longestRun_8 : decode cX5_longestRun 8 = .ok (.istore 5, 2) := by decide +kernel
theorem dX5_longestRun_10 : decode cX5_longestRun 10 = .ok (.iload 5, 2) := by decide +kernel
theorem dX5_longestRun_12 : decode cX5_longestRun 12 = .ok (.aload_n 0, 1) := by decide +kernel
theorem dX5_longestRun_13 : decode cX5_longestRun 13 = .ok (.getfield 30, 3) := by decide +kernel
theorem dX5_longestRun_16 : decode cX5_longestRun 16 = .ok (.if_icmp .ge 69, 3) := by decide +kernel
theorem dX5_longestRun_19 : decode cX5_longestRun 19 = .ok (.aload_n 0, 1) := by decide +kernel
theorem dX5_longestRun_20 : decode cX5_longestRun 20 = .ok (.getfield 9, 3) := by decide +kernel
theorem dX5_longestRun_23 : decode cX5_longestRun 23 = .ok (.iload 5, 2) := by decide +kernel
theorem dX5_longestRun_25 : decode cX5_longestRun 25 = .ok (.iaload, 1) := by decide +kernel
theorem dX5_longestRun_26 : decode cX5_longestRun 26 = .ok (.iload_n 1, 1) := by decide +kernel
theorem dX5_longestRun_27 : decode cX5_longestRun 27 = .ok (.if_icmp .ne 52, 3) := by decide +kernel
theorem dX5_longestRun_30 : decode cX5_longestRun 30 = .ok (.aload_n 0, 1) := by decide +kernel
theorem dX5_longestRun_31 : decode cX5_longestRun 31 = .ok (.getfield 24, 3) := by decide +kernel
theorem dX5_longestRun_34 : decode cX5_longestRun 34 = .ok (.iload 5, 2) := by decide +kernel
theorem dX5_longestRun_36 : decode cX5_longestRun 36 = .ok (.iaload, 1) := by decide +kernel
theorem dX5_longestRun_37 : decode cX5_longestRun 37 = .ok (.ifCond .le 9, 3) := by decide +kernel
theorem dX5_longestRun_40 : decode cX5_longestRun 40 = .ok (.iload_n 3, 1) := by decide +kernel
theorem dX5_longestRun_41 : decode cX5_longestRun 41 = .ok (.iconst 1, 1) := by decide +kernel
theorem dX5_longestRun_42 : decode cX5_longestRun 42 = .ok (.iadd, 1) := by decide +kernel
theorem dX5_longestRun_43 : decode cX5_longestRun 43 = .ok (.goto 4, 3) := by decide +kernel
theorem dX5_longestRun_46 : decode cX5_longestRun 46 = .ok (.iconst 0, 1) := by decide +kernel
theorem dX5_longestRun_47 : decode cX5_longestRun 47 = .ok (.istore_n 3, 1) := by decide +kernel
theorem dX5_longestRun_48 : decode cX5_longestRun 48 = .ok (.aload_n 0, 1) := by decide +kernel
theorem dX5_longestRun_49 : decode cX5_longestRun 49 = .ok (.getfield 24, 3) := by decide +kernel
theorem dX5_longestRun_52 : decode cX5_longestRun 52 = .ok (.iload 5, 2) := by decide +kernel
theorem dX5_longestRun_54 : decode cX5_longestRun 54 = .ok (.iaload, 1) := by decide +kernel
theorem dX5_longestRun_55 : decode cX5_longestRun 55 = .ok (.ifCond .ge 10, 3) := by decide +kernel
theorem dX5_longestRun_58 : decode cX5_longestRun 58 = .ok (.iload 4, 2) := by decide +kernel
theorem dX5_longestRun_60 : decode cX5_longestRun 60 = .ok (.iconst 1, 1) := by decide +kernel
theorem dX5_longestRun_61 : decode cX5_longestRun 61 = .ok (.iadd, 1) := by decide +kernel
theorem dX5_longestRun_62 : decode cX5_longestRun 62 = .ok (.goto 4, 3) := by decide +kernel
theorem dX5_longestRun_65 : decode cX5_longestRun 65 = .ok (.iconst 0, 1) := by decide +kernel
theorem dX5_longestRun_66 : decode cX5_longestRun 66 = .ok (.istore 4, 2) := by decide +kernel
theorem dX5_longestRun_68 : decode cX5_longestRun 68 = .ok (.iload_n 2, 1) := by decide +kernel
theorem dX5_longestRun_69 : decode cX5_longestRun 69 = .ok (.iload_n 3, 1) := by decide +kernel
theorem dX5_longestRun_70 : decode cX5_longestRun 70 = .ok (.iload 4, 2) := by decide +kernel
theorem dX5_longestRun_72 : decode cX5_longestRun 72 = .ok (.invokestatic 34, 3) := by decide +kernel
theorem dX5_longestRun_75 : decode cX5_longestRun 75 = .ok (.invokestatic 34, 3) := by decide +kernel
theorem dX5_longestRun_78 : decode cX5_longestRun 78 = .ok (.istore_n 2, 1) := by decide +kernel
theorem dX5_longestRun_79 : decode cX5_longestRun 79 = .ok (.iinc 5 1, 3) := by decide +kernel
theorem dX5_longestRun_82 : decode cX5_longestRun 82 = .ok (.goto (-72), 3) := by decide +kernel
theorem dX5_longestRun_85 : decode cX5_longestRun 85 = .ok (.iload_n 2, 1) := by decide +kernel
theorem dX5_longestRun_86 : decode cX5_longestRun 86 = .ok (.ireturn, 1) := by decide +kernel
theorem dX6_init_0 : decode cX6_init 0 = .ok (.aload_n 0, 1) := by decide +kernel
theorem dX6_init_1 : decode cX6_init 1 = .ok (.invokespecial 3, 3) := by decide +kernel
theorem dX6_init_4 : decode cX6_init 4 = .ok (.aload_n 0, 1) := by decide +kernel
theorem dX6_init_5 : decode cX6_init 5 = .ok (.iconst 4, 1) := by decide +kernel
theorem dX6_init_6 : decode cX6_init 6 = .ok (.newarray .long, 2) := by decide +kernel
