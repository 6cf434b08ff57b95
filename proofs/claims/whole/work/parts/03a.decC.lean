/-! ===== printed by the kit: the code, decoded ===== -/
theorem dX0_init_0 : decode cX0_init 0 = .ok (.aload_n 0, 1) := by decide +kernel
theorem dX0_init_1 : decode cX0_init 1 = .ok (.invokespecial 3, 3) := by decide +kernel
theorem dX0_init_4 : decode cX0_init 4 = .ok (.aload_n 0, 1) := by decide +kernel
theorem dX0_init_5 : decode cX0_init 5 = .ok (.bipush 40, 2) := by decide +kernel
theorem dX0_init_7 : decode cX0_init 7 = .ok (.anewarray 11, 3) := by decide +kernel
theorem dX0_init_10 : decode cX0_init 10 = .ok (.putfield 13, 3) := by decide +kernel
theorem dX0_init_13 : decode cX0_init 13 = .ok (.aload_n 0, 1) := by decide +kernel
theorem dX0_init_14 : decode cX0_init 14 = .ok (.new 11, 3) := by decide +kernel
theorem dX0_init_17 : decode cX0_init 17 = .ok (.dup, 1) := by decide +kernel
theorem dX0_init_18 : decode cX0_init 18 = .ok (.invokespecial 17, 3) := by decide +kernel
theorem dX0_init_21 : decode cX0_init 21 = .ok (.putfield 18, 3) := by decide +kernel
theorem dX0_init_24 : decode cX0_init 24 = .ok (.aload_n 0, 1) := by decide +kernel
theorem dX0_init_25 : decode cX0_init 25 = .ok (.iconst 0, 1) := by decide +kernel
theorem dX0_init_26 : decode cX0_init 26 = .ok (.putfield 22, 3) := by decide +kernel
theorem dX0_init_29 : decode cX0_init 29 = .ok (.aload_n 0, 1) := by decide +kernel
theorem dX0_init_30 : decode cX0_init 30 = .ok (.iconst 0, 1) := by decide +kernel
theorem dX0_init_31 : decode cX0_init 31 = .ok (.putfield 26, 3) := by decide +kernel
theorem dX0_init_34 : decode cX0_init 34 = .ok (.aload_n 0, 1) := by decide +kernel
theorem dX0_init_35 : decode cX0_init 35 = .ok (.iconst 0, 1) := by decide +kernel
theorem dX0_init_36 : decode cX0_init 36 = .ok (.putfield 30, 3) := by decide +kernel
theorem dX0_init_39 : decode cX0_init 39 = .ok (.aload_n 0, 1) := by decide +kernel
theorem dX0_init_40 : decode cX0_init 40 = .ok (.aload_n 1, 1) := by decide +kernel
theorem dX0_init_41 : decode cX0_init 41 = .ok (.putfield 33, 3) := by decide +kernel
theorem dX0_init_44 : decode cX0_init 44 = .ok (.return_, 1) := by decide +kernel
theorem dX0_many_0 : decode cX0_many 0 = .ok (.aload_n 0, 1) := by decide +kernel
theorem dX0_many_1 : decode cX0_many 1 = .ok (.getfield 26, 3) := by decide +kernel
theorem dX0_many_4 : decode cX0_many 4 = .ok (.ireturn, 1) := by decide +kernel
theorem dX0_forget_0 : decode cX0_forget 0 = .ok (.aload_n 0, 1) := by decide +kernel
theorem dX0_forget_1 : decode cX0_forget 1 = .ok (.iconst 0, 1) := by decide +kernel
theorem dX0_forget_2 : decode cX0_forget 2 = .ok (.putfield 26, 3) := by decide +kernel
theorem dX0_forget_5 : decode cX0_forget 5 = .ok (.aload_n 0, 1) := by decide +kernel
theorem dX0_forget_6 : decode cX0_forget 6 = .ok (.iconst 0, 1) := by decide +kernel
theorem dX0_forget_7 : decode cX0_forget 7 = .ok (.putfield 22, 3) := by decide +kernel
theorem dX0_forget_10 : decode cX0_forget 10 = .ok (.return_, 1) := by decide +kernel
theorem dX0_aheadAt_0 : decode cX0_aheadAt 0 = .ok (.iload_n 1, 1) := by decide +kernel
theorem dX0_aheadAt_1 : decode cX0_aheadAt 1 = .ok (.ifCond .lt 16, 3) := by decide +kernel
theorem dX0_aheadAt_4 : decode cX0_aheadAt 4 = .ok (.iload_n 1, 1) := by decide +kernel
theorem dX0_aheadAt_5 : decode cX0_aheadAt 5 = .ok (.aload_n 0, 1) := by decide +kernel
theorem dX0_aheadAt_6 : decode cX0_aheadAt 6 = .ok (.getfield 13, 3) := by decide +kernel
theorem dX0_aheadAt_9 : decode cX0_aheadAt 9 = .ok (.arraylength, 1) := by decide +kernel
theorem dX0_aheadAt_10 : decode cX0_aheadAt 10 = .ok (.if_icmp .ge 7, 3) := by decide +kernel
theorem dX0_aheadAt_13 : decode cX0_aheadAt 13 = .ok (.iconst 1, 1) := by decide +kernel
theorem dX0_aheadAt_14 : decode cX0_aheadAt 14 = .ok (.goto 4, 3) := by decide +kernel
theorem dX0_aheadAt_17 : decode cX0_aheadAt 17 = .ok (.iconst 0, 1) := by decide +kernel
theorem dX0_aheadAt_18 : decode cX0_aheadAt 18 = .ok (.istore_n 2, 1) := by decide +kernel
theorem dX0_aheadAt_19 : decode cX0_aheadAt 19 = .ok (.iload_n 2, 1) := by decide +kernel
theorem dX0_aheadAt_20 : decode cX0_aheadAt 20 = .ok (.ifCond .eq 12, 3) := by decide +kernel
theorem dX0_aheadAt_23 : decode cX0_aheadAt 23 = .ok (.aload_n 0, 1) := by decide +kernel
theorem dX0_aheadAt_24 : decode cX0_aheadAt 24 = .ok (.getfield 13, 3) := by decide +kernel
theorem dX0_aheadAt_27 : decode cX0_aheadAt 27 = .ok (.iload_n 1, 1) := by decide +kernel
theorem dX0_aheadAt_28 : decode cX0_aheadAt 28 = .ok (.aaload, 1) := by decide +kernel
theorem dX0_aheadAt_29 : decode cX0_aheadAt 29 = .ok (.goto 4, 3) := by decide +kernel
theorem dX0_aheadAt_32 : decode cX0_aheadAt 32 = .ok (.aconst_null, 1) := by decide +kernel
theorem dX0_aheadAt_33 : decode cX0_aheadAt 33 = .ok (.astore_n 3, 1) := by decide +kernel
theorem dX0_aheadAt_34 : decode cX0_aheadAt 34 = .ok (.aload_n 3, 1) := by decide +kernel
theorem dX0_aheadAt_35 : decode cX0_aheadAt 35 = .ok (.ifnonnull 22, 3) := by decide +kernel
theorem dX0_aheadAt_38 : decode cX0_aheadAt 38 = .ok (.new 11, 3) := by decide +kernel
theorem dX0_aheadAt_41 : decode cX0_aheadAt 41 = .ok (.dup, 1) := by decide +kernel
theorem dX0_aheadAt_42 : decode cX0_aheadAt 42 = .ok (.invokespecial 17, 3) := by decide +kernel
theorem dX0_aheadAt_45 : decode cX0_aheadAt 45 = .ok (.astore_n 3, 1) := by decide +kernel
theorem dX0_aheadAt_46 : decode cX0_aheadAt 46 = .ok (.iload_n 2, 1) := by decide +kernel
theorem dX0_aheadAt_47 : decode cX0_aheadAt 47 = .ok (.ifCond .eq 10, 3) := by decide +kernel
theorem dX0_aheadAt_50 : decode cX0_aheadAt 50 = .ok (.aload_n 0, 1) := by decide +kernel
theorem dX0_aheadAt_51 : decode cX0_aheadAt 51 = .ok (.getfield 13, 3) := by decide +kernel
theorem dX0_aheadAt_54 : decode cX0_aheadAt 54 = .ok (.iload_n 1, 1) := by decide +kernel
theorem dX0_aheadAt_55 : decode cX0_aheadAt 55 = .ok (.aload_n 3, 1) := by decide +kernel
theorem dX0_aheadAt_56 : decode cX0_aheadAt 56 = .ok (.aastore, 1) := by decide +kernel
theorem dX0_aheadAt_57 : decode cX0_aheadAt 57 = .ok (.aload_n 3, 1) := by decide +kernel
theorem dX0_aheadAt_58 : decode cX0_aheadAt 58 = .ok (.areturn, 1) := by decide +kernel
theorem dX0_keep_0 : decode cX0_keep 0 = .ok (.aload_n 0, 1) := by decide +kernel
theorem dX0_keep_1 : decode cX0_keep 1 = .ok (.aload_n 0, 1) := by decide +kernel
theorem dX0_keep_2 : decode cX0_keep 2 = .ok (.getfield 30, 3) := by decide +kernel
theorem dX0_keep_5 : decode cX0_keep 5 = .ok (.invokevirtual 36, 3) := by decide +kernel
theorem dX0_keep_8 : decode cX0_keep 8 = .ok (.aload_n 0, 1) := by decide +kernel
theorem dX0_keep_9 : decode cX0_keep 9 = .ok (.getfield 33, 3) := by decide +kernel
theorem dX0_keep_12 : decode cX0_keep 12 = .ok (.invokevirtual 40, 3) := by decide +kernel
theorem dX0_keep_15 : decode cX0_keep 15 = .ok (.aload_n 0, 1) := by decide +kernel
theorem dX0_keep_16 : decode cX0_keep 16 = .ok (.aload_n 0, 1) := by decide +kernel
theorem dX0_keep_17 : decode cX0_keep 17 = .ok (.getfield 30, 3) := by decide +kernel
theorem dX0_keep_20 : decode cX0_keep 20 = .ok (.iconst 1, 1) := by decide +kernel
theorem dX0_keep_21 : decode cX0_keep 21 = .ok (.iadd, 1) := by decide +kernel
theorem dX0_keep_22 : decode cX0_keep 22 = .ok (.bipush 40, 2) := by decide +kernel
theorem dX0_keep_24 : decode cX0_keep 24 = .ok (.irem, 1) := by decide +kernel
theorem dX0_keep_25 : decode cX0_keep 25 = .ok (.putfield 30, 3) := by decide +kernel
theorem dX0_keep_28 : decode cX0_keep 28 = .ok (.aload_n 0, 1) := by decide +kernel
theorem dX0_keep_29 : decode cX0_keep 29 = .ok (.aload_n 0, 1) := by decide +kernel
theorem dX0_keep_30 : decode cX0_keep 30 = .ok (.getfield 26, 3) := by decide +kernel
theorem dX0_keep_33 : decode cX0_keep 33 = .ok (.iconst 1, 1) := by decide +kernel
theorem dX0_keep_34 : decode cX0_keep 34 = .ok (.iadd, 1) := by decide +kernel
theorem dX0_keep_35 : decode cX0_keep 35 = .ok (.bipush 40, 2) := by decide +kernel
theorem dX0_keep_37 : decode cX0_keep 37 = .ok (.invokestatic 44, 3) := by decide +kernel
theorem dX0_keep_40 : decode cX0_keep 40 = .ok (.putfield 26, 3) := by decide +kernel
theorem dX0_keep_43 : decode cX0_keep 43 = .ok (.return_, 1) := by decide +kernel
theorem dX0_takeBack_0 : decode cX0_takeBack 0 = .ok (.aload_n 0, 1) := by decide +kernel
theorem dX0_takeBack_1 : decode cX0_takeBack 1 = .ok (.getfield 26, 3) := by decide +kernel
theorem dX0_takeBack_4 : decode cX0_takeBack 4 = .ok (.ifCond .ne 5, 3) := by decide +kernel
theorem dX0_takeBack_7 : decode cX0_takeBack 7 = .ok (.iconst (-1), 1) := by decide +kernel
theorem dX0_takeBack_8 : decode cX0_takeBack 8 = .ok (.ireturn, 1) := by decide +kernel
theorem dX0_takeBack_9 : decode cX0_takeBack 9 = .ok (.aload_n 0, 1) := by decide +kernel
theorem dX0_takeBack_10 : decode cX0_takeBack 10 = .ok (.aload_n 0, 1) := by decide +kernel
theorem dX0_takeBack_11 : decode cX0_takeBack 11 = .ok (.getfield 30, 3) := by decide +kernel
theorem dX0_takeBack_14 : decode cX0_takeBack 14 = .ok (.bipush 40, 2) := by decide +kernel
theorem dX0_takeBack_16 : decode cX0_takeBack 16 = .ok (.iadd, 1) := by decide +kernel
theorem dX0_takeBack_17 : decode cX0_takeBack 17 = .ok (.iconst 1, 1) := by decide +kernel
theorem dX0_takeBack_18 : decode cX0_takeBack 18 = .ok (.isub, 1) := by decide +kernel
theorem dX0_takeBack_19 : decode cX0_takeBack 19 = .ok (.bipush 40, 2) := by decide +kernel
theorem dX0_takeBack_21 : decode cX0_takeBack 21 = .ok (.irem, 1) := by decide +kernel
theorem dX0_takeBack_22 : decode cX0_takeBack 22 = .ok (.putfield 30, 3) := by decide +kernel
theorem dX0_takeBack_25 : decode cX0_takeBack 25 = .ok (.aload_n 0, 1) := by decide +kernel
theorem dX0_takeBack_26 : decode cX0_takeBack 26 = .ok (.getfield 33, 3) := by decide +kernel
theorem dX0_takeBack_29 : decode cX0_takeBack 29 = .ok (.aload_n 0, 1) := by decide +kernel
theorem dX0_takeBack_30 : decode cX0_takeBack 30 = .ok (.aload_n 0, 1) := by decide +kernel
theorem dX0_takeBack_31 : decode cX0_takeBack 31 = .ok (.getfield 30, 3) := by decide +kernel
theorem dX0_takeBack_34 : decode cX0_takeBack 34 = .ok (.invokevirtual 36, 3) := by decide +kernel
theorem dX0_takeBack_37 : decode cX0_takeBack 37 = .ok (.invokevirtual 40, 3) := by decide +kernel
theorem dX0_takeBack_40 : decode cX0_takeBack 40 = .ok (.aload_n 0, 1) := by decide +kernel
theorem dX0_takeBack_41 : decode cX0_takeBack 41 = .ok (.dup, 1) := by decide +kernel
theorem dX0_takeBack_42 : decode cX0_takeBack 42 = .ok (.getfield 26, 3) := by decide +kernel
theorem dX0_takeBack_45 : decode cX0_takeBack 45 = .ok (.iconst 1, 1) := by decide +kernel
theorem dX0_takeBack_46 : decode cX0_takeBack 46 = .ok (.isub, 1) := by decide +kernel
theorem dX0_takeBack_47 : decode cX0_takeBack 47 = .ok (.putfield 26, 3) := by decide +kernel
theorem dX0_takeBack_50 : decode cX0_takeBack 50 = .ok (.aload_n 0, 1) := by decide +kernel
theorem dX0_takeBack_51 : decode cX0_takeBack 51 = .ok (.getfield 26, 3) := by decide +kernel
theorem dX0_takeBack_54 : decode cX0_takeBack 54 = .ok (.ireturn, 1) := by decide +kernel
theorem dX0_keepImage_0 : decode cX0_keepImage 0 = .ok (.aload_n 0, 1) := by decide +kernel
theorem dX0_keepImage_1 : decode cX0_keepImage 1 = .ok (.getfield 18, 3) := by decide +kernel
theorem dX0_keepImage_4 : decode cX0_keepImage 4 = .ok (.aload_n 0, 1) := by decide +kernel
theorem dX0_keepImage_5 : decode cX0_keepImage 5 = .ok (.getfield 33, 3) := by decide +kernel
theorem dX0_keepImage_8 : decode cX0_keepImage 8 = .ok (.invokevirtual 40, 3) := by decide +kernel
theorem dX0_keepImage_11 : decode cX0_keepImage 11 = .ok (.aload_n 0, 1) := by decide +kernel
theorem dX0_keepImage_12 : decode cX0_keepImage 12 = .ok (.iconst 1, 1) := by decide +kernel
theorem dX0_keepImage_13 : decode cX0_keepImage 13 = .ok (.putfield 22, 3) := by decide +kernel
theorem dX0_keepImage_16 : decode cX0_keepImage 16 = .ok (.return_, 1) := by decide +kernel
theorem dX0_bringBack_0 : decode cX0_bringBack 0 = .ok (.aload_n 0, 1) := by decide +kernel
theorem dX0_bringBack_1 : decode cX0_bringBack 1 = .ok (.getfield 22, 3) := by decide +kernel
theorem dX0_bringBack_4 : decode cX0_bringBack 4 = .ok (.ifCond .ne 5, 3) := by decide +kernel
theorem dX0_bringBack_7 : decode cX0_bringBack 7 = .ok (.iconst 0, 1) := by decide +kernel
theorem dX0_bringBack_8 : decode cX0_bringBack 8 = .ok (.ireturn, 1) := by decide +kernel
theorem dX0_bringBack_9 : decode cX0_bringBack 9 = .ok (.aload_n 0, 1) := by decide +kernel
theorem dX0_bringBack_10 : decode cX0_bringBack 10 = .ok (.getfield 33, 3) := by decide +kernel
theorem dX0_bringBack_13 : decode cX0_bringBack 13 = .ok (.aload_n 0, 1) := by decide +kernel
theorem dX0_bringBack_14 : decode cX0_bringBack 14 = .ok (.getfield 18, 3) := by decide +kernel
theorem dX0_bringBack_17 : decode cX0_bringBack 17 = .ok (.invokevirtual 40, 3) := by decide +kernel
theorem dX0_bringBack_20 : decode cX0_bringBack 20 = .ok (.aload_n 0, 1) := by decide +kernel
theorem dX0_bringBack_21 : decode cX0_bringBack 21 = .ok (.iconst 0, 1) := by decide +kernel
theorem dX0_bringBack_22 : decode cX0_bringBack 22 = .ok (.putfield 26, 3) := by decide +kernel
theorem dX0_bringBack_25 : decode cX0_bringBack 25 = .ok (.iconst 1, 1) := by decide +kernel
theorem dX0_bringBack_26 : decode cX0_bringBack 26 = .ok (.ireturn, 1) := by decide +kernel
theorem dX1_init_0 : decode cX1_init 0 = .ok (.aload_n 0, 1) := by decide +kernel
theorem dX1_init_1 : decode cX1_init 1 = .ok (.invokespecial 3, 3) := by decide +kernel
theorem dX1_init_4 : decode cX1_init 4 = .ok (.aload_n 0, 1) := by decide +kernel
theorem dX1_init_5 : decode cX1_init 5 = .ok (.bipush 8, 2) := by decide +kernel
theorem dX1_init_7 : decode cX1_init 7 = .ok (.newarray .int, 2) := by decide +kernel
theorem dX1_init_9 : decode cX1_init 9 = .ok (.putfield 9, 3) := by decide +kernel
theorem dX1_init_12 : decode cX1_init 12 = .ok (.aload_n 0, 1) := by decide +kernel
theorem dX1_init_13 : decode cX1_init 13 = .ok (.iconst 0, 1) := by decide +kernel
theorem dX1_init_14 : decode cX1_init 14 = .ok (.putfield 15, 3) := by decide +kernel
theorem dX1_init_17 : decode cX1_init 17 = .ok (.aload_n 0, 1) := by decide +kernel
theorem dX1_init_18 : decode cX1_init 18 = .ok (.lconst 0, 1) := by decide +kernel
theorem dX1_init_19 : decode cX1_init 19 = .ok (.putfield 19, 3) := by decide +kernel
theorem dX1_init_22 : decode cX1_init 22 = .ok (.aload_n 0, 1) := by decide +kernel
theorem dX1_init_23 : decode cX1_init 23 = .ok (.aload_n 1, 1) := by decide +kernel
theorem dX1_init_24 : decode cX1_init 24 = .ok (.putfield 23, 3) := by decide +kernel
theorem dX1_init_27 : decode cX1_init 27 = .ok (.aload_n 0, 1) := by decide +kernel
theorem dX1_init_28 : decode cX1_init 28 = .ok (.aload_n 2, 1) := by decide +kernel
theorem dX1_init_29 : decode cX1_init 29 = .ok (.putfield 27, 3) := by decide +kernel
theorem dX1_init_32 : decode cX1_init 32 = .ok (.aload_n 0, 1) := by decide +kernel
theorem dX1_init_33 : decode cX1_init 33 = .ok (.aload_n 3, 1) := by decide +kernel
theorem dX1_init_34 : decode cX1_init 34 = .ok (.putfield 31, 3) := by decide +kernel
theorem dX1_init_37 : decode cX1_init 37 = .ok (.aload_n 0, 1) := by decide +kernel
theorem dX1_init_38 : decode cX1_init 38 = .ok (.aload 4, 2) := by decide +kernel
theorem dX1_init_40 : decode cX1_init 40 = .ok (.putfield 35, 3) := by decide +kernel
theorem dX1_init_43 : decode cX1_init 43 = .ok (.return_, 1) := by decide +kernel
theorem dX1_fogLevel_0 : decode cX1_fogLevel 0 = .ok (.aload_n 0, 1) := by decide +kernel
theorem dX1_fogLevel_1 : decode cX1_fogLevel 1 = .ok (.getfield 15, 3) := by decide +kernel
theorem dX1_fogLevel_4 : decode cX1_fogLevel 4 = .ok (.ireturn, 1) := by decide +kernel
theorem dX1_setFogs_0 : decode cX1_setFogs 0 = .ok (.iload_n 1, 1) := by decide +kernel
theorem dX1_setFogs_1 : decode cX1_setFogs 1 = .ok (.ifCond .lt 17, 3) := by decide +kernel
theorem dX1_setFogs_4 : decode cX1_setFogs 4 = .ok (.iload_n 1, 1) := by decide +kernel
theorem dX1_setFogs_5 : decode cX1_setFogs 5 = .ok (.bipush 99, 2) := by decide +kernel
theorem dX1_setFogs_7 : decode cX1_setFogs 7 = .ok (.if_icmp .gt 11, 3) := by decide +kernel
theorem dX1_setFogs_10 : decode cX1_setFogs 10 = .ok (.iload_n 1, 1) := by decide +kernel
theorem dX1_setFogs_11 : decode cX1_setFogs 11 = .ok (.aload_n 0, 1) := by decide +kernel
theorem dX1_setFogs_12 : decode cX1_setFogs 12 = .ok (.getfield 15, 3) := by decide +kernel
theorem dX1_setFogs_15 : decode cX1_setFogs 15 = .ok (.if_icmp .ne 5, 3) := by decide +kernel
theorem dX1_setFogs_18 : decode cX1_setFogs 18 = .ok (.iconst 0, 1) := by decide +kernel
theorem dX1_setFogs_19 : decode cX1_setFogs 19 = .ok (.ireturn, 1) := by decide +kernel
theorem dX1_setFogs_20 : decode cX1_setFogs 20 = .ok (.aload_n 0, 1) := by decide +kernel
theorem dX1_setFogs_21 : decode cX1_setFogs 21 = .ok (.iload_n 1, 1) := by decide +kernel
theorem dX1_setFogs_22 : decode cX1_setFogs 22 = .ok (.putfield 15, 3) := by decide +kernel
theorem dX1_setFogs_25 : decode cX1_setFogs 25 = .ok (.iconst 1, 1) := by decide +kernel
theorem dX1_setFogs_26 : decode cX1_setFogs 26 = .ok (.ireturn, 1) := by decide +kernel
theorem dX1_lampOf_0 : decode cX1_lampOf 0 = .ok (.aload_n 0, 1) := by decide +kernel
theorem dX1_lampOf_1 : decode cX1_lampOf 1 = .ok (.getfield 27, 3) := by decide +kernel
theorem dX1_lampOf_4 : decode cX1_lampOf 4 = .ok (.invokevirtual 39, 3) := by decide +kernel
theorem dX1_lampOf_7 : decode cX1_lampOf 7 = .ok (.aload_n 0, 1) := by decide +kernel
theorem dX1_lampOf_8 : decode cX1_lampOf 8 = .ok (.getfield 27, 3) := by decide +kernel
theorem dX1_lampOf_11 : decode cX1_lampOf 11 = .ok (.iload_n 1, 1) := by decide +kernel
theorem dX1_lampOf_12 : decode cX1_lampOf 12 = .ok (.iconst 3, 1) := by decide +kernel
theorem dX1_lampOf_13 : decode cX1_lampOf 13 = .ok (.invokevirtual 45, 3) := by decide +kernel
theorem dX1_lampOf_16 : decode cX1_lampOf 16 = .ok (.isub, 1) := by decide +kernel
theorem dX1_lampOf_17 : decode cX1_lampOf 17 = .ok (.istore_n 2, 1) := by decide +kernel
theorem dX1_lampOf_18 : decode cX1_lampOf 18 = .ok (.aload_n 0, 1) := by decide +kernel
theorem dX1_lampOf_19 : decode cX1_lampOf 19 = .ok (.getfield 27, 3) := by decide +kernel
theorem dX1_lampOf_22 : decode cX1_lampOf 22 = .ok (.iload_n 1, 1) := by decide +kernel
theorem dX1_lampOf_23 : decode cX1_lampOf 23 = .ok (.iconst 1, 1) := by decide +kernel
theorem dX1_lampOf_24 : decode cX1_lampOf 24 = .ok (.invokevirtual 45, 3) := by decide +kernel
theorem dX1_lampOf_27 : decode cX1_lampOf 27 = .ok (.iload_n 2, 1) := by decide +kernel
theorem dX1_lampOf_28 : decode cX1_lampOf 28 = .ok (.aload_n 0, 1) := by decide +kernel
theorem dX1_lampOf_29 : decode cX1_lampOf 29 = .ok (.getfield 23, 3) := by decide +kernel
theorem dX1_lampOf_32 : decode cX1_lampOf 32 = .ok (.invokevirtual 49, 3) := by decide +kernel
theorem dX1_lampOf_35 : decode cX1_lampOf 35 = .ok (.invokestatic 54, 3) := by decide +kernel
theorem dX1_lampOf_38 : decode cX1_lampOf 38 = .ok (.ireturn, 1) := by decide +kernel
theorem dX1_canPass_0 : decode cX1_canPass 0 = .ok (.aload_n 0, 1) := by decide +kernel
theorem dX1_canPass_1 : decode cX1_canPass 1 = .ok (.getfield 23, 3) := by decide +kernel
theorem dX1_canPass_4 : decode cX1_canPass 4 = .ok (.invokevirtual 58, 3) := by decide +kernel
theorem dX1_canPass_7 : decode cX1_canPass 7 = .ok (.ifCond .eq 34, 3) := by decide +kernel
theorem dX1_canPass_10 : decode cX1_canPass 10 = .ok (.iload_n 1, 1) := by decide +kernel
theorem dX1_canPass_11 : decode cX1_canPass 11 = .ok (.iconst 1, 1) := by decide +kernel
theorem dX1_canPass_12 : decode cX1_canPass 12 = .ok (.if_icmp .lt 29, 3) := by decide +kernel
theorem dX1_canPass_15 : decode cX1_canPass 15 = .ok (.iload_n 1, 1) := by decide +kernel
theorem dX1_canPass_16 : decode cX1_canPass 16 = .ok (.sipush 200, 3) := by decide +kernel
theorem dX1_canPass_19 : decode cX1_canPass 19 = .ok (.if_icmp .gt 22, 3) := by decide +kernel
theorem dX1_canPass_22 : decode cX1_canPass 22 = .ok (.aload_n 0, 1) := by decide +kernel
theorem dX1_canPass_23 : decode cX1_canPass 23 = .ok (.getfield 27, 3) := by decide +kernel
theorem dX1_canPass_26 : decode cX1_canPass 26 = .ok (.invokevirtual 39, 3) := by decide +kernel
theorem dX1_canPass_29 : decode cX1_canPass 29 = .ok (.iload_n 1, 1) := by decide +kernel
theorem dX1_canPass_30 : decode cX1_canPass 30 = .ok (.iadd, 1) := by decide +kernel
theorem dX1_canPass_31 : decode cX1_canPass 31 = .ok (.sipush 9999, 3) := by decide +kernel
theorem dX1_canPass_34 : decode cX1_canPass 34 = .ok (.if_icmp .gt 7, 3) := by decide +kernel
theorem dX1_canPass_37 : decode cX1_canPass 37 = .ok (.iconst 1, 1) := by decide +kernel
theorem dX1_canPass_38 : decode cX1_canPass 38 = .ok (.goto 4, 3) := by decide +kernel
theorem dX1_canPass_41 : decode cX1_canPass 41 = .ok (.iconst 0, 1) := by decide +kernel
theorem dX1_canPass_42 : decode cX1_canPass 42 = .ok (.ireturn, 1) := by decide +kernel
theorem dX1_passByHand_0 : decode cX1_passByHand 0 = .ok (.iconst 0, 1) := by decide +kernel
theorem dX1_passByHand_1 : decode cX1_passByHand 1 = .ok (.istore_n 2, 1) := by decide +kernel
theorem dX1_passByHand_2 : decode cX1_passByHand 2 = .ok (.iload_n 2, 1) := by decide +kernel
theorem dX1_passByHand_3 : decode cX1_passByHand 3 = .ok (.iload_n 1, 1) := by decide +kernel
theorem dX1_passByHand_4 : decode cX1_passByHand 4 = .ok (.if_icmp .ge 15, 3) := by decide +kernel
theorem dX1_passByHand_7 : decode cX1_passByHand 7 = .ok (.aload_n 0, 1) := by decide +kernel
theorem dX1_passByHand_8 : decode cX1_passByHand 8 = .ok (.iconst 0, 1) := by decide +kernel
theorem dX1_passByHand_9 : decode cX1_passByHand 9 = .ok (.iconst 0, 1) := by decide +kernel
theorem dX1_passByHand_10 : decode cX1_passByHand 10 = .ok (.invokevirtual 62, 3) := by decide +kernel
theorem dX1_passByHand_13 : decode cX1_passByHand 13 = .ok (.iinc 2 1, 3) := by decide +kernel
theorem dX1_passByHand_16 : decode cX1_passByHand 16 = .ok (.goto (-14), 3) := by decide +kernel
theorem dX1_passByHand_19 : decode cX1_passByHand 19 = .ok (.aload_n 0, 1) := by decide +kernel
theorem dX1_passByHand_20 : decode cX1_passByHand 20 = .ok (.getfield 27, 3) := by decide +kernel
theorem dX1_passByHand_23 : decode cX1_passByHand 23 = .ok (.invokevirtual 39, 3) := by decide +kernel
theorem dX1_passByHand_26 : decode cX1_passByHand 26 = .ok (.ireturn, 1) := by decide +kernel
theorem dX1_passByDraws_0 : decode cX1_passByDraws 0 = .ok (.aload_n 0, 1) := by decide +kernel
theorem dX1_passByDraws_1 : decode cX1_passByDraws 1 = .ok (.lload_n 2, 1) := by decide +kernel
theorem dX1_passByDraws_2 : decode cX1_passByDraws 2 = .ok (.putfield 19, 3) := by decide +kernel
theorem dX1_passByDraws_5 : decode cX1_passByDraws 5 = .ok (.iconst 0, 1) := by decide +kernel
theorem dX1_passByDraws_6 : decode cX1_passByDraws 6 = .ok (.istore 4, 2) := by decide +kernel
theorem dX1_passByDraws_8 : decode cX1_passByDraws 8 = .ok (.iload 4, 2) := by decide +kernel
theorem dX1_passByDraws_10 : decode cX1_passByDraws 10 = .ok (.iload_n 1, 1) := by decide +kernel
theorem dX1_passByDraws_11 : decode cX1_passByDraws 11 = .ok (.if_icmp .ge 55, 3) := by decide +kernel
theorem dX1_passByDraws_14 : decode cX1_passByDraws 14 = .ok (.aload_n 0, 1) := by decide +kernel
theorem dX1_passByDraws_15 : decode cX1_passByDraws 15 = .ok (.bipush 100, 2) := by decide +kernel
theorem dX1_passByDraws_17 : decode cX1_passByDraws 17 = .ok (.invokevirtual 66, 3) := by decide +kernel
theorem dX1_passByDraws_20 : decode cX1_passByDraws 20 = .ok (.aload_n 0, 1) := by decide +kernel
theorem dX1_passByDraws_21 : decode cX1_passByDraws 21 = .ok (.getfield 15, 3) := by decide +kernel
theorem dX1_passByDraws_24 : decode cX1_passByDraws 24 = .ok (.if_icmp .ge 7, 3) := by decide +kernel
theorem dX1_passByDraws_27 : decode cX1_passByDraws 27 = .ok (.iconst 1, 1) := by decide +kernel
theorem dX1_passByDraws_28 : decode cX1_passByDraws 28 = .ok (.goto 4, 3) := by decide +kernel
theorem dX1_passByDraws_31 : decode cX1_passByDraws 31 = .ok (.iconst 0, 1) := by decide +kernel
theorem dX1_passByDraws_32 : decode cX1_passByDraws 32 = .ok (.istore 5, 2) := by decide +kernel
theorem dX1_passByDraws_34 : decode cX1_passByDraws 34 = .ok (.aload_n 0, 1) := by decide +kernel
theorem dX1_passByDraws_35 : decode cX1_passByDraws 35 = .ok (.iload 5, 2) := by decide +kernel
theorem dX1_passByDraws_37 : decode cX1_passByDraws 37 = .ok (.aload_n 0, 1) := by decide +kernel
theorem dX1_passByDraws_38 : decode cX1_passByDraws 38 = .ok (.getfield 27, 3) := by decide +kernel
theorem dX1_passByDraws_41 : decode cX1_passByDraws 41 = .ok (.invokevirtual 39, 3) := by decide +kernel
theorem dX1_passByDraws_44 : decode cX1_passByDraws 44 = .ok (.bipush 24, 2) := by decide +kernel
theorem dX1_passByDraws_46 : decode cX1_passByDraws 46 = .ok (.irem, 1) := by decide +kernel
theorem dX1_passByDraws_47 : decode cX1_passByDraws 47 = .ok (.bipush 6, 2) := by decide +kernel
theorem dX1_passByDraws_49 : decode cX1_passByDraws 49 = .ok (.if_icmp .ne 7, 3) := by decide +kernel
theorem dX1_passByDraws_52 : decode cX1_passByDraws 52 = .ok (.iconst 1, 1) := by decide +kernel
theorem dX1_passByDraws_53 : decode cX1_passByDraws 53 = .ok (.goto 4, 3) := by decide +kernel
theorem dX1_passByDraws_56 : decode cX1_passByDraws 56 = .ok (.iconst 0, 1) := by decide +kernel
theorem dX1_passByDraws_57 : decode cX1_passByDraws 57 = .ok (.invokevirtual 62, 3) := by decide +kernel
theorem dX1_passByDraws_60 : decode cX1_passByDraws 60 = .ok (.iinc 4 1, 3) := by decide +kernel
theorem dX1_passByDraws_63 : decode cX1_passByDraws 63 = .ok (.goto (-55), 3) := by decide +kernel
theorem dX1_passByDraws_66 : decode cX1_passByDraws 66 = .ok (.aload_n 0, 1) := by decide +kernel
theorem dX1_passByDraws_67 : decode cX1_passByDraws 67 = .ok (.getfield 27, 3) := by decide +kernel
theorem dX1_passByDraws_70 : decode cX1_passByDraws 70 = .ok (.invokevirtual 39, 3) := by decide +kernel
theorem dX1_passByDraws_73 : decode cX1_passByDraws 73 = .ok (.ireturn, 1) := by decide +kernel
theorem dX1_draw_0 : decode cX1_draw 0 = .ok (.aload_n 0, 1) := by decide +kernel
theorem dX1_draw_1 : decode cX1_draw 1 = .ok (.aload_n 0, 1) := by decide +kernel
theorem dX1_draw_2 : decode cX1_draw 2 = .ok (.getfield 19, 3) := by decide +kernel
theorem dX1_draw_5 : decode cX1_draw 5 = .ok (.ldc2_w 70, 3) := by decide +kernel
theorem dX1_draw_8 : decode cX1_draw 8 = .ok (.lmul, 1) := by decide +kernel
theorem dX1_draw_9 : decode cX1_draw 9 = .ok (.ldc2_w 72, 3) := by decide +kernel
theorem dX1_draw_12 : decode cX1_draw 12 = .ok (.ladd, 1) := by decide +kernel
theorem dX1_draw_13 : decode cX1_draw 13 = .ok (.putfield 19, 3) := by decide +kernel
theorem dX1_draw_16 : decode cX1_draw 16 = .ok (.iload_n 1, 1) := by decide +kernel
theorem dX1_draw_17 : decode cX1_draw 17 = .ok (.ifCond .le 17, 3) := by decide +kernel
theorem dX1_draw_20 : decode cX1_draw 20 = .ok (.aload_n 0, 1) := by decide +kernel
theorem dX1_draw_21 : decode cX1_draw 21 = .ok (.getfield 19, 3) := by decide +kernel
theorem dX1_draw_24 : decode cX1_draw 24 = .ok (.bipush 33, 2) := by decide +kernel
theorem dX1_draw_26 : decode cX1_draw 26 = .ok (.lushr, 1) := by decide +kernel
theorem dX1_draw_27 : decode cX1_draw 27 = .ok (.iload_n 1, 1) := by decide +kernel
theorem dX1_draw_28 : decode cX1_draw 28 = .ok (.i2l, 1) := by decide +kernel
theorem dX1_draw_29 : decode cX1_draw 29 = .ok (.lrem, 1) := by decide +kernel
theorem dX1_draw_30 : decode cX1_draw 30 = .ok (.l2i, 1) := by decide +kernel
theorem dX1_draw_31 : decode cX1_draw 31 = .ok (.goto 4, 3) := by decide +kernel
theorem dX1_draw_34 : decode cX1_draw 34 = .ok (.iconst 0, 1) := by decide +kernel
theorem dX1_draw_35 : decode cX1_draw 35 = .ok (.ireturn, 1) := by decide +kernel
theorem dX1_passHour_0 : decode cX1_passHour 0 = .ok (.aload_n 0, 1) := by decide +kernel
theorem dX1_passHour_1 : decode cX1_passHour 1 = .ok (.getfield 31, 3) := by decide +kernel
theorem dX1_passHour_4 : decode cX1_passHour 4 = .ok (.invokevirtual 74, 3) := by decide +kernel
theorem dX1_passHour_7 : decode cX1_passHour 7 = .ok (.aload_n 0, 1) := by decide +kernel
theorem dX1_passHour_8 : decode cX1_passHour 8 = .ok (.iload_n 2, 1) := by decide +kernel
theorem dX1_passHour_9 : decode cX1_passHour 9 = .ok (.invokevirtual 79, 3) := by decide +kernel
theorem dX1_passHour_12 : decode cX1_passHour 12 = .ok (.iload_n 1, 1) := by decide +kernel
theorem dX1_passHour_13 : decode cX1_passHour 13 = .ok (.ifCond .ne 7, 3) := by decide +kernel
theorem dX1_passHour_16 : decode cX1_passHour 16 = .ok (.aload_n 0, 1) := by decide +kernel
theorem dX1_passHour_17 : decode cX1_passHour 17 = .ok (.invokevirtual 83, 3) := by decide +kernel
theorem dX1_passHour_20 : decode cX1_passHour 20 = .ok (.aload_n 0, 1) := by decide +kernel
theorem dX1_passHour_21 : decode cX1_passHour 21 = .ok (.invokevirtual 86, 3) := by decide +kernel
theorem dX1_passHour_24 : decode cX1_passHour 24 = .ok (.aload_n 0, 1) := by decide +kernel
theorem dX1_passHour_25 : decode cX1_passHour 25 = .ok (.getfield 27, 3) := by decide +kernel
theorem dX1_passHour_28 : decode cX1_passHour 28 = .ok (.invokevirtual 89, 3) := by decide +kernel
theorem dX1_passHour_31 : decode cX1_passHour 31 = .ok (.return_, 1) := by decide +kernel
theorem dX1_comeOut_0 : decode cX1_comeOut 0 = .ok (.iconst 0, 1) := by decide +kernel
theorem dX1_comeOut_1 : decode cX1_comeOut 1 = .ok (.istore_n 2, 1) := by decide +kernel
theorem dX1_comeOut_2 : decode cX1_comeOut 2 = .ok (.iload_n 2, 1) := by decide +kernel
theorem dX1_comeOut_3 : decode cX1_comeOut 3 = .ok (.bipush 8, 2) := by decide +kernel
theorem dX1_comeOut_5 : decode cX1_comeOut 5 = .ok (.if_icmp .ge 18, 3) := by decide +kernel
theorem dX1_comeOut_8 : decode cX1_comeOut 8 = .ok (.aload_n 0, 1) := by decide +kernel
theorem dX1_comeOut_9 : decode cX1_comeOut 9 = .ok (.getfield 9, 3) := by decide +kernel
theorem dX1_comeOut_12 : decode cX1_comeOut 12 = .ok (.iload_n 2, 1) := by decide +kernel
theorem dX1_comeOut_13 : decode cX1_comeOut 13 = .ok (.iconst 0, 1) := by decide +kernel
theorem dX1_comeOut_14 : decode cX1_comeOut 14 = .ok (.invokestatic 91, 3) := by decide +kernel
theorem dX1_comeOut_17 : decode cX1_comeOut 17 = .ok (.iinc 2 1, 3) := by decide +kernel
theorem dX1_comeOut_20 : decode cX1_comeOut 20 = .ok (.goto (-18), 3) := by decide +kernel
theorem dX1_comeOut_23 : decode cX1_comeOut 23 = .ok (.iconst 0, 1) := by decide +kernel
theorem dX1_comeOut_24 : decode cX1_comeOut 24 = .ok (.istore_n 2, 1) := by decide +kernel
theorem dX1_comeOut_25 : decode cX1_comeOut 25 = .ok (.iload_n 2, 1) := by decide +kernel
theorem dX1_comeOut_26 : decode cX1_comeOut 26 = .ok (.aload_n 0, 1) := by decide +kernel
theorem dX1_comeOut_27 : decode cX1_comeOut 27 = .ok (.getfield 27, 3) := by decide +kernel
theorem dX1_comeOut_30 : decode cX1_comeOut 30 = .ok (.invokevirtual 95, 3) := by decide +kernel
theorem dX1_comeOut_33 : decode cX1_comeOut 33 = .ok (.if_icmp .ge 75, 3) := by decide +kernel
theorem dX1_comeOut_36 : decode cX1_comeOut 36 = .ok (.aload_n 0, 1) := by decide +kernel
theorem dX1_comeOut_37 : decode cX1_comeOut 37 = .ok (.getfield 27, 3) := by decide +kernel
theorem dX1_comeOut_40 : decode cX1_comeOut 40 = .ok (.iload_n 2, 1) := by decide +kernel
theorem dX1_comeOut_41 : decode cX1_comeOut 41 = .ok (.invokevirtual 98, 3) := by decide +kernel
theorem dX1_comeOut_44 : decode cX1_comeOut 44 = .ok (.ifCond .eq 58, 3) := by decide +kernel
theorem dX1_comeOut_47 : decode cX1_comeOut 47 = .ok (.iload_n 1, 1) := by decide +kernel
theorem dX1_comeOut_48 : decode cX1_comeOut 48 = .ok (.ifCond .eq 17, 3) := by decide +kernel
theorem dX1_comeOut_51 : decode cX1_comeOut 51 = .ok (.aload_n 0, 1) := by decide +kernel
theorem dX1_comeOut_52 : decode cX1_comeOut 52 = .ok (.aload_n 0, 1) := by decide +kernel
theorem dX1_comeOut_53 : decode cX1_comeOut 53 = .ok (.getfield 23, 3) := by decide +kernel
theorem dX1_comeOut_56 : decode cX1_comeOut 56 = .ok (.invokevirtual 102, 3) := by decide +kernel
theorem dX1_comeOut_59 : decode cX1_comeOut 59 = .ok (.invokevirtual 66, 3) := by decide +kernel
theorem dX1_comeOut_62 : decode cX1_comeOut 62 = .ok (.goto 12, 3) := by decide +kernel
theorem dX1_comeOut_65 : decode cX1_comeOut 65 = .ok (.aload_n 0, 1) := by decide +kernel
theorem dX1_comeOut_66 : decode cX1_comeOut 66 = .ok (.getfield 27, 3) := by decide +kernel
theorem dX1_comeOut_69 : decode cX1_comeOut 69 = .ok (.iload_n 2, 1) := by decide +kernel
theorem dX1_comeOut_70 : decode cX1_comeOut 70 = .ok (.iconst 0, 1) := by decide +kernel
theorem dX1_comeOut_71 : decode cX1_comeOut 71 = .ok (.invokevirtual 45, 3) := by decide +kernel
theorem dX1_comeOut_74 : decode cX1_comeOut 74 = .ok (.istore_n 3, 1) := by decide +kernel
theorem dX1_comeOut_75 : decode cX1_comeOut 75 = .ok (.aload_n 0, 1) := by decide +kernel
theorem dX1_comeOut_76 : decode cX1_comeOut 76 = .ok (.getfield 27, 3) := by decide +kernel
theorem dX1_comeOut_79 : decode cX1_comeOut 79 = .ok (.iload_n 2, 1) := by decide +kernel
theorem dX1_comeOut_80 : decode cX1_comeOut 80 = .ok (.iload_n 3, 1) := by decide +kernel
theorem dX1_comeOut_81 : decode cX1_comeOut 81 = .ok (.invokevirtual 105, 3) := by decide +kernel
theorem dX1_comeOut_84 : decode cX1_comeOut 84 = .ok (.aload_n 0, 1) := by decide +kernel
theorem dX1_comeOut_85 : decode cX1_comeOut 85 = .ok (.getfield 9, 3) := by decide +kernel
theorem dX1_comeOut_88 : decode cX1_comeOut 88 = .ok (.iload_n 3, 1) := by decide +kernel
theorem dX1_comeOut_89 : decode cX1_comeOut 89 = .ok (.aload_n 0, 1) := by decide +kernel
theorem dX1_comeOut_90 : decode cX1_comeOut 90 = .ok (.getfield 9, 3) := by decide +kernel
theorem dX1_comeOut_93 : decode cX1_comeOut 93 = .ok (.iload_n 3, 1) := by decide +kernel
theorem dX1_comeOut_94 : decode cX1_comeOut 94 = .ok (.invokestatic 108, 3) := by decide +kernel
theorem dX1_comeOut_97 : decode cX1_comeOut 97 = .ok (.iconst 1, 1) := by decide +kernel
theorem dX1_comeOut_98 : decode cX1_comeOut 98 = .ok (.iadd, 1) := by decide +kernel
theorem dX1_comeOut_99 : decode cX1_comeOut 99 = .ok (.invokestatic 91, 3) := by decide +kernel
theorem dX1_comeOut_102 : decode cX1_comeOut 102 = .ok (.iinc 2 1, 3) := by decide +kernel
theorem dX1_comeOut_105 : decode cX1_comeOut 105 = .ok (.goto (-80), 3) := by decide +kernel
theorem dX1_comeOut_108 : decode cX1_comeOut 108 = .ok (.return_, 1) := by decide +kernel
theorem dX1_goIn_0 : decode cX1_goIn 0 = .ok (.iconst 0, 1) := by decide +kernel
theorem dX1_goIn_1 : decode cX1_goIn 1 = .ok (.istore_n 1, 1) := by decide +kernel
theorem dX1_goIn_2 : decode cX1_goIn 2 = .ok (.iload_n 1, 1) := by decide +kernel
theorem dX1_goIn_3 : decode cX1_goIn 3 = .ok (.aload_n 0, 1) := by decide +kernel
theorem dX1_goIn_4 : decode cX1_goIn 4 = .ok (.getfield 27, 3) := by decide +kernel
theorem dX1_goIn_7 : decode cX1_goIn 7 = .ok (.invokevirtual 95, 3) := by decide +kernel
theorem dX1_goIn_10 : decode cX1_goIn 10 = .ok (.if_icmp .ge 62, 3) := by decide +kernel
theorem dX1_goIn_13 : decode cX1_goIn 13 = .ok (.aload_n 0, 1) := by decide +kernel
theorem dX1_goIn_14 : decode cX1_goIn 14 = .ok (.getfield 27, 3) := by decide +kernel
theorem dX1_goIn_17 : decode cX1_goIn 17 = .ok (.iload_n 1, 1) := by decide +kernel
theorem dX1_goIn_18 : decode cX1_goIn 18 = .ok (.invokevirtual 112, 3) := by decide +kernel
theorem dX1_goIn_21 : decode cX1_goIn 21 = .ok (.ifCond .eq 45, 3) := by decide +kernel
theorem dX1_goIn_24 : decode cX1_goIn 24 = .ok (.aload_n 0, 1) := by decide +kernel
theorem dX1_goIn_25 : decode cX1_goIn 25 = .ok (.getfield 27, 3) := by decide +kernel
theorem dX1_goIn_28 : decode cX1_goIn 28 = .ok (.iload_n 1, 1) := by decide +kernel
theorem dX1_goIn_29 : decode cX1_goIn 29 = .ok (.iconst 0, 1) := by decide +kernel
theorem dX1_goIn_30 : decode cX1_goIn 30 = .ok (.invokevirtual 45, 3) := by decide +kernel
theorem dX1_goIn_33 : decode cX1_goIn 33 = .ok (.istore_n 2, 1) := by decide +kernel
theorem dX1_goIn_34 : decode cX1_goIn 34 = .ok (.aload_n 0, 1) := by decide +kernel
theorem dX1_goIn_35 : decode cX1_goIn 35 = .ok (.iload_n 1, 1) := by decide +kernel
theorem dX1_goIn_36 : decode cX1_goIn 36 = .ok (.invokevirtual 115, 3) := by decide +kernel
theorem dX1_goIn_39 : decode cX1_goIn 39 = .ok (.istore_n 3, 1) := by decide +kernel
theorem dX1_goIn_40 : decode cX1_goIn 40 = .ok (.aload_n 0, 1) := by decide +kernel
theorem dX1_goIn_41 : decode cX1_goIn 41 = .ok (.getfield 27, 3) := by decide +kernel
theorem dX1_goIn_44 : decode cX1_goIn 44 = .ok (.iload_n 1, 1) := by decide +kernel
theorem dX1_goIn_45 : decode cX1_goIn 45 = .ok (.aload_n 0, 1) := by decide +kernel
theorem dX1_goIn_46 : decode cX1_goIn 46 = .ok (.getfield 35, 3) := by decide +kernel
theorem dX1_goIn_49 : decode cX1_goIn 49 = .ok (.iload_n 2, 1) := by decide +kernel
theorem dX1_goIn_50 : decode cX1_goIn 50 = .ok (.iload_n 3, 1) := by decide +kernel
theorem dX1_goIn_51 : decode cX1_goIn 51 = .ok (.invokevirtual 118, 3) := by decide +kernel
theorem dX1_goIn_54 : decode cX1_goIn 54 = .ok (.aload_n 0, 1) := by decide +kernel
theorem dX1_goIn_55 : decode cX1_goIn 55 = .ok (.getfield 35, 3) := by decide +kernel
theorem dX1_goIn_58 : decode cX1_goIn 58 = .ok (.iload_n 2, 1) := by decide +kernel
theorem dX1_goIn_59 : decode cX1_goIn 59 = .ok (.iload_n 3, 1) := by decide +kernel
theorem dX1_goIn_60 : decode cX1_goIn 60 = .ok (.invokevirtual 123, 3) := by decide +kernel
theorem dX1_goIn_63 : decode cX1_goIn 63 = .ok (.invokevirtual 126, 3) := by decide +kernel
theorem dX1_goIn_66 : decode cX1_goIn 66 = .ok (.iinc 1 1, 3) := by decide +kernel
theorem dX1_goIn_69 : decode cX1_goIn 69 = .ok (.goto (-67), 3) := by decide +kernel
theorem dX1_goIn_72 : decode cX1_goIn 72 = .ok (.return_, 1) := by decide +kernel
theorem dX1_meet_0 : decode cX1_meet 0 = .ok (.iconst 0, 1) := by decide +kernel
theorem dX1_meet_1 : decode cX1_meet 1 = .ok (.istore_n 1, 1) := by decide +kernel
theorem dX1_meet_2 : decode cX1_meet 2 = .ok (.iload_n 1, 1) := by decide +kernel
theorem dX1_meet_3 : decode cX1_meet 3 = .ok (.bipush 8, 2) := by decide +kernel
theorem dX1_meet_5 : decode cX1_meet 5 = .ok (.if_icmp .ge 32, 3) := by decide +kernel
theorem dX1_meet_8 : decode cX1_meet 8 = .ok (.aload_n 0, 1) := by decide +kernel
theorem dX1_meet_9 : decode cX1_meet 9 = .ok (.getfield 9, 3) := by decide +kernel
theorem dX1_meet_12 : decode cX1_meet 12 = .ok (.iload_n 1, 1) := by decide +kernel
theorem dX1_meet_13 : decode cX1_meet 13 = .ok (.invokestatic 108, 3) := by decide +kernel
theorem dX1_meet_16 : decode cX1_meet 16 = .ok (.istore_n 2, 1) := by decide +kernel
theorem dX1_meet_17 : decode cX1_meet 17 = .ok (.aload_n 0, 1) := by decide +kernel
theorem dX1_meet_18 : decode cX1_meet 18 = .ok (.getfield 27, 3) := by decide +kernel
theorem dX1_meet_21 : decode cX1_meet 21 = .ok (.iload_n 2, 1) := by decide +kernel
theorem dX1_meet_22 : decode cX1_meet 22 = .ok (.iload_n 2, 1) := by decide +kernel
theorem dX1_meet_23 : decode cX1_meet 23 = .ok (.iconst 1, 1) := by decide +kernel
theorem dX1_meet_24 : decode cX1_meet 24 = .ok (.isub, 1) := by decide +kernel
theorem dX1_meet_25 : decode cX1_meet 25 = .ok (.imul, 1) := by decide +kernel
theorem dX1_meet_26 : decode cX1_meet 26 = .ok (.iconst 2, 1) := by decide +kernel
theorem dX1_meet_27 : decode cX1_meet 27 = .ok (.idiv, 1) := by decide +kernel
theorem dX1_meet_28 : decode cX1_meet 28 = .ok (.invokevirtual 130, 3) := by decide +kernel
theorem dX1_meet_31 : decode cX1_meet 31 = .ok (.iinc 1 1, 3) := by decide +kernel
theorem dX1_meet_34 : decode cX1_meet 34 = .ok (.goto (-32), 3) := by decide +kernel
theorem dX1_meet_37 : decode cX1_meet 37 = .ok (.return_, 1) := by decide +kernel
theorem dX1_yardsOf_0 : decode cX1_yardsOf 0 = .ok (.iconst 0, 1) := by decide +kernel
theorem dX1_yardsOf_1 : decode cX1_yardsOf 1 = .ok (.istore 4, 2) := by decide +kernel
theorem dX1_yardsOf_3 : decode cX1_yardsOf 3 = .ok (.iconst 0, 1) := by decide +kernel
theorem dX1_yardsOf_4 : decode cX1_yardsOf 4 = .ok (.istore 5, 2) := by decide +kernel
theorem dX1_yardsOf_6 : decode cX1_yardsOf 6 = .ok (.iload 5, 2) := by decide +kernel
theorem dX1_yardsOf_8 : decode cX1_yardsOf 8 = .ok (.aload_n 0, 1) := by decide +kernel
theorem dX1_yardsOf_9 : decode cX1_yardsOf 9 = .ok (.getfield 23, 3) := by decide +kernel
theorem dX1_yardsOf_12 : decode cX1_yardsOf 12 = .ok (.invokevirtual 102, 3) := by decide +kernel
theorem dX1_yardsOf_15 : decode cX1_yardsOf 15 = .ok (.if_icmp .ge 30, 3) := by decide +kernel
theorem dX1_yardsOf_18 : decode cX1_yardsOf 18 = .ok (.aload_n 0, 1) := by decide +kernel
theorem dX1_yardsOf_19 : decode cX1_yardsOf 19 = .ok (.iload 5, 2) := by decide +kernel
theorem dX1_yardsOf_21 : decode cX1_yardsOf 21 = .ok (.iload_n 2, 1) := by decide +kernel
theorem dX1_yardsOf_22 : decode cX1_yardsOf 22 = .ok (.iload_n 3, 1) := by decide +kernel
theorem dX1_yardsOf_23 : decode cX1_yardsOf 23 = .ok (.invokevirtual 134, 3) := by decide +kernel
theorem dX1_yardsOf_26 : decode cX1_yardsOf 26 = .ok (.iload_n 1, 1) := by decide +kernel
theorem dX1_yardsOf_27 : decode cX1_yardsOf 27 = .ok (.if_icmp .ne 12, 3) := by decide +kernel
theorem dX1_yardsOf_30 : decode cX1_yardsOf 30 = .ok (.iload 4, 2) := by decide +kernel
theorem dX1_yardsOf_32 : decode cX1_yardsOf 32 = .ok (.iconst 1, 1) := by decide +kernel
theorem dX1_yardsOf_33 : decode cX1_yardsOf 33 = .ok (.iload 5, 2) := by decide +kernel
theorem dX1_yardsOf_35 : decode cX1_yardsOf 35 = .ok (.ishl, 1) := by decide +kernel
theorem dX1_yardsOf_36 : decode cX1_yardsOf 36 = .ok (.ior, 1) := by decide +kernel
theorem dX1_yardsOf_37 : decode cX1_yardsOf 37 = .ok (.istore 4, 2) := by decide +kernel
theorem dX1_yardsOf_39 : decode cX1_yardsOf 39 = .ok (.iinc 5 1, 3) := by decide +kernel
theorem dX1_yardsOf_42 : decode cX1_yardsOf 42 = .ok (.goto (-36), 3) := by decide +kernel
theorem dX1_yardsOf_45 : decode cX1_yardsOf 45 = .ok (.iload 4, 2) := by decide +kernel
theorem dX1_yardsOf_47 : decode cX1_yardsOf 47 = .ok (.ireturn, 1) := by decide +kernel
theorem dX1_mouthOutAfter_0 : decode cX1_mouthOutAfter 0 = .ok (.iload_n 1, 1) := by decide +kernel
theorem dX1_mouthOutAfter_1 : decode cX1_mouthOutAfter 1 = .ok (.istore 4, 2) := by decide +kernel
theorem dX1_mouthOutAfter_3 : decode cX1_mouthOutAfter 3 = .ok (.iconst 0, 1) := by decide +kernel
theorem dX1_mouthOutAfter_4 : decode cX1_mouthOutAfter 4 = .ok (.istore 5, 2) := by decide +kernel
theorem dX1_mouthOutAfter_6 : decode cX1_mouthOutAfter 6 = .ok (.iconst 0, 1) := by decide +kernel
theorem dX1_mouthOutAfter_7 : decode cX1_mouthOutAfter 7 = .ok (.istore 6, 2) := by decide +kernel
theorem dX1_mouthOutAfter_9 : decode cX1_mouthOutAfter 9 = .ok (.iload 6, 2) := by decide +kernel
theorem dX1_mouthOutAfter_11 : decode cX1_mouthOutAfter 11 = .ok (.iload_n 3, 1) := by decide +kernel
theorem dX1_mouthOutAfter_12 : decode cX1_mouthOutAfter 12 = .ok (.if_icmp .ge 59, 3) := by decide +kernel
theorem dX1_mouthOutAfter_15 : decode cX1_mouthOutAfter 15 = .ok (.iload 5, 2) := by decide +kernel
theorem dX1_mouthOutAfter_17 : decode cX1_mouthOutAfter 17 = .ok (.iload_n 3, 1) := by decide +kernel
theorem dX1_mouthOutAfter_18 : decode cX1_mouthOutAfter 18 = .ok (.if_icmp .ge 53, 3) := by decide +kernel
theorem dX1_mouthOutAfter_21 : decode cX1_mouthOutAfter 21 = .ok (.iload_n 2, 1) := by decide +kernel
theorem dX1_mouthOutAfter_22 : decode cX1_mouthOutAfter 22 = .ok (.iload 5, 2) := by decide +kernel
theorem dX1_mouthOutAfter_24 : decode cX1_mouthOutAfter 24 = .ok (.aload_n 0, 1) := by decide +kernel
theorem dX1_mouthOutAfter_25 : decode cX1_mouthOutAfter 25 = .ok (.getfield 23, 3) := by decide +kernel
theorem dX1_mouthOutAfter_28 : decode cX1_mouthOutAfter 28 = .ok (.invokevirtual 49, 3) := by decide +kernel
theorem dX1_mouthOutAfter_31 : decode cX1_mouthOutAfter 31 = .ok (.invokestatic 54, 3) := by decide +kernel
theorem dX1_mouthOutAfter_34 : decode cX1_mouthOutAfter 34 = .ok (.istore 7, 2) := by decide +kernel
theorem dX1_mouthOutAfter_36 : decode cX1_mouthOutAfter 36 = .ok (.iload 5, 2) := by decide +kernel
theorem dX1_mouthOutAfter_38 : decode cX1_mouthOutAfter 38 = .ok (.aload_n 0, 1) := by decide +kernel
theorem dX1_mouthOutAfter_39 : decode cX1_mouthOutAfter 39 = .ok (.getfield 35, 3) := by decide +kernel
theorem dX1_mouthOutAfter_42 : decode cX1_mouthOutAfter 42 = .ok (.iload 4, 2) := by decide +kernel
theorem dX1_mouthOutAfter_44 : decode cX1_mouthOutAfter 44 = .ok (.iload 7, 2) := by decide +kernel
theorem dX1_mouthOutAfter_46 : decode cX1_mouthOutAfter 46 = .ok (.invokevirtual 123, 3) := by decide +kernel
theorem dX1_mouthOutAfter_49 : decode cX1_mouthOutAfter 49 = .ok (.iadd, 1) := by decide +kernel
theorem dX1_mouthOutAfter_50 : decode cX1_mouthOutAfter 50 = .ok (.istore 5, 2) := by decide +kernel
theorem dX1_mouthOutAfter_52 : decode cX1_mouthOutAfter 52 = .ok (.aload_n 0, 1) := by decide +kernel
theorem dX1_mouthOutAfter_53 : decode cX1_mouthOutAfter 53 = .ok (.getfield 35, 3) := by decide +kernel
theorem dX1_mouthOutAfter_56 : decode cX1_mouthOutAfter 56 = .ok (.iload 4, 2) := by decide +kernel
theorem dX1_mouthOutAfter_58 : decode cX1_mouthOutAfter 58 = .ok (.iload 7, 2) := by decide +kernel
theorem dX1_mouthOutAfter_60 : decode cX1_mouthOutAfter 60 = .ok (.invokevirtual 118, 3) := by decide +kernel
theorem dX1_mouthOutAfter_63 : decode cX1_mouthOutAfter 63 = .ok (.istore 4, 2) := by decide +kernel
theorem dX1_mouthOutAfter_65 : decode cX1_mouthOutAfter 65 = .ok (.iinc 6 1, 3) := by decide +kernel
theorem dX1_mouthOutAfter_68 : decode cX1_mouthOutAfter 68 = .ok (.goto (-59), 3) := by decide +kernel
theorem dX1_mouthOutAfter_71 : decode cX1_mouthOutAfter 71 = .ok (.iload 5, 2) := by decide +kernel
theorem dX1_mouthOutAfter_73 : decode cX1_mouthOutAfter 73 = .ok (.iload_n 3, 1) := by decide +kernel
theorem dX1_mouthOutAfter_74 : decode cX1_mouthOutAfter 74 = .ok (.if_icmp .ne 8, 3) := by decide +kernel
theorem dX1_mouthOutAfter_77 : decode cX1_mouthOutAfter 77 = .ok (.iload 4, 2) := by decide +kernel
theorem dX1_mouthOutAfter_79 : decode cX1_mouthOutAfter 79 = .ok (.goto 4, 3) := by decide +kernel
theorem dX1_mouthOutAfter_82 : decode cX1_mouthOutAfter 82 = .ok (.iconst (-1), 1) := by decide +kernel
theorem dX1_mouthOutAfter_83 : decode cX1_mouthOutAfter 83 = .ok (.ireturn, 1) := by decide +kernel
theorem dX2_init_0 : decode cX2_init 0 = .ok (.aload_n 0, 1) := by decide +kernel
theorem dX2_init_1 : decode cX2_init 1 = .ok (.invokespecial 1, 3) := by decide +kernel
theorem dX2_init_4 : decode cX2_init 4 = .ok (.aload_n 0, 1) := by decide +kernel
theorem dX2_init_5 : decode cX2_init 5 = .ok (.aload_n 1, 1) := by decide +kernel
theorem dX2_init_6 : decode cX2_init 6 = .ok (.putfield 7, 3) := by decide +kernel
theorem dX2_init_9 : decode cX2_init 9 = .ok (.aload_n 0, 1) := by decide +kernel
theorem dX2_init_10 : decode cX2_init 10 = .ok (.aload_n 2, 1) := by decide +kernel
theorem dX2_init_11 : decode cX2_init 11 = .ok (.putfield 13, 3) := by decide +kernel
theorem dX2_init_14 : decode cX2_init 14 = .ok (.return_, 1) := by decide +kernel
theorem dX2_firstFault_0 : decode cX2_firstFault 0 = .ok (.aload_n 0, 1) := by decide +kernel
theorem dX2_firstFault_1 : decode cX2_firstFault 1 = .ok (.getfield 7, 3) := by decide +kernel
theorem dX2_firstFault_4 : decode cX2_firstFault 4 = .ok (.invokevirtual 17, 3) := by decide +kernel
theorem dX2_firstFault_7 : decode cX2_firstFault 7 = .ok (.aload_n 0, 1) := by decide +kernel
theorem dX2_firstFault_8 : decode cX2_firstFault 8 = .ok (.getfield 13, 3) := by decide +kernel
theorem dX2_firstFault_11 : decode cX2_firstFault 11 = .ok (.invokevirtual 22, 3) := by decide +kernel
theorem dX2_firstFault_14 : decode cX2_firstFault 14 = .ok (.iconst 1, 1) := by decide +kernel
theorem dX2_firstFault_15 : decode cX2_firstFault 15 = .ok (.istore_n 1, 1) := by decide +kernel
theorem dX2_firstFault_16 : decode cX2_firstFault 16 = .ok (.iconst 0, 1) := by decide +kernel
theorem dX2_firstFault_17 : decode cX2_firstFault 17 = .ok (.istore_n 2, 1) := by decide +kernel
theorem dX2_firstFault_18 : decode cX2_firstFault 18 = .ok (.iload_n 2, 1) := by decide +kernel
theorem dX2_firstFault_19 : decode cX2_firstFault 19 = .ok (.sipush 240, 3) := by decide +kernel
theorem dX2_firstFault_22 : decode cX2_firstFault 22 = .ok (.if_icmp .gt 25, 3) := by decide +kernel
theorem dX2_firstFault_25 : decode cX2_firstFault 25 = .ok (.iload_n 1, 1) := by decide +kernel
theorem dX2_firstFault_26 : decode cX2_firstFault 26 = .ok (.ifCond .eq 21, 3) := by decide +kernel
theorem dX2_firstFault_29 : decode cX2_firstFault 29 = .ok (.aload_n 0, 1) := by decide +kernel
theorem dX2_firstFault_30 : decode cX2_firstFault 30 = .ok (.invokevirtual 27, 3) := by decide +kernel
theorem dX2_firstFault_33 : decode cX2_firstFault 33 = .ok (.aload_n 0, 1) := by decide +kernel
theorem dX2_firstFault_34 : decode cX2_firstFault 34 = .ok (.getfield 7, 3) := by decide +kernel
theorem dX2_firstFault_37 : decode cX2_firstFault 37 = .ok (.invokevirtual 30, 3) := by decide +kernel
theorem dX2_firstFault_40 : decode cX2_firstFault 40 = .ok (.istore_n 1, 1) := by decide +kernel
theorem dX2_firstFault_41 : decode cX2_firstFault 41 = .ok (.iinc 2 1, 3) := by decide +kernel
theorem dX2_firstFault_44 : decode cX2_firstFault 44 = .ok (.goto (-26), 3) := by decide +kernel
theorem dX2_firstFault_47 : decode cX2_firstFault 47 = .ok (.aload_n 0, 1) := by decide +kernel
theorem dX2_firstFault_48 : decode cX2_firstFault 48 = .ok (.getfield 7, 3) := by decide +kernel
theorem dX2_firstFault_51 : decode cX2_firstFault 51 = .ok (.invokevirtual 34, 3) := by decide +kernel
theorem dX2_firstFault_54 : decode cX2_firstFault 54 = .ok (.ireturn, 1) := by decide +kernel
theorem dX2_readClause_0 : decode cX2_readClause 0 = .ok (.aload_n 0, 1) := by decide +kernel
theorem dX2_readClause_1 : decode cX2_readClause 1 = .ok (.getfield 7, 3) := by decide +kernel
theorem dX2_readClause_4 : decode cX2_readClause 4 = .ok (.bipush 121, 2) := by decide +kernel
theorem dX2_readClause_6 : decode cX2_readClause 6 = .ok (.invokevirtual 38, 3) := by decide +kernel
theorem dX2_readClause_9 : decode cX2_readClause 9 = .ok (.aload_n 0, 1) := by decide +kernel
theorem dX2_readClause_10 : decode cX2_readClause 10 = .ok (.getfield 7, 3) := by decide +kernel
theorem dX2_readClause_13 : decode cX2_readClause 13 = .ok (.bipush 58, 2) := by decide +kernel
theorem dX2_readClause_15 : decode cX2_readClause 15 = .ok (.invokevirtual 38, 3) := by decide +kernel
theorem dX2_readClause_18 : decode cX2_readClause 18 = .ok (.aload_n 0, 1) := by decide +kernel
theorem dX2_readClause_19 : decode cX2_readClause 19 = .ok (.getfield 7, 3) := by decide +kernel
theorem dX2_readClause_22 : decode cX2_readClause 22 = .ok (.invokevirtual 42, 3) := by decide +kernel
theorem dX2_readClause_25 : decode cX2_readClause 25 = .ok (.istore_n 1, 1) := by decide +kernel
theorem dX2_readClause_26 : decode cX2_readClause 26 = .ok (.iload_n 1, 1) := by decide +kernel
theorem dX2_readClause_27 : decode cX2_readClause 27 = .ok (.bipush 33, 2) := by decide +kernel
theorem dX2_readClause_29 : decode cX2_readClause 29 = .ok (.if_icmp .eq 9, 3) := by decide +kernel
theorem dX2_readClause_32 : decode cX2_readClause 32 = .ok (.iload_n 1, 1) := by decide +kernel
theorem dX2_readClause_33 : decode cX2_readClause 33 = .ok (.bipush 40, 2) := by decide +kernel
theorem dX2_readClause_35 : decode cX2_readClause 35 = .ok (.if_icmp .ne 7, 3) := by decide +kernel
theorem dX2_readClause_38 : decode cX2_readClause 38 = .ok (.iconst 1, 1) := by decide +kernel
theorem dX2_readClause_39 : decode cX2_readClause 39 = .ok (.goto 4, 3) := by decide +kernel
theorem dX2_readClause_42 : decode cX2_readClause 42 = .ok (.iconst 0, 1) := by decide +kernel
theorem dX2_readClause_43 : decode cX2_readClause 43 = .ok (.istore_n 2, 1) := by decide +kernel
theorem dX2_readClause_44 : decode cX2_readClause 44 = .ok (.iload_n 2, 1) := by decide +kernel
theorem dX2_readClause_45 : decode cX2_readClause 45 = .ok (.ifCond .eq 11, 3) := by decide +kernel
theorem dX2_readClause_48 : decode cX2_readClause 48 = .ok (.aload_n 0, 1) := by decide +kernel
theorem dX2_readClause_49 : decode cX2_readClause 49 = .ok (.iconst 0, 1) := by decide +kernel
theorem dX2_readClause_50 : decode cX2_readClause 50 = .ok (.invokevirtual 45, 3) := by decide +kernel
theorem dX2_readClause_53 : decode cX2_readClause 53 = .ok (.goto 38, 3) := by decide +kernel
theorem dX2_readClause_56 : decode cX2_readClause 56 = .ok (.aload_n 0, 1) := by decide +kernel
theorem dX2_readClause_57 : decode cX2_readClause 57 = .ok (.iconst 0, 1) := by decide +kernel
theorem dX2_readClause_58 : decode cX2_readClause 58 = .ok (.invokevirtual 48, 3) := by decide +kernel
theorem dX2_readClause_61 : decode cX2_readClause 61 = .ok (.aload_n 0, 1) := by decide +kernel
theorem dX2_readClause_62 : decode cX2_readClause 62 = .ok (.getfield 7, 3) := by decide +kernel
theorem dX2_readClause_65 : decode cX2_readClause 65 = .ok (.invokevirtual 42, 3) := by decide +kernel
theorem dX2_readClause_68 : decode cX2_readClause 68 = .ok (.invokestatic 51, 3) := by decide +kernel
theorem dX2_readClause_71 : decode cX2_readClause 71 = .ok (.istore_n 2, 1) := by decide +kernel
theorem dX2_readClause_72 : decode cX2_readClause 72 = .ok (.iload_n 2, 1) := by decide +kernel
theorem dX2_readClause_73 : decode cX2_readClause 73 = .ok (.ifCond .eq 18, 3) := by decide +kernel
theorem dX2_readClause_76 : decode cX2_readClause 76 = .ok (.aload_n 0, 1) := by decide +kernel
theorem dX2_readClause_77 : decode cX2_readClause 77 = .ok (.iconst 0, 1) := by decide +kernel
theorem dX2_readClause_78 : decode cX2_readClause 78 = .ok (.invokevirtual 55, 3) := by decide +kernel
theorem dX2_readClause_81 : decode cX2_readClause 81 = .ok (.aload_n 0, 1) := by decide +kernel
theorem dX2_readClause_82 : decode cX2_readClause 82 = .ok (.iconst 0, 1) := by decide +kernel
theorem dX2_readClause_83 : decode cX2_readClause 83 = .ok (.invokevirtual 58, 3) := by decide +kernel
theorem dX2_readClause_86 : decode cX2_readClause 86 = .ok (.aload_n 0, 1) := by decide +kernel
theorem dX2_readClause_87 : decode cX2_readClause 87 = .ok (.iconst 0, 1) := by decide +kernel
theorem dX2_readClause_88 : decode cX2_readClause 88 = .ok (.invokevirtual 61, 3) := by decide +kernel
theorem dX2_readClause_91 : decode cX2_readClause 91 = .ok (.iload_n 2, 1) := by decide +kernel
theorem dX2_readClause_92 : decode cX2_readClause 92 = .ok (.ifCond .eq 26, 3) := by decide +kernel
theorem dX2_readClause_95 : decode cX2_readClause 95 = .ok (.aload_n 0, 1) := by decide +kernel
theorem dX2_readClause_96 : decode cX2_readClause 96 = .ok (.getfield 7, 3) := by decide +kernel
theorem dX2_readClause_99 : decode cX2_readClause 99 = .ok (.bipush 63, 2) := by decide +kernel
theorem dX2_readClause_101 : decode cX2_readClause 101 = .ok (.invokevirtual 38, 3) := by decide +kernel
theorem dX2_readClause_104 : decode cX2_readClause 104 = .ok (.aload_n 0, 1) := by decide +kernel
theorem dX2_readClause_105 : decode cX2_readClause 105 = .ok (.getfield 13, 3) := by decide +kernel
theorem dX2_readClause_108 : decode cX2_readClause 108 = .ok (.bipush (-63), 2) := by decide +kernel
theorem dX2_readClause_110 : decode cX2_readClause 110 = .ok (.invokevirtual 64, 3) := by decide +kernel
theorem dX2_readClause_113 : decode cX2_readClause 113 = .ok (.aload_n 0, 1) := by decide +kernel
theorem dX2_readClause_114 : decode cX2_readClause 114 = .ok (.iconst 0, 1) := by decide +kernel
theorem dX2_readClause_115 : decode cX2_readClause 115 = .ok (.invokevirtual 48, 3) := by decide +kernel
theorem dX2_readClause_118 : decode cX2_readClause 118 = .ok (.aload_n 0, 1) := by decide +kernel
theorem dX2_readClause_119 : decode cX2_readClause 119 = .ok (.getfield 13, 3) := by decide +kernel
theorem dX2_readClause_122 : decode cX2_readClause 122 = .ok (.bipush (-59), 2) := by decide +kernel
theorem dX2_readClause_124 : decode cX2_readClause 124 = .ok (.invokevirtual 64, 3) := by decide +kernel
theorem dX2_readClause_127 : decode cX2_readClause 127 = .ok (.return_, 1) := by decide +kernel
theorem dX2_isComparing_0 : decode cX2_isComparing 0 = .ok (.iload_n 0, 1) := by decide +kernel
theorem dX2_isComparing_1 : decode cX2_isComparing 1 = .ok (.bipush 61, 2) := by decide +kernel
theorem dX2_isComparing_3 : decode cX2_isComparing 3 = .ok (.if_icmp .eq 15, 3) := by decide +kernel
theorem dX2_isComparing_6 : decode cX2_isComparing 6 = .ok (.iload_n 0, 1) := by decide +kernel
theorem dX2_isComparing_7 : decode cX2_isComparing 7 = .ok (.bipush 60, 2) := by decide +kernel
theorem dX2_isComparing_9 : decode cX2_isComparing 9 = .ok (.if_icmp .eq 9, 3) := by decide +kernel
theorem dX2_isComparing_12 : decode cX2_isComparing 12 = .ok (.iload_n 0, 1) := by decide +kernel
theorem dX2_isComparing_13 : decode cX2_isComparing 13 = .ok (.bipush 62, 2) := by decide +kernel
theorem dX2_isComparing_15 : decode cX2_isComparing 15 = .ok (.if_icmp .ne 7, 3) := by decide +kernel
theorem dX2_isComparing_18 : decode cX2_isComparing 18 = .ok (.iconst 1, 1) := by decide +kernel
theorem dX2_isComparing_19 : decode cX2_isComparing 19 = .ok (.goto 4, 3) := by decide +kernel
theorem dX2_isComparing_22 : decode cX2_isComparing 22 = .ok (.iconst 0, 1) := by decide +kernel
theorem dX2_isComparing_23 : decode cX2_isComparing 23 = .ok (.ireturn, 1) := by decide +kernel
theorem dX2_opens_0 : decode cX2_opens 0 = .ok (.iload_n 2, 1) := by decide +kernel
theorem dX2_opens_1 : decode cX2_opens 1 = .ok (.bipush 6, 2) := by decide +kernel
theorem dX2_opens_3 : decode cX2_opens 3 = .ok (.if_icmp .lt 12, 3) := by decide +kernel
theorem dX2_opens_6 : decode cX2_opens 6 = .ok (.aload_n 0, 1) := by decide +kernel
theorem dX2_opens_7 : decode cX2_opens 7 = .ok (.getfield 7, 3) := by decide +kernel
theorem dX2_opens_10 : decode cX2_opens 10 = .ok (.invokevirtual 67, 3) := by decide +kernel
theorem dX2_opens_13 : decode cX2_opens 13 = .ok (.iconst 0, 1) := by decide +kernel
theorem dX2_opens_14 : decode cX2_opens 14 = .ok (.ireturn, 1) := by decide +kernel
theorem dX2_opens_15 : decode cX2_opens 15 = .ok (.aload_n 0, 1) := by decide +kernel
theorem dX2_opens_16 : decode cX2_opens 16 = .ok (.getfield 7, 3) := by decide +kernel
theorem dX2_opens_19 : decode cX2_opens 19 = .ok (.iload_n 1, 1) := by decide +kernel
theorem dX2_opens_20 : decode cX2_opens 20 = .ok (.invokevirtual 70, 3) := by decide +kernel
theorem dX2_opens_23 : decode cX2_opens 23 = .ok (.ireturn, 1) := by decide +kernel
theorem dX2_readCondition_0 : decode cX2_readCondition 0 = .ok (.aload_n 0, 1) := by decide +kernel
theorem dX2_readCondition_1 : decode cX2_readCondition 1 = .ok (.iload_n 1, 1) := by decide +kernel
theorem dX2_readCondition_2 : decode cX2_readCondition 2 = .ok (.invokevirtual 73, 3) := by decide +kernel
theorem dX2_readCondition_5 : decode cX2_readCondition 5 = .ok (.aload_n 0, 1) := by decide +kernel
theorem dX2_readCondition_6 : decode cX2_readCondition 6 = .ok (.iload_n 1, 1) := by decide +kernel
theorem dX2_readCondition_7 : decode cX2_readCondition 7 = .ok (.invokevirtual 58, 3) := by decide +kernel
theorem dX2_readCondition_10 : decode cX2_readCondition 10 = .ok (.aload_n 0, 1) := by decide +kernel
theorem dX2_readCondition_11 : decode cX2_readCondition 11 = .ok (.iload_n 1, 1) := by decide +kernel
theorem dX2_readCondition_12 : decode cX2_readCondition 12 = .ok (.invokevirtual 61, 3) := by decide +kernel
theorem dX2_readCondition_15 : decode cX2_readCondition 15 = .ok (.return_, 1) := by decide +kernel
theorem dX2_readMoreTruths_0 : decode cX2_readMoreTruths 0 = .ok (.iconst 0, 1) := by decide +kernel
theorem dX2_readMoreTruths_1 : decode cX2_readMoreTruths 1 = .ok (.istore_n 2, 1) := by decide +kernel
theorem dX2_readMoreTruths_2 : decode cX2_readMoreTruths 2 = .ok (.iload_n 2, 1) := by decide +kernel
theorem dX2_readMoreTruths_3 : decode cX2_readMoreTruths 3 = .ok (.sipush 240, 3) := by decide +kernel
theorem dX2_readMoreTruths_6 : decode cX2_readMoreTruths 6 = .ok (.if_icmp .ge 40, 3) := by decide +kernel
theorem dX2_readMoreTruths_9 : decode cX2_readMoreTruths 9 = .ok (.aload_n 0, 1) := by decide +kernel
theorem dX2_readMoreTruths_10 : decode cX2_readMoreTruths 10 = .ok (.getfield 7, 3) := by decide +kernel
theorem dX2_readMoreTruths_13 : decode cX2_readMoreTruths 13 = .ok (.bipush 124, 2) := by decide +kernel
theorem dX2_readMoreTruths_15 : decode cX2_readMoreTruths 15 = .ok (.invokevirtual 70, 3) := by decide +kernel
theorem dX2_readMoreTruths_18 : decode cX2_readMoreTruths 18 = .ok (.ifCond .eq 28, 3) := by decide +kernel
theorem dX2_readMoreTruths_21 : decode cX2_readMoreTruths 21 = .ok (.aload_n 0, 1) := by decide +kernel
theorem dX2_readMoreTruths_22 : decode cX2_readMoreTruths 22 = .ok (.iload_n 1, 1) := by decide +kernel
theorem dX2_readMoreTruths_23 : decode cX2_readMoreTruths 23 = .ok (.invokevirtual 73, 3) := by decide +kernel
theorem dX2_readMoreTruths_26 : decode cX2_readMoreTruths 26 = .ok (.aload_n 0, 1) := by decide +kernel
theorem dX2_readMoreTruths_27 : decode cX2_readMoreTruths 27 = .ok (.iload_n 1, 1) := by decide +kernel
theorem dX2_readMoreTruths_28 : decode cX2_readMoreTruths 28 = .ok (.invokevirtual 58, 3) := by decide +kernel
theorem dX2_readMoreTruths_31 : decode cX2_readMoreTruths 31 = .ok (.aload_n 0, 1) := by decide +kernel
theorem dX2_readMoreTruths_32 : decode cX2_readMoreTruths 32 = .ok (.getfield 13, 3) := by decide +kernel
theorem dX2_readMoreTruths_35 : decode cX2_readMoreTruths 35 = .ok (.bipush (-124), 2) := by decide +kernel
theorem dX2_readMoreTruths_37 : decode cX2_readMoreTruths 37 = .ok (.invokevirtual 64, 3) := by decide +kernel
theorem dX2_readMoreTruths_40 : decode cX2_readMoreTruths 40 = .ok (.iinc 2 1, 3) := by decide +kernel
theorem dX2_readMoreTruths_43 : decode cX2_readMoreTruths 43 = .ok (.goto (-41), 3) := by decide +kernel
theorem dX2_readMoreTruths_46 : decode cX2_readMoreTruths 46 = .ok (.return_, 1) := by decide +kernel
theorem dX2_readMoreUnits_0 : decode cX2_readMoreUnits 0 = .ok (.iconst 0, 1) := by decide +kernel
theorem dX2_readMoreUnits_1 : decode cX2_readMoreUnits 1 = .ok (.istore_n 2, 1) := by decide +kernel
theorem dX2_readMoreUnits_2 : decode cX2_readMoreUnits 2 = .ok (.iload_n 2, 1) := by decide +kernel
theorem dX2_readMoreUnits_3 : decode cX2_readMoreUnits 3 = .ok (.sipush 240, 3) := by decide +kernel
theorem dX2_readMoreUnits_6 : decode cX2_readMoreUnits 6 = .ok (.if_icmp .ge 35, 3) := by decide +kernel
theorem dX2_readMoreUnits_9 : decode cX2_readMoreUnits 9 = .ok (.aload_n 0, 1) := by decide +kernel
theorem dX2_readMoreUnits_10 : decode cX2_readMoreUnits 10 = .ok (.getfield 7, 3) := by decide +kernel
theorem dX2_readMoreUnits_13 : decode cX2_readMoreUnits 13 = .ok (.bipush 38, 2) := by decide +kernel
theorem dX2_readMoreUnits_15 : decode cX2_readMoreUnits 15 = .ok (.invokevirtual 70, 3) := by decide +kernel
theorem dX2_readMoreUnits_18 : decode cX2_readMoreUnits 18 = .ok (.ifCond .eq 23, 3) := by decide +kernel
theorem dX2_readMoreUnits_21 : decode cX2_readMoreUnits 21 = .ok (.aload_n 0, 1) := by decide +kernel
theorem dX2_readMoreUnits_22 : decode cX2_readMoreUnits 22 = .ok (.iload_n 1, 1) := by decide +kernel
theorem dX2_readMoreUnits_23 : decode cX2_readMoreUnits 23 = .ok (.invokevirtual 73, 3) := by decide +kernel
theorem dX2_readMoreUnits_26 : decode cX2_readMoreUnits 26 = .ok (.aload_n 0, 1) := by decide +kernel
theorem dX2_readMoreUnits_27 : decode cX2_readMoreUnits 27 = .ok (.getfield 13, 3) := by decide +kernel
theorem dX2_readMoreUnits_30 : decode cX2_readMoreUnits 30 = .ok (.bipush (-38), 2) := by decide +kernel
theorem dX2_readMoreUnits_32 : decode cX2_readMoreUnits 32 = .ok (.invokevirtual 64, 3) := by decide +kernel
theorem dX2_readMoreUnits_35 : decode cX2_readMoreUnits 35 = .ok (.iinc 2 1, 3) := by decide +kernel
theorem dX2_readMoreUnits_38 : decode cX2_readMoreUnits 38 = .ok (.goto (-36), 3) := by decide +kernel
theorem dX2_readMoreUnits_41 : decode cX2_readMoreUnits 41 = .ok (.return_, 1) := by decide +kernel
theorem dX2_readUnit_0 : decode cX2_readUnit 0 = .ok (.aload_n 0, 1) := by decide +kernel
theorem dX2_readUnit_1 : decode cX2_readUnit 1 = .ok (.getfield 7, 3) := by decide +kernel
theorem dX2_readUnit_4 : decode cX2_readUnit 4 = .ok (.invokevirtual 42, 3) := by decide +kernel
theorem dX2_readUnit_7 : decode cX2_readUnit 7 = .ok (.istore_n 2, 1) := by decide +kernel
theorem dX2_readUnit_8 : decode cX2_readUnit 8 = .ok (.iload_n 2, 1) := by decide +kernel
theorem dX2_readUnit_9 : decode cX2_readUnit 9 = .ok (.bipush 33, 2) := by decide +kernel
theorem dX2_readUnit_11 : decode cX2_readUnit 11 = .ok (.if_icmp .ne 31, 3) := by decide +kernel
theorem dX2_readUnit_14 : decode cX2_readUnit 14 = .ok (.aload_n 0, 1) := by decide +kernel
theorem dX2_readUnit_15 : decode cX2_readUnit 15 = .ok (.iload_n 2, 1) := by decide +kernel
theorem dX2_readUnit_16 : decode cX2_readUnit 16 = .ok (.iload_n 1, 1) := by decide +kernel
theorem dX2_readUnit_17 : decode cX2_readUnit 17 = .ok (.invokevirtual 76, 3) := by decide +kernel
theorem dX2_readUnit_20 : decode cX2_readUnit 20 = .ok (.ifCond .eq 66, 3) := by decide +kernel
theorem dX2_readUnit_23 : decode cX2_readUnit 23 = .ok (.aload_n 0, 1) := by decide +kernel
theorem dX2_readUnit_24 : decode cX2_readUnit 24 = .ok (.iload_n 1, 1) := by decide +kernel
theorem dX2_readUnit_25 : decode cX2_readUnit 25 = .ok (.iconst 1, 1) := by decide +kernel
theorem dX2_readUnit_26 : decode cX2_readUnit 26 = .ok (.iadd, 1) := by decide +kernel
theorem dX2_readUnit_27 : decode cX2_readUnit 27 = .ok (.invokevirtual 73, 3) := by decide +kernel
theorem dX2_readUnit_30 : decode cX2_readUnit 30 = .ok (.aload_n 0, 1) := by decide +kernel
theorem dX2_readUnit_31 : decode cX2_readUnit 31 = .ok (.getfield 13, 3) := by decide +kernel
theorem dX2_readUnit_34 : decode cX2_readUnit 34 = .ok (.bipush (-33), 2) := by decide +kernel
theorem dX2_readUnit_36 : decode cX2_readUnit 36 = .ok (.invokevirtual 64, 3) := by decide +kernel
theorem dX2_readUnit_39 : decode cX2_readUnit 39 = .ok (.goto 47, 3) := by decide +kernel
theorem dX2_readUnit_42 : decode cX2_readUnit 42 = .ok (.iload_n 2, 1) := by decide +kernel
theorem dX2_readUnit_43 : decode cX2_readUnit 43 = .ok (.bipush 40, 2) := by decide +kernel
theorem dX2_readUnit_45 : decode cX2_readUnit 45 = .ok (.if_icmp .ne 31, 3) := by decide +kernel
theorem dX2_readUnit_48 : decode cX2_readUnit 48 = .ok (.aload_n 0, 1) := by decide +kernel
theorem dX2_readUnit_49 : decode cX2_readUnit 49 = .ok (.iload_n 2, 1) := by decide +kernel
theorem dX2_readUnit_50 : decode cX2_readUnit 50 = .ok (.iload_n 1, 1) := by decide +kernel
theorem dX2_readUnit_51 : decode cX2_readUnit 51 = .ok (.invokevirtual 76, 3) := by decide +kernel
theorem dX2_readUnit_54 : decode cX2_readUnit 54 = .ok (.ifCond .eq 32, 3) := by decide +kernel
theorem dX2_readUnit_57 : decode cX2_readUnit 57 = .ok (.aload_n 0, 1) := by decide +kernel
theorem dX2_readUnit_58 : decode cX2_readUnit 58 = .ok (.iload_n 1, 1) := by decide +kernel
theorem dX2_readUnit_59 : decode cX2_readUnit 59 = .ok (.iconst 1, 1) := by decide +kernel
theorem dX2_readUnit_60 : decode cX2_readUnit 60 = .ok (.iadd, 1) := by decide +kernel
theorem dX2_readUnit_61 : decode cX2_readUnit 61 = .ok (.invokevirtual 45, 3) := by decide +kernel
theorem dX2_readUnit_64 : decode cX2_readUnit 64 = .ok (.aload_n 0, 1) := by decide +kernel
theorem dX2_readUnit_65 : decode cX2_readUnit 65 = .ok (.getfield 7, 3) := by decide +kernel
theorem dX2_readUnit_68 : decode cX2_readUnit 68 = .ok (.bipush 41, 2) := by decide +kernel
theorem dX2_readUnit_70 : decode cX2_readUnit 70 = .ok (.invokevirtual 38, 3) := by decide +kernel
theorem dX2_readUnit_73 : decode cX2_readUnit 73 = .ok (.goto 13, 3) := by decide +kernel
theorem dX2_readUnit_76 : decode cX2_readUnit 76 = .ok (.aload_n 0, 1) := by decide +kernel
theorem dX2_readUnit_77 : decode cX2_readUnit 77 = .ok (.iload_n 1, 1) := by decide +kernel
theorem dX2_readUnit_78 : decode cX2_readUnit 78 = .ok (.invokevirtual 48, 3) := by decide +kernel
theorem dX2_readUnit_81 : decode cX2_readUnit 81 = .ok (.aload_n 0, 1) := by decide +kernel
theorem dX2_readUnit_82 : decode cX2_readUnit 82 = .ok (.iload_n 1, 1) := by decide +kernel
theorem dX2_readUnit_83 : decode cX2_readUnit 83 = .ok (.invokevirtual 55, 3) := by decide +kernel
theorem dX2_readUnit_86 : decode cX2_readUnit 86 = .ok (.return_, 1) := by decide +kernel
theorem dX2_readComparison_0 : decode cX2_readComparison 0 = .ok (.aload_n 0, 1) := by decide +kernel
theorem dX2_readComparison_1 : decode cX2_readComparison 1 = .ok (.getfield 7, 3) := by decide +kernel
theorem dX2_readComparison_4 : decode cX2_readComparison 4 = .ok (.invokevirtual 42, 3) := by decide +kernel
theorem dX2_readComparison_7 : decode cX2_readComparison 7 = .ok (.istore_n 2, 1) := by decide +kernel
theorem dX2_readComparison_8 : decode cX2_readComparison 8 = .ok (.iload_n 2, 1) := by decide +kernel
theorem dX2_readComparison_9 : decode cX2_readComparison 9 = .ok (.invokestatic 51, 3) := by decide +kernel
theorem dX2_readComparison_12 : decode cX2_readComparison 12 = .ok (.ifCond .ne 11, 3) := by decide +kernel
theorem dX2_readComparison_15 : decode cX2_readComparison 15 = .ok (.aload_n 0, 1) := by decide +kernel
theorem dX2_readComparison_16 : decode cX2_readComparison 16 = .ok (.getfield 7, 3) := by decide +kernel
theorem dX2_readComparison_19 : decode cX2_readComparison 19 = .ok (.invokevirtual 67, 3) := by decide +kernel
theorem dX2_readComparison_22 : decode cX2_readComparison 22 = .ok (.return_, 1) := by decide +kernel
theorem dX2_readComparison_23 : decode cX2_readComparison 23 = .ok (.aload_n 0, 1) := by decide +kernel
theorem dX2_readComparison_24 : decode cX2_readComparison 24 = .ok (.getfield 7, 3) := by decide +kernel
theorem dX2_readComparison_27 : decode cX2_readComparison 27 = .ok (.iload_n 2, 1) := by decide +kernel
theorem dX2_readComparison_28 : decode cX2_readComparison 28 = .ok (.invokevirtual 70, 3) := by decide +kernel
theorem dX2_readComparison_31 : decode cX2_readComparison 31 = .ok (.pop, 1) := by decide +kernel
theorem dX2_readComparison_32 : decode cX2_readComparison 32 = .ok (.aload_n 0, 1) := by decide +kernel
theorem dX2_readComparison_33 : decode cX2_readComparison 33 = .ok (.iload_n 1, 1) := by decide +kernel
theorem dX2_readComparison_34 : decode cX2_readComparison 34 = .ok (.invokevirtual 48, 3) := by decide +kernel
theorem dX2_readComparison_37 : decode cX2_readComparison 37 = .ok (.aload_n 0, 1) := by decide +kernel
theorem dX2_readComparison_38 : decode cX2_readComparison 38 = .ok (.getfield 13, 3) := by decide +kernel
theorem dX2_readComparison_41 : decode cX2_readComparison 41 = .ok (.iload_n 2, 1) := by decide +kernel
theorem dX2_readComparison_42 : decode cX2_readComparison 42 = .ok (.ineg, 1) := by decide +kernel
theorem dX2_readComparison_43 : decode cX2_readComparison 43 = .ok (.invokevirtual 64, 3) := by decide +kernel
theorem dX2_readComparison_46 : decode cX2_readComparison 46 = .ok (.return_, 1) := by decide +kernel
theorem dX2_readSum_0 : decode cX2_readSum 0 = .ok (.aload_n 0, 1) := by decide +kernel
theorem dX2_readSum_1 : decode cX2_readSum 1 = .ok (.iload_n 1, 1) := by decide +kernel
theorem dX2_readSum_2 : decode cX2_readSum 2 = .ok (.invokevirtual 80, 3) := by decide +kernel
theorem dX2_readSum_5 : decode cX2_readSum 5 = .ok (.iconst 0, 1) := by decide +kernel
theorem dX2_readSum_6 : decode cX2_readSum 6 = .ok (.istore_n 2, 1) := by decide +kernel
theorem dX2_readSum_7 : decode cX2_readSum 7 = .ok (.iload_n 2, 1) := by decide +kernel
theorem dX2_readSum_8 : decode cX2_readSum 8 = .ok (.sipush 240, 3) := by decide +kernel
theorem dX2_readSum_11 : decode cX2_readSum 11 = .ok (.if_icmp .ge 53, 3) := by decide +kernel
theorem dX2_readSum_14 : decode cX2_readSum 14 = .ok (.aload_n 0, 1) := by decide +kernel
theorem dX2_readSum_15 : decode cX2_readSum 15 = .ok (.getfield 7, 3) := by decide +kernel
theorem dX2_readSum_18 : decode cX2_readSum 18 = .ok (.invokevirtual 42, 3) := by decide +kernel
theorem dX2_readSum_21 : decode cX2_readSum 21 = .ok (.istore_n 3, 1) := by decide +kernel
theorem dX2_readSum_22 : decode cX2_readSum 22 = .ok (.iload_n 3, 1) := by decide +kernel
theorem dX2_readSum_23 : decode cX2_readSum 23 = .ok (.bipush 43, 2) := by decide +kernel
theorem dX2_readSum_25 : decode cX2_readSum 25 = .ok (.if_icmp .eq 10, 3) := by decide +kernel
theorem dX2_readSum_28 : decode cX2_readSum 28 = .ok (.iload_n 3, 1) := by decide +kernel
theorem dX2_readSum_29 : decode cX2_readSum 29 = .ok (.bipush 45, 2) := by decide +kernel
theorem dX2_readSum_31 : decode cX2_readSum 31 = .ok (.if_icmp .eq 4, 3) := by decide +kernel
theorem dX2_readSum_34 : decode cX2_readSum 34 = .ok (.return_, 1) := by decide +kernel
theorem dX2_readSum_35 : decode cX2_readSum 35 = .ok (.aload_n 0, 1) := by decide +kernel
theorem dX2_readSum_36 : decode cX2_readSum 36 = .ok (.getfield 7, 3) := by decide +kernel
theorem dX2_readSum_39 : decode cX2_readSum 39 = .ok (.iload_n 3, 1) := by decide +kernel
theorem dX2_readSum_40 : decode cX2_readSum 40 = .ok (.invokevirtual 70, 3) := by decide +kernel
theorem dX2_readSum_43 : decode cX2_readSum 43 = .ok (.pop, 1) := by decide +kernel
theorem dX2_readSum_44 : decode cX2_readSum 44 = .ok (.aload_n 0, 1) := by decide +kernel
theorem dX2_readSum_45 : decode cX2_readSum 45 = .ok (.iload_n 1, 1) := by decide +kernel
theorem dX2_readSum_46 : decode cX2_readSum 46 = .ok (.invokevirtual 80, 3) := by decide +kernel
theorem dX2_readSum_49 : decode cX2_readSum 49 = .ok (.aload_n 0, 1) := by decide +kernel
theorem dX2_readSum_50 : decode cX2_readSum 50 = .ok (.getfield 13, 3) := by decide +kernel
theorem dX2_readSum_53 : decode cX2_readSum 53 = .ok (.iload_n 3, 1) := by decide +kernel
theorem dX2_readSum_54 : decode cX2_readSum 54 = .ok (.ineg, 1) := by decide +kernel
theorem dX2_readSum_55 : decode cX2_readSum 55 = .ok (.invokevirtual 64, 3) := by decide +kernel
theorem dX2_readSum_58 : decode cX2_readSum 58 = .ok (.iinc 2 1, 3) := by decide +kernel
theorem dX2_readSum_61 : decode cX2_readSum 61 = .ok (.goto (-54), 3) := by decide +kernel
theorem dX2_readSum_64 : decode cX2_readSum 64 = .ok (.return_, 1) := by decide +kernel
theorem dX2_readTerm_0 : decode cX2_readTerm 0 = .ok (.aload_n 0, 1) := by decide +kernel
theorem dX2_readTerm_1 : decode cX2_readTerm 1 = .ok (.iload_n 1, 1) := by decide +kernel
theorem dX2_readTerm_2 : decode cX2_readTerm 2 = .ok (.invokevirtual 83, 3) := by decide +kernel
theorem dX2_readTerm_5 : decode cX2_readTerm 5 = .ok (.iconst 0, 1) := by decide +kernel
theorem dX2_readTerm_6 : decode cX2_readTerm 6 = .ok (.istore_n 2, 1) := by decide +kernel
theorem dX2_readTerm_7 : decode cX2_readTerm 7 = .ok (.iload_n 2, 1) := by decide +kernel
theorem dX2_readTerm_8 : decode cX2_readTerm 8 = .ok (.sipush 240, 3) := by decide +kernel
theorem dX2_readTerm_11 : decode cX2_readTerm 11 = .ok (.if_icmp .ge 53, 3) := by decide +kernel
theorem dX2_readTerm_14 : decode cX2_readTerm 14 = .ok (.aload_n 0, 1) := by decide +kernel
theorem dX2_readTerm_15 : decode cX2_readTerm 15 = .ok (.getfield 7, 3) := by decide +kernel
theorem dX2_readTerm_18 : decode cX2_readTerm 18 = .ok (.invokevirtual 42, 3) := by decide +kernel
theorem dX2_readTerm_21 : decode cX2_readTerm 21 = .ok (.istore_n 3, 1) := by decide +kernel
theorem dX2_readTerm_22 : decode cX2_readTerm 22 = .ok (.iload_n 3, 1) := by decide +kernel
theorem dX2_readTerm_23 : decode cX2_readTerm 23 = .ok (.bipush 42, 2) := by decide +kernel
theorem dX2_readTerm_25 : decode cX2_readTerm 25 = .ok (.if_icmp .eq 10, 3) := by decide +kernel
theorem dX2_readTerm_28 : decode cX2_readTerm 28 = .ok (.iload_n 3, 1) := by decide +kernel
theorem dX2_readTerm_29 : decode cX2_readTerm 29 = .ok (.bipush 47, 2) := by decide +kernel
theorem dX2_readTerm_31 : decode cX2_readTerm 31 = .ok (.if_icmp .eq 4, 3) := by decide +kernel
theorem dX2_readTerm_34 : decode cX2_readTerm 34 = .ok (.return_, 1) := by decide +kernel
theorem dX2_readTerm_35 : decode cX2_readTerm 35 = .ok (.aload_n 0, 1) := by decide +kernel
theorem dX2_readTerm_36 : decode cX2_readTerm 36 = .ok (.getfield 7, 3) := by decide +kernel
theorem dX2_readTerm_39 : decode cX2_readTerm 39 = .ok (.iload_n 3, 1) := by decide +kernel
theorem dX2_readTerm_40 : decode cX2_readTerm 40 = .ok (.invokevirtual 70, 3) := by decide +kernel
theorem dX2_readTerm_43 : decode cX2_readTerm 43 = .ok (.pop, 1) := by decide +kernel
theorem dX2_readTerm_44 : decode cX2_readTerm 44 = .ok (.aload_n 0, 1) := by decide +kernel
theorem dX2_readTerm_45 : decode cX2_readTerm 45 = .ok (.iload_n 1, 1) := by decide +kernel
theorem dX2_readTerm_46 : decode cX2_readTerm 46 = .ok (.invokevirtual 83, 3) := by decide +kernel
theorem dX2_readTerm_49 : decode cX2_readTerm 49 = .ok (.aload_n 0, 1) := by decide +kernel
theorem dX2_readTerm_50 : decode cX2_readTerm 50 = .ok (.getfield 13, 3) := by decide +kernel
theorem dX2_readTerm_53 : decode cX2_readTerm 53 = .ok (.iload_n 3, 1) := by decide +kernel
theorem dX2_readTerm_54 : decode cX2_readTerm 54 = .ok (.ineg, 1) := by decide +kernel
theorem dX2_readTerm_55 : decode cX2_readTerm 55 = .ok (.invokevirtual 64, 3) := by decide +kernel
theorem dX2_readTerm_58 : decode cX2_readTerm 58 = .ok (.iinc 2 1, 3) := by decide +kernel
theorem dX2_readTerm_61 : decode cX2_readTerm 61 = .ok (.goto (-54), 3) := by decide +kernel
theorem dX2_readTerm_64 : decode cX2_readTerm 64 = .ok (.return_, 1) := by decide +kernel
theorem dX2_readAtom_0 : decode cX2_readAtom 0 = .ok (.aload_n 0, 1) := by decide +kernel
theorem dX2_readAtom_1 : decode cX2_readAtom 1 = .ok (.getfield 7, 3) := by decide +kernel
theorem dX2_readAtom_4 : decode cX2_readAtom 4 = .ok (.invokevirtual 42, 3) := by decide +kernel
theorem dX2_readAtom_7 : decode cX2_readAtom 7 = .ok (.istore_n 2, 1) := by decide +kernel
theorem dX2_readAtom_8 : decode cX2_readAtom 8 = .ok (.iload_n 2, 1) := by decide +kernel
theorem dX2_readAtom_9 : decode cX2_readAtom 9 = .ok (.bipush 91, 2) := by decide +kernel
theorem dX2_readAtom_11 : decode cX2_readAtom 11 = .ok (.if_icmp .ne 31, 3) := by decide +kernel
theorem dX2_readAtom_14 : decode cX2_readAtom 14 = .ok (.aload_n 0, 1) := by decide +kernel
theorem dX2_readAtom_15 : decode cX2_readAtom 15 = .ok (.iload_n 2, 1) := by decide +kernel
theorem dX2_readAtom_16 : decode cX2_readAtom 16 = .ok (.iload_n 1, 1) := by decide +kernel
theorem dX2_readAtom_17 : decode cX2_readAtom 17 = .ok (.invokevirtual 76, 3) := by decide +kernel
theorem dX2_readAtom_20 : decode cX2_readAtom 20 = .ok (.ifCond .eq 65, 3) := by decide +kernel
theorem dX2_readAtom_23 : decode cX2_readAtom 23 = .ok (.aload_n 0, 1) := by decide +kernel
theorem dX2_readAtom_24 : decode cX2_readAtom 24 = .ok (.iload_n 1, 1) := by decide +kernel
theorem dX2_readAtom_25 : decode cX2_readAtom 25 = .ok (.iconst 1, 1) := by decide +kernel
theorem dX2_readAtom_26 : decode cX2_readAtom 26 = .ok (.iadd, 1) := by decide +kernel
theorem dX2_readAtom_27 : decode cX2_readAtom 27 = .ok (.invokevirtual 48, 3) := by decide +kernel
theorem dX2_readAtom_30 : decode cX2_readAtom 30 = .ok (.aload_n 0, 1) := by decide +kernel
theorem dX2_readAtom_31 : decode cX2_readAtom 31 = .ok (.getfield 7, 3) := by decide +kernel
theorem dX2_readAtom_34 : decode cX2_readAtom 34 = .ok (.bipush 93, 2) := by decide +kernel
theorem dX2_readAtom_36 : decode cX2_readAtom 36 = .ok (.invokevirtual 38, 3) := by decide +kernel
theorem dX2_readAtom_39 : decode cX2_readAtom 39 = .ok (.goto 46, 3) := by decide +kernel
theorem dX2_readAtom_42 : decode cX2_readAtom 42 = .ok (.iload_n 2, 1) := by decide +kernel
theorem dX2_readAtom_43 : decode cX2_readAtom 43 = .ok (.invokestatic 86, 3) := by decide +kernel
theorem dX2_readAtom_46 : decode cX2_readAtom 46 = .ok (.ifCond .eq 24, 3) := by decide +kernel
theorem dX2_readAtom_49 : decode cX2_readAtom 49 = .ok (.aload_n 0, 1) := by decide +kernel
theorem dX2_readAtom_50 : decode cX2_readAtom 50 = .ok (.getfield 7, 3) := by decide +kernel
theorem dX2_readAtom_53 : decode cX2_readAtom 53 = .ok (.iload_n 2, 1) := by decide +kernel
theorem dX2_readAtom_54 : decode cX2_readAtom 54 = .ok (.invokevirtual 70, 3) := by decide +kernel
theorem dX2_readAtom_57 : decode cX2_readAtom 57 = .ok (.pop, 1) := by decide +kernel
theorem dX2_readAtom_58 : decode cX2_readAtom 58 = .ok (.aload_n 0, 1) := by decide +kernel
theorem dX2_readAtom_59 : decode cX2_readAtom 59 = .ok (.getfield 13, 3) := by decide +kernel
theorem dX2_readAtom_62 : decode cX2_readAtom 62 = .ok (.iload_n 2, 1) := by decide +kernel
theorem dX2_readAtom_63 : decode cX2_readAtom 63 = .ok (.ineg, 1) := by decide +kernel
theorem dX2_readAtom_64 : decode cX2_readAtom 64 = .ok (.invokevirtual 64, 3) := by decide +kernel
theorem dX2_readAtom_67 : decode cX2_readAtom 67 = .ok (.goto 18, 3) := by decide +kernel
theorem dX2_readAtom_70 : decode cX2_readAtom 70 = .ok (.aload_n 0, 1) := by decide +kernel
theorem dX2_readAtom_71 : decode cX2_readAtom 71 = .ok (.getfield 13, 3) := by decide +kernel
theorem dX2_readAtom_74 : decode cX2_readAtom 74 = .ok (.aload_n 0, 1) := by decide +kernel
theorem dX2_readAtom_75 : decode cX2_readAtom 75 = .ok (.getfield 7, 3) := by decide +kernel
theorem dX2_readAtom_78 : decode cX2_readAtom 78 = .ok (.iconst 4, 1) := by decide +kernel
theorem dX2_readAtom_79 : decode cX2_readAtom 79 = .ok (.invokevirtual 89, 3) := by decide +kernel
theorem dX2_readAtom_82 : decode cX2_readAtom 82 = .ok (.invokevirtual 64, 3) := by decide +kernel
theorem dX2_readAtom_85 : decode cX2_readAtom 85 = .ok (.return_, 1) := by decide +kernel
theorem dX2_isLetter_0 : decode cX2_isLetter 0 = .ok (.iload_n 0, 1) := by decide +kernel
theorem dX2_isLetter_1 : decode cX2_isLetter 1 = .ok (.bipush 99, 2) := by decide +kernel
theorem dX2_isLetter_3 : decode cX2_isLetter 3 = .ok (.if_icmp .eq 27, 3) := by decide +kernel
theorem dX2_isLetter_6 : decode cX2_isLetter 6 = .ok (.iload_n 0, 1) := by decide +kernel
theorem dX2_isLetter_7 : decode cX2_isLetter 7 = .ok (.bipush 108, 2) := by decide +kernel
theorem dX2_isLetter_9 : decode cX2_isLetter 9 = .ok (.if_icmp .eq 21, 3) := by decide +kernel
theorem dX2_isLetter_12 : decode cX2_isLetter 12 = .ok (.iload_n 0, 1) := by decide +kernel
theorem dX2_isLetter_13 : decode cX2_isLetter 13 = .ok (.bipush 97, 2) := by decide +kernel
theorem dX2_isLetter_15 : decode cX2_isLetter 15 = .ok (.if_icmp .eq 15, 3) := by decide +kernel
theorem dX2_isLetter_18 : decode cX2_isLetter 18 = .ok (.iload_n 0, 1) := by decide +kernel
theorem dX2_isLetter_19 : decode cX2_isLetter 19 = .ok (.bipush 98, 2) := by decide +kernel
theorem dX2_isLetter_21 : decode cX2_isLetter 21 = .ok (.if_icmp .eq 9, 3) := by decide +kernel
theorem dX2_isLetter_24 : decode cX2_isLetter 24 = .ok (.iload_n 0, 1) := by decide +kernel
theorem dX2_isLetter_25 : decode cX2_isLetter 25 = .ok (.bipush 103, 2) := by decide +kernel
theorem dX2_isLetter_27 : decode cX2_isLetter 27 = .ok (.if_icmp .ne 7, 3) := by decide +kernel
theorem dX2_isLetter_30 : decode cX2_isLetter 30 = .ok (.iconst 1, 1) := by decide +kernel
theorem dX2_isLetter_31 : decode cX2_isLetter 31 = .ok (.goto 4, 3) := by decide +kernel
theorem dX2_isLetter_34 : decode cX2_isLetter 34 = .ok (.iconst 0, 1) := by decide +kernel
theorem dX2_isLetter_35 : decode cX2_isLetter 35 = .ok (.ireturn, 1) := by decide +kernel
theorem dX3_init_0 : decode cX3_init 0 = .ok (.aload_n 0, 1) := by decide +kernel
theorem dX3_init_1 : decode cX3_init 1 = .ok (.invokespecial 3, 3) := by decide +kernel
theorem dX3_init_4 : decode cX3_init 4 = .ok (.aload_n 0, 1) := by decide +kernel
theorem dX3_init_5 : decode cX3_init 5 = .ok (.sipush 1200, 3) := by decide +kernel
theorem dX3_init_8 : decode cX3_init 8 = .ok (.newarray .int, 2) := by decide +kernel
theorem dX3_init_10 : decode cX3_init 10 = .ok (.putfield 13, 3) := by decide +kernel
theorem dX3_init_13 : decode cX3_init 13 = .ok (.aload_n 0, 1) := by decide +kernel
theorem dX3_init_14 : decode cX3_init 14 = .ok (.iconst 5, 1) := by decide +kernel
theorem dX3_init_15 : decode cX3_init 15 = .ok (.newarray .int, 2) := by decide +kernel
theorem dX3_init_17 : decode cX3_init 17 = .ok (.putfield 17, 3) := by decide +kernel
theorem dX3_init_20 : decode cX3_init 20 = .ok (.aload_n 0, 1) := by decide +kernel
theorem dX3_init_21 : decode cX3_init 21 = .ok (.bipush 64, 2) := by decide +kernel
theorem dX3_init_23 : decode cX3_init 23 = .ok (.newarray .int, 2) := by decide +kernel
theorem dX3_init_25 : decode cX3_init 25 = .ok (.putfield 20, 3) := by decide +kernel
theorem dX3_init_28 : decode cX3_init 28 = .ok (.aload_n 0, 1) := by decide +kernel
theorem dX3_init_29 : decode cX3_init 29 = .ok (.iconst 0, 1) := by decide +kernel
theorem dX3_init_30 : decode cX3_init 30 = .ok (.putfield 23, 3) := by decide +kernel
theorem dX3_init_33 : decode cX3_init 33 = .ok (.aload_n 0, 1) := by decide +kernel
theorem dX3_init_34 : decode cX3_init 34 = .ok (.iconst 0, 1) := by decide +kernel
theorem dX3_init_35 : decode cX3_init 35 = .ok (.putfield 27, 3) := by decide +kernel
theorem dX3_init_38 : decode cX3_init 38 = .ok (.aload_n 0, 1) := by decide +kernel
theorem dX3_init_39 : decode cX3_init 39 = .ok (.iconst (-1), 1) := by decide +kernel
theorem dX3_init_40 : decode cX3_init 40 = .ok (.putfield 30, 3) := by decide +kernel
theorem dX3_init_43 : decode cX3_init 43 = .ok (.return_, 1) := by decide +kernel
theorem dX3_many_0 : decode cX3_many 0 = .ok (.aload_n 0, 1) := by decide +kernel
theorem dX3_many_1 : decode cX3_many 1 = .ok (.getfield 27, 3) := by decide +kernel
theorem dX3_many_4 : decode cX3_many 4 = .ok (.ireturn, 1) := by decide +kernel
theorem dX3_holding_0 : decode cX3_holding 0 = .ok (.aload_n 0, 1) := by decide +kernel
theorem dX3_holding_1 : decode cX3_holding 1 = .ok (.getfield 30, 3) := by decide +kernel
theorem dX3_holding_4 : decode cX3_holding 4 = .ok (.ireturn, 1) := by decide +kernel
theorem dX3_areFull_0 : decode cX3_areFull 0 = .ok (.aload_n 0, 1) := by decide +kernel
theorem dX3_areFull_1 : decode cX3_areFull 1 = .ok (.getfield 27, 3) := by decide +kernel
theorem dX3_areFull_4 : decode cX3_areFull 4 = .ok (.iconst 4, 1) := by decide +kernel
theorem dX3_areFull_5 : decode cX3_areFull 5 = .ok (.if_icmp .lt 7, 3) := by decide +kernel
theorem dX3_areFull_8 : decode cX3_areFull 8 = .ok (.iconst 1, 1) := by decide +kernel
theorem dX3_areFull_9 : decode cX3_areFull 9 = .ok (.goto 4, 3) := by decide +kernel
theorem dX3_areFull_12 : decode cX3_areFull 12 = .ok (.iconst 0, 1) := by decide +kernel
theorem dX3_areFull_13 : decode cX3_areFull 13 = .ok (.ireturn, 1) := by decide +kernel
theorem dX3_choose_0 : decode cX3_choose 0 = .ok (.iload_n 1, 1) := by decide +kernel
theorem dX3_choose_1 : decode cX3_choose 1 = .ok (.iconst (-1), 1) := by decide +kernel
theorem dX3_choose_2 : decode cX3_choose 2 = .ok (.if_icmp .lt 11, 3) := by decide +kernel
theorem dX3_choose_5 : decode cX3_choose 5 = .ok (.iload_n 1, 1) := by decide +kernel
theorem dX3_choose_6 : decode cX3_choose 6 = .ok (.aload_n 0, 1) := by decide +kernel
theorem dX3_choose_7 : decode cX3_choose 7 = .ok (.getfield 27, 3) := by decide +kernel
theorem dX3_choose_10 : decode cX3_choose 10 = .ok (.if_icmp .lt 5, 3) := by decide +kernel
theorem dX3_choose_13 : decode cX3_choose 13 = .ok (.iconst 0, 1) := by decide +kernel
theorem dX3_choose_14 : decode cX3_choose 14 = .ok (.ireturn, 1) := by decide +kernel
theorem dX3_choose_15 : decode cX3_choose 15 = .ok (.aload_n 0, 1) := by decide +kernel
theorem dX3_choose_16 : decode cX3_choose 16 = .ok (.iload_n 1, 1) := by decide +kernel
theorem dX3_choose_17 : decode cX3_choose 17 = .ok (.putfield 30, 3) := by decide +kernel
theorem dX3_choose_20 : decode cX3_choose 20 = .ok (.iconst 1, 1) := by decide +kernel
theorem dX3_choose_21 : decode cX3_choose 21 = .ok (.ireturn, 1) := by decide +kernel
theorem dX3_beginDraft_0 : decode cX3_beginDraft 0 = .ok (.aload_n 0, 1) := by decide +kernel
theorem dX3_beginDraft_1 : decode cX3_beginDraft 1 = .ok (.getfield 17, 3) := by decide +kernel
theorem dX3_beginDraft_4 : decode cX3_beginDraft 4 = .ok (.aload_n 0, 1) := by decide +kernel
theorem dX3_beginDraft_5 : decode cX3_beginDraft 5 = .ok (.getfield 27, 3) := by decide +kernel
theorem dX3_beginDraft_8 : decode cX3_beginDraft 8 = .ok (.iconst 0, 1) := by decide +kernel
theorem dX3_beginDraft_9 : decode cX3_beginDraft 9 = .ok (.invokestatic 33, 3) := by decide +kernel
theorem dX3_beginDraft_12 : decode cX3_beginDraft 12 = .ok (.return_, 1) := by decide +kernel
theorem dX3_write_0 : decode cX3_write 0 = .ok (.aload_n 0, 1) := by decide +kernel
theorem dX3_write_1 : decode cX3_write 1 = .ok (.getfield 17, 3) := by decide +kernel
theorem dX3_write_4 : decode cX3_write 4 = .ok (.aload_n 0, 1) := by decide +kernel
theorem dX3_write_5 : decode cX3_write 5 = .ok (.getfield 27, 3) := by decide +kernel
theorem dX3_write_8 : decode cX3_write 8 = .ok (.invokestatic 37, 3) := by decide +kernel
theorem dX3_write_11 : decode cX3_write 11 = .ok (.istore_n 2, 1) := by decide +kernel
theorem dX3_write_12 : decode cX3_write 12 = .ok (.iload_n 2, 1) := by decide +kernel
theorem dX3_write_13 : decode cX3_write 13 = .ok (.sipush 240, 3) := by decide +kernel
theorem dX3_write_16 : decode cX3_write 16 = .ok (.if_icmp .ge 35, 3) := by decide +kernel
theorem dX3_write_19 : decode cX3_write 19 = .ok (.aload_n 0, 1) := by decide +kernel
theorem dX3_write_20 : decode cX3_write 20 = .ok (.getfield 13, 3) := by decide +kernel
theorem dX3_write_23 : decode cX3_write 23 = .ok (.aload_n 0, 1) := by decide +kernel
theorem dX3_write_24 : decode cX3_write 24 = .ok (.getfield 27, 3) := by decide +kernel
theorem dX3_write_27 : decode cX3_write 27 = .ok (.sipush 240, 3) := by decide +kernel
theorem dX3_write_30 : decode cX3_write 30 = .ok (.imul, 1) := by decide +kernel
theorem dX3_write_31 : decode cX3_write 31 = .ok (.iload_n 2, 1) := by decide +kernel
theorem dX3_write_32 : decode cX3_write 32 = .ok (.iadd, 1) := by decide +kernel
theorem dX3_write_33 : decode cX3_write 33 = .ok (.iload_n 1, 1) := by decide +kernel
theorem dX3_write_34 : decode cX3_write 34 = .ok (.invokestatic 33, 3) := by decide +kernel
theorem dX3_write_37 : decode cX3_write 37 = .ok (.aload_n 0, 1) := by decide +kernel
theorem dX3_write_38 : decode cX3_write 38 = .ok (.getfield 17, 3) := by decide +kernel
theorem dX3_write_41 : decode cX3_write 41 = .ok (.aload_n 0, 1) := by decide +kernel
theorem dX3_write_42 : decode cX3_write 42 = .ok (.getfield 27, 3) := by decide +kernel
theorem dX3_write_45 : decode cX3_write 45 = .ok (.iload_n 2, 1) := by decide +kernel
theorem dX3_write_46 : decode cX3_write 46 = .ok (.iconst 1, 1) := by decide +kernel
theorem dX3_write_47 : decode cX3_write 47 = .ok (.iadd, 1) := by decide +kernel
theorem dX3_write_48 : decode cX3_write 48 = .ok (.invokestatic 33, 3) := by decide +kernel
theorem dX3_write_51 : decode cX3_write 51 = .ok (.return_, 1) := by decide +kernel
theorem dX3_keepDraft_0 : decode cX3_keepDraft 0 = .ok (.aload_n 0, 1) := by decide +kernel
theorem dX3_keepDraft_1 : decode cX3_keepDraft 1 = .ok (.dup, 1) := by decide +kernel
theorem dX3_keepDraft_2 : decode cX3_keepDraft 2 = .ok (.getfield 27, 3) := by decide +kernel
theorem dX3_keepDraft_5 : decode cX3_keepDraft 5 = .ok (.iconst 1, 1) := by decide +kernel
theorem dX3_keepDraft_6 : decode cX3_keepDraft 6 = .ok (.iadd, 1) := by decide +kernel
theorem dX3_keepDraft_7 : decode cX3_keepDraft 7 = .ok (.putfield 27, 3) := by decide +kernel
theorem dX3_keepDraft_10 : decode cX3_keepDraft 10 = .ok (.aload_n 0, 1) := by decide +kernel
theorem dX3_keepDraft_11 : decode cX3_keepDraft 11 = .ok (.getfield 27, 3) := by decide +kernel
theorem dX3_keepDraft_14 : decode cX3_keepDraft 14 = .ok (.iconst 1, 1) := by decide +kernel
theorem dX3_keepDraft_15 : decode cX3_keepDraft 15 = .ok (.isub, 1) := by decide +kernel
theorem dX3_keepDraft_16 : decode cX3_keepDraft 16 = .ok (.ireturn, 1) := by decide +kernel
theorem dX3_worth_0 : decode cX3_worth 0 = .ok (.aload_n 0, 1) := by decide +kernel
theorem dX3_worth_1 : decode cX3_worth 1 = .ok (.getfield 30, 3) := by decide +kernel
theorem dX3_worth_4 : decode cX3_worth 4 = .ok (.sipush 240, 3) := by decide +kernel
theorem dX3_worth_7 : decode cX3_worth 7 = .ok (.imul, 1) := by decide +kernel
theorem dX3_worth_8 : decode cX3_worth 8 = .ok (.istore 6, 2) := by decide +kernel
theorem dX3_worth_10 : decode cX3_worth 10 = .ok (.iload 6, 2) := by decide +kernel
theorem dX3_worth_12 : decode cX3_worth 12 = .ok (.aload_n 0, 1) := by decide +kernel
theorem dX3_worth_13 : decode cX3_worth 13 = .ok (.getfield 17, 3) := by decide +kernel
theorem dX3_worth_16 : decode cX3_worth 16 = .ok (.aload_n 0, 1) := by decide +kernel
theorem dX3_worth_17 : decode cX3_worth 17 = .ok (.getfield 30, 3) := by decide +kernel
theorem dX3_worth_20 : decode cX3_worth 20 = .ok (.invokestatic 37, 3) := by decide +kernel
theorem dX3_worth_23 : decode cX3_worth 23 = .ok (.iadd, 1) := by decide +kernel
theorem dX3_worth_24 : decode cX3_worth 24 = .ok (.istore 7, 2) := by decide +kernel
theorem dX3_worth_26 : decode cX3_worth 26 = .ok (.iconst 0, 1) := by decide +kernel
theorem dX3_worth_27 : decode cX3_worth 27 = .ok (.istore 8, 2) := by decide +kernel
theorem dX3_worth_29 : decode cX3_worth 29 = .ok (.aload_n 0, 1) := by decide +kernel
theorem dX3_worth_30 : decode cX3_worth 30 = .ok (.iconst 0, 1) := by decide +kernel
theorem dX3_worth_31 : decode cX3_worth 31 = .ok (.putfield 23, 3) := by decide +kernel
theorem dX3_worth_34 : decode cX3_worth 34 = .ok (.iload 6, 2) := by decide +kernel
theorem dX3_worth_36 : decode cX3_worth 36 = .ok (.istore 9, 2) := by decide +kernel
theorem dX3_worth_38 : decode cX3_worth 38 = .ok (.iload 9, 2) := by decide +kernel
theorem dX3_worth_40 : decode cX3_worth 40 = .ok (.iload 7, 2) := by decide +kernel
theorem dX3_worth_42 : decode cX3_worth 42 = .ok (.if_icmp .ge 225, 3) := by decide +kernel
theorem dX3_worth_45 : decode cX3_worth 45 = .ok (.aload_n 0, 1) := by decide +kernel
theorem dX3_worth_46 : decode cX3_worth 46 = .ok (.getfield 13, 3) := by decide +kernel
theorem dX3_worth_49 : decode cX3_worth 49 = .ok (.iload 9, 2) := by decide +kernel
theorem dX3_worth_51 : decode cX3_worth 51 = .ok (.invokestatic 37, 3) := by decide +kernel
theorem dX3_worth_54 : decode cX3_worth 54 = .ok (.istore 10, 2) := by decide +kernel
theorem dX3_worth_56 : decode cX3_worth 56 = .ok (.iload 8, 2) := by decide +kernel
theorem dX3_worth_58 : decode cX3_worth 58 = .ok (.ifCond .eq 20, 3) := by decide +kernel
theorem dX3_worth_61 : decode cX3_worth 61 = .ok (.iload 10, 2) := by decide +kernel
theorem dX3_worth_63 : decode cX3_worth 63 = .ok (.bipush (-59), 2) := by decide +kernel
theorem dX3_worth_65 : decode cX3_worth 65 = .ok (.if_icmp .eq 7, 3) := by decide +kernel
theorem dX3_worth_68 : decode cX3_worth 68 = .ok (.iconst 1, 1) := by decide +kernel
theorem dX3_worth_69 : decode cX3_worth 69 = .ok (.goto 4, 3) := by decide +kernel
theorem dX3_worth_72 : decode cX3_worth 72 = .ok (.iconst 0, 1) := by decide +kernel
theorem dX3_worth_73 : decode cX3_worth 73 = .ok (.istore 8, 2) := by decide +kernel
theorem dX3_worth_75 : decode cX3_worth 75 = .ok (.goto 186, 3) := by decide +kernel
theorem dX3_worth_78 : decode cX3_worth 78 = .ok (.iload 10, 2) := by decide +kernel
theorem dX3_worth_80 : decode cX3_worth 80 = .ok (.lookupswitch 153 #[(-108, 84), (-103, 109), (-99, 76), (-98, 100), (-97, 92), (-63, 131), (-59, 148), (-33, 118)], 76) := by decide +kernel
theorem dX3_worth_156 : decode cX3_worth 156 = .ok (.aload_n 0, 1) := by decide +kernel
theorem dX3_worth_157 : decode cX3_worth 157 = .ok (.iload_n 1, 1) := by decide +kernel
theorem dX3_worth_158 : decode cX3_worth 158 = .ok (.invokevirtual 41, 3) := by decide +kernel
theorem dX3_worth_161 : decode cX3_worth 161 = .ok (.goto 100, 3) := by decide +kernel
theorem dX3_worth_164 : decode cX3_worth 164 = .ok (.aload_n 0, 1) := by decide +kernel
theorem dX3_worth_165 : decode cX3_worth 165 = .ok (.iload_n 2, 1) := by decide +kernel
theorem dX3_worth_166 : decode cX3_worth 166 = .ok (.invokevirtual 41, 3) := by decide +kernel
theorem dX3_worth_169 : decode cX3_worth 169 = .ok (.goto 92, 3) := by decide +kernel
theorem dX3_worth_172 : decode cX3_worth 172 = .ok (.aload_n 0, 1) := by decide +kernel
theorem dX3_worth_173 : decode cX3_worth 173 = .ok (.iload_n 3, 1) := by decide +kernel
theorem dX3_worth_174 : decode cX3_worth 174 = .ok (.invokevirtual 41, 3) := by decide +kernel
theorem dX3_worth_177 : decode cX3_worth 177 = .ok (.goto 84, 3) := by decide +kernel
theorem dX3_worth_180 : decode cX3_worth 180 = .ok (.aload_n 0, 1) := by decide +kernel
theorem dX3_worth_181 : decode cX3_worth 181 = .ok (.iload 4, 2) := by decide +kernel
theorem dX3_worth_183 : decode cX3_worth 183 = .ok (.invokevirtual 41, 3) := by decide +kernel
theorem dX3_worth_186 : decode cX3_worth 186 = .ok (.goto 75, 3) := by decide +kernel
theorem dX3_worth_189 : decode cX3_worth 189 = .ok (.aload_n 0, 1) := by decide +kernel
theorem dX3_worth_190 : decode cX3_worth 190 = .ok (.iload 5, 2) := by decide +kernel
theorem dX3_worth_192 : decode cX3_worth 192 = .ok (.invokevirtual 41, 3) := by decide +kernel
theorem dX3_worth_195 : decode cX3_worth 195 = .ok (.goto 66, 3) := by decide +kernel
theorem dX3_worth_198 : decode cX3_worth 198 = .ok (.aload_n 0, 1) := by decide +kernel
theorem dX3_worth_199 : decode cX3_worth 199 = .ok (.iconst 1, 1) := by decide +kernel
theorem dX3_worth_200 : decode cX3_worth 200 = .ok (.aload_n 0, 1) := by decide +kernel
theorem dX3_worth_201 : decode cX3_worth 201 = .ok (.invokevirtual 45, 3) := by decide +kernel
theorem dX3_worth_204 : decode cX3_worth 204 = .ok (.isub, 1) := by decide +kernel
theorem dX3_worth_205 : decode cX3_worth 205 = .ok (.invokevirtual 41, 3) := by decide +kernel
theorem dX3_worth_208 : decode cX3_worth 208 = .ok (.goto 53, 3) := by decide +kernel
theorem dX3_worth_211 : decode cX3_worth 211 = .ok (.aload_n 0, 1) := by decide +kernel
theorem dX3_worth_212 : decode cX3_worth 212 = .ok (.invokevirtual 45, 3) := by decide +kernel
theorem dX3_worth_215 : decode cX3_worth 215 = .ok (.ifCond .ne 7, 3) := by decide +kernel
theorem dX3_worth_218 : decode cX3_worth 218 = .ok (.iconst 1, 1) := by decide +kernel
theorem dX3_worth_219 : decode cX3_worth 219 = .ok (.goto 4, 3) := by decide +kernel
theorem dX3_worth_222 : decode cX3_worth 222 = .ok (.iconst 0, 1) := by decide +kernel
theorem dX3_worth_223 : decode cX3_worth 223 = .ok (.istore 8, 2) := by decide +kernel
theorem dX3_worth_225 : decode cX3_worth 225 = .ok (.goto 36, 3) := by decide +kernel
theorem dX3_worth_228 : decode cX3_worth 228 = .ok (.aload_n 0, 1) := by decide +kernel
theorem dX3_worth_229 : decode cX3_worth 229 = .ok (.invokevirtual 45, 3) := by decide +kernel
theorem dX3_worth_232 : decode cX3_worth 232 = .ok (.ireturn, 1) := by decide +kernel
theorem dX3_worth_233 : decode cX3_worth 233 = .ok (.aload_n 0, 1) := by decide +kernel
theorem dX3_worth_234 : decode cX3_worth 234 = .ok (.iload 10, 2) := by decide +kernel
theorem dX3_worth_236 : decode cX3_worth 236 = .ok (.ifCond .lt 8, 3) := by decide +kernel
theorem dX3_worth_239 : decode cX3_worth 239 = .ok (.iload 10, 2) := by decide +kernel
theorem dX3_worth_241 : decode cX3_worth 241 = .ok (.goto 17, 3) := by decide +kernel
theorem dX3_worth_244 : decode cX3_worth 244 = .ok (.iload 10, 2) := by decide +kernel
theorem dX3_worth_246 : decode cX3_worth 246 = .ok (.ineg, 1) := by decide +kernel
theorem dX3_worth_247 : decode cX3_worth 247 = .ok (.aload_n 0, 1) := by decide +kernel
theorem dX3_worth_248 : decode cX3_worth 248 = .ok (.invokevirtual 45, 3) := by decide +kernel
theorem dX3_worth_251 : decode cX3_worth 251 = .ok (.aload_n 0, 1) := by decide +kernel
theorem dX3_worth_252 : decode cX3_worth 252 = .ok (.invokevirtual 45, 3) := by decide +kernel
theorem dX3_worth_255 : decode cX3_worth 255 = .ok (.invokestatic 49, 3) := by decide +kernel
theorem dX3_worth_258 : decode cX3_worth 258 = .ok (.invokevirtual 41, 3) := by decide +kernel
theorem dX3_worth_261 : decode cX3_worth 261 = .ok (.iinc 9 1, 3) := by decide +kernel
theorem dX3_worth_264 : decode cX3_worth 264 = .ok (.goto (-226), 3) := by decide +kernel
theorem dX3_worth_267 : decode cX3_worth 267 = .ok (.iconst 0, 1) := by decide +kernel
theorem dX3_worth_268 : decode cX3_worth 268 = .ok (.ireturn, 1) := by decide +kernel
theorem dX3_push_0 : decode cX3_push 0 = .ok (.aload_n 0, 1) := by decide +kernel
theorem dX3_push_1 : decode cX3_push 1 = .ok (.getfield 20, 3) := by decide +kernel
theorem dX3_push_4 : decode cX3_push 4 = .ok (.aload_n 0, 1) := by decide +kernel
theorem dX3_push_5 : decode cX3_push 5 = .ok (.getfield 23, 3) := by decide +kernel
theorem dX3_push_8 : decode cX3_push 8 = .ok (.iload_n 1, 1) := by decide +kernel
theorem dX3_push_9 : decode cX3_push 9 = .ok (.invokestatic 33, 3) := by decide +kernel
theorem dX3_push_12 : decode cX3_push 12 = .ok (.aload_n 0, 1) := by decide +kernel
theorem dX3_push_13 : decode cX3_push 13 = .ok (.dup, 1) := by decide +kernel
theorem dX3_push_14 : decode cX3_push 14 = .ok (.getfield 23, 3) := by decide +kernel
theorem dX3_push_17 : decode cX3_push 17 = .ok (.iconst 1, 1) := by decide +kernel
theorem dX3_push_18 : decode cX3_push 18 = .ok (.iadd, 1) := by decide +kernel
theorem dX3_push_19 : decode cX3_push 19 = .ok (.putfield 23, 3) := by decide +kernel
theorem dX3_push_22 : decode cX3_push 22 = .ok (.return_, 1) := by decide +kernel
theorem dX3_pop_0 : decode cX3_pop 0 = .ok (.aload_n 0, 1) := by decide +kernel
theorem dX3_pop_1 : decode cX3_pop 1 = .ok (.getfield 23, 3) := by decide +kernel
theorem dX3_pop_4 : decode cX3_pop 4 = .ok (.ifCond .le 13, 3) := by decide +kernel
theorem dX3_pop_7 : decode cX3_pop 7 = .ok (.aload_n 0, 1) := by decide +kernel
theorem dX3_pop_8 : decode cX3_pop 8 = .ok (.dup, 1) := by decide +kernel
theorem dX3_pop_9 : decode cX3_pop 9 = .ok (.getfield 23, 3) := by decide +kernel
theorem dX3_pop_12 : decode cX3_pop 12 = .ok (.iconst 1, 1) := by decide +kernel
theorem dX3_pop_13 : decode cX3_pop 13 = .ok (.isub, 1) := by decide +kernel
theorem dX3_pop_14 : decode cX3_pop 14 = .ok (.putfield 23, 3) := by decide +kernel
theorem dX3_pop_17 : decode cX3_pop 17 = .ok (.aload_n 0, 1) := by decide +kernel
theorem dX3_pop_18 : decode cX3_pop 18 = .ok (.getfield 20, 3) := by decide +kernel
theorem dX3_pop_21 : decode cX3_pop 21 = .ok (.aload_n 0, 1) := by decide +kernel
theorem dX3_pop_22 : decode cX3_pop 22 = .ok (.getfield 23, 3) := by decide +kernel
theorem dX3_pop_25 : decode cX3_pop 25 = .ok (.invokestatic 37, 3) := by decide +kernel
theorem dX3_pop_28 : decode cX3_pop 28 = .ok (.ireturn, 1) := by decide +kernel
theorem dX3_joined_0 : decode cX3_joined 0 = .ok (.iload_n 0, 1) := by decide +kernel
theorem dX3_joined_1 : decode cX3_joined 1 = .ok (.tableswitch 196 38 62 #[192, 196, 196, 196, 133, 115, 196, 124, 196, 142, 196, 196, 196, 196, 196, 196, 196, 196, 196, 196, 196, 196, 170, 159, 181], 115) := by decide +kernel
theorem dX3_joined_116 : decode cX3_joined 116 = .ok (.iload_n 2, 1) := by decide +kernel
theorem dX3_joined_117 : decode cX3_joined 117 = .ok (.i2l, 1) := by decide +kernel
theorem dX3_joined_118 : decode cX3_joined 118 = .ok (.iload_n 1, 1) := by decide +kernel
theorem dX3_joined_119 : decode cX3_joined 119 = .ok (.i2l, 1) := by decide +kernel
theorem dX3_joined_120 : decode cX3_joined 120 = .ok (.ladd, 1) := by decide +kernel
theorem dX3_joined_121 : decode cX3_joined 121 = .ok (.invokestatic 53, 3) := by decide +kernel
theorem dX3_joined_124 : decode cX3_joined 124 = .ok (.ireturn, 1) := by decide +kernel
theorem dX3_joined_125 : decode cX3_joined 125 = .ok (.iload_n 2, 1) := by decide +kernel
theorem dX3_joined_126 : decode cX3_joined 126 = .ok (.i2l, 1) := by decide +kernel
theorem dX3_joined_127 : decode cX3_joined 127 = .ok (.iload_n 1, 1) := by decide +kernel
theorem dX3_joined_128 : decode cX3_joined 128 = .ok (.i2l, 1) := by decide +kernel
theorem dX3_joined_129 : decode cX3_joined 129 = .ok (.lsub, 1) := by decide +kernel
theorem dX3_joined_130 : decode cX3_joined 130 = .ok (.invokestatic 53, 3) := by decide +kernel
theorem dX3_joined_133 : decode cX3_joined 133 = .ok (.ireturn, 1) := by decide +kernel
theorem dX3_joined_134 : decode cX3_joined 134 = .ok (.iload_n 2, 1) := by decide +kernel
theorem dX3_joined_135 : decode cX3_joined 135 = .ok (.i2l, 1) := by decide +kernel
theorem dX3_joined_136 : decode cX3_joined 136 = .ok (.iload_n 1, 1) := by decide +kernel
theorem dX3_joined_137 : decode cX3_joined 137 = .ok (.i2l, 1) := by decide +kernel
theorem dX3_joined_138 : decode cX3_joined 138 = .ok (.lmul, 1) := by decide +kernel
theorem dX3_joined_139 : decode cX3_joined 139 = .ok (.invokestatic 53, 3) := by decide +kernel
theorem dX3_joined_142 : decode cX3_joined 142 = .ok (.ireturn, 1) := by decide +kernel
theorem dX3_joined_143 : decode cX3_joined 143 = .ok (.iload_n 1, 1) := by decide +kernel
theorem dX3_joined_144 : decode cX3_joined 144 = .ok (.ifCond .ne 7, 3) := by decide +kernel
theorem dX3_joined_147 : decode cX3_joined 147 = .ok (.iconst 0, 1) := by decide +kernel
theorem dX3_joined_148 : decode cX3_joined 148 = .ok (.goto 11, 3) := by decide +kernel
theorem dX3_joined_151 : decode cX3_joined 151 = .ok (.iload_n 2, 1) := by decide +kernel
theorem dX3_joined_152 : decode cX3_joined 152 = .ok (.i2l, 1) := by decide +kernel
theorem dX3_joined_153 : decode cX3_joined 153 = .ok (.iload_n 1, 1) := by decide +kernel
theorem dX3_joined_154 : decode cX3_joined 154 = .ok (.i2l, 1) := by decide +kernel
theorem dX3_joined_155 : decode cX3_joined 155 = .ok (.ldiv, 1) := by decide +kernel
theorem dX3_joined_156 : decode cX3_joined 156 = .ok (.invokestatic 53, 3) := by decide +kernel
theorem dX3_joined_159 : decode cX3_joined 159 = .ok (.ireturn, 1) := by decide +kernel
theorem dX3_joined_160 : decode cX3_joined 160 = .ok (.iload_n 2, 1) := by decide +kernel
theorem dX3_joined_161 : decode cX3_joined 161 = .ok (.iload_n 1, 1) := by decide +kernel
theorem dX3_joined_162 : decode cX3_joined 162 = .ok (.if_icmp .ne 7, 3) := by decide +kernel
theorem dX3_joined_165 : decode cX3_joined 165 = .ok (.iconst 1, 1) := by decide +kernel
theorem dX3_joined_166 : decode cX3_joined 166 = .ok (.goto 4, 3) := by decide +kernel
theorem dX3_joined_169 : decode cX3_joined 169 = .ok (.iconst 0, 1) := by decide +kernel
theorem dX3_joined_170 : decode cX3_joined 170 = .ok (.ireturn, 1) := by decide +kernel
theorem dX3_joined_171 : decode cX3_joined 171 = .ok (.iload_n 2, 1) := by decide +kernel
theorem dX3_joined_172 : decode cX3_joined 172 = .ok (.iload_n 1, 1) := by decide +kernel
theorem dX3_joined_173 : decode cX3_joined 173 = .ok (.if_icmp .ge 7, 3) := by decide +kernel
theorem dX3_joined_176 : decode cX3_joined 176 = .ok (.iconst 1, 1) := by decide +kernel
theorem dX3_joined_177 : decode cX3_joined 177 = .ok (.goto 4, 3) := by decide +kernel
theorem dX3_joined_180 : decode cX3_joined 180 = .ok (.iconst 0, 1) := by decide +kernel
theorem dX3_joined_181 : decode cX3_joined 181 = .ok (.ireturn, 1) := by decide +kernel
theorem dX3_joined_182 : decode cX3_joined 182 = .ok (.iload_n 2, 1) := by decide +kernel
theorem dX3_joined_183 : decode cX3_joined 183 = .ok (.iload_n 1, 1) := by decide +kernel
theorem dX3_joined_184 : decode cX3_joined 184 = .ok (.if_icmp .le 7, 3) := by decide +kernel
theorem dX3_joined_187 : decode cX3_joined 187 = .ok (.iconst 1, 1) := by decide +kernel
theorem dX3_joined_188 : decode cX3_joined 188 = .ok (.goto 4, 3) := by decide +kernel
theorem dX3_joined_191 : decode cX3_joined 191 = .ok (.iconst 0, 1) := by decide +kernel
theorem dX3_joined_192 : decode cX3_joined 192 = .ok (.ireturn, 1) := by decide +kernel
theorem dX3_joined_193 : decode cX3_joined 193 = .ok (.iload_n 2, 1) := by decide +kernel
theorem dX3_joined_194 : decode cX3_joined 194 = .ok (.iload_n 1, 1) := by decide +kernel
theorem dX3_joined_195 : decode cX3_joined 195 = .ok (.iand, 1) := by decide +kernel
theorem dX3_joined_196 : decode cX3_joined 196 = .ok (.ireturn, 1) := by decide +kernel
theorem dX3_joined_197 : decode cX3_joined 197 = .ok (.iload_n 2, 1) := by decide +kernel
theorem dX3_joined_198 : decode cX3_joined 198 = .ok (.iload_n 1, 1) := by decide +kernel
theorem dX3_joined_199 : decode cX3_joined 199 = .ok (.ior, 1) := by decide +kernel
theorem dX3_joined_200 : decode cX3_joined 200 = .ok (.ireturn, 1) := by decide +kernel
theorem dX3_bounded_0 : decode cX3_bounded 0 = .ok (.ldc2_w 57, 3) := by decide +kernel
theorem dX3_bounded_3 : decode cX3_bounded 3 = .ok (.ldc2_w 59, 3) := by decide +kernel
theorem dX3_bounded_6 : decode cX3_bounded 6 = .ok (.lload_n 0, 1) := by decide +kernel
theorem dX3_bounded_7 : decode cX3_bounded 7 = .ok (.invokestatic 61, 3) := by decide +kernel
theorem dX3_bounded_10 : decode cX3_bounded 10 = .ok (.invokestatic 67, 3) := by decide +kernel
theorem dX3_bounded_13 : decode cX3_bounded 13 = .ok (.l2i, 1) := by decide +kernel
theorem dX3_bounded_14 : decode cX3_bounded 14 = .ok (.ireturn, 1) := by decide +kernel
theorem dX4_init_0 : decode cX4_init 0 = .ok (.aload_n 0, 1) := by decide +kernel
theorem dX4_init_1 : decode cX4_init 1 = .ok (.invokespecial 3, 3) := by decide +kernel
theorem dX4_init_4 : decode cX4_init 4 = .ok (.aload_n 0, 1) := by decide +kernel
theorem dX4_init_5 : decode cX4_init 5 = .ok (.bipush 56, 2) := by decide +kernel
theorem dX4_init_7 : decode cX4_init 7 = .ok (.newarray .int, 2) := by decide +kernel
theorem dX4_init_9 : decode cX4_init 9 = .ok (.putfield 11, 3) := by decide +kernel
theorem dX4_init_12 : decode cX4_init 12 = .ok (.aload_n 0, 1) := by decide +kernel
theorem dX4_init_13 : decode cX4_init 13 = .ok (.bipush 40, 2) := by decide +kernel
theorem dX4_init_15 : decode cX4_init 15 = .ok (.newarray .int, 2) := by decide +kernel
theorem dX4_init_17 : decode cX4_init 17 = .ok (.putfield 15, 3) := by decide +kernel
theorem dX4_init_20 : decode cX4_init 20 = .ok (.aload_n 0, 1) := by decide +kernel
theorem dX4_init_21 : decode cX4_init 21 = .ok (.bipush 8, 2) := by decide +kernel
theorem dX4_init_23 : decode cX4_init 23 = .ok (.newarray .int, 2) := by decide +kernel
theorem dX4_init_25 : decode cX4_init 25 = .ok (.putfield 18, 3) := by decide +kernel
theorem dX4_init_28 : decode cX4_init 28 = .ok (.aload_n 0, 1) := by decide +kernel
theorem dX4_init_29 : decode cX4_init 29 = .ok (.bipush 60, 2) := by decide +kernel
theorem dX4_init_31 : decode cX4_init 31 = .ok (.newarray .int, 2) := by decide +kernel
theorem dX4_init_33 : decode cX4_init 33 = .ok (.putfield 21, 3) := by decide +kernel
theorem dX4_init_36 : decode cX4_init 36 = .ok (.aload_n 0, 1) := by decide +kernel
theorem dX4_init_37 : decode cX4_init 37 = .ok (.iconst 0, 1) := by decide +kernel
theorem dX4_init_38 : decode cX4_init 38 = .ok (.putfield 24, 3) := by decide +kernel
theorem dX4_init_41 : decode cX4_init 41 = .ok (.aload_n 0, 1) := by decide +kernel
theorem dX4_init_42 : decode cX4_init 42 = .ok (.iconst 0, 1) := by decide +kernel
theorem dX4_init_43 : decode cX4_init 43 = .ok (.putfield 28, 3) := by decide +kernel
theorem dX4_init_46 : decode cX4_init 46 = .ok (.aload_n 0, 1) := by decide +kernel
theorem dX4_init_47 : decode cX4_init 47 = .ok (.iconst 0, 1) := by decide +kernel
theorem dX4_init_48 : decode cX4_init 48 = .ok (.putfield 31, 3) := by decide +kernel
theorem dX4_init_51 : decode cX4_init 51 = .ok (.aload_n 0, 1) := by decide +kernel
theorem dX4_init_52 : decode cX4_init 52 = .ok (.iconst 0, 1) := by decide +kernel
theorem dX4_init_53 : decode cX4_init 53 = .ok (.putfield 34, 3) := by decide +kernel
theorem dX4_init_56 : decode cX4_init 56 = .ok (.return_, 1) := by decide +kernel
theorem dX4_become_0 : decode cX4_become 0 = .ok (.aload_n 1, 1) := by decide +kernel
theorem dX4_become_1 : decode cX4_become 1 = .ok (.getfield 11, 3) := by decide +kernel
theorem dX4_become_4 : decode cX4_become 4 = .ok (.aload_n 0, 1) := by decide +kernel
theorem dX4_become_5 : decode cX4_become 5 = .ok (.getfield 11, 3) := by decide +kernel
theorem dX4_become_8 : decode cX4_become 8 = .ok (.invokestatic 37, 3) := by decide +kernel
theorem dX4_become_11 : decode cX4_become 11 = .ok (.aload_n 1, 1) := by decide +kernel
theorem dX4_become_12 : decode cX4_become 12 = .ok (.getfield 15, 3) := by decide +kernel
theorem dX4_become_15 : decode cX4_become 15 = .ok (.aload_n 0, 1) := by decide +kernel
theorem dX4_become_16 : decode cX4_become 16 = .ok (.getfield 15, 3) := by decide +kernel
theorem dX4_become_19 : decode cX4_become 19 = .ok (.invokestatic 37, 3) := by decide +kernel
theorem dX4_become_22 : decode cX4_become 22 = .ok (.aload_n 1, 1) := by decide +kernel
theorem dX4_become_23 : decode cX4_become 23 = .ok (.getfield 18, 3) := by decide +kernel
theorem dX4_become_26 : decode cX4_become 26 = .ok (.aload_n 0, 1) := by decide +kernel
theorem dX4_become_27 : decode cX4_become 27 = .ok (.getfield 18, 3) := by decide +kernel
theorem dX4_become_30 : decode cX4_become 30 = .ok (.invokestatic 37, 3) := by decide +kernel
theorem dX4_become_33 : decode cX4_become 33 = .ok (.aload_n 1, 1) := by decide +kernel
theorem dX4_become_34 : decode cX4_become 34 = .ok (.getfield 21, 3) := by decide +kernel
theorem dX4_become_37 : decode cX4_become 37 = .ok (.aload_n 0, 1) := by decide +kernel
theorem dX4_become_38 : decode cX4_become 38 = .ok (.getfield 21, 3) := by decide +kernel
theorem dX4_become_41 : decode cX4_become 41 = .ok (.invokestatic 37, 3) := by decide +kernel
theorem dX4_become_44 : decode cX4_become 44 = .ok (.aload_n 0, 1) := by decide +kernel
theorem dX4_become_45 : decode cX4_become 45 = .ok (.aload_n 1, 1) := by decide +kernel
theorem dX4_become_46 : decode cX4_become 46 = .ok (.getfield 24, 3) := by decide +kernel
theorem dX4_become_49 : decode cX4_become 49 = .ok (.putfield 24, 3) := by decide +kernel
theorem dX4_become_52 : decode cX4_become 52 = .ok (.aload_n 0, 1) := by decide +kernel
theorem dX4_become_53 : decode cX4_become 53 = .ok (.aload_n 1, 1) := by decide +kernel
theorem dX4_become_54 : decode cX4_become 54 = .ok (.getfield 28, 3) := by decide +kernel
theorem dX4_become_57 : decode cX4_become 57 = .ok (.putfield 28, 3) := by decide +kernel
theorem dX4_become_60 : decode cX4_become 60 = .ok (.aload_n 0, 1) := by decide +kernel
theorem dX4_become_61 : decode cX4_become 61 = .ok (.aload_n 1, 1) := by decide +kernel
theorem dX4_become_62 : decode cX4_become 62 = .ok (.getfield 31, 3) := by decide +kernel
theorem dX4_become_65 : decode cX4_become 65 = .ok (.putfield 31, 3) := by decide +kernel
theorem dX4_become_68 : decode cX4_become 68 = .ok (.aload_n 0, 1) := by decide +kernel
theorem dX4_become_69 : decode cX4_become 69 = .ok (.aload_n 1, 1) := by decide +kernel
theorem dX4_become_70 : decode cX4_become 70 = .ok (.getfield 34, 3) := by decide +kernel
theorem dX4_become_73 : decode cX4_become 73 = .ok (.putfield 34, 3) := by decide +kernel
theorem dX4_become_76 : decode cX4_become 76 = .ok (.return_, 1) := by decide +kernel
theorem dX4_begin_0 : decode cX4_begin 0 = .ok (.aload_n 0, 1) := by decide +kernel
theorem dX4_begin_1 : decode cX4_begin 1 = .ok (.iconst 0, 1) := by decide +kernel
theorem dX4_begin_2 : decode cX4_begin 2 = .ok (.putfield 24, 3) := by decide +kernel
theorem dX4_begin_5 : decode cX4_begin 5 = .ok (.aload_n 0, 1) := by decide +kernel
theorem dX4_begin_6 : decode cX4_begin 6 = .ok (.aload_n 1, 1) := by decide +kernel
theorem dX4_begin_7 : decode cX4_begin 7 = .ok (.invokevirtual 41, 3) := by decide +kernel
theorem dX4_begin_10 : decode cX4_begin 10 = .ok (.putfield 28, 3) := by decide +kernel
theorem dX4_begin_13 : decode cX4_begin 13 = .ok (.aload_n 0, 1) := by decide +kernel
theorem dX4_begin_14 : decode cX4_begin 14 = .ok (.iconst 0, 1) := by decide +kernel
theorem dX4_begin_15 : decode cX4_begin 15 = .ok (.putfield 31, 3) := by decide +kernel
theorem dX4_begin_18 : decode cX4_begin 18 = .ok (.aload_n 0, 1) := by decide +kernel
theorem dX4_begin_19 : decode cX4_begin 19 = .ok (.iconst 0, 1) := by decide +kernel
theorem dX4_begin_20 : decode cX4_begin 20 = .ok (.putfield 34, 3) := by decide +kernel
theorem dX4_begin_23 : decode cX4_begin 23 = .ok (.aload_n 0, 1) := by decide +kernel
theorem dX4_begin_24 : decode cX4_begin 24 = .ok (.aload_n 1, 1) := by decide +kernel
theorem dX4_begin_25 : decode cX4_begin 25 = .ok (.invokevirtual 46, 3) := by decide +kernel
theorem dX4_begin_28 : decode cX4_begin 28 = .ok (.iconst 0, 1) := by decide +kernel
theorem dX4_begin_29 : decode cX4_begin 29 = .ok (.istore_n 2, 1) := by decide +kernel
theorem dX4_begin_30 : decode cX4_begin 30 = .ok (.iload_n 2, 1) := by decide +kernel
theorem dX4_begin_31 : decode cX4_begin 31 = .ok (.aload_n 1, 1) := by decide +kernel
theorem dX4_begin_32 : decode cX4_begin 32 = .ok (.iconst 2, 1) := by decide +kernel
theorem dX4_begin_33 : decode cX4_begin 33 = .ok (.invokevirtual 50, 3) := by decide +kernel
theorem dX4_begin_36 : decode cX4_begin 36 = .ok (.if_icmp .ge 42, 3) := by decide +kernel
theorem dX4_begin_39 : decode cX4_begin 39 = .ok (.aload_n 0, 1) := by decide +kernel
theorem dX4_begin_40 : decode cX4_begin 40 = .ok (.aload_n 1, 1) := by decide +kernel
theorem dX4_begin_41 : decode cX4_begin 41 = .ok (.iconst 2, 1) := by decide +kernel
theorem dX4_begin_42 : decode cX4_begin 42 = .ok (.iload_n 2, 1) := by decide +kernel
theorem dX4_begin_43 : decode cX4_begin 43 = .ok (.iconst 0, 1) := by decide +kernel
theorem dX4_begin_44 : decode cX4_begin 44 = .ok (.invokevirtual 54, 3) := by decide +kernel
theorem dX4_begin_47 : decode cX4_begin 47 = .ok (.aload_n 1, 1) := by decide +kernel
theorem dX4_begin_48 : decode cX4_begin 48 = .ok (.iconst 2, 1) := by decide +kernel
theorem dX4_begin_49 : decode cX4_begin 49 = .ok (.iload_n 2, 1) := by decide +kernel
theorem dX4_begin_50 : decode cX4_begin 50 = .ok (.iconst 1, 1) := by decide +kernel
theorem dX4_begin_51 : decode cX4_begin 51 = .ok (.invokevirtual 54, 3) := by decide +kernel
theorem dX4_begin_54 : decode cX4_begin 54 = .ok (.aload_n 1, 1) := by decide +kernel
theorem dX4_begin_55 : decode cX4_begin 55 = .ok (.iconst 2, 1) := by decide +kernel
theorem dX4_begin_56 : decode cX4_begin 56 = .ok (.iload_n 2, 1) := by decide +kernel
theorem dX4_begin_57 : decode cX4_begin 57 = .ok (.iconst 2, 1) := by decide +kernel
theorem dX4_begin_58 : decode cX4_begin 58 = .ok (.invokevirtual 54, 3) := by decide +kernel
theorem dX4_begin_61 : decode cX4_begin 61 = .ok (.aload_n 1, 1) := by decide +kernel
theorem dX4_begin_62 : decode cX4_begin 62 = .ok (.iconst 2, 1) := by decide +kernel
theorem dX4_begin_63 : decode cX4_begin 63 = .ok (.iload_n 2, 1) := by decide +kernel
theorem dX4_begin_64 : decode cX4_begin 64 = .ok (.iconst 3, 1) := by decide +kernel
theorem dX4_begin_65 : decode cX4_begin 65 = .ok (.invokevirtual 54, 3) := by decide +kernel
theorem dX4_begin_68 : decode cX4_begin 68 = .ok (.invokevirtual 58, 3) := by decide +kernel
theorem dX4_begin_71 : decode cX4_begin 71 = .ok (.pop, 1) := by decide +kernel
theorem dX4_begin_72 : decode cX4_begin 72 = .ok (.iinc 2 1, 3) := by decide +kernel
theorem dX4_begin_75 : decode cX4_begin 75 = .ok (.goto (-45), 3) := by decide +kernel
theorem dX4_begin_78 : decode cX4_begin 78 = .ok (.iconst 0, 1) := by decide +kernel
theorem dX4_begin_79 : decode cX4_begin 79 = .ok (.istore_n 2, 1) := by decide +kernel
theorem dX4_begin_80 : decode cX4_begin 80 = .ok (.iload_n 2, 1) := by decide +kernel
theorem dX4_begin_81 : decode cX4_begin 81 = .ok (.bipush 8, 2) := by decide +kernel
theorem dX4_begin_83 : decode cX4_begin 83 = .ok (.if_icmp .ge 18, 3) := by decide +kernel
theorem dX4_begin_86 : decode cX4_begin 86 = .ok (.aload_n 0, 1) := by decide +kernel
theorem dX4_begin_87 : decode cX4_begin 87 = .ok (.getfield 18, 3) := by decide +kernel
theorem dX4_begin_90 : decode cX4_begin 90 = .ok (.iload_n 2, 1) := by decide +kernel
theorem dX4_begin_91 : decode cX4_begin 91 = .ok (.iconst 0, 1) := by decide +kernel
theorem dX4_begin_92 : decode cX4_begin 92 = .ok (.invokestatic 62, 3) := by decide +kernel
theorem dX4_begin_95 : decode cX4_begin 95 = .ok (.iinc 2 1, 3) := by decide +kernel
theorem dX4_begin_98 : decode cX4_begin 98 = .ok (.goto (-18), 3) := by decide +kernel
theorem dX4_begin_101 : decode cX4_begin 101 = .ok (.iconst 0, 1) := by decide +kernel
theorem dX4_begin_102 : decode cX4_begin 102 = .ok (.istore_n 2, 1) := by decide +kernel
theorem dX4_begin_103 : decode cX4_begin 103 = .ok (.iload_n 2, 1) := by decide +kernel
theorem dX4_begin_104 : decode cX4_begin 104 = .ok (.aload_n 1, 1) := by decide +kernel
theorem dX4_begin_105 : decode cX4_begin 105 = .ok (.iconst 3, 1) := by decide +kernel
theorem dX4_begin_106 : decode cX4_begin 106 = .ok (.invokevirtual 50, 3) := by decide +kernel
theorem dX4_begin_109 : decode cX4_begin 109 = .ok (.if_icmp .ge 32, 3) := by decide +kernel
theorem dX4_begin_112 : decode cX4_begin 112 = .ok (.aload_n 1, 1) := by decide +kernel
theorem dX4_begin_113 : decode cX4_begin 113 = .ok (.iconst 3, 1) := by decide +kernel
theorem dX4_begin_114 : decode cX4_begin 114 = .ok (.iload_n 2, 1) := by decide +kernel
theorem dX4_begin_115 : decode cX4_begin 115 = .ok (.iconst 0, 1) := by decide +kernel
theorem dX4_begin_116 : decode cX4_begin 116 = .ok (.invokevirtual 54, 3) := by decide +kernel
theorem dX4_begin_119 : decode cX4_begin 119 = .ok (.istore_n 3, 1) := by decide +kernel
theorem dX4_begin_120 : decode cX4_begin 120 = .ok (.aload_n 0, 1) := by decide +kernel
theorem dX4_begin_121 : decode cX4_begin 121 = .ok (.getfield 18, 3) := by decide +kernel
theorem dX4_begin_124 : decode cX4_begin 124 = .ok (.iload_n 3, 1) := by decide +kernel
theorem dX4_begin_125 : decode cX4_begin 125 = .ok (.aload_n 0, 1) := by decide +kernel
theorem dX4_begin_126 : decode cX4_begin 126 = .ok (.iload_n 3, 1) := by decide +kernel
theorem dX4_begin_127 : decode cX4_begin 127 = .ok (.invokevirtual 66, 3) := by decide +kernel
theorem dX4_begin_130 : decode cX4_begin 130 = .ok (.iconst 1, 1) := by decide +kernel
theorem dX4_begin_131 : decode cX4_begin 131 = .ok (.iadd, 1) := by decide +kernel
theorem dX4_begin_132 : decode cX4_begin 132 = .ok (.invokestatic 62, 3) := by decide +kernel
theorem dX4_begin_135 : decode cX4_begin 135 = .ok (.iinc 2 1, 3) := by decide +kernel
theorem dX4_begin_138 : decode cX4_begin 138 = .ok (.goto (-35), 3) := by decide +kernel
theorem dX4_begin_141 : decode cX4_begin 141 = .ok (.return_, 1) := by decide +kernel
theorem dX4_beginDarks_0 : decode cX4_beginDarks 0 = .ok (.iconst 0, 1) := by decide +kernel
theorem dX4_beginDarks_1 : decode cX4_beginDarks 1 = .ok (.istore_n 2, 1) := by decide +kernel
theorem dX4_beginDarks_2 : decode cX4_beginDarks 2 = .ok (.iload_n 2, 1) := by decide +kernel
theorem dX4_beginDarks_3 : decode cX4_beginDarks 3 = .ok (.bipush 8, 2) := by decide +kernel
theorem dX4_beginDarks_5 : decode cX4_beginDarks 5 = .ok (.if_icmp .ge 29, 3) := by decide +kernel
theorem dX4_beginDarks_8 : decode cX4_beginDarks 8 = .ok (.iconst 0, 1) := by decide +kernel
theorem dX4_beginDarks_9 : decode cX4_beginDarks 9 = .ok (.istore_n 3, 1) := by decide +kernel
theorem dX4_beginDarks_10 : decode cX4_beginDarks 10 = .ok (.iload_n 3, 1) := by decide +kernel
theorem dX4_beginDarks_11 : decode cX4_beginDarks 11 = .ok (.iconst 5, 1) := by decide +kernel
theorem dX4_beginDarks_12 : decode cX4_beginDarks 12 = .ok (.if_icmp .ge 16, 3) := by decide +kernel
theorem dX4_beginDarks_15 : decode cX4_beginDarks 15 = .ok (.aload_n 0, 1) := by decide +kernel
theorem dX4_beginDarks_16 : decode cX4_beginDarks 16 = .ok (.iload_n 2, 1) := by decide +kernel
theorem dX4_beginDarks_17 : decode cX4_beginDarks 17 = .ok (.iload_n 3, 1) := by decide +kernel
theorem dX4_beginDarks_18 : decode cX4_beginDarks 18 = .ok (.iload_n 2, 1) := by decide +kernel
theorem dX4_beginDarks_19 : decode cX4_beginDarks 19 = .ok (.invokevirtual 69, 3) := by decide +kernel
theorem dX4_beginDarks_22 : decode cX4_beginDarks 22 = .ok (.iinc 3 1, 3) := by decide +kernel
theorem dX4_beginDarks_25 : decode cX4_beginDarks 25 = .ok (.goto (-15), 3) := by decide +kernel
theorem dX4_beginDarks_28 : decode cX4_beginDarks 28 = .ok (.iinc 2 1, 3) := by decide +kernel
theorem dX4_beginDarks_31 : decode cX4_beginDarks 31 = .ok (.goto (-29), 3) := by decide +kernel
theorem dX4_beginDarks_34 : decode cX4_beginDarks 34 = .ok (.iconst 0, 1) := by decide +kernel
theorem dX4_beginDarks_35 : decode cX4_beginDarks 35 = .ok (.istore_n 2, 1) := by decide +kernel
theorem dX4_beginDarks_36 : decode cX4_beginDarks 36 = .ok (.iload_n 2, 1) := by decide +kernel
theorem dX4_beginDarks_37 : decode cX4_beginDarks 37 = .ok (.aload_n 1, 1) := by decide +kernel
theorem dX4_beginDarks_38 : decode cX4_beginDarks 38 = .ok (.iconst 1, 1) := by decide +kernel
theorem dX4_beginDarks_39 : decode cX4_beginDarks 39 = .ok (.invokevirtual 50, 3) := by decide +kernel
theorem dX4_beginDarks_42 : decode cX4_beginDarks 42 = .ok (.if_icmp .ge 40, 3) := by decide +kernel
theorem dX4_beginDarks_45 : decode cX4_beginDarks 45 = .ok (.aload_n 1, 1) := by decide +kernel
theorem dX4_beginDarks_46 : decode cX4_beginDarks 46 = .ok (.iconst 1, 1) := by decide +kernel
theorem dX4_beginDarks_47 : decode cX4_beginDarks 47 = .ok (.iload_n 2, 1) := by decide +kernel
theorem dX4_beginDarks_48 : decode cX4_beginDarks 48 = .ok (.iconst 2, 1) := by decide +kernel
theorem dX4_beginDarks_49 : decode cX4_beginDarks 49 = .ok (.invokevirtual 54, 3) := by decide +kernel
theorem dX4_beginDarks_52 : decode cX4_beginDarks 52 = .ok (.istore_n 3, 1) := by decide +kernel
theorem dX4_beginDarks_53 : decode cX4_beginDarks 53 = .ok (.aload_n 0, 1) := by decide +kernel
theorem dX4_beginDarks_54 : decode cX4_beginDarks 54 = .ok (.getfield 15, 3) := by decide +kernel
theorem dX4_beginDarks_57 : decode cX4_beginDarks 57 = .ok (.aload_n 1, 1) := by decide +kernel
theorem dX4_beginDarks_58 : decode cX4_beginDarks 58 = .ok (.iload_n 2, 1) := by decide +kernel
theorem dX4_beginDarks_59 : decode cX4_beginDarks 59 = .ok (.invokevirtual 73, 3) := by decide +kernel
theorem dX4_beginDarks_62 : decode cX4_beginDarks 62 = .ok (.iload_n 3, 1) := by decide +kernel
theorem dX4_beginDarks_63 : decode cX4_beginDarks 63 = .ok (.bipush 8, 2) := by decide +kernel
theorem dX4_beginDarks_65 : decode cX4_beginDarks 65 = .ok (.if_icmp .ne 7, 3) := by decide +kernel
theorem dX4_beginDarks_68 : decode cX4_beginDarks 68 = .ok (.iconst (-1), 1) := by decide +kernel
theorem dX4_beginDarks_69 : decode cX4_beginDarks 69 = .ok (.goto 4, 3) := by decide +kernel
theorem dX4_beginDarks_72 : decode cX4_beginDarks 72 = .ok (.iload_n 3, 1) := by decide +kernel
theorem dX4_beginDarks_73 : decode cX4_beginDarks 73 = .ok (.invokestatic 62, 3) := by decide +kernel
theorem dX4_beginDarks_76 : decode cX4_beginDarks 76 = .ok (.iinc 2 1, 3) := by decide +kernel
theorem dX4_beginDarks_79 : decode cX4_beginDarks 79 = .ok (.goto (-43), 3) := by decide +kernel
theorem dX4_beginDarks_82 : decode cX4_beginDarks 82 = .ok (.return_, 1) := by decide +kernel
theorem dX4_hour_0 : decode cX4_hour 0 = .ok (.aload_n 0, 1) := by decide +kernel
theorem dX4_hour_1 : decode cX4_hour 1 = .ok (.getfield 28, 3) := by decide +kernel
theorem dX4_hour_4 : decode cX4_hour 4 = .ok (.ireturn, 1) := by decide +kernel
theorem dX4_passHour_0 : decode cX4_passHour 0 = .ok (.aload_n 0, 1) := by decide +kernel
theorem dX4_passHour_1 : decode cX4_passHour 1 = .ok (.dup, 1) := by decide +kernel
theorem dX4_passHour_2 : decode cX4_passHour 2 = .ok (.getfield 28, 3) := by decide +kernel
theorem dX4_passHour_5 : decode cX4_passHour 5 = .ok (.iconst 1, 1) := by decide +kernel
theorem dX4_passHour_6 : decode cX4_passHour 6 = .ok (.iadd, 1) := by decide +kernel
theorem dX4_passHour_7 : decode cX4_passHour 7 = .ok (.putfield 28, 3) := by decide +kernel
theorem dX4_passHour_10 : decode cX4_passHour 10 = .ok (.return_, 1) := by decide +kernel
theorem dX4_trains_0 : decode cX4_trains 0 = .ok (.aload_n 0, 1) := by decide +kernel
theorem dX4_trains_1 : decode cX4_trains 1 = .ok (.getfield 24, 3) := by decide +kernel
theorem dX4_trains_4 : decode cX4_trains 4 = .ok (.ireturn, 1) := by decide +kernel
theorem dX4_isFull_0 : decode cX4_isFull 0 = .ok (.aload_n 0, 1) := by decide +kernel
theorem dX4_isFull_1 : decode cX4_isFull 1 = .ok (.getfield 24, 3) := by decide +kernel
theorem dX4_isFull_4 : decode cX4_isFull 4 = .ok (.bipush 8, 2) := by decide +kernel
theorem dX4_isFull_6 : decode cX4_isFull 6 = .ok (.if_icmp .lt 7, 3) := by decide +kernel
theorem dX4_isFull_9 : decode cX4_isFull 9 = .ok (.iconst 1, 1) := by decide +kernel
theorem dX4_isFull_10 : decode cX4_isFull 10 = .ok (.goto 4, 3) := by decide +kernel
theorem dX4_isFull_13 : decode cX4_isFull 13 = .ok (.iconst 0, 1) := by decide +kernel
theorem dX4_isFull_14 : decode cX4_isFull 14 = .ok (.ireturn, 1) := by decide +kernel
theorem dX4_hasTrain_0 : decode cX4_hasTrain 0 = .ok (.iload_n 1, 1) := by decide +kernel
theorem dX4_hasTrain_1 : decode cX4_hasTrain 1 = .ok (.ifCond .lt 15, 3) := by decide +kernel
theorem dX4_hasTrain_4 : decode cX4_hasTrain 4 = .ok (.iload_n 1, 1) := by decide +kernel
theorem dX4_hasTrain_5 : decode cX4_hasTrain 5 = .ok (.aload_n 0, 1) := by decide +kernel
theorem dX4_hasTrain_6 : decode cX4_hasTrain 6 = .ok (.getfield 24, 3) := by decide +kernel
theorem dX4_hasTrain_9 : decode cX4_hasTrain 9 = .ok (.if_icmp .ge 7, 3) := by decide +kernel
theorem dX4_hasTrain_12 : decode cX4_hasTrain 12 = .ok (.iconst 1, 1) := by decide +kernel
theorem dX4_hasTrain_13 : decode cX4_hasTrain 13 = .ok (.goto 4, 3) := by decide +kernel
theorem dX4_hasTrain_16 : decode cX4_hasTrain 16 = .ok (.iconst 0, 1) := by decide +kernel
theorem dX4_hasTrain_17 : decode cX4_hasTrain 17 = .ok (.ireturn, 1) := by decide +kernel
theorem dX4_ofTrain_0 : decode cX4_ofTrain 0 = .ok (.aload_n 0, 1) := by decide +kernel
theorem dX4_ofTrain_1 : decode cX4_ofTrain 1 = .ok (.getfield 11, 3) := by decide +kernel
theorem dX4_ofTrain_4 : decode cX4_ofTrain 4 = .ok (.iload_n 1, 1) := by decide +kernel
theorem dX4_ofTrain_5 : decode cX4_ofTrain 5 = .ok (.bipush 7, 2) := by decide +kernel
theorem dX4_ofTrain_7 : decode cX4_ofTrain 7 = .ok (.imul, 1) := by decide +kernel
theorem dX4_ofTrain_8 : decode cX4_ofTrain 8 = .ok (.iload_n 2, 1) := by decide +kernel
theorem dX4_ofTrain_9 : decode cX4_ofTrain 9 = .ok (.iadd, 1) := by decide +kernel
theorem dX4_ofTrain_10 : decode cX4_ofTrain 10 = .ok (.invokestatic 76, 3) := by decide +kernel
theorem dX4_ofTrain_13 : decode cX4_ofTrain 13 = .ok (.ireturn, 1) := by decide +kernel
theorem dX4_setTrain_0 : decode cX4_setTrain 0 = .ok (.aload_n 0, 1) := by decide +kernel
theorem dX4_setTrain_1 : decode cX4_setTrain 1 = .ok (.getfield 11, 3) := by decide +kernel
theorem dX4_setTrain_4 : decode cX4_setTrain 4 = .ok (.iload_n 1, 1) := by decide +kernel
theorem dX4_setTrain_5 : decode cX4_setTrain 5 = .ok (.bipush 7, 2) := by decide +kernel
theorem dX4_setTrain_7 : decode cX4_setTrain 7 = .ok (.imul, 1) := by decide +kernel
theorem dX4_setTrain_8 : decode cX4_setTrain 8 = .ok (.iload_n 2, 1) := by decide +kernel
theorem dX4_setTrain_9 : decode cX4_setTrain 9 = .ok (.iadd, 1) := by decide +kernel
theorem dX4_setTrain_10 : decode cX4_setTrain 10 = .ok (.iload_n 3, 1) := by decide +kernel
theorem dX4_setTrain_11 : decode cX4_setTrain 11 = .ok (.invokestatic 62, 3) := by decide +kernel
theorem dX4_setTrain_14 : decode cX4_setTrain 14 = .ok (.return_, 1) := by decide +kernel
theorem dX4_addTrain_0 : decode cX4_addTrain 0 = .ok (.aload_n 0, 1) := by decide +kernel
theorem dX4_addTrain_1 : decode cX4_addTrain 1 = .ok (.getfield 24, 3) := by decide +kernel
theorem dX4_addTrain_4 : decode cX4_addTrain 4 = .ok (.istore 5, 2) := by decide +kernel
theorem dX4_addTrain_6 : decode cX4_addTrain 6 = .ok (.aload_n 0, 1) := by decide +kernel
theorem dX4_addTrain_7 : decode cX4_addTrain 7 = .ok (.dup, 1) := by decide +kernel
theorem dX4_addTrain_8 : decode cX4_addTrain 8 = .ok (.getfield 24, 3) := by decide +kernel
theorem dX4_addTrain_11 : decode cX4_addTrain 11 = .ok (.iconst 1, 1) := by decide +kernel
theorem dX4_addTrain_12 : decode cX4_addTrain 12 = .ok (.iadd, 1) := by decide +kernel
theorem dX4_addTrain_13 : decode cX4_addTrain 13 = .ok (.putfield 24, 3) := by decide +kernel
theorem dX4_addTrain_16 : decode cX4_addTrain 16 = .ok (.aload_n 0, 1) := by decide +kernel
theorem dX4_addTrain_17 : decode cX4_addTrain 17 = .ok (.iload 5, 2) := by decide +kernel
theorem dX4_addTrain_19 : decode cX4_addTrain 19 = .ok (.iconst 0, 1) := by decide +kernel
theorem dX4_addTrain_20 : decode cX4_addTrain 20 = .ok (.iload_n 1, 1) := by decide +kernel
theorem dX4_addTrain_21 : decode cX4_addTrain 21 = .ok (.invokevirtual 80, 3) := by decide +kernel
theorem dX4_addTrain_24 : decode cX4_addTrain 24 = .ok (.aload_n 0, 1) := by decide +kernel
theorem dX4_addTrain_25 : decode cX4_addTrain 25 = .ok (.iload 5, 2) := by decide +kernel
theorem dX4_addTrain_27 : decode cX4_addTrain 27 = .ok (.iconst 1, 1) := by decide +kernel
theorem dX4_addTrain_28 : decode cX4_addTrain 28 = .ok (.iload_n 2, 1) := by decide +kernel
theorem dX4_addTrain_29 : decode cX4_addTrain 29 = .ok (.invokevirtual 80, 3) := by decide +kernel
theorem dX4_addTrain_32 : decode cX4_addTrain 32 = .ok (.aload_n 0, 1) := by decide +kernel
theorem dX4_addTrain_33 : decode cX4_addTrain 33 = .ok (.iload 5, 2) := by decide +kernel
theorem dX4_addTrain_35 : decode cX4_addTrain 35 = .ok (.iconst 2, 1) := by decide +kernel
theorem dX4_addTrain_36 : decode cX4_addTrain 36 = .ok (.aload_n 0, 1) := by decide +kernel
theorem dX4_addTrain_37 : decode cX4_addTrain 37 = .ok (.getfield 28, 3) := by decide +kernel
theorem dX4_addTrain_40 : decode cX4_addTrain 40 = .ok (.iload_n 3, 1) := by decide +kernel
theorem dX4_addTrain_41 : decode cX4_addTrain 41 = .ok (.iadd, 1) := by decide +kernel
theorem dX4_addTrain_42 : decode cX4_addTrain 42 = .ok (.invokevirtual 80, 3) := by decide +kernel
theorem dX4_addTrain_45 : decode cX4_addTrain 45 = .ok (.aload_n 0, 1) := by decide +kernel
theorem dX4_addTrain_46 : decode cX4_addTrain 46 = .ok (.iload 5, 2) := by decide +kernel
theorem dX4_addTrain_48 : decode cX4_addTrain 48 = .ok (.iconst 3, 1) := by decide +kernel
theorem dX4_addTrain_49 : decode cX4_addTrain 49 = .ok (.aload_n 0, 1) := by decide +kernel
theorem dX4_addTrain_50 : decode cX4_addTrain 50 = .ok (.getfield 28, 3) := by decide +kernel
theorem dX4_addTrain_53 : decode cX4_addTrain 53 = .ok (.iload_n 3, 1) := by decide +kernel
theorem dX4_addTrain_54 : decode cX4_addTrain 54 = .ok (.iadd, 1) := by decide +kernel
theorem dX4_addTrain_55 : decode cX4_addTrain 55 = .ok (.invokevirtual 80, 3) := by decide +kernel
theorem dX4_addTrain_58 : decode cX4_addTrain 58 = .ok (.aload_n 0, 1) := by decide +kernel
theorem dX4_addTrain_59 : decode cX4_addTrain 59 = .ok (.iload 5, 2) := by decide +kernel
theorem dX4_addTrain_61 : decode cX4_addTrain 61 = .ok (.iconst 4, 1) := by decide +kernel
theorem dX4_addTrain_62 : decode cX4_addTrain 62 = .ok (.iload 4, 2) := by decide +kernel
theorem dX4_addTrain_64 : decode cX4_addTrain 64 = .ok (.invokevirtual 80, 3) := by decide +kernel
theorem dX4_addTrain_67 : decode cX4_addTrain 67 = .ok (.aload_n 0, 1) := by decide +kernel
theorem dX4_addTrain_68 : decode cX4_addTrain 68 = .ok (.iload 5, 2) := by decide +kernel
theorem dX4_addTrain_70 : decode cX4_addTrain 70 = .ok (.iconst 5, 1) := by decide +kernel
theorem dX4_addTrain_71 : decode cX4_addTrain 71 = .ok (.iconst 0, 1) := by decide +kernel
theorem dX4_addTrain_72 : decode cX4_addTrain 72 = .ok (.invokevirtual 80, 3) := by decide +kernel
theorem dX4_addTrain_75 : decode cX4_addTrain 75 = .ok (.aload_n 0, 1) := by decide +kernel
theorem dX4_addTrain_76 : decode cX4_addTrain 76 = .ok (.iload 5, 2) := by decide +kernel
theorem dX4_addTrain_78 : decode cX4_addTrain 78 = .ok (.bipush 6, 2) := by decide +kernel
theorem dX4_addTrain_80 : decode cX4_addTrain 80 = .ok (.iconst 0, 1) := by decide +kernel
theorem dX4_addTrain_81 : decode cX4_addTrain 81 = .ok (.invokevirtual 80, 3) := by decide +kernel
theorem dX4_addTrain_84 : decode cX4_addTrain 84 = .ok (.iload 5, 2) := by decide +kernel
theorem dX4_addTrain_86 : decode cX4_addTrain 86 = .ok (.ireturn, 1) := by decide +kernel
theorem dX4_relight_0 : decode cX4_relight 0 = .ok (.aload_n 0, 1) := by decide +kernel
theorem dX4_relight_1 : decode cX4_relight 1 = .ok (.iload_n 1, 1) := by decide +kernel
theorem dX4_relight_2 : decode cX4_relight 2 = .ok (.iconst 1, 1) := by decide +kernel
theorem dX4_relight_3 : decode cX4_relight 3 = .ok (.iload_n 2, 1) := by decide +kernel
theorem dX4_relight_4 : decode cX4_relight 4 = .ok (.invokevirtual 80, 3) := by decide +kernel
theorem dX4_relight_7 : decode cX4_relight 7 = .ok (.aload_n 0, 1) := by decide +kernel
theorem dX4_relight_8 : decode cX4_relight 8 = .ok (.iload_n 1, 1) := by decide +kernel
theorem dX4_relight_9 : decode cX4_relight 9 = .ok (.iconst 3, 1) := by decide +kernel
theorem dX4_relight_10 : decode cX4_relight 10 = .ok (.aload_n 0, 1) := by decide +kernel
theorem dX4_relight_11 : decode cX4_relight 11 = .ok (.getfield 28, 3) := by decide +kernel
theorem dX4_relight_14 : decode cX4_relight 14 = .ok (.invokevirtual 80, 3) := by decide +kernel
theorem dX4_relight_17 : decode cX4_relight 17 = .ok (.return_, 1) := by decide +kernel
theorem dX4_isReady_0 : decode cX4_isReady 0 = .ok (.aload_n 0, 1) := by decide +kernel
theorem dX4_isReady_1 : decode cX4_isReady 1 = .ok (.iload_n 1, 1) := by decide +kernel
theorem dX4_isReady_2 : decode cX4_isReady 2 = .ok (.iconst 5, 1) := by decide +kernel
theorem dX4_isReady_3 : decode cX4_isReady 3 = .ok (.invokevirtual 83, 3) := by decide +kernel
theorem dX4_isReady_6 : decode cX4_isReady 6 = .ok (.ifCond .ne 29, 3) := by decide +kernel
theorem dX4_isReady_9 : decode cX4_isReady 9 = .ok (.aload_n 0, 1) := by decide +kernel
theorem dX4_isReady_10 : decode cX4_isReady 10 = .ok (.iload_n 1, 1) := by decide +kernel
theorem dX4_isReady_11 : decode cX4_isReady 11 = .ok (.iconst 4, 1) := by decide +kernel
theorem dX4_isReady_12 : decode cX4_isReady 12 = .ok (.invokevirtual 83, 3) := by decide +kernel
theorem dX4_isReady_15 : decode cX4_isReady 15 = .ok (.ifCond .le 20, 3) := by decide +kernel
theorem dX4_isReady_18 : decode cX4_isReady 18 = .ok (.aload_n 0, 1) := by decide +kernel
theorem dX4_isReady_19 : decode cX4_isReady 19 = .ok (.iload_n 1, 1) := by decide +kernel
theorem dX4_isReady_20 : decode cX4_isReady 20 = .ok (.iconst 2, 1) := by decide +kernel
theorem dX4_isReady_21 : decode cX4_isReady 21 = .ok (.invokevirtual 83, 3) := by decide +kernel
theorem dX4_isReady_24 : decode cX4_isReady 24 = .ok (.aload_n 0, 1) := by decide +kernel
theorem dX4_isReady_25 : decode cX4_isReady 25 = .ok (.getfield 28, 3) := by decide +kernel
theorem dX4_isReady_28 : decode cX4_isReady 28 = .ok (.if_icmp .gt 7, 3) := by decide +kernel
theorem dX4_isReady_31 : decode cX4_isReady 31 = .ok (.iconst 1, 1) := by decide +kernel
theorem dX4_isReady_32 : decode cX4_isReady 32 = .ok (.goto 4, 3) := by decide +kernel
theorem dX4_isReady_35 : decode cX4_isReady 35 = .ok (.iconst 0, 1) := by decide +kernel
theorem dX4_isReady_36 : decode cX4_isReady 36 = .ok (.ireturn, 1) := by decide +kernel
theorem dX4_comesOutNow_0 : decode cX4_comesOutNow 0 = .ok (.aload_n 0, 1) := by decide +kernel
theorem dX4_comesOutNow_1 : decode cX4_comesOutNow 1 = .ok (.iload_n 1, 1) := by decide +kernel
theorem dX4_comesOutNow_2 : decode cX4_comesOutNow 2 = .ok (.iconst 5, 1) := by decide +kernel
theorem dX4_comesOutNow_3 : decode cX4_comesOutNow 3 = .ok (.invokevirtual 83, 3) := by decide +kernel
theorem dX4_comesOutNow_6 : decode cX4_comesOutNow 6 = .ok (.iconst 1, 1) := by decide +kernel
theorem dX4_comesOutNow_7 : decode cX4_comesOutNow 7 = .ok (.if_icmp .ne 21, 3) := by decide +kernel
theorem dX4_comesOutNow_10 : decode cX4_comesOutNow 10 = .ok (.aload_n 0, 1) := by decide +kernel
theorem dX4_comesOutNow_11 : decode cX4_comesOutNow 11 = .ok (.iload_n 1, 1) := by decide +kernel
theorem dX4_comesOutNow_12 : decode cX4_comesOutNow 12 = .ok (.bipush 6, 2) := by decide +kernel
theorem dX4_comesOutNow_14 : decode cX4_comesOutNow 14 = .ok (.invokevirtual 83, 3) := by decide +kernel
theorem dX4_comesOutNow_17 : decode cX4_comesOutNow 17 = .ok (.aload_n 0, 1) := by decide +kernel
theorem dX4_comesOutNow_18 : decode cX4_comesOutNow 18 = .ok (.getfield 28, 3) := by decide +kernel
theorem dX4_comesOutNow_21 : decode cX4_comesOutNow 21 = .ok (.if_icmp .ne 7, 3) := by decide +kernel
theorem dX4_comesOutNow_24 : decode cX4_comesOutNow 24 = .ok (.iconst 1, 1) := by decide +kernel
theorem dX4_comesOutNow_25 : decode cX4_comesOutNow 25 = .ok (.goto 4, 3) := by decide +kernel
theorem dX4_comesOutNow_28 : decode cX4_comesOutNow 28 = .ok (.iconst 0, 1) := by decide +kernel
theorem dX4_comesOutNow_29 : decode cX4_comesOutNow 29 = .ok (.ireturn, 1) := by decide +kernel
theorem dX4_enter_0 : decode cX4_enter 0 = .ok (.aload_n 0, 1) := by decide +kernel
theorem dX4_enter_1 : decode cX4_enter 1 = .ok (.iload_n 1, 1) := by decide +kernel
theorem dX4_enter_2 : decode cX4_enter 2 = .ok (.iconst 0, 1) := by decide +kernel
theorem dX4_enter_3 : decode cX4_enter 3 = .ok (.iload_n 2, 1) := by decide +kernel
theorem dX4_enter_4 : decode cX4_enter 4 = .ok (.invokevirtual 80, 3) := by decide +kernel
theorem dX4_enter_7 : decode cX4_enter 7 = .ok (.aload_n 0, 1) := by decide +kernel
theorem dX4_enter_8 : decode cX4_enter 8 = .ok (.iload_n 1, 1) := by decide +kernel
theorem dX4_enter_9 : decode cX4_enter 9 = .ok (.bipush 6, 2) := by decide +kernel
theorem dX4_enter_11 : decode cX4_enter 11 = .ok (.aload_n 0, 1) := by decide +kernel
theorem dX4_enter_12 : decode cX4_enter 12 = .ok (.getfield 28, 3) := by decide +kernel
theorem dX4_enter_15 : decode cX4_enter 15 = .ok (.iload_n 3, 1) := by decide +kernel
theorem dX4_enter_16 : decode cX4_enter 16 = .ok (.iadd, 1) := by decide +kernel
theorem dX4_enter_17 : decode cX4_enter 17 = .ok (.invokevirtual 80, 3) := by decide +kernel
theorem dX4_enter_20 : decode cX4_enter 20 = .ok (.aload_n 0, 1) := by decide +kernel
theorem dX4_enter_21 : decode cX4_enter 21 = .ok (.iload_n 1, 1) := by decide +kernel
theorem dX4_enter_22 : decode cX4_enter 22 = .ok (.iconst 5, 1) := by decide +kernel
theorem dX4_enter_23 : decode cX4_enter 23 = .ok (.iconst 1, 1) := by decide +kernel
theorem dX4_enter_24 : decode cX4_enter 24 = .ok (.invokevirtual 80, 3) := by decide +kernel
theorem dX4_enter_27 : decode cX4_enter 27 = .ok (.aload_n 0, 1) := by decide +kernel
theorem dX4_enter_28 : decode cX4_enter 28 = .ok (.iload_n 1, 1) := by decide +kernel
theorem dX4_enter_29 : decode cX4_enter 29 = .ok (.iconst 4, 1) := by decide +kernel
theorem dX4_enter_30 : decode cX4_enter 30 = .ok (.aload_n 0, 1) := by decide +kernel
theorem dX4_enter_31 : decode cX4_enter 31 = .ok (.iload_n 1, 1) := by decide +kernel
theorem dX4_enter_32 : decode cX4_enter 32 = .ok (.iconst 4, 1) := by decide +kernel
theorem dX4_enter_33 : decode cX4_enter 33 = .ok (.invokevirtual 83, 3) := by decide +kernel
theorem dX4_enter_36 : decode cX4_enter 36 = .ok (.iconst 1, 1) := by decide +kernel
theorem dX4_enter_37 : decode cX4_enter 37 = .ok (.isub, 1) := by decide +kernel
theorem dX4_enter_38 : decode cX4_enter 38 = .ok (.invokevirtual 80, 3) := by decide +kernel
theorem dX4_enter_41 : decode cX4_enter 41 = .ok (.return_, 1) := by decide +kernel
theorem dX4_comeOut_0 : decode cX4_comeOut 0 = .ok (.aload_n 0, 1) := by decide +kernel
theorem dX4_comeOut_1 : decode cX4_comeOut 1 = .ok (.iload_n 1, 1) := by decide +kernel
theorem dX4_comeOut_2 : decode cX4_comeOut 2 = .ok (.iconst 0, 1) := by decide +kernel
theorem dX4_comeOut_3 : decode cX4_comeOut 3 = .ok (.iload_n 2, 1) := by decide +kernel
theorem dX4_comeOut_4 : decode cX4_comeOut 4 = .ok (.invokevirtual 80, 3) := by decide +kernel
theorem dX4_comeOut_7 : decode cX4_comeOut 7 = .ok (.aload_n 0, 1) := by decide +kernel
theorem dX4_comeOut_8 : decode cX4_comeOut 8 = .ok (.iload_n 1, 1) := by decide +kernel
theorem dX4_comeOut_9 : decode cX4_comeOut 9 = .ok (.iconst 5, 1) := by decide +kernel
theorem dX4_comeOut_10 : decode cX4_comeOut 10 = .ok (.iconst 0, 1) := by decide +kernel
theorem dX4_comeOut_11 : decode cX4_comeOut 11 = .ok (.invokevirtual 80, 3) := by decide +kernel
theorem dX4_comeOut_14 : decode cX4_comeOut 14 = .ok (.aload_n 0, 1) := by decide +kernel
theorem dX4_comeOut_15 : decode cX4_comeOut 15 = .ok (.getfield 21, 3) := by decide +kernel
theorem dX4_comeOut_18 : decode cX4_comeOut 18 = .ok (.aload_n 0, 1) := by decide +kernel
theorem dX4_comeOut_19 : decode cX4_comeOut 19 = .ok (.getfield 34, 3) := by decide +kernel
theorem dX4_comeOut_22 : decode cX4_comeOut 22 = .ok (.bipush 60, 2) := by decide +kernel
theorem dX4_comeOut_24 : decode cX4_comeOut 24 = .ok (.irem, 1) := by decide +kernel
theorem dX4_comeOut_25 : decode cX4_comeOut 25 = .ok (.aload_n 0, 1) := by decide +kernel
theorem dX4_comeOut_26 : decode cX4_comeOut 26 = .ok (.getfield 28, 3) := by decide +kernel
theorem dX4_comeOut_29 : decode cX4_comeOut 29 = .ok (.bipush 8, 2) := by decide +kernel
theorem dX4_comeOut_31 : decode cX4_comeOut 31 = .ok (.imul, 1) := by decide +kernel
theorem dX4_comeOut_32 : decode cX4_comeOut 32 = .ok (.iload_n 2, 1) := by decide +kernel
theorem dX4_comeOut_33 : decode cX4_comeOut 33 = .ok (.iadd, 1) := by decide +kernel
theorem dX4_comeOut_34 : decode cX4_comeOut 34 = .ok (.bipush 8, 2) := by decide +kernel
theorem dX4_comeOut_36 : decode cX4_comeOut 36 = .ok (.imul, 1) := by decide +kernel
theorem dX4_comeOut_37 : decode cX4_comeOut 37 = .ok (.iload_n 1, 1) := by decide +kernel
theorem dX4_comeOut_38 : decode cX4_comeOut 38 = .ok (.iadd, 1) := by decide +kernel
theorem dX4_comeOut_39 : decode cX4_comeOut 39 = .ok (.invokestatic 62, 3) := by decide +kernel
theorem dX4_comeOut_42 : decode cX4_comeOut 42 = .ok (.aload_n 0, 1) := by decide +kernel
theorem dX4_comeOut_43 : decode cX4_comeOut 43 = .ok (.dup, 1) := by decide +kernel
theorem dX4_comeOut_44 : decode cX4_comeOut 44 = .ok (.getfield 34, 3) := by decide +kernel
theorem dX4_comeOut_47 : decode cX4_comeOut 47 = .ok (.iconst 1, 1) := by decide +kernel
theorem dX4_comeOut_48 : decode cX4_comeOut 48 = .ok (.iadd, 1) := by decide +kernel
theorem dX4_comeOut_49 : decode cX4_comeOut 49 = .ok (.putfield 34, 3) := by decide +kernel
theorem dX4_comeOut_52 : decode cX4_comeOut 52 = .ok (.return_, 1) := by decide +kernel
theorem dX4_trainsInside_0 : decode cX4_trainsInside 0 = .ok (.iconst 0, 1) := by decide +kernel
theorem dX4_trainsInside_1 : decode cX4_trainsInside 1 = .ok (.istore_n 1, 1) := by decide +kernel
theorem dX4_trainsInside_2 : decode cX4_trainsInside 2 = .ok (.iconst 0, 1) := by decide +kernel
theorem dX4_trainsInside_3 : decode cX4_trainsInside 3 = .ok (.istore_n 2, 1) := by decide +kernel
theorem dX4_trainsInside_4 : decode cX4_trainsInside 4 = .ok (.iload_n 2, 1) := by decide +kernel
theorem dX4_trainsInside_5 : decode cX4_trainsInside 5 = .ok (.aload_n 0, 1) := by decide +kernel
theorem dX4_trainsInside_6 : decode cX4_trainsInside 6 = .ok (.getfield 24, 3) := by decide +kernel
theorem dX4_trainsInside_9 : decode cX4_trainsInside 9 = .ok (.if_icmp .ge 20, 3) := by decide +kernel
theorem dX4_trainsInside_12 : decode cX4_trainsInside 12 = .ok (.iload_n 1, 1) := by decide +kernel
theorem dX4_trainsInside_13 : decode cX4_trainsInside 13 = .ok (.aload_n 0, 1) := by decide +kernel
theorem dX4_trainsInside_14 : decode cX4_trainsInside 14 = .ok (.iload_n 2, 1) := by decide +kernel
theorem dX4_trainsInside_15 : decode cX4_trainsInside 15 = .ok (.iconst 5, 1) := by decide +kernel
theorem dX4_trainsInside_16 : decode cX4_trainsInside 16 = .ok (.invokevirtual 83, 3) := by decide +kernel
theorem dX4_trainsInside_19 : decode cX4_trainsInside 19 = .ok (.iload_n 2, 1) := by decide +kernel
theorem dX4_trainsInside_20 : decode cX4_trainsInside 20 = .ok (.ishl, 1) := by decide +kernel
theorem dX4_trainsInside_21 : decode cX4_trainsInside 21 = .ok (.ior, 1) := by decide +kernel
theorem dX4_trainsInside_22 : decode cX4_trainsInside 22 = .ok (.istore_n 1, 1) := by decide +kernel
theorem dX4_trainsInside_23 : decode cX4_trainsInside 23 = .ok (.iinc 2 1, 3) := by decide +kernel
theorem dX4_trainsInside_26 : decode cX4_trainsInside 26 = .ok (.goto (-22), 3) := by decide +kernel
theorem dX4_trainsInside_29 : decode cX4_trainsInside 29 = .ok (.iload_n 1, 1) := by decide +kernel
theorem dX4_trainsInside_30 : decode cX4_trainsInside 30 = .ok (.ireturn, 1) := by decide +kernel
theorem dX4_hoursTillOut_0 : decode cX4_hoursTillOut 0 = .ok (.aload_n 0, 1) := by decide +kernel
theorem dX4_hoursTillOut_1 : decode cX4_hoursTillOut 1 = .ok (.iload_n 1, 1) := by decide +kernel
theorem dX4_hoursTillOut_2 : decode cX4_hoursTillOut 2 = .ok (.iconst 5, 1) := by decide +kernel
theorem dX4_hoursTillOut_3 : decode cX4_hoursTillOut 3 = .ok (.invokevirtual 83, 3) := by decide +kernel
theorem dX4_hoursTillOut_6 : decode cX4_hoursTillOut 6 = .ok (.iconst 1, 1) := by decide +kernel
theorem dX4_hoursTillOut_7 : decode cX4_hoursTillOut 7 = .ok (.if_icmp .ne 18, 3) := by decide +kernel
theorem dX4_hoursTillOut_10 : decode cX4_hoursTillOut 10 = .ok (.aload_n 0, 1) := by decide +kernel
theorem dX4_hoursTillOut_11 : decode cX4_hoursTillOut 11 = .ok (.iload_n 1, 1) := by decide +kernel
theorem dX4_hoursTillOut_12 : decode cX4_hoursTillOut 12 = .ok (.bipush 6, 2) := by decide +kernel
theorem dX4_hoursTillOut_14 : decode cX4_hoursTillOut 14 = .ok (.invokevirtual 83, 3) := by decide +kernel
theorem dX4_hoursTillOut_17 : decode cX4_hoursTillOut 17 = .ok (.aload_n 0, 1) := by decide +kernel
theorem dX4_hoursTillOut_18 : decode cX4_hoursTillOut 18 = .ok (.getfield 28, 3) := by decide +kernel
theorem dX4_hoursTillOut_21 : decode cX4_hoursTillOut 21 = .ok (.isub, 1) := by decide +kernel
theorem dX4_hoursTillOut_22 : decode cX4_hoursTillOut 22 = .ok (.goto 4, 3) := by decide +kernel
theorem dX4_hoursTillOut_25 : decode cX4_hoursTillOut 25 = .ok (.iconst 0, 1) := by decide +kernel
theorem dX4_hoursTillOut_26 : decode cX4_hoursTillOut 26 = .ok (.ireturn, 1) := by decide +kernel
theorem dX4_meetings_0 : decode cX4_meetings 0 = .ok (.aload_n 0, 1) := by decide +kernel
theorem dX4_meetings_1 : decode cX4_meetings 1 = .ok (.getfield 31, 3) := by decide +kernel
theorem dX4_meetings_4 : decode cX4_meetings 4 = .ok (.ireturn, 1) := by decide +kernel
theorem dX4_addMeetings_0 : decode cX4_addMeetings 0 = .ok (.aload_n 0, 1) := by decide +kernel
theorem dX4_addMeetings_1 : decode cX4_addMeetings 1 = .ok (.dup, 1) := by decide +kernel
theorem dX4_addMeetings_2 : decode cX4_addMeetings 2 = .ok (.getfield 31, 3) := by decide +kernel
theorem dX4_addMeetings_5 : decode cX4_addMeetings 5 = .ok (.iload_n 1, 1) := by decide +kernel
theorem dX4_addMeetings_6 : decode cX4_addMeetings 6 = .ok (.iadd, 1) := by decide +kernel
theorem dX4_addMeetings_7 : decode cX4_addMeetings 7 = .ok (.putfield 31, 3) := by decide +kernel
theorem dX4_addMeetings_10 : decode cX4_addMeetings 10 = .ok (.return_, 1) := by decide +kernel
theorem dX4_guardsAt_0 : decode cX4_guardsAt 0 = .ok (.aload_n 0, 1) := by decide +kernel
theorem dX4_guardsAt_1 : decode cX4_guardsAt 1 = .ok (.getfield 18, 3) := by decide +kernel
theorem dX4_guardsAt_4 : decode cX4_guardsAt 4 = .ok (.iload_n 1, 1) := by decide +kernel
theorem dX4_guardsAt_5 : decode cX4_guardsAt 5 = .ok (.invokestatic 76, 3) := by decide +kernel
theorem dX4_guardsAt_8 : decode cX4_guardsAt 8 = .ok (.ireturn, 1) := by decide +kernel
theorem dX4_setGuards_0 : decode cX4_setGuards 0 = .ok (.aload_n 0, 1) := by decide +kernel
theorem dX4_setGuards_1 : decode cX4_setGuards 1 = .ok (.getfield 18, 3) := by decide +kernel
theorem dX4_setGuards_4 : decode cX4_setGuards 4 = .ok (.iload_n 1, 1) := by decide +kernel
theorem dX4_setGuards_5 : decode cX4_setGuards 5 = .ok (.iload_n 2, 1) := by decide +kernel
theorem dX4_setGuards_6 : decode cX4_setGuards 6 = .ok (.invokestatic 62, 3) := by decide +kernel
theorem dX4_setGuards_9 : decode cX4_setGuards 9 = .ok (.return_, 1) := by decide +kernel
theorem dX4_guardsInAll_0 : decode cX4_guardsInAll 0 = .ok (.iconst 0, 1) := by decide +kernel
theorem dX4_guardsInAll_1 : decode cX4_guardsInAll 1 = .ok (.istore_n 1, 1) := by decide +kernel
theorem dX4_guardsInAll_2 : decode cX4_guardsInAll 2 = .ok (.iconst 0, 1) := by decide +kernel
theorem dX4_guardsInAll_3 : decode cX4_guardsInAll 3 = .ok (.istore_n 2, 1) := by decide +kernel
theorem dX4_guardsInAll_4 : decode cX4_guardsInAll 4 = .ok (.iload_n 2, 1) := by decide +kernel
theorem dX4_guardsInAll_5 : decode cX4_guardsInAll 5 = .ok (.bipush 8, 2) := by decide +kernel
theorem dX4_guardsInAll_7 : decode cX4_guardsInAll 7 = .ok (.if_icmp .ge 17, 3) := by decide +kernel
theorem dX4_guardsInAll_10 : decode cX4_guardsInAll 10 = .ok (.iload_n 1, 1) := by decide +kernel
theorem dX4_guardsInAll_11 : decode cX4_guardsInAll 11 = .ok (.aload_n 0, 1) := by decide +kernel
theorem dX4_guardsInAll_12 : decode cX4_guardsInAll 12 = .ok (.iload_n 2, 1) := by decide +kernel
theorem dX4_guardsInAll_13 : decode cX4_guardsInAll 13 = .ok (.invokevirtual 66, 3) := by decide +kernel
theorem dX4_guardsInAll_16 : decode cX4_guardsInAll 16 = .ok (.iadd, 1) := by decide +kernel
theorem dX4_guardsInAll_17 : decode cX4_guardsInAll 17 = .ok (.istore_n 1, 1) := by decide +kernel
theorem dX4_guardsInAll_18 : decode cX4_guardsInAll 18 = .ok (.iinc 2 1, 3) := by decide +kernel
theorem dX4_guardsInAll_21 : decode cX4_guardsInAll 21 = .ok (.goto (-17), 3) := by decide +kernel
theorem dX4_guardsInAll_24 : decode cX4_guardsInAll 24 = .ok (.iload_n 1, 1) := by decide +kernel
theorem dX4_guardsInAll_25 : decode cX4_guardsInAll 25 = .ok (.ireturn, 1) := by decide +kernel
theorem dX4_leads_0 : decode cX4_leads 0 = .ok (.aload_n 0, 1) := by decide +kernel
theorem dX4_leads_1 : decode cX4_leads 1 = .ok (.getfield 15, 3) := by decide +kernel
theorem dX4_leads_4 : decode cX4_leads 4 = .ok (.iload_n 1, 1) := by decide +kernel
theorem dX4_leads_5 : decode cX4_leads 5 = .ok (.iload_n 2, 1) := by decide +kernel
theorem dX4_leads_6 : decode cX4_leads 6 = .ok (.invokestatic 87, 3) := by decide +kernel
theorem dX4_leads_9 : decode cX4_leads 9 = .ok (.invokestatic 76, 3) := by decide +kernel
theorem dX4_leads_12 : decode cX4_leads 12 = .ok (.ireturn, 1) := by decide +kernel
theorem dX4_lead_0 : decode cX4_lead 0 = .ok (.aload_n 0, 1) := by decide +kernel
theorem dX4_lead_1 : decode cX4_lead 1 = .ok (.getfield 15, 3) := by decide +kernel
theorem dX4_lead_4 : decode cX4_lead 4 = .ok (.iload_n 1, 1) := by decide +kernel
theorem dX4_lead_5 : decode cX4_lead 5 = .ok (.iload_n 2, 1) := by decide +kernel
theorem dX4_lead_6 : decode cX4_lead 6 = .ok (.invokestatic 87, 3) := by decide +kernel
theorem dX4_lead_9 : decode cX4_lead 9 = .ok (.iload_n 3, 1) := by decide +kernel
theorem dX4_lead_10 : decode cX4_lead 10 = .ok (.invokestatic 62, 3) := by decide +kernel
theorem dX4_lead_13 : decode cX4_lead 13 = .ok (.return_, 1) := by decide +kernel
theorem dX4_leadsOfDark_0 : decode cX4_leadsOfDark 0 = .ok (.aload_n 0, 1) := by decide +kernel
theorem dX4_leadsOfDark_1 : decode cX4_leadsOfDark 1 = .ok (.getfield 15, 3) := by decide +kernel
theorem dX4_leadsOfDark_4 : decode cX4_leadsOfDark 4 = .ok (.iload_n 1, 1) := by decide +kernel
theorem dX4_leadsOfDark_5 : decode cX4_leadsOfDark 5 = .ok (.invokestatic 76, 3) := by decide +kernel
theorem dX4_leadsOfDark_8 : decode cX4_leadsOfDark 8 = .ok (.ireturn, 1) := by decide +kernel
theorem dX4_logLength_0 : decode cX4_logLength 0 = .ok (.aload_n 0, 1) := by decide +kernel
theorem dX4_logLength_1 : decode cX4_logLength 1 = .ok (.getfield 34, 3) := by decide +kernel
theorem dX4_logLength_4 : decode cX4_logLength 4 = .ok (.bipush 60, 2) := by decide +kernel
theorem dX4_logLength_6 : decode cX4_logLength 6 = .ok (.invokestatic 90, 3) := by decide +kernel
theorem dX4_logLength_9 : decode cX4_logLength 9 = .ok (.ireturn, 1) := by decide +kernel
theorem dX4_logged_0 : decode cX4_logged 0 = .ok (.iload_n 1, 1) := by decide +kernel
theorem dX4_logged_1 : decode cX4_logged 1 = .ok (.ifCond .lt 20, 3) := by decide +kernel
theorem dX4_logged_4 : decode cX4_logged 4 = .ok (.iload_n 1, 1) := by decide +kernel
theorem dX4_logged_5 : decode cX4_logged 5 = .ok (.aload_n 0, 1) := by decide +kernel
theorem dX4_logged_6 : decode cX4_logged 6 = .ok (.invokevirtual 95, 3) := by decide +kernel
theorem dX4_logged_9 : decode cX4_logged 9 = .ok (.if_icmp .ge 12, 3) := by decide +kernel
theorem dX4_logged_12 : decode cX4_logged 12 = .ok (.iload_n 2, 1) := by decide +kernel
theorem dX4_logged_13 : decode cX4_logged 13 = .ok (.ifCond .lt 8, 3) := by decide +kernel
theorem dX4_logged_16 : decode cX4_logged 16 = .ok (.iload_n 2, 1) := by decide +kernel
theorem dX4_logged_17 : decode cX4_logged 17 = .ok (.iconst 2, 1) := by decide +kernel
theorem dX4_logged_18 : decode cX4_logged 18 = .ok (.if_icmp .le 5, 3) := by decide +kernel
theorem dX4_logged_21 : decode cX4_logged 21 = .ok (.iconst (-1), 1) := by decide +kernel
theorem dX4_logged_22 : decode cX4_logged 22 = .ok (.ireturn, 1) := by decide +kernel
theorem dX4_logged_23 : decode cX4_logged 23 = .ok (.aload_n 0, 1) := by decide +kernel
theorem dX4_logged_24 : decode cX4_logged 24 = .ok (.getfield 21, 3) := by decide +kernel
theorem dX4_logged_27 : decode cX4_logged 27 = .ok (.aload_n 0, 1) := by decide +kernel
theorem dX4_logged_28 : decode cX4_logged 28 = .ok (.getfield 34, 3) := by decide +kernel
theorem dX4_logged_31 : decode cX4_logged 31 = .ok (.iconst 1, 1) := by decide +kernel
theorem dX4_logged_32 : decode cX4_logged 32 = .ok (.isub, 1) := by decide +kernel
theorem dX4_logged_33 : decode cX4_logged 33 = .ok (.iload_n 1, 1) := by decide +kernel
theorem dX4_logged_34 : decode cX4_logged 34 = .ok (.isub, 1) := by decide +kernel
theorem dX4_logged_35 : decode cX4_logged 35 = .ok (.bipush 60, 2) := by decide +kernel
theorem dX4_logged_37 : decode cX4_logged 37 = .ok (.irem, 1) := by decide +kernel
theorem dX4_logged_38 : decode cX4_logged 38 = .ok (.invokestatic 76, 3) := by decide +kernel
theorem dX4_logged_41 : decode cX4_logged 41 = .ok (.istore_n 3, 1) := by decide +kernel
theorem dX4_logged_42 : decode cX4_logged 42 = .ok (.iload_n 2, 1) := by decide +kernel
theorem dX4_logged_43 : decode cX4_logged 43 = .ok (.ifCond .ne 8, 3) := by decide +kernel
theorem dX4_logged_46 : decode cX4_logged 46 = .ok (.iload_n 3, 1) := by decide +kernel
theorem dX4_logged_47 : decode cX4_logged 47 = .ok (.bipush 8, 2) := by decide +kernel
theorem dX4_logged_49 : decode cX4_logged 49 = .ok (.irem, 1) := by decide +kernel
theorem dX4_logged_50 : decode cX4_logged 50 = .ok (.ireturn, 1) := by decide +kernel
theorem dX4_logged_51 : decode cX4_logged 51 = .ok (.iload_n 3, 1) := by decide +kernel
theorem dX4_logged_52 : decode cX4_logged 52 = .ok (.bipush 8, 2) := by decide +kernel
theorem dX4_logged_54 : decode cX4_logged 54 = .ok (.idiv, 1) := by decide +kernel
theorem dX4_logged_55 : decode cX4_logged 55 = .ok (.istore 4, 2) := by decide +kernel
theorem dX4_logged_57 : decode cX4_logged 57 = .ok (.iload_n 2, 1) := by decide +kernel
theorem dX4_logged_58 : decode cX4_logged 58 = .ok (.iconst 1, 1) := by decide +kernel
theorem dX4_logged_59 : decode cX4_logged 59 = .ok (.if_icmp .ne 11, 3) := by decide +kernel
theorem dX4_logged_62 : decode cX4_logged 62 = .ok (.iload 4, 2) := by decide +kernel
theorem dX4_logged_64 : decode cX4_logged 64 = .ok (.bipush 8, 2) := by decide +kernel
theorem dX4_logged_66 : decode cX4_logged 66 = .ok (.irem, 1) := by decide +kernel
theorem dX4_logged_67 : decode cX4_logged 67 = .ok (.goto 8, 3) := by decide +kernel
theorem dX4_logged_70 : decode cX4_logged 70 = .ok (.iload 4, 2) := by decide +kernel
theorem dX4_logged_72 : decode cX4_logged 72 = .ok (.bipush 8, 2) := by decide +kernel
theorem dX4_logged_74 : decode cX4_logged 74 = .ok (.idiv, 1) := by decide +kernel
theorem dX4_logged_75 : decode cX4_logged 75 = .ok (.ireturn, 1) := by decide +kernel
theorem dX4_timesOut_0 : decode cX4_timesOut 0 = .ok (.iconst 0, 1) := by decide +kernel
theorem dX4_timesOut_1 : decode cX4_timesOut 1 = .ok (.istore_n 2, 1) := by decide +kernel
theorem dX4_timesOut_2 : decode cX4_timesOut 2 = .ok (.iconst 0, 1) := by decide +kernel
theorem dX4_timesOut_3 : decode cX4_timesOut 3 = .ok (.istore_n 3, 1) := by decide +kernel
theorem dX4_timesOut_4 : decode cX4_timesOut 4 = .ok (.iload_n 3, 1) := by decide +kernel
theorem dX4_timesOut_5 : decode cX4_timesOut 5 = .ok (.aload_n 0, 1) := by decide +kernel
theorem dX4_timesOut_6 : decode cX4_timesOut 6 = .ok (.invokevirtual 95, 3) := by decide +kernel
theorem dX4_timesOut_9 : decode cX4_timesOut 9 = .ok (.if_icmp .ge 27, 3) := by decide +kernel
theorem dX4_timesOut_12 : decode cX4_timesOut 12 = .ok (.iload_n 2, 1) := by decide +kernel
theorem dX4_timesOut_13 : decode cX4_timesOut 13 = .ok (.aload_n 0, 1) := by decide +kernel
theorem dX4_timesOut_14 : decode cX4_timesOut 14 = .ok (.iload_n 3, 1) := by decide +kernel
theorem dX4_timesOut_15 : decode cX4_timesOut 15 = .ok (.iconst 1, 1) := by decide +kernel
theorem dX4_timesOut_16 : decode cX4_timesOut 16 = .ok (.invokevirtual 98, 3) := by decide +kernel
theorem dX4_timesOut_19 : decode cX4_timesOut 19 = .ok (.iload_n 1, 1) := by decide +kernel
theorem dX4_timesOut_20 : decode cX4_timesOut 20 = .ok (.if_icmp .ne 7, 3) := by decide +kernel
theorem dX4_timesOut_23 : decode cX4_timesOut 23 = .ok (.iconst 1, 1) := by decide +kernel
theorem dX4_timesOut_24 : decode cX4_timesOut 24 = .ok (.goto 4, 3) := by decide +kernel
theorem dX4_timesOut_27 : decode cX4_timesOut 27 = .ok (.iconst 0, 1) := by decide +kernel
theorem dX4_timesOut_28 : decode cX4_timesOut 28 = .ok (.iadd, 1) := by decide +kernel
theorem dX4_timesOut_29 : decode cX4_timesOut 29 = .ok (.istore_n 2, 1) := by decide +kernel
theorem dX4_timesOut_30 : decode cX4_timesOut 30 = .ok (.iinc 3 1, 3) := by decide +kernel
theorem dX4_timesOut_33 : decode cX4_timesOut 33 = .ok (.goto (-29), 3) := by decide +kernel
theorem dX4_timesOut_36 : decode cX4_timesOut 36 = .ok (.iload_n 2, 1) := by decide +kernel
theorem dX4_timesOut_37 : decode cX4_timesOut 37 = .ok (.ireturn, 1) := by decide +kernel
theorem dX5_init_0 : decode cX5_init 0 = .ok (.aload_n 0, 1) := by decide +kernel
theorem dX5_init_1 : decode cX5_init 1 = .ok (.invokespecial 3, 3) := by decide +kernel
theorem dX5_init_4 : decode cX5_init 4 = .ok (.aload_n 0, 1) := by decide +kernel
theorem dX5_init_5 : decode cX5_init 5 = .ok (.bipush 116, 2) := by decide +kernel
theorem dX5_init_7 : decode cX5_init 7 = .ok (.newarray .int, 2) := by decide +kernel
theorem dX5_init_9 : decode cX5_init 9 = .ok (.putfield 11, 3) := by decide +kernel
theorem dX5_init_12 : decode cX5_init 12 = .ok (.aload_n 0, 1) := by decide +kernel
theorem dX5_init_13 : decode cX5_init 13 = .ok (.iconst 4, 1) := by decide +kernel
theorem dX5_init_14 : decode cX5_init 14 = .ok (.newarray .int, 2) := by decide +kernel
theorem dX5_init_16 : decode cX5_init 16 = .ok (.putfield 15, 3) := by decide +kernel
theorem dX5_init_19 : decode cX5_init 19 = .ok (.aload_n 0, 1) := by decide +kernel
theorem dX5_init_20 : decode cX5_init 20 = .ok (.bipush 40, 2) := by decide +kernel
theorem dX5_init_22 : decode cX5_init 22 = .ok (.newarray .int, 2) := by decide +kernel
theorem dX5_init_24 : decode cX5_init 24 = .ok (.putfield 18, 3) := by decide +kernel
theorem dX5_init_27 : decode cX5_init 27 = .ok (.return_, 1) := by decide +kernel
theorem dX5_item_0 : decode cX5_item 0 = .ok (.aload_n 0, 1) := by decide +kernel
theorem dX5_item_1 : decode cX5_item 1 = .ok (.getfield 11, 3) := by decide +kernel
theorem dX5_item_4 : decode cX5_item 4 = .ok (.getstatic 21, 3) := by decide +kernel
theorem dX5_item_7 : decode cX5_item 7 = .ok (.iload_n 1, 1) := by decide +kernel
theorem dX5_item_8 : decode cX5_item 8 = .ok (.invokestatic 24, 3) := by decide +kernel
theorem dX5_item_11 : decode cX5_item 11 = .ok (.iload_n 2, 1) := by decide +kernel
theorem dX5_item_12 : decode cX5_item 12 = .ok (.iadd, 1) := by decide +kernel
theorem dX5_item_13 : decode cX5_item 13 = .ok (.iconst 4, 1) := by decide +kernel
theorem dX5_item_14 : decode cX5_item 14 = .ok (.imul, 1) := by decide +kernel
theorem dX5_item_15 : decode cX5_item 15 = .ok (.iload_n 3, 1) := by decide +kernel
theorem dX5_item_16 : decode cX5_item 16 = .ok (.iadd, 1) := by decide +kernel
theorem dX5_item_17 : decode cX5_item 17 = .ok (.invokestatic 24, 3) := by decide +kernel
theorem dX5_item_20 : decode cX5_item 20 = .ok (.ireturn, 1) := by decide +kernel
theorem dX5_many_0 : decode cX5_many 0 = .ok (.aload_n 0, 1) := by decide +kernel
theorem dX5_many_1 : decode cX5_many 1 = .ok (.getfield 15, 3) := by decide +kernel
theorem dX5_many_4 : decode cX5_many 4 = .ok (.iload_n 1, 1) := by decide +kernel
theorem dX5_many_5 : decode cX5_many 5 = .ok (.invokestatic 24, 3) := by decide +kernel
theorem dX5_many_8 : decode cX5_many 8 = .ok (.ireturn, 1) := by decide +kernel
theorem dX5_isFull_0 : decode cX5_isFull 0 = .ok (.aload_n 0, 1) := by decide +kernel
theorem dX5_isFull_1 : decode cX5_isFull 1 = .ok (.iload_n 1, 1) := by decide +kernel
theorem dX5_isFull_2 : decode cX5_isFull 2 = .ok (.invokevirtual 28, 3) := by decide +kernel
theorem dX5_isFull_5 : decode cX5_isFull 5 = .ok (.getstatic 21, 3) := by decide +kernel
theorem dX5_isFull_8 : decode cX5_isFull 8 = .ok (.iload_n 1, 1) := by decide +kernel
theorem dX5_isFull_9 : decode cX5_isFull 9 = .ok (.iconst 1, 1) := by decide +kernel
theorem dX5_isFull_10 : decode cX5_isFull 10 = .ok (.iadd, 1) := by decide +kernel
theorem dX5_isFull_11 : decode cX5_isFull 11 = .ok (.invokestatic 24, 3) := by decide +kernel
theorem dX5_isFull_14 : decode cX5_isFull 14 = .ok (.getstatic 21, 3) := by decide +kernel
theorem dX5_isFull_17 : decode cX5_isFull 17 = .ok (.iload_n 1, 1) := by decide +kernel
theorem dX5_isFull_18 : decode cX5_isFull 18 = .ok (.invokestatic 24, 3) := by decide +kernel
theorem dX5_isFull_21 : decode cX5_isFull 21 = .ok (.isub, 1) := by decide +kernel
theorem dX5_isFull_22 : decode cX5_isFull 22 = .ok (.if_icmp .lt 7, 3) := by decide +kernel
theorem dX5_isFull_25 : decode cX5_isFull 25 = .ok (.iconst 1, 1) := by decide +kernel
theorem dX5_isFull_26 : decode cX5_isFull 26 = .ok (.goto 4, 3) := by decide +kernel
theorem dX5_isFull_29 : decode cX5_isFull 29 = .ok (.iconst 0, 1) := by decide +kernel
theorem dX5_isFull_30 : decode cX5_isFull 30 = .ok (.ireturn, 1) := by decide +kernel
theorem dX5_empty_0 : decode cX5_empty 0 = .ok (.iconst 0, 1) := by decide +kernel
theorem dX5_empty_1 : decode cX5_empty 1 = .ok (.istore_n 1, 1) := by decide +kernel
theorem dX5_empty_2 : decode cX5_empty 2 = .ok (.iload_n 1, 1) := by decide +kernel
theorem dX5_empty_3 : decode cX5_empty 3 = .ok (.aload_n 0, 1) := by decide +kernel
theorem dX5_empty_4 : decode cX5_empty 4 = .ok (.getfield 15, 3) := by decide +kernel
theorem dX5_empty_7 : decode cX5_empty 7 = .ok (.arraylength, 1) := by decide +kernel
theorem dX5_empty_8 : decode cX5_empty 8 = .ok (.if_icmp .ge 18, 3) := by decide +kernel
theorem dX5_empty_11 : decode cX5_empty 11 = .ok (.aload_n 0, 1) := by decide +kernel
theorem dX5_empty_12 : decode cX5_empty 12 = .ok (.getfield 15, 3) := by decide +kernel
theorem dX5_empty_15 : decode cX5_empty 15 = .ok (.iload_n 1, 1) := by decide +kernel
theorem dX5_empty_16 : decode cX5_empty 16 = .ok (.iconst 0, 1) := by decide +kernel
theorem dX5_empty_17 : decode cX5_empty 17 = .ok (.invokestatic 31, 3) := by decide +kernel
theorem dX5_empty_20 : decode cX5_empty 20 = .ok (.iinc 1 1, 3) := by decide +kernel
theorem dX5_empty_23 : decode cX5_empty 23 = .ok (.goto (-21), 3) := by decide +kernel
theorem dX5_empty_26 : decode cX5_empty 26 = .ok (.return_, 1) := by decide +kernel
theorem dX5_store_0 : decode cX5_store 0 = .ok (.getstatic 21, 3) := by decide +kernel
theorem dX5_store_3 : decode cX5_store 3 = .ok (.iload_n 1, 1) := by decide +kernel
theorem dX5_store_4 : decode cX5_store 4 = .ok (.invokestatic 24, 3) := by decide +kernel
theorem dX5_store_7 : decode cX5_store 7 = .ok (.aload_n 0, 1) := by decide +kernel
theorem dX5_store_8 : decode cX5_store 8 = .ok (.iload_n 1, 1) := by decide +kernel
theorem dX5_store_9 : decode cX5_store 9 = .ok (.invokevirtual 28, 3) := by decide +kernel
theorem dX5_store_12 : decode cX5_store 12 = .ok (.iadd, 1) := by decide +kernel
theorem dX5_store_13 : decode cX5_store 13 = .ok (.iconst 4, 1) := by decide +kernel
theorem dX5_store_14 : decode cX5_store 14 = .ok (.imul, 1) := by decide +kernel
theorem dX5_store_15 : decode cX5_store 15 = .ok (.istore_n 3, 1) := by decide +kernel
theorem dX5_store_16 : decode cX5_store 16 = .ok (.iconst 0, 1) := by decide +kernel
theorem dX5_store_17 : decode cX5_store 17 = .ok (.istore 4, 2) := by decide +kernel
theorem dX5_store_19 : decode cX5_store 19 = .ok (.iload 4, 2) := by decide +kernel
theorem dX5_store_21 : decode cX5_store 21 = .ok (.iconst 4, 1) := by decide +kernel
theorem dX5_store_22 : decode cX5_store 22 = .ok (.if_icmp .ge 26, 3) := by decide +kernel
theorem dX5_store_25 : decode cX5_store 25 = .ok (.aload_n 0, 1) := by decide +kernel
theorem dX5_store_26 : decode cX5_store 26 = .ok (.getfield 11, 3) := by decide +kernel
theorem dX5_store_29 : decode cX5_store 29 = .ok (.iload_n 3, 1) := by decide +kernel
theorem dX5_store_30 : decode cX5_store 30 = .ok (.iload 4, 2) := by decide +kernel
theorem dX5_store_32 : decode cX5_store 32 = .ok (.iadd, 1) := by decide +kernel
theorem dX5_store_33 : decode cX5_store 33 = .ok (.aload_n 2, 1) := by decide +kernel
theorem dX5_store_34 : decode cX5_store 34 = .ok (.iload 4, 2) := by decide +kernel
theorem dX5_store_36 : decode cX5_store 36 = .ok (.invokestatic 24, 3) := by decide +kernel
theorem dX5_store_39 : decode cX5_store 39 = .ok (.invokestatic 31, 3) := by decide +kernel
theorem dX5_store_42 : decode cX5_store 42 = .ok (.iinc 4 1, 3) := by decide +kernel
theorem dX5_store_45 : decode cX5_store 45 = .ok (.goto (-26), 3) := by decide +kernel
theorem dX5_store_48 : decode cX5_store 48 = .ok (.aload_n 0, 1) := by decide +kernel
theorem dX5_store_49 : decode cX5_store 49 = .ok (.getfield 15, 3) := by decide +kernel
theorem dX5_store_52 : decode cX5_store 52 = .ok (.iload_n 1, 1) := by decide +kernel
theorem dX5_store_53 : decode cX5_store 53 = .ok (.aload_n 0, 1) := by decide +kernel
theorem dX5_store_54 : decode cX5_store 54 = .ok (.iload_n 1, 1) := by decide +kernel
theorem dX5_store_55 : decode cX5_store 55 = .ok (.invokevirtual 28, 3) := by decide +kernel
theorem dX5_store_58 : decode cX5_store 58 = .ok (.iconst 1, 1) := by decide +kernel
theorem dX5_store_59 : decode cX5_store 59 = .ok (.iadd, 1) := by decide +kernel
theorem dX5_store_60 : decode cX5_store 60 = .ok (.invokestatic 31, 3) := by decide +kernel
theorem dX5_store_63 : decode cX5_store 63 = .ok (.return_, 1) := by decide +kernel
theorem dX5_become_0 : decode cX5_become 0 = .ok (.aload_n 1, 1) := by decide +kernel
theorem dX5_become_1 : decode cX5_become 1 = .ok (.getfield 11, 3) := by decide +kernel
theorem dX5_become_4 : decode cX5_become 4 = .ok (.aload_n 0, 1) := by decide +kernel
theorem dX5_become_5 : decode cX5_become 5 = .ok (.getfield 11, 3) := by decide +kernel
theorem dX5_become_8 : decode cX5_become 8 = .ok (.invokestatic 35, 3) := by decide +kernel
theorem dX5_become_11 : decode cX5_become 11 = .ok (.aload_n 1, 1) := by decide +kernel
theorem dX5_become_12 : decode cX5_become 12 = .ok (.getfield 15, 3) := by decide +kernel
theorem dX5_become_15 : decode cX5_become 15 = .ok (.aload_n 0, 1) := by decide +kernel
theorem dX5_become_16 : decode cX5_become 16 = .ok (.getfield 15, 3) := by decide +kernel
theorem dX5_become_19 : decode cX5_become 19 = .ok (.invokestatic 35, 3) := by decide +kernel
theorem dX5_become_22 : decode cX5_become 22 = .ok (.iconst 0, 1) := by decide +kernel
theorem dX5_become_23 : decode cX5_become 23 = .ok (.istore_n 2, 1) := by decide +kernel
theorem dX5_become_24 : decode cX5_become 24 = .ok (.iload_n 2, 1) := by decide +kernel
theorem dX5_become_25 : decode cX5_become 25 = .ok (.bipush 40, 2) := by decide +kernel
theorem dX5_become_27 : decode cX5_become 27 = .ok (.if_icmp .ge 18, 3) := by decide +kernel
theorem dX5_become_30 : decode cX5_become 30 = .ok (.aload_n 0, 1) := by decide +kernel
theorem dX5_become_31 : decode cX5_become 31 = .ok (.getfield 18, 3) := by decide +kernel
theorem dX5_become_34 : decode cX5_become 34 = .ok (.iload_n 2, 1) := by decide +kernel
theorem dX5_become_35 : decode cX5_become 35 = .ok (.iconst 1, 1) := by decide +kernel
theorem dX5_become_36 : decode cX5_become 36 = .ok (.invokestatic 31, 3) := by decide +kernel
theorem dX5_become_39 : decode cX5_become 39 = .ok (.iinc 2 1, 3) := by decide +kernel
theorem dX5_become_42 : decode cX5_become 42 = .ok (.goto (-18), 3) := by decide +kernel
theorem dX5_become_45 : decode cX5_become 45 = .ok (.iconst 0, 1) := by decide +kernel
theorem dX5_become_46 : decode cX5_become 46 = .ok (.istore_n 2, 1) := by decide +kernel
theorem dX5_become_47 : decode cX5_become 47 = .ok (.iload_n 2, 1) := by decide +kernel
theorem dX5_become_48 : decode cX5_become 48 = .ok (.aload_n 0, 1) := by decide +kernel
theorem dX5_become_49 : decode cX5_become 49 = .ok (.iconst 1, 1) := by decide +kernel
theorem dX5_become_50 : decode cX5_become 50 = .ok (.invokevirtual 28, 3) := by decide +kernel
theorem dX5_become_53 : decode cX5_become 53 = .ok (.if_icmp .ge 28, 3) := by decide +kernel
theorem dX5_become_56 : decode cX5_become 56 = .ok (.aload_n 0, 1) := by decide +kernel
theorem dX5_become_57 : decode cX5_become 57 = .ok (.getfield 18, 3) := by decide +kernel
theorem dX5_become_60 : decode cX5_become 60 = .ok (.aload_n 0, 1) := by decide +kernel
theorem dX5_become_61 : decode cX5_become 61 = .ok (.iload_n 2, 1) := by decide +kernel
theorem dX5_become_62 : decode cX5_become 62 = .ok (.invokevirtual 39, 3) := by decide +kernel
theorem dX5_become_65 : decode cX5_become 65 = .ok (.aload_n 0, 1) := by decide +kernel
theorem dX5_become_66 : decode cX5_become 66 = .ok (.iconst 1, 1) := by decide +kernel
theorem dX5_become_67 : decode cX5_become 67 = .ok (.iload_n 2, 1) := by decide +kernel
theorem dX5_become_68 : decode cX5_become 68 = .ok (.iconst 3, 1) := by decide +kernel
theorem dX5_become_69 : decode cX5_become 69 = .ok (.invokevirtual 42, 3) := by decide +kernel
theorem dX5_become_72 : decode cX5_become 72 = .ok (.invokestatic 31, 3) := by decide +kernel
theorem dX5_become_75 : decode cX5_become 75 = .ok (.iinc 2 1, 3) := by decide +kernel
theorem dX5_become_78 : decode cX5_become 78 = .ok (.goto (-31), 3) := by decide +kernel
theorem dX5_become_81 : decode cX5_become 81 = .ok (.return_, 1) := by decide +kernel
theorem dX5_mouths_0 : decode cX5_mouths 0 = .ok (.aload_n 0, 1) := by decide +kernel
theorem dX5_mouths_1 : decode cX5_mouths 1 = .ok (.getfield 11, 3) := by decide +kernel
theorem dX5_mouths_4 : decode cX5_mouths 4 = .ok (.iconst 0, 1) := by decide +kernel
theorem dX5_mouths_5 : decode cX5_mouths 5 = .ok (.invokestatic 24, 3) := by decide +kernel
theorem dX5_mouths_8 : decode cX5_mouths 8 = .ok (.ireturn, 1) := by decide +kernel
theorem dX5_colours_0 : decode cX5_colours 0 = .ok (.aload_n 0, 1) := by decide +kernel
theorem dX5_colours_1 : decode cX5_colours 1 = .ok (.getfield 11, 3) := by decide +kernel
theorem dX5_colours_4 : decode cX5_colours 4 = .ok (.iconst 1, 1) := by decide +kernel
theorem dX5_colours_5 : decode cX5_colours 5 = .ok (.invokestatic 24, 3) := by decide +kernel
theorem dX5_colours_8 : decode cX5_colours 8 = .ok (.ireturn, 1) := by decide +kernel
theorem dX5_hour_0 : decode cX5_hour 0 = .ok (.aload_n 0, 1) := by decide +kernel
theorem dX5_hour_1 : decode cX5_hour 1 = .ok (.getfield 11, 3) := by decide +kernel
theorem dX5_hour_4 : decode cX5_hour 4 = .ok (.iconst 2, 1) := by decide +kernel
theorem dX5_hour_5 : decode cX5_hour 5 = .ok (.invokestatic 24, 3) := by decide +kernel
theorem dX5_hour_8 : decode cX5_hour 8 = .ok (.ireturn, 1) := by decide +kernel
theorem dX5_fade_0 : decode cX5_fade 0 = .ok (.aload_n 0, 1) := by decide +kernel
theorem dX5_fade_1 : decode cX5_fade 1 = .ok (.getfield 11, 3) := by decide +kernel
theorem dX5_fade_4 : decode cX5_fade 4 = .ok (.iconst 3, 1) := by decide +kernel
theorem dX5_fade_5 : decode cX5_fade 5 = .ok (.invokestatic 24, 3) := by decide +kernel
theorem dX5_fade_8 : decode cX5_fade 8 = .ok (.ireturn, 1) := by decide +kernel
theorem dX5_isTold_0 : decode cX5_isTold 0 = .ok (.aload_n 0, 1) := by decide +kernel
theorem dX5_isTold_1 : decode cX5_isTold 1 = .ok (.invokevirtual 46, 3) := by decide +kernel
theorem dX5_isTold_4 : decode cX5_isTold 4 = .ok (.ifCond .le 7, 3) := by decide +kernel
theorem dX5_isTold_7 : decode cX5_isTold 7 = .ok (.iconst 1, 1) := by decide +kernel
theorem dX5_isTold_8 : decode cX5_isTold 8 = .ok (.goto 4, 3) := by decide +kernel
theorem dX5_isTold_11 : decode cX5_isTold 11 = .ok (.iconst 0, 1) := by decide +kernel
theorem dX5_isTold_12 : decode cX5_isTold 12 = .ok (.ireturn, 1) := by decide +kernel
theorem dX5_hasMouth_0 : decode cX5_hasMouth 0 = .ok (.iload_n 1, 1) := by decide +kernel
theorem dX5_hasMouth_1 : decode cX5_hasMouth 1 = .ok (.ifCond .lt 15, 3) := by decide +kernel
theorem dX5_hasMouth_4 : decode cX5_hasMouth 4 = .ok (.iload_n 1, 1) := by decide +kernel
theorem dX5_hasMouth_5 : decode cX5_hasMouth 5 = .ok (.aload_n 0, 1) := by decide +kernel
theorem dX5_hasMouth_6 : decode cX5_hasMouth 6 = .ok (.invokevirtual 46, 3) := by decide +kernel
theorem dX5_hasMouth_9 : decode cX5_hasMouth 9 = .ok (.if_icmp .ge 7, 3) := by decide +kernel
theorem dX5_hasMouth_12 : decode cX5_hasMouth 12 = .ok (.iconst 1, 1) := by decide +kernel
theorem dX5_hasMouth_13 : decode cX5_hasMouth 13 = .ok (.goto 4, 3) := by decide +kernel
theorem dX5_hasMouth_16 : decode cX5_hasMouth 16 = .ok (.iconst 0, 1) := by decide +kernel
theorem dX5_hasMouth_17 : decode cX5_hasMouth 17 = .ok (.ireturn, 1) := by decide +kernel
theorem dX5_hasColour_0 : decode cX5_hasColour 0 = .ok (.iload_n 1, 1) := by decide +kernel
theorem dX5_hasColour_1 : decode cX5_hasColour 1 = .ok (.ifCond .lt 15, 3) := by decide +kernel
theorem dX5_hasColour_4 : decode cX5_hasColour 4 = .ok (.iload_n 1, 1) := by decide +kernel
theorem dX5_hasColour_5 : decode cX5_hasColour 5 = .ok (.aload_n 0, 1) := by decide +kernel
theorem dX5_hasColour_6 : decode cX5_hasColour 6 = .ok (.invokevirtual 50, 3) := by decide +kernel
theorem dX5_hasColour_9 : decode cX5_hasColour 9 = .ok (.if_icmp .ge 7, 3) := by decide +kernel
theorem dX5_hasColour_12 : decode cX5_hasColour 12 = .ok (.iconst 1, 1) := by decide +kernel
theorem dX5_hasColour_13 : decode cX5_hasColour 13 = .ok (.goto 4, 3) := by decide +kernel
theorem dX5_hasColour_16 : decode cX5_hasColour 16 = .ok (.iconst 0, 1) := by decide +kernel
theorem dX5_hasColour_17 : decode cX5_hasColour 17 = .ok (.ireturn, 1) := by decide +kernel
theorem dX5_hasLamp_0 : decode cX5_hasLamp 0 = .ok (.iload_n 1, 1) := by decide +kernel
theorem dX5_hasLamp_1 : decode cX5_hasLamp 1 = .ok (.iconst 5, 1) := by decide +kernel
theorem dX5_hasLamp_2 : decode cX5_hasLamp 2 = .ok (.if_icmp .eq 11, 3) := by decide +kernel
theorem dX5_hasLamp_5 : decode cX5_hasLamp 5 = .ok (.aload_n 0, 1) := by decide +kernel
theorem dX5_hasLamp_6 : decode cX5_hasLamp 6 = .ok (.iload_n 1, 1) := by decide +kernel
theorem dX5_hasLamp_7 : decode cX5_hasLamp 7 = .ok (.invokevirtual 53, 3) := by decide +kernel
theorem dX5_hasLamp_10 : decode cX5_hasLamp 10 = .ok (.ifCond .eq 7, 3) := by decide +kernel
theorem dX5_hasLamp_13 : decode cX5_hasLamp 13 = .ok (.iconst 1, 1) := by decide +kernel
theorem dX5_hasLamp_14 : decode cX5_hasLamp 14 = .ok (.goto 4, 3) := by decide +kernel
theorem dX5_hasLamp_17 : decode cX5_hasLamp 17 = .ok (.iconst 0, 1) := by decide +kernel
theorem dX5_hasLamp_18 : decode cX5_hasLamp 18 = .ok (.ireturn, 1) := by decide +kernel
theorem dX5_hasSet_0 : decode cX5_hasSet 0 = .ok (.iload_n 1, 1) := by decide +kernel
theorem dX5_hasSet_1 : decode cX5_hasSet 1 = .ok (.ifCond .le 15, 3) := by decide +kernel
theorem dX5_hasSet_4 : decode cX5_hasSet 4 = .ok (.iload_n 1, 1) := by decide +kernel
theorem dX5_hasSet_5 : decode cX5_hasSet 5 = .ok (.aload_n 0, 1) := by decide +kernel
theorem dX5_hasSet_6 : decode cX5_hasSet 6 = .ok (.invokevirtual 57, 3) := by decide +kernel
theorem dX5_hasSet_9 : decode cX5_hasSet 9 = .ok (.if_icmp .gt 7, 3) := by decide +kernel
theorem dX5_hasSet_12 : decode cX5_hasSet 12 = .ok (.iconst 1, 1) := by decide +kernel
theorem dX5_hasSet_13 : decode cX5_hasSet 13 = .ok (.goto 4, 3) := by decide +kernel
theorem dX5_hasSet_16 : decode cX5_hasSet 16 = .ok (.iconst 0, 1) := by decide +kernel
theorem dX5_hasSet_17 : decode cX5_hasSet 17 = .ok (.ireturn, 1) := by decide +kernel
theorem dX5_allColours_0 : decode cX5_allColours 0 = .ok (.iconst 1, 1) := by decide +kernel
theorem dX5_allColours_1 : decode cX5_allColours 1 = .ok (.aload_n 0, 1) := by decide +kernel
theorem dX5_allColours_2 : decode cX5_allColours 2 = .ok (.invokevirtual 50, 3) := by decide +kernel
theorem dX5_allColours_5 : decode cX5_allColours 5 = .ok (.ishl, 1) := by decide +kernel
theorem dX5_allColours_6 : decode cX5_allColours 6 = .ok (.iconst 1, 1) := by decide +kernel
theorem dX5_allColours_7 : decode cX5_allColours 7 = .ok (.isub, 1) := by decide +kernel
theorem dX5_allColours_8 : decode cX5_allColours 8 = .ok (.ireturn, 1) := by decide +kernel
theorem dX5_darkOfTunnel_0 : decode cX5_darkOfTunnel 0 = .ok (.aload_n 0, 1) := by decide +kernel
theorem dX5_darkOfTunnel_1 : decode cX5_darkOfTunnel 1 = .ok (.iconst 1, 1) := by decide +kernel
theorem dX5_darkOfTunnel_2 : decode cX5_darkOfTunnel 2 = .ok (.iload_n 1, 1) := by decide +kernel
theorem dX5_darkOfTunnel_3 : decode cX5_darkOfTunnel 3 = .ok (.iconst 0, 1) := by decide +kernel
theorem dX5_darkOfTunnel_4 : decode cX5_darkOfTunnel 4 = .ok (.invokevirtual 42, 3) := by decide +kernel
theorem dX5_darkOfTunnel_7 : decode cX5_darkOfTunnel 7 = .ok (.aload_n 0, 1) := by decide +kernel
theorem dX5_darkOfTunnel_8 : decode cX5_darkOfTunnel 8 = .ok (.iconst 1, 1) := by decide +kernel
theorem dX5_darkOfTunnel_9 : decode cX5_darkOfTunnel 9 = .ok (.iload_n 1, 1) := by decide +kernel
theorem dX5_darkOfTunnel_10 : decode cX5_darkOfTunnel 10 = .ok (.iconst 1, 1) := by decide +kernel
theorem dX5_darkOfTunnel_11 : decode cX5_darkOfTunnel 11 = .ok (.invokevirtual 42, 3) := by decide +kernel
theorem dX5_darkOfTunnel_14 : decode cX5_darkOfTunnel 14 = .ok (.invokestatic 60, 3) := by decide +kernel
theorem dX5_darkOfTunnel_17 : decode cX5_darkOfTunnel 17 = .ok (.ireturn, 1) := by decide +kernel
theorem dX5_lengthOf_0 : decode cX5_lengthOf 0 = .ok (.aload_n 0, 1) := by decide +kernel
theorem dX5_lengthOf_1 : decode cX5_lengthOf 1 = .ok (.getfield 18, 3) := by decide +kernel
theorem dX5_lengthOf_4 : decode cX5_lengthOf 4 = .ok (.iload_n 1, 1) := by decide +kernel
theorem dX5_lengthOf_5 : decode cX5_lengthOf 5 = .ok (.iload_n 2, 1) := by decide +kernel
theorem dX5_lengthOf_6 : decode cX5_lengthOf 6 = .ok (.invokestatic 60, 3) := by decide +kernel
theorem dX5_lengthOf_9 : decode cX5_lengthOf 9 = .ok (.invokestatic 24, 3) := by decide +kernel
theorem dX5_lengthOf_12 : decode cX5_lengthOf 12 = .ok (.ireturn, 1) := by decide +kernel
theorem dX5_isSound_0 : decode cX5_isSound 0 = .ok (.aload_n 0, 1) := by decide +kernel
theorem dX5_isSound_1 : decode cX5_isSound 1 = .ok (.invokevirtual 64, 3) := by decide +kernel
theorem dX5_isSound_4 : decode cX5_isSound 4 = .ok (.ifCond .eq 21, 3) := by decide +kernel
theorem dX5_isSound_7 : decode cX5_isSound 7 = .ok (.aload_n 0, 1) := by decide +kernel
theorem dX5_isSound_8 : decode cX5_isSound 8 = .ok (.invokevirtual 68, 3) := by decide +kernel
theorem dX5_isSound_11 : decode cX5_isSound 11 = .ok (.ifCond .eq 14, 3) := by decide +kernel
theorem dX5_isSound_14 : decode cX5_isSound 14 = .ok (.aload_n 0, 1) := by decide +kernel
theorem dX5_isSound_15 : decode cX5_isSound 15 = .ok (.invokevirtual 71, 3) := by decide +kernel
theorem dX5_isSound_18 : decode cX5_isSound 18 = .ok (.ifCond .eq 7, 3) := by decide +kernel
theorem dX5_isSound_21 : decode cX5_isSound 21 = .ok (.iconst 1, 1) := by decide +kernel
theorem dX5_isSound_22 : decode cX5_isSound 22 = .ok (.goto 4, 3) := by decide +kernel
theorem dX5_isSound_25 : decode cX5_isSound 25 = .ok (.iconst 0, 1) := by decide +kernel
theorem dX5_isSound_26 : decode cX5_isSound 26 = .ok (.ireturn, 1) := by decide +kernel
theorem dX5_areTunnelsSound_0 : decode cX5_areTunnelsSound 0 = .ok (.lconst 0, 1) := by decide +kernel
theorem dX5_areTunnelsSound_1 : decode cX5_areTunnelsSound 1 = .ok (.lstore_n 1, 1) := by decide +kernel
theorem dX5_areTunnelsSound_2 : decode cX5_areTunnelsSound 2 = .ok (.iconst 0, 1) := by decide +kernel
theorem dX5_areTunnelsSound_3 : decode cX5_areTunnelsSound 3 = .ok (.istore_n 3, 1) := by decide +kernel
theorem dX5_areTunnelsSound_4 : decode cX5_areTunnelsSound 4 = .ok (.iconst 0, 1) := by decide +kernel
theorem dX5_areTunnelsSound_5 : decode cX5_areTunnelsSound 5 = .ok (.istore 4, 2) := by decide +kernel
theorem dX5_areTunnelsSound_7 : decode cX5_areTunnelsSound 7 = .ok (.iload 4, 2) := by decide +kernel
theorem dX5_areTunnelsSound_9 : decode cX5_areTunnelsSound 9 = .ok (.aload_n 0, 1) := by decide +kernel
theorem dX5_areTunnelsSound_10 : decode cX5_areTunnelsSound 10 = .ok (.iconst 1, 1) := by decide +kernel
theorem dX5_areTunnelsSound_11 : decode cX5_areTunnelsSound 11 = .ok (.invokevirtual 28, 3) := by decide +kernel
theorem dX5_areTunnelsSound_14 : decode cX5_areTunnelsSound 14 = .ok (.if_icmp .ge 108, 3) := by decide +kernel
theorem dX5_areTunnelsSound_17 : decode cX5_areTunnelsSound 17 = .ok (.aload_n 0, 1) := by decide +kernel
theorem dX5_areTunnelsSound_18 : decode cX5_areTunnelsSound 18 = .ok (.iconst 1, 1) := by decide +kernel
theorem dX5_areTunnelsSound_19 : decode cX5_areTunnelsSound 19 = .ok (.iload 4, 2) := by decide +kernel
theorem dX5_areTunnelsSound_21 : decode cX5_areTunnelsSound 21 = .ok (.iconst 2, 1) := by decide +kernel
theorem dX5_areTunnelsSound_22 : decode cX5_areTunnelsSound 22 = .ok (.invokevirtual 42, 3) := by decide +kernel
theorem dX5_areTunnelsSound_25 : decode cX5_areTunnelsSound 25 = .ok (.istore 5, 2) := by decide +kernel
theorem dX5_areTunnelsSound_27 : decode cX5_areTunnelsSound 27 = .ok (.lconst 1, 1) := by decide +kernel
theorem dX5_areTunnelsSound_28 : decode cX5_areTunnelsSound 28 = .ok (.aload_n 0, 1) := by decide +kernel
theorem dX5_areTunnelsSound_29 : decode cX5_areTunnelsSound 29 = .ok (.iload 4, 2) := by decide +kernel
theorem dX5_areTunnelsSound_31 : decode cX5_areTunnelsSound 31 = .ok (.invokevirtual 39, 3) := by decide +kernel
theorem dX5_areTunnelsSound_34 : decode cX5_areTunnelsSound 34 = .ok (.lshl, 1) := by decide +kernel
theorem dX5_areTunnelsSound_35 : decode cX5_areTunnelsSound 35 = .ok (.lstore 6, 2) := by decide +kernel
theorem dX5_areTunnelsSound_37 : decode cX5_areTunnelsSound 37 = .ok (.aload_n 0, 1) := by decide +kernel
theorem dX5_areTunnelsSound_38 : decode cX5_areTunnelsSound 38 = .ok (.aload_n 0, 1) := by decide +kernel
theorem dX5_areTunnelsSound_39 : decode cX5_areTunnelsSound 39 = .ok (.iconst 1, 1) := by decide +kernel
theorem dX5_areTunnelsSound_40 : decode cX5_areTunnelsSound 40 = .ok (.iload 4, 2) := by decide +kernel
theorem dX5_areTunnelsSound_42 : decode cX5_areTunnelsSound 42 = .ok (.iconst 0, 1) := by decide +kernel
theorem dX5_areTunnelsSound_43 : decode cX5_areTunnelsSound 43 = .ok (.invokevirtual 42, 3) := by decide +kernel
theorem dX5_areTunnelsSound_46 : decode cX5_areTunnelsSound 46 = .ok (.invokevirtual 74, 3) := by decide +kernel
theorem dX5_areTunnelsSound_49 : decode cX5_areTunnelsSound 49 = .ok (.ifCond .eq 27, 3) := by decide +kernel
theorem dX5_areTunnelsSound_52 : decode cX5_areTunnelsSound 52 = .ok (.aload_n 0, 1) := by decide +kernel
theorem dX5_areTunnelsSound_53 : decode cX5_areTunnelsSound 53 = .ok (.aload_n 0, 1) := by decide +kernel
theorem dX5_areTunnelsSound_54 : decode cX5_areTunnelsSound 54 = .ok (.iconst 1, 1) := by decide +kernel
theorem dX5_areTunnelsSound_55 : decode cX5_areTunnelsSound 55 = .ok (.iload 4, 2) := by decide +kernel
theorem dX5_areTunnelsSound_57 : decode cX5_areTunnelsSound 57 = .ok (.iconst 1, 1) := by decide +kernel
theorem dX5_areTunnelsSound_58 : decode cX5_areTunnelsSound 58 = .ok (.invokevirtual 42, 3) := by decide +kernel
theorem dX5_areTunnelsSound_61 : decode cX5_areTunnelsSound 61 = .ok (.invokevirtual 53, 3) := by decide +kernel
theorem dX5_areTunnelsSound_64 : decode cX5_areTunnelsSound 64 = .ok (.ifCond .eq 12, 3) := by decide +kernel
theorem dX5_areTunnelsSound_67 : decode cX5_areTunnelsSound 67 = .ok (.lload_n 1, 1) := by decide +kernel
theorem dX5_areTunnelsSound_68 : decode cX5_areTunnelsSound 68 = .ok (.lload 6, 2) := by decide +kernel
theorem dX5_areTunnelsSound_70 : decode cX5_areTunnelsSound 70 = .ok (.land, 1) := by decide +kernel
theorem dX5_areTunnelsSound_71 : decode cX5_areTunnelsSound 71 = .ok (.lconst 0, 1) := by decide +kernel
theorem dX5_areTunnelsSound_72 : decode cX5_areTunnelsSound 72 = .ok (.lcmp, 1) := by decide +kernel
theorem dX5_areTunnelsSound_73 : decode cX5_areTunnelsSound 73 = .ok (.ifCond .eq 5, 3) := by decide +kernel
theorem dX5_areTunnelsSound_76 : decode cX5_areTunnelsSound 76 = .ok (.iconst 0, 1) := by decide +kernel
theorem dX5_areTunnelsSound_77 : decode cX5_areTunnelsSound 77 = .ok (.ireturn, 1) := by decide +kernel
theorem dX5_areTunnelsSound_78 : decode cX5_areTunnelsSound 78 = .ok (.iload 5, 2) := by decide +kernel
theorem dX5_areTunnelsSound_80 : decode cX5_areTunnelsSound 80 = .ok (.bipush 8, 2) := by decide +kernel
theorem dX5_areTunnelsSound_82 : decode cX5_areTunnelsSound 82 = .ok (.if_icmp .eq 14, 3) := by decide +kernel
theorem dX5_areTunnelsSound_85 : decode cX5_areTunnelsSound 85 = .ok (.aload_n 0, 1) := by decide +kernel
theorem dX5_areTunnelsSound_86 : decode cX5_areTunnelsSound 86 = .ok (.iload 5, 2) := by decide +kernel
theorem dX5_areTunnelsSound_88 : decode cX5_areTunnelsSound 88 = .ok (.invokevirtual 74, 3) := by decide +kernel
theorem dX5_areTunnelsSound_91 : decode cX5_areTunnelsSound 91 = .ok (.ifCond .ne 5, 3) := by decide +kernel
theorem dX5_areTunnelsSound_94 : decode cX5_areTunnelsSound 94 = .ok (.iconst 0, 1) := by decide +kernel
theorem dX5_areTunnelsSound_95 : decode cX5_areTunnelsSound 95 = .ok (.ireturn, 1) := by decide +kernel
theorem dX5_areTunnelsSound_96 : decode cX5_areTunnelsSound 96 = .ok (.lload_n 1, 1) := by decide +kernel
theorem dX5_areTunnelsSound_97 : decode cX5_areTunnelsSound 97 = .ok (.lload 6, 2) := by decide +kernel
theorem dX5_areTunnelsSound_99 : decode cX5_areTunnelsSound 99 = .ok (.lor, 1) := by decide +kernel
theorem dX5_areTunnelsSound_100 : decode cX5_areTunnelsSound 100 = .ok (.lstore_n 1, 1) := by decide +kernel
theorem dX5_areTunnelsSound_101 : decode cX5_areTunnelsSound 101 = .ok (.iload_n 3, 1) := by decide +kernel
theorem dX5_areTunnelsSound_102 : decode cX5_areTunnelsSound 102 = .ok (.iload 5, 2) := by decide +kernel
theorem dX5_areTunnelsSound_104 : decode cX5_areTunnelsSound 104 = .ok (.bipush 8, 2) := by decide +kernel
theorem dX5_areTunnelsSound_106 : decode cX5_areTunnelsSound 106 = .ok (.if_icmp .ne 7, 3) := by decide +kernel
theorem dX5_areTunnelsSound_109 : decode cX5_areTunnelsSound 109 = .ok (.iconst 1, 1) := by decide +kernel
theorem dX5_areTunnelsSound_110 : decode cX5_areTunnelsSound 110 = .ok (.goto 4, 3) := by decide +kernel
theorem dX5_areTunnelsSound_113 : decode cX5_areTunnelsSound 113 = .ok (.iconst 0, 1) := by decide +kernel
theorem dX5_areTunnelsSound_114 : decode cX5_areTunnelsSound 114 = .ok (.iadd, 1) := by decide +kernel
theorem dX5_areTunnelsSound_115 : decode cX5_areTunnelsSound 115 = .ok (.istore_n 3, 1) := by decide +kernel
theorem dX5_areTunnelsSound_116 : decode cX5_areTunnelsSound 116 = .ok (.iinc 4 1, 3) := by decide +kernel
theorem dX5_areTunnelsSound_119 : decode cX5_areTunnelsSound 119 = .ok (.goto (-112), 3) := by decide +kernel
theorem dX5_areTunnelsSound_122 : decode cX5_areTunnelsSound 122 = .ok (.iload_n 3, 1) := by decide +kernel
theorem dX5_areTunnelsSound_123 : decode cX5_areTunnelsSound 123 = .ok (.iconst 4, 1) := by decide +kernel
theorem dX5_areTunnelsSound_124 : decode cX5_areTunnelsSound 124 = .ok (.if_icmp .gt 7, 3) := by decide +kernel
theorem dX5_areTunnelsSound_127 : decode cX5_areTunnelsSound 127 = .ok (.iconst 1, 1) := by decide +kernel
theorem dX5_areTunnelsSound_128 : decode cX5_areTunnelsSound 128 = .ok (.goto 4, 3) := by decide +kernel
theorem dX5_areTunnelsSound_131 : decode cX5_areTunnelsSound 131 = .ok (.iconst 0, 1) := by decide +kernel
theorem dX5_areTunnelsSound_132 : decode cX5_areTunnelsSound 132 = .ok (.ireturn, 1) := by decide +kernel
theorem dX5_areTrainsSound_0 : decode cX5_areTrainsSound 0 = .ok (.iconst 0, 1) := by decide +kernel
theorem dX5_areTrainsSound_1 : decode cX5_areTrainsSound 1 = .ok (.istore_n 1, 1) := by decide +kernel
theorem dX5_areTrainsSound_2 : decode cX5_areTrainsSound 2 = .ok (.iload_n 1, 1) := by decide +kernel
theorem dX5_areTrainsSound_3 : decode cX5_areTrainsSound 3 = .ok (.aload_n 0, 1) := by decide +kernel
theorem dX5_areTrainsSound_4 : decode cX5_areTrainsSound 4 = .ok (.iconst 2, 1) := by decide +kernel
theorem dX5_areTrainsSound_5 : decode cX5_areTrainsSound 5 = .ok (.invokevirtual 28, 3) := by decide +kernel
theorem dX5_areTrainsSound_8 : decode cX5_areTrainsSound 8 = .ok (.if_icmp .ge 39, 3) := by decide +kernel
theorem dX5_areTrainsSound_11 : decode cX5_areTrainsSound 11 = .ok (.aload_n 0, 1) := by decide +kernel
theorem dX5_areTrainsSound_12 : decode cX5_areTrainsSound 12 = .ok (.aload_n 0, 1) := by decide +kernel
theorem dX5_areTrainsSound_13 : decode cX5_areTrainsSound 13 = .ok (.iconst 2, 1) := by decide +kernel
theorem dX5_areTrainsSound_14 : decode cX5_areTrainsSound 14 = .ok (.iload_n 1, 1) := by decide +kernel
theorem dX5_areTrainsSound_15 : decode cX5_areTrainsSound 15 = .ok (.iconst 0, 1) := by decide +kernel
theorem dX5_areTrainsSound_16 : decode cX5_areTrainsSound 16 = .ok (.invokevirtual 42, 3) := by decide +kernel
theorem dX5_areTrainsSound_19 : decode cX5_areTrainsSound 19 = .ok (.invokevirtual 74, 3) := by decide +kernel
theorem dX5_areTrainsSound_22 : decode cX5_areTrainsSound 22 = .ok (.ifCond .eq 17, 3) := by decide +kernel
theorem dX5_areTrainsSound_25 : decode cX5_areTrainsSound 25 = .ok (.aload_n 0, 1) := by decide +kernel
theorem dX5_areTrainsSound_26 : decode cX5_areTrainsSound 26 = .ok (.aload_n 0, 1) := by decide +kernel
theorem dX5_areTrainsSound_27 : decode cX5_areTrainsSound 27 = .ok (.iconst 2, 1) := by decide +kernel
theorem dX5_areTrainsSound_28 : decode cX5_areTrainsSound 28 = .ok (.iload_n 1, 1) := by decide +kernel
theorem dX5_areTrainsSound_29 : decode cX5_areTrainsSound 29 = .ok (.iconst 1, 1) := by decide +kernel
theorem dX5_areTrainsSound_30 : decode cX5_areTrainsSound 30 = .ok (.invokevirtual 42, 3) := by decide +kernel
theorem dX5_areTrainsSound_33 : decode cX5_areTrainsSound 33 = .ok (.invokevirtual 77, 3) := by decide +kernel
theorem dX5_areTrainsSound_36 : decode cX5_areTrainsSound 36 = .ok (.ifCond .ne 5, 3) := by decide +kernel
theorem dX5_areTrainsSound_39 : decode cX5_areTrainsSound 39 = .ok (.iconst 0, 1) := by decide +kernel
theorem dX5_areTrainsSound_40 : decode cX5_areTrainsSound 40 = .ok (.ireturn, 1) := by decide +kernel
theorem dX5_areTrainsSound_41 : decode cX5_areTrainsSound 41 = .ok (.iinc 1 1, 3) := by decide +kernel
theorem dX5_areTrainsSound_44 : decode cX5_areTrainsSound 44 = .ok (.goto (-42), 3) := by decide +kernel
theorem dX5_areTrainsSound_47 : decode cX5_areTrainsSound 47 = .ok (.iconst 1, 1) := by decide +kernel
theorem dX5_areTrainsSound_48 : decode cX5_areTrainsSound 48 = .ok (.ireturn, 1) := by decide +kernel
theorem dX5_areGuardsSound_0 : decode cX5_areGuardsSound 0 = .ok (.iconst 0, 1) := by decide +kernel
theorem dX5_areGuardsSound_1 : decode cX5_areGuardsSound 1 = .ok (.istore_n 1, 1) := by decide +kernel
theorem dX5_areGuardsSound_2 : decode cX5_areGuardsSound 2 = .ok (.iload_n 1, 1) := by decide +kernel
theorem dX5_areGuardsSound_3 : decode cX5_areGuardsSound 3 = .ok (.aload_n 0, 1) := by decide +kernel
theorem dX5_areGuardsSound_4 : decode cX5_areGuardsSound 4 = .ok (.iconst 3, 1) := by decide +kernel
theorem dX5_areGuardsSound_5 : decode cX5_areGuardsSound 5 = .ok (.invokevirtual 28, 3) := by decide +kernel
theorem dX5_areGuardsSound_8 : decode cX5_areGuardsSound 8 = .ok (.if_icmp .ge 25, 3) := by decide +kernel
theorem dX5_areGuardsSound_11 : decode cX5_areGuardsSound 11 = .ok (.aload_n 0, 1) := by decide +kernel
theorem dX5_areGuardsSound_12 : decode cX5_areGuardsSound 12 = .ok (.aload_n 0, 1) := by decide +kernel
theorem dX5_areGuardsSound_13 : decode cX5_areGuardsSound 13 = .ok (.iconst 3, 1) := by decide +kernel
theorem dX5_areGuardsSound_14 : decode cX5_areGuardsSound 14 = .ok (.iload_n 1, 1) := by decide +kernel
theorem dX5_areGuardsSound_15 : decode cX5_areGuardsSound 15 = .ok (.iconst 0, 1) := by decide +kernel
theorem dX5_areGuardsSound_16 : decode cX5_areGuardsSound 16 = .ok (.invokevirtual 42, 3) := by decide +kernel
theorem dX5_areGuardsSound_19 : decode cX5_areGuardsSound 19 = .ok (.invokevirtual 74, 3) := by decide +kernel
theorem dX5_areGuardsSound_22 : decode cX5_areGuardsSound 22 = .ok (.ifCond .ne 5, 3) := by decide +kernel
theorem dX5_areGuardsSound_25 : decode cX5_areGuardsSound 25 = .ok (.iconst 0, 1) := by decide +kernel
theorem dX5_areGuardsSound_26 : decode cX5_areGuardsSound 26 = .ok (.ireturn, 1) := by decide +kernel
theorem dX5_areGuardsSound_27 : decode cX5_areGuardsSound 27 = .ok (.iinc 1 1, 3) := by decide +kernel
theorem dX5_areGuardsSound_30 : decode cX5_areGuardsSound 30 = .ok (.goto (-28), 3) := by decide +kernel
theorem dX5_areGuardsSound_33 : decode cX5_areGuardsSound 33 = .ok (.iconst 1, 1) := by decide +kernel
theorem dX5_areGuardsSound_34 : decode cX5_areGuardsSound 34 = .ok (.ireturn, 1) := by decide +kernel
theorem dX6_init_0 : decode cX6_init 0 = .ok (.aload_n 0, 1) := by decide +kernel
theorem dX6_init_1 : decode cX6_init 1 = .ok (.invokespecial 3, 3) := by decide +kernel
theorem dX6_init_4 : decode cX6_init 4 = .ok (.aload_n 0, 1) := by decide +kernel
theorem dX6_init_5 : decode cX6_init 5 = .ok (.iconst 4, 1) := by decide +kernel
theorem dX6_init_6 : decode cX6_init 6 = .ok (.newarray .int, 2) := by decide +kernel
theorem dX6_init_8 : decode cX6_init 8 = .ok (.putfield 11, 3) := by decide +kernel
theorem dX6_init_11 : decode cX6_init 11 = .ok (.aload_n 0, 1) := by decide +kernel
theorem dX6_init_12 : decode cX6_init 12 = .ok (.aload_n 1, 1) := by decide +kernel
theorem dX6_init_13 : decode cX6_init 13 = .ok (.putfield 17, 3) := by decide +kernel
theorem dX6_init_16 : decode cX6_init 16 = .ok (.aload_n 0, 1) := by decide +kernel
theorem dX6_init_17 : decode cX6_init 17 = .ok (.aload_n 2, 1) := by decide +kernel
theorem dX6_init_18 : decode cX6_init 18 = .ok (.putfield 21, 3) := by decide +kernel
theorem dX6_init_21 : decode cX6_init 21 = .ok (.return_, 1) := by decide +kernel
theorem dX6_firstFault_0 : decode cX6_firstFault 0 = .ok (.aload_n 0, 1) := by decide +kernel
theorem dX6_firstFault_1 : decode cX6_firstFault 1 = .ok (.getfield 17, 3) := by decide +kernel
theorem dX6_firstFault_4 : decode cX6_firstFault 4 = .ok (.invokevirtual 25, 3) := by decide +kernel
theorem dX6_firstFault_7 : decode cX6_firstFault 7 = .ok (.aload_n 0, 1) := by decide +kernel
theorem dX6_firstFault_8 : decode cX6_firstFault 8 = .ok (.getfield 21, 3) := by decide +kernel
theorem dX6_firstFault_11 : decode cX6_firstFault 11 = .ok (.invokevirtual 30, 3) := by decide +kernel
theorem dX6_firstFault_14 : decode cX6_firstFault 14 = .ok (.iconst 1, 1) := by decide +kernel
theorem dX6_firstFault_15 : decode cX6_firstFault 15 = .ok (.istore_n 1, 1) := by decide +kernel
theorem dX6_firstFault_16 : decode cX6_firstFault 16 = .ok (.iconst 0, 1) := by decide +kernel
theorem dX6_firstFault_17 : decode cX6_firstFault 17 = .ok (.istore_n 2, 1) := by decide +kernel
theorem dX6_firstFault_18 : decode cX6_firstFault 18 = .ok (.iload_n 2, 1) := by decide +kernel
theorem dX6_firstFault_19 : decode cX6_firstFault 19 = .ok (.sipush 240, 3) := by decide +kernel
theorem dX6_firstFault_22 : decode cX6_firstFault 22 = .ok (.if_icmp .gt 25, 3) := by decide +kernel
theorem dX6_firstFault_25 : decode cX6_firstFault 25 = .ok (.iload_n 1, 1) := by decide +kernel
theorem dX6_firstFault_26 : decode cX6_firstFault 26 = .ok (.ifCond .eq 21, 3) := by decide +kernel
theorem dX6_firstFault_29 : decode cX6_firstFault 29 = .ok (.aload_n 0, 1) := by decide +kernel
theorem dX6_firstFault_30 : decode cX6_firstFault 30 = .ok (.invokevirtual 33, 3) := by decide +kernel
theorem dX6_firstFault_33 : decode cX6_firstFault 33 = .ok (.aload_n 0, 1) := by decide +kernel
theorem dX6_firstFault_34 : decode cX6_firstFault 34 = .ok (.getfield 17, 3) := by decide +kernel
theorem dX6_firstFault_37 : decode cX6_firstFault 37 = .ok (.invokevirtual 36, 3) := by decide +kernel
theorem dX6_firstFault_40 : decode cX6_firstFault 40 = .ok (.istore_n 1, 1) := by decide +kernel
theorem dX6_firstFault_41 : decode cX6_firstFault 41 = .ok (.iinc 2 1, 3) := by decide +kernel
theorem dX6_firstFault_44 : decode cX6_firstFault 44 = .ok (.goto (-26), 3) := by decide +kernel
theorem dX6_firstFault_47 : decode cX6_firstFault 47 = .ok (.aload_n 0, 1) := by decide +kernel
theorem dX6_firstFault_48 : decode cX6_firstFault 48 = .ok (.invokevirtual 40, 3) := by decide +kernel
theorem dX6_firstFault_51 : decode cX6_firstFault 51 = .ok (.aload_n 0, 1) := by decide +kernel
theorem dX6_firstFault_52 : decode cX6_firstFault 52 = .ok (.getfield 21, 3) := by decide +kernel
theorem dX6_firstFault_55 : decode cX6_firstFault 55 = .ok (.invokevirtual 43, 3) := by decide +kernel
theorem dX6_firstFault_58 : decode cX6_firstFault 58 = .ok (.ifCond .ne 10, 3) := by decide +kernel
theorem dX6_firstFault_61 : decode cX6_firstFault 61 = .ok (.aload_n 0, 1) := by decide +kernel
theorem dX6_firstFault_62 : decode cX6_firstFault 62 = .ok (.getfield 17, 3) := by decide +kernel
theorem dX6_firstFault_65 : decode cX6_firstFault 65 = .ok (.invokevirtual 46, 3) := by decide +kernel
theorem dX6_firstFault_68 : decode cX6_firstFault 68 = .ok (.aload_n 0, 1) := by decide +kernel
theorem dX6_firstFault_69 : decode cX6_firstFault 69 = .ok (.getfield 17, 3) := by decide +kernel
theorem dX6_firstFault_72 : decode cX6_firstFault 72 = .ok (.invokevirtual 49, 3) := by decide +kernel
theorem dX6_firstFault_75 : decode cX6_firstFault 75 = .ok (.ireturn, 1) := by decide +kernel
theorem dX6_sizeIfUntold_0 : decode cX6_sizeIfUntold 0 = .ok (.aload_n 0, 1) := by decide +kernel
theorem dX6_sizeIfUntold_1 : decode cX6_sizeIfUntold 1 = .ok (.getfield 21, 3) := by decide +kernel
theorem dX6_sizeIfUntold_4 : decode cX6_sizeIfUntold 4 = .ok (.iconst 0, 1) := by decide +kernel
theorem dX6_sizeIfUntold_5 : decode cX6_sizeIfUntold 5 = .ok (.invokevirtual 53, 3) := by decide +kernel
theorem dX6_sizeIfUntold_8 : decode cX6_sizeIfUntold 8 = .ok (.ifCond .ne 20, 3) := by decide +kernel
theorem dX6_sizeIfUntold_11 : decode cX6_sizeIfUntold 11 = .ok (.aload_n 0, 1) := by decide +kernel
theorem dX6_sizeIfUntold_12 : decode cX6_sizeIfUntold 12 = .ok (.iconst 0, 1) := by decide +kernel
theorem dX6_sizeIfUntold_13 : decode cX6_sizeIfUntold 13 = .ok (.invokevirtual 57, 3) := by decide +kernel
theorem dX6_sizeIfUntold_16 : decode cX6_sizeIfUntold 16 = .ok (.aload_n 0, 1) := by decide +kernel
theorem dX6_sizeIfUntold_17 : decode cX6_sizeIfUntold 17 = .ok (.getfield 21, 3) := by decide +kernel
theorem dX6_sizeIfUntold_20 : decode cX6_sizeIfUntold 20 = .ok (.iconst 0, 1) := by decide +kernel
theorem dX6_sizeIfUntold_21 : decode cX6_sizeIfUntold 21 = .ok (.aload_n 0, 1) := by decide +kernel
theorem dX6_sizeIfUntold_22 : decode cX6_sizeIfUntold 22 = .ok (.getfield 11, 3) := by decide +kernel
theorem dX6_sizeIfUntold_25 : decode cX6_sizeIfUntold 25 = .ok (.invokevirtual 61, 3) := by decide +kernel
theorem dX6_sizeIfUntold_28 : decode cX6_sizeIfUntold 28 = .ok (.return_, 1) := by decide +kernel
theorem dX6_setUsual_0 : decode cX6_setUsual 0 = .ok (.iconst 0, 1) := by decide +kernel
theorem dX6_setUsual_1 : decode cX6_setUsual 1 = .ok (.istore_n 2, 1) := by decide +kernel
theorem dX6_setUsual_2 : decode cX6_setUsual 2 = .ok (.iload_n 2, 1) := by decide +kernel
theorem dX6_setUsual_3 : decode cX6_setUsual 3 = .ok (.iconst 4, 1) := by decide +kernel
theorem dX6_setUsual_4 : decode cX6_setUsual 4 = .ok (.if_icmp .ge 28, 3) := by decide +kernel
theorem dX6_setUsual_7 : decode cX6_setUsual 7 = .ok (.aload_n 0, 1) := by decide +kernel
theorem dX6_setUsual_8 : decode cX6_setUsual 8 = .ok (.getfield 11, 3) := by decide +kernel
theorem dX6_setUsual_11 : decode cX6_setUsual 11 = .ok (.iload_n 2, 1) := by decide +kernel
theorem dX6_setUsual_12 : decode cX6_setUsual 12 = .ok (.getstatic 65, 3) := by decide +kernel
theorem dX6_setUsual_15 : decode cX6_setUsual 15 = .ok (.iload_n 1, 1) := by decide +kernel
theorem dX6_setUsual_16 : decode cX6_setUsual 16 = .ok (.iconst 4, 1) := by decide +kernel
theorem dX6_setUsual_17 : decode cX6_setUsual 17 = .ok (.imul, 1) := by decide +kernel
theorem dX6_setUsual_18 : decode cX6_setUsual 18 = .ok (.iload_n 2, 1) := by decide +kernel
theorem dX6_setUsual_19 : decode cX6_setUsual 19 = .ok (.iadd, 1) := by decide +kernel
theorem dX6_setUsual_20 : decode cX6_setUsual 20 = .ok (.invokestatic 68, 3) := by decide +kernel
theorem dX6_setUsual_23 : decode cX6_setUsual 23 = .ok (.invokestatic 72, 3) := by decide +kernel
theorem dX6_setUsual_26 : decode cX6_setUsual 26 = .ok (.iinc 2 1, 3) := by decide +kernel
theorem dX6_setUsual_29 : decode cX6_setUsual 29 = .ok (.goto (-27), 3) := by decide +kernel
theorem dX6_setUsual_32 : decode cX6_setUsual 32 = .ok (.return_, 1) := by decide +kernel
theorem dX6_readClause_0 : decode cX6_readClause 0 = .ok (.aload_n 0, 1) := by decide +kernel
theorem dX6_readClause_1 : decode cX6_readClause 1 = .ok (.getfield 17, 3) := by decide +kernel
theorem dX6_readClause_4 : decode cX6_readClause 4 = .ok (.invokevirtual 76, 3) := by decide +kernel
theorem dX6_readClause_7 : decode cX6_readClause 7 = .ok (.istore_n 1, 1) := by decide +kernel
theorem dX6_readClause_8 : decode cX6_readClause 8 = .ok (.iload_n 1, 1) := by decide +kernel
theorem dX6_readClause_9 : decode cX6_readClause 9 = .ok (.invokestatic 79, 3) := by decide +kernel
theorem dX6_readClause_12 : decode cX6_readClause 12 = .ok (.istore_n 2, 1) := by decide +kernel
theorem dX6_readClause_13 : decode cX6_readClause 13 = .ok (.iload_n 2, 1) := by decide +kernel
theorem dX6_readClause_14 : decode cX6_readClause 14 = .ok (.iconst (-1), 1) := by decide +kernel
theorem dX6_readClause_15 : decode cX6_readClause 15 = .ok (.if_icmp .eq 14, 3) := by decide +kernel
theorem dX6_readClause_18 : decode cX6_readClause 18 = .ok (.aload_n 0, 1) := by decide +kernel
theorem dX6_readClause_19 : decode cX6_readClause 19 = .ok (.getfield 21, 3) := by decide +kernel
theorem dX6_readClause_22 : decode cX6_readClause 22 = .ok (.iload_n 2, 1) := by decide +kernel
theorem dX6_readClause_23 : decode cX6_readClause 23 = .ok (.invokevirtual 82, 3) := by decide +kernel
theorem dX6_readClause_26 : decode cX6_readClause 26 = .ok (.ifCond .eq 11, 3) := by decide +kernel
theorem dX6_readClause_29 : decode cX6_readClause 29 = .ok (.aload_n 0, 1) := by decide +kernel
theorem dX6_readClause_30 : decode cX6_readClause 30 = .ok (.getfield 17, 3) := by decide +kernel
theorem dX6_readClause_33 : decode cX6_readClause 33 = .ok (.invokevirtual 86, 3) := by decide +kernel
theorem dX6_readClause_36 : decode cX6_readClause 36 = .ok (.return_, 1) := by decide +kernel
theorem dX6_readClause_37 : decode cX6_readClause 37 = .ok (.aload_n 0, 1) := by decide +kernel
theorem dX6_readClause_38 : decode cX6_readClause 38 = .ok (.getfield 17, 3) := by decide +kernel
theorem dX6_readClause_41 : decode cX6_readClause 41 = .ok (.iload_n 1, 1) := by decide +kernel
theorem dX6_readClause_42 : decode cX6_readClause 42 = .ok (.invokevirtual 89, 3) := by decide +kernel
theorem dX6_readClause_45 : decode cX6_readClause 45 = .ok (.pop, 1) := by decide +kernel
theorem dX6_readClause_46 : decode cX6_readClause 46 = .ok (.aload_n 0, 1) := by decide +kernel
theorem dX6_readClause_47 : decode cX6_readClause 47 = .ok (.iload_n 2, 1) := by decide +kernel
theorem dX6_readClause_48 : decode cX6_readClause 48 = .ok (.invokevirtual 57, 3) := by decide +kernel
theorem dX6_readClause_51 : decode cX6_readClause 51 = .ok (.aload_n 0, 1) := by decide +kernel
theorem dX6_readClause_52 : decode cX6_readClause 52 = .ok (.iload_n 2, 1) := by decide +kernel
theorem dX6_readClause_53 : decode cX6_readClause 53 = .ok (.invokevirtual 92, 3) := by decide +kernel
theorem dX6_readClause_56 : decode cX6_readClause 56 = .ok (.aload_n 0, 1) := by decide +kernel
theorem dX6_readClause_57 : decode cX6_readClause 57 = .ok (.getfield 17, 3) := by decide +kernel
theorem dX6_readClause_60 : decode cX6_readClause 60 = .ok (.invokevirtual 95, 3) := by decide +kernel
theorem dX6_readClause_63 : decode cX6_readClause 63 = .ok (.ifCond .ne 15, 3) := by decide +kernel
theorem dX6_readClause_66 : decode cX6_readClause 66 = .ok (.aload_n 0, 1) := by decide +kernel
theorem dX6_readClause_67 : decode cX6_readClause 67 = .ok (.getfield 21, 3) := by decide +kernel
theorem dX6_readClause_70 : decode cX6_readClause 70 = .ok (.iload_n 2, 1) := by decide +kernel
theorem dX6_readClause_71 : decode cX6_readClause 71 = .ok (.aload_n 0, 1) := by decide +kernel
theorem dX6_readClause_72 : decode cX6_readClause 72 = .ok (.getfield 11, 3) := by decide +kernel
theorem dX6_readClause_75 : decode cX6_readClause 75 = .ok (.invokevirtual 61, 3) := by decide +kernel
theorem dX6_readClause_78 : decode cX6_readClause 78 = .ok (.return_, 1) := by decide +kernel
theorem dX6_kindOf_0 : decode cX6_kindOf 0 = .ok (.iconst 0, 1) := by decide +kernel
theorem dX6_kindOf_1 : decode cX6_kindOf 1 = .ok (.istore_n 1, 1) := by decide +kernel
theorem dX6_kindOf_2 : decode cX6_kindOf 2 = .ok (.iload_n 1, 1) := by decide +kernel
theorem dX6_kindOf_3 : decode cX6_kindOf 3 = .ok (.getstatic 98, 3) := by decide +kernel
theorem dX6_kindOf_6 : decode cX6_kindOf 6 = .ok (.arraylength, 1) := by decide +kernel
theorem dX6_kindOf_7 : decode cX6_kindOf 7 = .ok (.if_icmp .ge 20, 3) := by decide +kernel
theorem dX6_kindOf_10 : decode cX6_kindOf 10 = .ok (.getstatic 98, 3) := by decide +kernel
theorem dX6_kindOf_13 : decode cX6_kindOf 13 = .ok (.iload_n 1, 1) := by decide +kernel
theorem dX6_kindOf_14 : decode cX6_kindOf 14 = .ok (.caload, 1) := by decide +kernel
theorem dX6_kindOf_15 : decode cX6_kindOf 15 = .ok (.iload_n 0, 1) := by decide +kernel
theorem dX6_kindOf_16 : decode cX6_kindOf 16 = .ok (.if_icmp .ne 5, 3) := by decide +kernel
theorem dX6_kindOf_19 : decode cX6_kindOf 19 = .ok (.iload_n 1, 1) := by decide +kernel
theorem dX6_kindOf_20 : decode cX6_kindOf 20 = .ok (.ireturn, 1) := by decide +kernel
theorem dX6_kindOf_21 : decode cX6_kindOf 21 = .ok (.iinc 1 1, 3) := by decide +kernel
theorem dX6_kindOf_24 : decode cX6_kindOf 24 = .ok (.goto (-22), 3) := by decide +kernel
theorem dX6_kindOf_27 : decode cX6_kindOf 27 = .ok (.iconst (-1), 1) := by decide +kernel
theorem dX6_kindOf_28 : decode cX6_kindOf 28 = .ok (.ireturn, 1) := by decide +kernel
theorem dX6_readItems_0 : decode cX6_readItems 0 = .ok (.iconst 0, 1) := by decide +kernel
theorem dX6_readItems_1 : decode cX6_readItems 1 = .ok (.istore_n 2, 1) := by decide +kernel
theorem dX6_readItems_2 : decode cX6_readItems 2 = .ok (.iconst 0, 1) := by decide +kernel
theorem dX6_readItems_3 : decode cX6_readItems 3 = .ok (.istore_n 3, 1) := by decide +kernel
theorem dX6_readItems_4 : decode cX6_readItems 4 = .ok (.iload_n 3, 1) := by decide +kernel
theorem dX6_readItems_5 : decode cX6_readItems 5 = .ok (.iconst 4, 1) := by decide +kernel
theorem dX6_readItems_6 : decode cX6_readItems 6 = .ok (.if_icmp .gt 108, 3) := by decide +kernel
theorem dX6_readItems_9 : decode cX6_readItems 9 = .ok (.aload_n 0, 1) := by decide +kernel
theorem dX6_readItems_10 : decode cX6_readItems 10 = .ok (.getfield 17, 3) := by decide +kernel
theorem dX6_readItems_13 : decode cX6_readItems 13 = .ok (.invokevirtual 76, 3) := by decide +kernel
theorem dX6_readItems_16 : decode cX6_readItems 16 = .ok (.istore 4, 2) := by decide +kernel
theorem dX6_readItems_18 : decode cX6_readItems 18 = .ok (.iload_n 1, 1) := by decide +kernel
theorem dX6_readItems_19 : decode cX6_readItems 19 = .ok (.iload 4, 2) := by decide +kernel
theorem dX6_readItems_21 : decode cX6_readItems 21 = .ok (.invokestatic 102, 3) := by decide +kernel
theorem dX6_readItems_24 : decode cX6_readItems 24 = .ok (.istore 5, 2) := by decide +kernel
theorem dX6_readItems_26 : decode cX6_readItems 26 = .ok (.iload 5, 2) := by decide +kernel
theorem dX6_readItems_28 : decode cX6_readItems 28 = .ok (.iconst (-1), 1) := by decide +kernel
theorem dX6_readItems_29 : decode cX6_readItems 29 = .ok (.if_icmp .ne 4, 3) := by decide +kernel
theorem dX6_readItems_32 : decode cX6_readItems 32 = .ok (.return_, 1) := by decide +kernel
theorem dX6_readItems_33 : decode cX6_readItems 33 = .ok (.iload_n 2, 1) := by decide +kernel
theorem dX6_readItems_34 : decode cX6_readItems 34 = .ok (.iload 5, 2) := by decide +kernel
theorem dX6_readItems_36 : decode cX6_readItems 36 = .ok (.invokestatic 106, 3) := by decide +kernel
theorem dX6_readItems_39 : decode cX6_readItems 39 = .ok (.ifCond .eq 11, 3) := by decide +kernel
theorem dX6_readItems_42 : decode cX6_readItems 42 = .ok (.aload_n 0, 1) := by decide +kernel
theorem dX6_readItems_43 : decode cX6_readItems 43 = .ok (.getfield 17, 3) := by decide +kernel
theorem dX6_readItems_46 : decode cX6_readItems 46 = .ok (.invokevirtual 86, 3) := by decide +kernel
theorem dX6_readItems_49 : decode cX6_readItems 49 = .ok (.return_, 1) := by decide +kernel
theorem dX6_readItems_50 : decode cX6_readItems 50 = .ok (.iload_n 2, 1) := by decide +kernel
theorem dX6_readItems_51 : decode cX6_readItems 51 = .ok (.iconst 1, 1) := by decide +kernel
theorem dX6_readItems_52 : decode cX6_readItems 52 = .ok (.iload 5, 2) := by decide +kernel
theorem dX6_readItems_54 : decode cX6_readItems 54 = .ok (.ishl, 1) := by decide +kernel
theorem dX6_readItems_55 : decode cX6_readItems 55 = .ok (.ior, 1) := by decide +kernel
theorem dX6_readItems_56 : decode cX6_readItems 56 = .ok (.istore_n 2, 1) := by decide +kernel
theorem dX6_readItems_57 : decode cX6_readItems 57 = .ok (.aload_n 0, 1) := by decide +kernel
theorem dX6_readItems_58 : decode cX6_readItems 58 = .ok (.getfield 17, 3) := by decide +kernel
theorem dX6_readItems_61 : decode cX6_readItems 61 = .ok (.iload 4, 2) := by decide +kernel
theorem dX6_readItems_63 : decode cX6_readItems 63 = .ok (.invokevirtual 89, 3) := by decide +kernel
theorem dX6_readItems_66 : decode cX6_readItems 66 = .ok (.pop, 1) := by decide +kernel
theorem dX6_readItems_67 : decode cX6_readItems 67 = .ok (.iload_n 1, 1) := by decide +kernel
theorem dX6_readItems_68 : decode cX6_readItems 68 = .ok (.iconst 4, 1) := by decide +kernel
theorem dX6_readItems_69 : decode cX6_readItems 69 = .ok (.imul, 1) := by decide +kernel
theorem dX6_readItems_70 : decode cX6_readItems 70 = .ok (.iload 5, 2) := by decide +kernel
theorem dX6_readItems_72 : decode cX6_readItems 72 = .ok (.iadd, 1) := by decide +kernel
theorem dX6_readItems_73 : decode cX6_readItems 73 = .ok (.istore 6, 2) := by decide +kernel
theorem dX6_readItems_75 : decode cX6_readItems 75 = .ok (.aload_n 0, 1) := by decide +kernel
theorem dX6_readItems_76 : decode cX6_readItems 76 = .ok (.getfield 11, 3) := by decide +kernel
theorem dX6_readItems_79 : decode cX6_readItems 79 = .ok (.iload 5, 2) := by decide +kernel
theorem dX6_readItems_81 : decode cX6_readItems 81 = .ok (.aload_n 0, 1) := by decide +kernel
theorem dX6_readItems_82 : decode cX6_readItems 82 = .ok (.getfield 17, 3) := by decide +kernel
theorem dX6_readItems_85 : decode cX6_readItems 85 = .ok (.iconst 2, 1) := by decide +kernel
theorem dX6_readItems_86 : decode cX6_readItems 86 = .ok (.getstatic 110, 3) := by decide +kernel
theorem dX6_readItems_89 : decode cX6_readItems 89 = .ok (.iload 6, 2) := by decide +kernel
theorem dX6_readItems_91 : decode cX6_readItems 91 = .ok (.invokestatic 68, 3) := by decide +kernel
theorem dX6_readItems_94 : decode cX6_readItems 94 = .ok (.getstatic 113, 3) := by decide +kernel
theorem dX6_readItems_97 : decode cX6_readItems 97 = .ok (.iload 6, 2) := by decide +kernel
theorem dX6_readItems_99 : decode cX6_readItems 99 = .ok (.invokestatic 68, 3) := by decide +kernel
theorem dX6_readItems_102 : decode cX6_readItems 102 = .ok (.invokevirtual 116, 3) := by decide +kernel
theorem dX6_readItems_105 : decode cX6_readItems 105 = .ok (.invokestatic 72, 3) := by decide +kernel
theorem dX6_readItems_108 : decode cX6_readItems 108 = .ok (.iinc 3 1, 3) := by decide +kernel
theorem dX6_readItems_111 : decode cX6_readItems 111 = .ok (.goto (-107), 3) := by decide +kernel
theorem dX6_readItems_114 : decode cX6_readItems 114 = .ok (.return_, 1) := by decide +kernel
theorem dX6_slotOf_0 : decode cX6_slotOf 0 = .ok (.iconst 0, 1) := by decide +kernel
theorem dX6_slotOf_1 : decode cX6_slotOf 1 = .ok (.istore_n 2, 1) := by decide +kernel
theorem dX6_slotOf_2 : decode cX6_slotOf 2 = .ok (.iload_n 2, 1) := by decide +kernel
theorem dX6_slotOf_3 : decode cX6_slotOf 3 = .ok (.iconst 4, 1) := by decide +kernel
theorem dX6_slotOf_4 : decode cX6_slotOf 4 = .ok (.if_icmp .ge 32, 3) := by decide +kernel
theorem dX6_slotOf_7 : decode cX6_slotOf 7 = .ok (.getstatic 120, 3) := by decide +kernel
theorem dX6_slotOf_10 : decode cX6_slotOf 10 = .ok (.iload_n 0, 1) := by decide +kernel
theorem dX6_slotOf_11 : decode cX6_slotOf 11 = .ok (.iconst 4, 1) := by decide +kernel
theorem dX6_slotOf_12 : decode cX6_slotOf 12 = .ok (.imul, 1) := by decide +kernel
theorem dX6_slotOf_13 : decode cX6_slotOf 13 = .ok (.iload_n 2, 1) := by decide +kernel
theorem dX6_slotOf_14 : decode cX6_slotOf 14 = .ok (.iadd, 1) := by decide +kernel
theorem dX6_slotOf_15 : decode cX6_slotOf 15 = .ok (.invokestatic 68, 3) := by decide +kernel
theorem dX6_slotOf_18 : decode cX6_slotOf 18 = .ok (.istore_n 3, 1) := by decide +kernel
theorem dX6_slotOf_19 : decode cX6_slotOf 19 = .ok (.iload_n 3, 1) := by decide +kernel
theorem dX6_slotOf_20 : decode cX6_slotOf 20 = .ok (.ifCond .eq 10, 3) := by decide +kernel
theorem dX6_slotOf_23 : decode cX6_slotOf 23 = .ok (.iload_n 3, 1) := by decide +kernel
theorem dX6_slotOf_24 : decode cX6_slotOf 24 = .ok (.iload_n 1, 1) := by decide +kernel
theorem dX6_slotOf_25 : decode cX6_slotOf 25 = .ok (.if_icmp .ne 5, 3) := by decide +kernel
theorem dX6_slotOf_28 : decode cX6_slotOf 28 = .ok (.iload_n 2, 1) := by decide +kernel
theorem dX6_slotOf_29 : decode cX6_slotOf 29 = .ok (.ireturn, 1) := by decide +kernel
theorem dX6_slotOf_30 : decode cX6_slotOf 30 = .ok (.iinc 2 1, 3) := by decide +kernel
theorem dX6_slotOf_33 : decode cX6_slotOf 33 = .ok (.goto (-31), 3) := by decide +kernel
theorem dX6_slotOf_36 : decode cX6_slotOf 36 = .ok (.iconst (-1), 1) := by decide +kernel
theorem dX6_slotOf_37 : decode cX6_slotOf 37 = .ok (.ireturn, 1) := by decide +kernel
theorem dX7_init_0 : decode cX7_init 0 = .ok (.aload_n 0, 1) := by decide +kernel
theorem dX7_init_1 : decode cX7_init 1 = .ok (.invokespecial 3, 3) := by decide +kernel
theorem dX7_init_4 : decode cX7_init 4 = .ok (.aload_n 0, 1) := by decide +kernel
theorem dX7_init_5 : decode cX7_init 5 = .ok (.bipush 6, 2) := by decide +kernel
theorem dX7_init_7 : decode cX7_init 7 = .ok (.newarray .int, 2) := by decide +kernel
theorem dX7_init_9 : decode cX7_init 9 = .ok (.putfield 11, 3) := by decide +kernel
theorem dX7_init_12 : decode cX7_init 12 = .ok (.aload_n 0, 1) := by decide +kernel
theorem dX7_init_13 : decode cX7_init 13 = .ok (.bipush 18, 2) := by decide +kernel
theorem dX7_init_15 : decode cX7_init 15 = .ok (.newarray .int, 2) := by decide +kernel
theorem dX7_init_17 : decode cX7_init 17 = .ok (.putfield 15, 3) := by decide +kernel
theorem dX7_init_20 : decode cX7_init 20 = .ok (.aload_n 0, 1) := by decide +kernel
theorem dX7_init_21 : decode cX7_init 21 = .ok (.bipush 18, 2) := by decide +kernel
theorem dX7_init_23 : decode cX7_init 23 = .ok (.newarray .int, 2) := by decide +kernel
theorem dX7_init_25 : decode cX7_init 25 = .ok (.putfield 18, 3) := by decide +kernel
theorem dX7_init_28 : decode cX7_init 28 = .ok (.aload_n 0, 1) := by decide +kernel
theorem dX7_init_29 : decode cX7_init 29 = .ok (.bipush 36, 2) := by decide +kernel
theorem dX7_init_31 : decode cX7_init 31 = .ok (.newarray .int, 2) := by decide +kernel
theorem dX7_init_33 : decode cX7_init 33 = .ok (.putfield 21, 3) := by decide +kernel
theorem dX7_init_36 : decode cX7_init 36 = .ok (.aload_n 0, 1) := by decide +kernel
theorem dX7_init_37 : decode cX7_init 37 = .ok (.bipush 6, 2) := by decide +kernel
theorem dX7_init_39 : decode cX7_init 39 = .ok (.newarray .int, 2) := by decide +kernel
theorem dX7_init_41 : decode cX7_init 41 = .ok (.putfield 24, 3) := by decide +kernel
theorem dX7_init_44 : decode cX7_init 44 = .ok (.aload_n 0, 1) := by decide +kernel
theorem dX7_init_45 : decode cX7_init 45 = .ok (.sipush 1000, 3) := by decide +kernel
theorem dX7_init_48 : decode cX7_init 48 = .ok (.putfield 27, 3) := by decide +kernel
theorem dX7_init_51 : decode cX7_init 51 = .ok (.aload_n 0, 1) := by decide +kernel
theorem dX7_init_52 : decode cX7_init 52 = .ok (.iconst (-1), 1) := by decide +kernel
theorem dX7_init_53 : decode cX7_init 53 = .ok (.putfield 31, 3) := by decide +kernel
theorem dX7_init_56 : decode cX7_init 56 = .ok (.aload_n 0, 1) := by decide +kernel
theorem dX7_init_57 : decode cX7_init 57 = .ok (.aload_n 1, 1) := by decide +kernel
theorem dX7_init_58 : decode cX7_init 58 = .ok (.putfield 34, 3) := by decide +kernel
theorem dX7_init_61 : decode cX7_init 61 = .ok (.aload_n 0, 1) := by decide +kernel
theorem dX7_init_62 : decode cX7_init 62 = .ok (.aload_n 2, 1) := by decide +kernel
theorem dX7_init_63 : decode cX7_init 63 = .ok (.putfield 38, 3) := by decide +kernel
theorem dX7_init_66 : decode cX7_init 66 = .ok (.return_, 1) := by decide +kernel
theorem dX7_trains_0 : decode cX7_trains 0 = .ok (.aload_n 0, 1) := by decide +kernel
theorem dX7_trains_1 : decode cX7_trains 1 = .ok (.getfield 34, 3) := by decide +kernel
theorem dX7_trains_4 : decode cX7_trains 4 = .ok (.iconst 2, 1) := by decide +kernel
theorem dX7_trains_5 : decode cX7_trains 5 = .ok (.invokevirtual 44, 3) := by decide +kernel
theorem dX7_trains_8 : decode cX7_trains 8 = .ok (.ireturn, 1) := by decide +kernel
theorem dX7_followTrains_0 : decode cX7_followTrains 0 = .ok (.iconst 0, 1) := by decide +kernel
theorem dX7_followTrains_1 : decode cX7_followTrains 1 = .ok (.istore_n 1, 1) := by decide +kernel
theorem dX7_followTrains_2 : decode cX7_followTrains 2 = .ok (.iload_n 1, 1) := by decide +kernel
theorem dX7_followTrains_3 : decode cX7_followTrains 3 = .ok (.aload_n 0, 1) := by decide +kernel
theorem dX7_followTrains_4 : decode cX7_followTrains 4 = .ok (.invokevirtual 48, 3) := by decide +kernel
theorem dX7_followTrains_7 : decode cX7_followTrains 7 = .ok (.if_icmp .ge 14, 3) := by decide +kernel
theorem dX7_followTrains_10 : decode cX7_followTrains 10 = .ok (.aload_n 0, 1) := by decide +kernel
theorem dX7_followTrains_11 : decode cX7_followTrains 11 = .ok (.iload_n 1, 1) := by decide +kernel
theorem dX7_followTrains_12 : decode cX7_followTrains 12 = .ok (.invokevirtual 52, 3) := by decide +kernel
theorem dX7_followTrains_15 : decode cX7_followTrains 15 = .ok (.iinc 1 1, 3) := by decide +kernel
theorem dX7_followTrains_18 : decode cX7_followTrains 18 = .ok (.goto (-16), 3) := by decide +kernel
theorem dX7_followTrains_21 : decode cX7_followTrains 21 = .ok (.return_, 1) := by decide +kernel
theorem dX7_followTrain_0 : decode cX7_followTrain 0 = .ok (.aload_n 0, 1) := by decide +kernel
theorem dX7_followTrain_1 : decode cX7_followTrain 1 = .ok (.getfield 34, 3) := by decide +kernel
theorem dX7_followTrain_4 : decode cX7_followTrain 4 = .ok (.iconst 2, 1) := by decide +kernel
theorem dX7_followTrain_5 : decode cX7_followTrain 5 = .ok (.iload_n 1, 1) := by decide +kernel
theorem dX7_followTrain_6 : decode cX7_followTrain 6 = .ok (.iconst 0, 1) := by decide +kernel
theorem dX7_followTrain_7 : decode cX7_followTrain 7 = .ok (.invokevirtual 56, 3) := by decide +kernel
theorem dX7_followTrain_10 : decode cX7_followTrain 10 = .ok (.istore_n 2, 1) := by decide +kernel
theorem dX7_followTrain_11 : decode cX7_followTrain 11 = .ok (.aload_n 0, 1) := by decide +kernel
theorem dX7_followTrain_12 : decode cX7_followTrain 12 = .ok (.getfield 34, 3) := by decide +kernel
theorem dX7_followTrain_15 : decode cX7_followTrain 15 = .ok (.iconst 2, 1) := by decide +kernel
theorem dX7_followTrain_16 : decode cX7_followTrain 16 = .ok (.iload_n 1, 1) := by decide +kernel
theorem dX7_followTrain_17 : decode cX7_followTrain 17 = .ok (.iconst 1, 1) := by decide +kernel
theorem dX7_followTrain_18 : decode cX7_followTrain 18 = .ok (.invokevirtual 56, 3) := by decide +kernel
theorem dX7_followTrain_21 : decode cX7_followTrain 21 = .ok (.istore_n 3, 1) := by decide +kernel
theorem dX7_followTrain_22 : decode cX7_followTrain 22 = .ok (.aload_n 0, 1) := by decide +kernel
theorem dX7_followTrain_23 : decode cX7_followTrain 23 = .ok (.getfield 34, 3) := by decide +kernel
theorem dX7_followTrain_26 : decode cX7_followTrain 26 = .ok (.iconst 2, 1) := by decide +kernel
theorem dX7_followTrain_27 : decode cX7_followTrain 27 = .ok (.iload_n 1, 1) := by decide +kernel
theorem dX7_followTrain_28 : decode cX7_followTrain 28 = .ok (.iconst 2, 1) := by decide +kernel
theorem dX7_followTrain_29 : decode cX7_followTrain 29 = .ok (.invokevirtual 56, 3) := by decide +kernel
theorem dX7_followTrain_32 : decode cX7_followTrain 32 = .ok (.istore 4, 2) := by decide +kernel
theorem dX7_followTrain_34 : decode cX7_followTrain 34 = .ok (.iconst 3, 1) := by decide +kernel
theorem dX7_followTrain_35 : decode cX7_followTrain 35 = .ok (.aload_n 0, 1) := by decide +kernel
theorem dX7_followTrain_36 : decode cX7_followTrain 36 = .ok (.getfield 34, 3) := by decide +kernel
theorem dX7_followTrain_39 : decode cX7_followTrain 39 = .ok (.iconst 2, 1) := by decide +kernel
theorem dX7_followTrain_40 : decode cX7_followTrain 40 = .ok (.iload_n 1, 1) := by decide +kernel
theorem dX7_followTrain_41 : decode cX7_followTrain 41 = .ok (.iconst 3, 1) := by decide +kernel
theorem dX7_followTrain_42 : decode cX7_followTrain 42 = .ok (.invokevirtual 56, 3) := by decide +kernel
theorem dX7_followTrain_45 : decode cX7_followTrain 45 = .ok (.invokestatic 60, 3) := by decide +kernel
theorem dX7_followTrain_48 : decode cX7_followTrain 48 = .ok (.istore 5, 2) := by decide +kernel
theorem dX7_followTrain_50 : decode cX7_followTrain 50 = .ok (.iconst 0, 1) := by decide +kernel
theorem dX7_followTrain_51 : decode cX7_followTrain 51 = .ok (.istore 6, 2) := by decide +kernel
theorem dX7_followTrain_53 : decode cX7_followTrain 53 = .ok (.iconst 0, 1) := by decide +kernel
theorem dX7_followTrain_54 : decode cX7_followTrain 54 = .ok (.istore 7, 2) := by decide +kernel
theorem dX7_followTrain_56 : decode cX7_followTrain 56 = .ok (.iload 7, 2) := by decide +kernel
theorem dX7_followTrain_58 : decode cX7_followTrain 58 = .ok (.iload 5, 2) := by decide +kernel
theorem dX7_followTrain_60 : decode cX7_followTrain 60 = .ok (.if_icmp .ge 99, 3) := by decide +kernel
theorem dX7_followTrain_63 : decode cX7_followTrain 63 = .ok (.iload_n 3, 1) := by decide +kernel
theorem dX7_followTrain_64 : decode cX7_followTrain 64 = .ok (.iload 6, 2) := by decide +kernel
theorem dX7_followTrain_66 : decode cX7_followTrain 66 = .ok (.aload_n 0, 1) := by decide +kernel
theorem dX7_followTrain_67 : decode cX7_followTrain 67 = .ok (.getfield 34, 3) := by decide +kernel
theorem dX7_followTrain_70 : decode cX7_followTrain 70 = .ok (.invokevirtual 66, 3) := by decide +kernel
theorem dX7_followTrain_73 : decode cX7_followTrain 73 = .ok (.invokestatic 69, 3) := by decide +kernel
theorem dX7_followTrain_76 : decode cX7_followTrain 76 = .ok (.istore 8, 2) := by decide +kernel
theorem dX7_followTrain_78 : decode cX7_followTrain 78 = .ok (.iload 6, 2) := by decide +kernel
theorem dX7_followTrain_80 : decode cX7_followTrain 80 = .ok (.aload_n 0, 1) := by decide +kernel
theorem dX7_followTrain_81 : decode cX7_followTrain 81 = .ok (.getfield 38, 3) := by decide +kernel
theorem dX7_followTrain_84 : decode cX7_followTrain 84 = .ok (.iload_n 2, 1) := by decide +kernel
theorem dX7_followTrain_85 : decode cX7_followTrain 85 = .ok (.iload 8, 2) := by decide +kernel
theorem dX7_followTrain_87 : decode cX7_followTrain 87 = .ok (.invokevirtual 72, 3) := by decide +kernel
theorem dX7_followTrain_90 : decode cX7_followTrain 90 = .ok (.iadd, 1) := by decide +kernel
theorem dX7_followTrain_91 : decode cX7_followTrain 91 = .ok (.istore 6, 2) := by decide +kernel
theorem dX7_followTrain_93 : decode cX7_followTrain 93 = .ok (.aload_n 0, 1) := by decide +kernel
theorem dX7_followTrain_94 : decode cX7_followTrain 94 = .ok (.getfield 38, 3) := by decide +kernel
theorem dX7_followTrain_97 : decode cX7_followTrain 97 = .ok (.iload_n 2, 1) := by decide +kernel
theorem dX7_followTrain_98 : decode cX7_followTrain 98 = .ok (.iload 8, 2) := by decide +kernel
theorem dX7_followTrain_100 : decode cX7_followTrain 100 = .ok (.invokevirtual 77, 3) := by decide +kernel
theorem dX7_followTrain_103 : decode cX7_followTrain 103 = .ok (.istore_n 2, 1) := by decide +kernel
theorem dX7_followTrain_104 : decode cX7_followTrain 104 = .ok (.iload_n 1, 1) := by decide +kernel
theorem dX7_followTrain_105 : decode cX7_followTrain 105 = .ok (.iconst 3, 1) := by decide +kernel
theorem dX7_followTrain_106 : decode cX7_followTrain 106 = .ok (.imul, 1) := by decide +kernel
theorem dX7_followTrain_107 : decode cX7_followTrain 107 = .ok (.iload 7, 2) := by decide +kernel
theorem dX7_followTrain_109 : decode cX7_followTrain 109 = .ok (.iadd, 1) := by decide +kernel
theorem dX7_followTrain_110 : decode cX7_followTrain 110 = .ok (.istore 9, 2) := by decide +kernel
theorem dX7_followTrain_112 : decode cX7_followTrain 112 = .ok (.aload_n 0, 1) := by decide +kernel
theorem dX7_followTrain_113 : decode cX7_followTrain 113 = .ok (.getfield 15, 3) := by decide +kernel
theorem dX7_followTrain_116 : decode cX7_followTrain 116 = .ok (.iload 9, 2) := by decide +kernel
theorem dX7_followTrain_118 : decode cX7_followTrain 118 = .ok (.iload 4, 2) := by decide +kernel
theorem dX7_followTrain_120 : decode cX7_followTrain 120 = .ok (.iload 6, 2) := by decide +kernel
theorem dX7_followTrain_122 : decode cX7_followTrain 122 = .ok (.iadd, 1) := by decide +kernel
theorem dX7_followTrain_123 : decode cX7_followTrain 123 = .ok (.invokestatic 80, 3) := by decide +kernel
theorem dX7_followTrain_126 : decode cX7_followTrain 126 = .ok (.aload_n 0, 1) := by decide +kernel
theorem dX7_followTrain_127 : decode cX7_followTrain 127 = .ok (.getfield 18, 3) := by decide +kernel
theorem dX7_followTrain_130 : decode cX7_followTrain 130 = .ok (.iload 9, 2) := by decide +kernel
theorem dX7_followTrain_132 : decode cX7_followTrain 132 = .ok (.iload_n 2, 1) := by decide +kernel
theorem dX7_followTrain_133 : decode cX7_followTrain 133 = .ok (.bipush 6, 2) := by decide +kernel
theorem dX7_followTrain_135 : decode cX7_followTrain 135 = .ok (.imul, 1) := by decide +kernel
theorem dX7_followTrain_136 : decode cX7_followTrain 136 = .ok (.iload_n 3, 1) := by decide +kernel
theorem dX7_followTrain_137 : decode cX7_followTrain 137 = .ok (.iload 6, 2) := by decide +kernel
theorem dX7_followTrain_139 : decode cX7_followTrain 139 = .ok (.aload_n 0, 1) := by decide +kernel
theorem dX7_followTrain_140 : decode cX7_followTrain 140 = .ok (.getfield 34, 3) := by decide +kernel
theorem dX7_followTrain_143 : decode cX7_followTrain 143 = .ok (.invokevirtual 66, 3) := by decide +kernel
theorem dX7_followTrain_146 : decode cX7_followTrain 146 = .ok (.invokestatic 69, 3) := by decide +kernel
theorem dX7_followTrain_149 : decode cX7_followTrain 149 = .ok (.iadd, 1) := by decide +kernel
theorem dX7_followTrain_150 : decode cX7_followTrain 150 = .ok (.invokestatic 80, 3) := by decide +kernel
theorem dX7_followTrain_153 : decode cX7_followTrain 153 = .ok (.iinc 7 1, 3) := by decide +kernel
theorem dX7_followTrain_156 : decode cX7_followTrain 156 = .ok (.goto (-100), 3) := by decide +kernel
theorem dX7_followTrain_159 : decode cX7_followTrain 159 = .ok (.aload_n 0, 1) := by decide +kernel
theorem dX7_followTrain_160 : decode cX7_followTrain 160 = .ok (.getfield 11, 3) := by decide +kernel
theorem dX7_followTrain_163 : decode cX7_followTrain 163 = .ok (.iload_n 1, 1) := by decide +kernel
theorem dX7_followTrain_164 : decode cX7_followTrain 164 = .ok (.iload 5, 2) := by decide +kernel
theorem dX7_followTrain_166 : decode cX7_followTrain 166 = .ok (.invokestatic 80, 3) := by decide +kernel
theorem dX7_followTrain_169 : decode cX7_followTrain 169 = .ok (.return_, 1) := by decide +kernel
theorem dX7_clashesOf_0 : decode cX7_clashesOf 0 = .ok (.iconst 0, 1) := by decide +kernel
theorem dX7_clashesOf_1 : decode cX7_clashesOf 1 = .ok (.istore 4, 2) := by decide +kernel
theorem dX7_clashesOf_3 : decode cX7_clashesOf 3 = .ok (.iconst 0, 1) := by decide +kernel
theorem dX7_clashesOf_4 : decode cX7_clashesOf 4 = .ok (.istore 5, 2) := by decide +kernel
theorem dX7_clashesOf_6 : decode cX7_clashesOf 6 = .ok (.iload 5, 2) := by decide +kernel
theorem dX7_clashesOf_8 : decode cX7_clashesOf 8 = .ok (.aload_n 0, 1) := by decide +kernel
theorem dX7_clashesOf_9 : decode cX7_clashesOf 9 = .ok (.getfield 11, 3) := by decide +kernel
theorem dX7_clashesOf_12 : decode cX7_clashesOf 12 = .ok (.iload_n 1, 1) := by decide +kernel
theorem dX7_clashesOf_13 : decode cX7_clashesOf 13 = .ok (.invokestatic 84, 3) := by decide +kernel
theorem dX7_clashesOf_16 : decode cX7_clashesOf 16 = .ok (.if_icmp .ge 113, 3) := by decide +kernel
theorem dX7_clashesOf_19 : decode cX7_clashesOf 19 = .ok (.iconst 0, 1) := by decide +kernel
theorem dX7_clashesOf_20 : decode cX7_clashesOf 20 = .ok (.istore 6, 2) := by decide +kernel
theorem dX7_clashesOf_22 : decode cX7_clashesOf 22 = .ok (.iload 6, 2) := by decide +kernel
theorem dX7_clashesOf_24 : decode cX7_clashesOf 24 = .ok (.aload_n 0, 1) := by decide +kernel
theorem dX7_clashesOf_25 : decode cX7_clashesOf 25 = .ok (.getfield 11, 3) := by decide +kernel
theorem dX7_clashesOf_28 : decode cX7_clashesOf 28 = .ok (.iload_n 2, 1) := by decide +kernel
theorem dX7_clashesOf_29 : decode cX7_clashesOf 29 = .ok (.invokestatic 84, 3) := by decide +kernel
theorem dX7_clashesOf_32 : decode cX7_clashesOf 32 = .ok (.if_icmp .ge 91, 3) := by decide +kernel
theorem dX7_clashesOf_35 : decode cX7_clashesOf 35 = .ok (.iload_n 1, 1) := by decide +kernel
theorem dX7_clashesOf_36 : decode cX7_clashesOf 36 = .ok (.iconst 3, 1) := by decide +kernel
theorem dX7_clashesOf_37 : decode cX7_clashesOf 37 = .ok (.imul, 1) := by decide +kernel
theorem dX7_clashesOf_38 : decode cX7_clashesOf 38 = .ok (.iload 5, 2) := by decide +kernel
theorem dX7_clashesOf_40 : decode cX7_clashesOf 40 = .ok (.iadd, 1) := by decide +kernel
theorem dX7_clashesOf_41 : decode cX7_clashesOf 41 = .ok (.istore 7, 2) := by decide +kernel
theorem dX7_clashesOf_43 : decode cX7_clashesOf 43 = .ok (.iload_n 2, 1) := by decide +kernel
theorem dX7_clashesOf_44 : decode cX7_clashesOf 44 = .ok (.iconst 3, 1) := by decide +kernel
theorem dX7_clashesOf_45 : decode cX7_clashesOf 45 = .ok (.imul, 1) := by decide +kernel
theorem dX7_clashesOf_46 : decode cX7_clashesOf 46 = .ok (.iload 6, 2) := by decide +kernel
theorem dX7_clashesOf_48 : decode cX7_clashesOf 48 = .ok (.iadd, 1) := by decide +kernel
theorem dX7_clashesOf_49 : decode cX7_clashesOf 49 = .ok (.istore 8, 2) := by decide +kernel
theorem dX7_clashesOf_51 : decode cX7_clashesOf 51 = .ok (.aload_n 0, 1) := by decide +kernel
theorem dX7_clashesOf_52 : decode cX7_clashesOf 52 = .ok (.getfield 18, 3) := by decide +kernel
theorem dX7_clashesOf_55 : decode cX7_clashesOf 55 = .ok (.iload 7, 2) := by decide +kernel
theorem dX7_clashesOf_57 : decode cX7_clashesOf 57 = .ok (.invokestatic 84, 3) := by decide +kernel
theorem dX7_clashesOf_60 : decode cX7_clashesOf 60 = .ok (.aload_n 0, 1) := by decide +kernel
theorem dX7_clashesOf_61 : decode cX7_clashesOf 61 = .ok (.getfield 18, 3) := by decide +kernel
theorem dX7_clashesOf_64 : decode cX7_clashesOf 64 = .ok (.iload 8, 2) := by decide +kernel
theorem dX7_clashesOf_66 : decode cX7_clashesOf 66 = .ok (.invokestatic 84, 3) := by decide +kernel
theorem dX7_clashesOf_69 : decode cX7_clashesOf 69 = .ok (.if_icmp .ne 7, 3) := by decide +kernel
theorem dX7_clashesOf_72 : decode cX7_clashesOf 72 = .ok (.iconst 1, 1) := by decide +kernel
theorem dX7_clashesOf_73 : decode cX7_clashesOf 73 = .ok (.goto 4, 3) := by decide +kernel
theorem dX7_clashesOf_76 : decode cX7_clashesOf 76 = .ok (.iconst 0, 1) := by decide +kernel
theorem dX7_clashesOf_77 : decode cX7_clashesOf 77 = .ok (.istore 9, 2) := by decide +kernel
theorem dX7_clashesOf_79 : decode cX7_clashesOf 79 = .ok (.iload 4, 2) := by decide +kernel
theorem dX7_clashesOf_81 : decode cX7_clashesOf 81 = .ok (.iload 9, 2) := by decide +kernel
theorem dX7_clashesOf_83 : decode cX7_clashesOf 83 = .ok (.ifCond .eq 30, 3) := by decide +kernel
theorem dX7_clashesOf_86 : decode cX7_clashesOf 86 = .ok (.aload_n 0, 1) := by decide +kernel
theorem dX7_clashesOf_87 : decode cX7_clashesOf 87 = .ok (.getfield 15, 3) := by decide +kernel
theorem dX7_clashesOf_90 : decode cX7_clashesOf 90 = .ok (.iload 7, 2) := by decide +kernel
theorem dX7_clashesOf_92 : decode cX7_clashesOf 92 = .ok (.invokestatic 84, 3) := by decide +kernel
theorem dX7_clashesOf_95 : decode cX7_clashesOf 95 = .ok (.iload_n 3, 1) := by decide +kernel
theorem dX7_clashesOf_96 : decode cX7_clashesOf 96 = .ok (.iadd, 1) := by decide +kernel
theorem dX7_clashesOf_97 : decode cX7_clashesOf 97 = .ok (.aload_n 0, 1) := by decide +kernel
theorem dX7_clashesOf_98 : decode cX7_clashesOf 98 = .ok (.getfield 15, 3) := by decide +kernel
theorem dX7_clashesOf_101 : decode cX7_clashesOf 101 = .ok (.iload 8, 2) := by decide +kernel
theorem dX7_clashesOf_103 : decode cX7_clashesOf 103 = .ok (.invokestatic 84, 3) := by decide +kernel
theorem dX7_clashesOf_106 : decode cX7_clashesOf 106 = .ok (.if_icmp .ne 7, 3) := by decide +kernel
theorem dX7_clashesOf_109 : decode cX7_clashesOf 109 = .ok (.iconst 1, 1) := by decide +kernel
theorem dX7_clashesOf_110 : decode cX7_clashesOf 110 = .ok (.goto 4, 3) := by decide +kernel
theorem dX7_clashesOf_113 : decode cX7_clashesOf 113 = .ok (.iconst 0, 1) := by decide +kernel
theorem dX7_clashesOf_114 : decode cX7_clashesOf 114 = .ok (.iadd, 1) := by decide +kernel
theorem dX7_clashesOf_115 : decode cX7_clashesOf 115 = .ok (.istore 4, 2) := by decide +kernel
theorem dX7_clashesOf_117 : decode cX7_clashesOf 117 = .ok (.iinc 6 1, 3) := by decide +kernel
theorem dX7_clashesOf_120 : decode cX7_clashesOf 120 = .ok (.goto (-98), 3) := by decide +kernel
theorem dX7_clashesOf_123 : decode cX7_clashesOf 123 = .ok (.iinc 5 1, 3) := by decide +kernel
theorem dX7_clashesOf_126 : decode cX7_clashesOf 126 = .ok (.goto (-120), 3) := by decide +kernel
theorem dX7_clashesOf_129 : decode cX7_clashesOf 129 = .ok (.iload 4, 2) := by decide +kernel
theorem dX7_clashesOf_131 : decode cX7_clashesOf 131 = .ok (.ireturn, 1) := by decide +kernel
theorem dX7_clashesAsTold_0 : decode cX7_clashesAsTold 0 = .ok (.aload_n 0, 1) := by decide +kernel
theorem dX7_clashesAsTold_1 : decode cX7_clashesAsTold 1 = .ok (.invokevirtual 88, 3) := by decide +kernel
theorem dX7_clashesAsTold_4 : decode cX7_clashesAsTold 4 = .ok (.iconst 0, 1) := by decide +kernel
theorem dX7_clashesAsTold_5 : decode cX7_clashesAsTold 5 = .ok (.istore_n 1, 1) := by decide +kernel
theorem dX7_clashesAsTold_6 : decode cX7_clashesAsTold 6 = .ok (.iconst 0, 1) := by decide +kernel
theorem dX7_clashesAsTold_7 : decode cX7_clashesAsTold 7 = .ok (.istore_n 2, 1) := by decide +kernel
theorem dX7_clashesAsTold_8 : decode cX7_clashesAsTold 8 = .ok (.iload_n 2, 1) := by decide +kernel
theorem dX7_clashesAsTold_9 : decode cX7_clashesAsTold 9 = .ok (.aload_n 0, 1) := by decide +kernel
theorem dX7_clashesAsTold_10 : decode cX7_clashesAsTold 10 = .ok (.invokevirtual 48, 3) := by decide +kernel
theorem dX7_clashesAsTold_13 : decode cX7_clashesAsTold 13 = .ok (.if_icmp .ge 37, 3) := by decide +kernel
theorem dX7_clashesAsTold_16 : decode cX7_clashesAsTold 16 = .ok (.iload_n 2, 1) := by decide +kernel
theorem dX7_clashesAsTold_17 : decode cX7_clashesAsTold 17 = .ok (.iconst 1, 1) := by decide +kernel
theorem dX7_clashesAsTold_18 : decode cX7_clashesAsTold 18 = .ok (.iadd, 1) := by decide +kernel
theorem dX7_clashesAsTold_19 : decode cX7_clashesAsTold 19 = .ok (.istore_n 3, 1) := by decide +kernel
theorem dX7_clashesAsTold_20 : decode cX7_clashesAsTold 20 = .ok (.iload_n 3, 1) := by decide +kernel
theorem dX7_clashesAsTold_21 : decode cX7_clashesAsTold 21 = .ok (.aload_n 0, 1) := by decide +kernel
theorem dX7_clashesAsTold_22 : decode cX7_clashesAsTold 22 = .ok (.invokevirtual 48, 3) := by decide +kernel
theorem dX7_clashesAsTold_25 : decode cX7_clashesAsTold 25 = .ok (.if_icmp .ge 19, 3) := by decide +kernel
theorem dX7_clashesAsTold_28 : decode cX7_clashesAsTold 28 = .ok (.iload_n 1, 1) := by decide +kernel
theorem dX7_clashesAsTold_29 : decode cX7_clashesAsTold 29 = .ok (.aload_n 0, 1) := by decide +kernel
theorem dX7_clashesAsTold_30 : decode cX7_clashesAsTold 30 = .ok (.iload_n 2, 1) := by decide +kernel
theorem dX7_clashesAsTold_31 : decode cX7_clashesAsTold 31 = .ok (.iload_n 3, 1) := by decide +kernel
theorem dX7_clashesAsTold_32 : decode cX7_clashesAsTold 32 = .ok (.iconst 0, 1) := by decide +kernel
theorem dX7_clashesAsTold_33 : decode cX7_clashesAsTold 33 = .ok (.invokevirtual 91, 3) := by decide +kernel
theorem dX7_clashesAsTold_36 : decode cX7_clashesAsTold 36 = .ok (.iadd, 1) := by decide +kernel
theorem dX7_clashesAsTold_37 : decode cX7_clashesAsTold 37 = .ok (.istore_n 1, 1) := by decide +kernel
theorem dX7_clashesAsTold_38 : decode cX7_clashesAsTold 38 = .ok (.iinc 3 1, 3) := by decide +kernel
theorem dX7_clashesAsTold_41 : decode cX7_clashesAsTold 41 = .ok (.goto (-21), 3) := by decide +kernel
theorem dX7_clashesAsTold_44 : decode cX7_clashesAsTold 44 = .ok (.iinc 2 1, 3) := by decide +kernel
theorem dX7_clashesAsTold_47 : decode cX7_clashesAsTold 47 = .ok (.goto (-39), 3) := by decide +kernel
theorem dX7_clashesAsTold_50 : decode cX7_clashesAsTold 50 = .ok (.iload_n 1, 1) := by decide +kernel
theorem dX7_clashesAsTold_51 : decode cX7_clashesAsTold 51 = .ok (.ireturn, 1) := by decide +kernel
theorem dX7_fillClashing_0 : decode cX7_fillClashing 0 = .ok (.iconst 0, 1) := by decide +kernel
theorem dX7_fillClashing_1 : decode cX7_fillClashing 1 = .ok (.istore_n 1, 1) := by decide +kernel
theorem dX7_fillClashing_2 : decode cX7_fillClashing 2 = .ok (.iload_n 1, 1) := by decide +kernel
theorem dX7_fillClashing_3 : decode cX7_fillClashing 3 = .ok (.aload_n 0, 1) := by decide +kernel
theorem dX7_fillClashing_4 : decode cX7_fillClashing 4 = .ok (.invokevirtual 48, 3) := by decide +kernel
theorem dX7_fillClashing_7 : decode cX7_fillClashing 7 = .ok (.if_icmp .ge 83, 3) := by decide +kernel
theorem dX7_fillClashing_10 : decode cX7_fillClashing 10 = .ok (.iload_n 1, 1) := by decide +kernel
theorem dX7_fillClashing_11 : decode cX7_fillClashing 11 = .ok (.iconst 1, 1) := by decide +kernel
theorem dX7_fillClashing_12 : decode cX7_fillClashing 12 = .ok (.iadd, 1) := by decide +kernel
theorem dX7_fillClashing_13 : decode cX7_fillClashing 13 = .ok (.istore_n 2, 1) := by decide +kernel
theorem dX7_fillClashing_14 : decode cX7_fillClashing 14 = .ok (.iload_n 2, 1) := by decide +kernel
theorem dX7_fillClashing_15 : decode cX7_fillClashing 15 = .ok (.aload_n 0, 1) := by decide +kernel
theorem dX7_fillClashing_16 : decode cX7_fillClashing 16 = .ok (.invokevirtual 48, 3) := by decide +kernel
theorem dX7_fillClashing_19 : decode cX7_fillClashing 19 = .ok (.if_icmp .ge 65, 3) := by decide +kernel
theorem dX7_fillClashing_22 : decode cX7_fillClashing 22 = .ok (.iconst 0, 1) := by decide +kernel
theorem dX7_fillClashing_23 : decode cX7_fillClashing 23 = .ok (.istore_n 3, 1) := by decide +kernel
theorem dX7_fillClashing_24 : decode cX7_fillClashing 24 = .ok (.bipush (-4), 2) := by decide +kernel
theorem dX7_fillClashing_26 : decode cX7_fillClashing 26 = .ok (.istore 4, 2) := by decide +kernel
theorem dX7_fillClashing_28 : decode cX7_fillClashing 28 = .ok (.iload 4, 2) := by decide +kernel
theorem dX7_fillClashing_30 : decode cX7_fillClashing 30 = .ok (.iconst 4, 1) := by decide +kernel
theorem dX7_fillClashing_31 : decode cX7_fillClashing 31 = .ok (.if_icmp .gt 33, 3) := by decide +kernel
theorem dX7_fillClashing_34 : decode cX7_fillClashing 34 = .ok (.iload_n 3, 1) := by decide +kernel
theorem dX7_fillClashing_35 : decode cX7_fillClashing 35 = .ok (.aload_n 0, 1) := by decide +kernel
theorem dX7_fillClashing_36 : decode cX7_fillClashing 36 = .ok (.iload_n 1, 1) := by decide +kernel
theorem dX7_fillClashing_37 : decode cX7_fillClashing 37 = .ok (.iload_n 2, 1) := by decide +kernel
theorem dX7_fillClashing_38 : decode cX7_fillClashing 38 = .ok (.iload 4, 2) := by decide +kernel
theorem dX7_fillClashing_40 : decode cX7_fillClashing 40 = .ok (.invokevirtual 91, 3) := by decide +kernel
theorem dX7_fillClashing_43 : decode cX7_fillClashing 43 = .ok (.ifCond .le 12, 3) := by decide +kernel
theorem dX7_fillClashing_46 : decode cX7_fillClashing 46 = .ok (.iconst 1, 1) := by decide +kernel
theorem dX7_fillClashing_47 : decode cX7_fillClashing 47 = .ok (.iload 4, 2) := by decide +kernel
theorem dX7_fillClashing_49 : decode cX7_fillClashing 49 = .ok (.iconst 4, 1) := by decide +kernel
theorem dX7_fillClashing_50 : decode cX7_fillClashing 50 = .ok (.iadd, 1) := by decide +kernel
theorem dX7_fillClashing_51 : decode cX7_fillClashing 51 = .ok (.ishl, 1) := by decide +kernel
theorem dX7_fillClashing_52 : decode cX7_fillClashing 52 = .ok (.goto 4, 3) := by decide +kernel
theorem dX7_fillClashing_55 : decode cX7_fillClashing 55 = .ok (.iconst 0, 1) := by decide +kernel
theorem dX7_fillClashing_56 : decode cX7_fillClashing 56 = .ok (.ior, 1) := by decide +kernel
theorem dX7_fillClashing_57 : decode cX7_fillClashing 57 = .ok (.istore_n 3, 1) := by decide +kernel
theorem dX7_fillClashing_58 : decode cX7_fillClashing 58 = .ok (.iinc 4 1, 3) := by decide +kernel
theorem dX7_fillClashing_61 : decode cX7_fillClashing 61 = .ok (.goto (-33), 3) := by decide +kernel
theorem dX7_fillClashing_64 : decode cX7_fillClashing 64 = .ok (.aload_n 0, 1) := by decide +kernel
theorem dX7_fillClashing_65 : decode cX7_fillClashing 65 = .ok (.getfield 21, 3) := by decide +kernel
theorem dX7_fillClashing_68 : decode cX7_fillClashing 68 = .ok (.iload_n 1, 1) := by decide +kernel
theorem dX7_fillClashing_69 : decode cX7_fillClashing 69 = .ok (.bipush 6, 2) := by decide +kernel
theorem dX7_fillClashing_71 : decode cX7_fillClashing 71 = .ok (.imul, 1) := by decide +kernel
theorem dX7_fillClashing_72 : decode cX7_fillClashing 72 = .ok (.iload_n 2, 1) := by decide +kernel
theorem dX7_fillClashing_73 : decode cX7_fillClashing 73 = .ok (.iadd, 1) := by decide +kernel
theorem dX7_fillClashing_74 : decode cX7_fillClashing 74 = .ok (.iload_n 3, 1) := by decide +kernel
theorem dX7_fillClashing_75 : decode cX7_fillClashing 75 = .ok (.invokestatic 80, 3) := by decide +kernel
theorem dX7_fillClashing_78 : decode cX7_fillClashing 78 = .ok (.iinc 2 1, 3) := by decide +kernel
theorem dX7_fillClashing_81 : decode cX7_fillClashing 81 = .ok (.goto (-67), 3) := by decide +kernel
theorem dX7_fillClashing_84 : decode cX7_fillClashing 84 = .ok (.iinc 1 1, 3) := by decide +kernel
theorem dX7_fillClashing_87 : decode cX7_fillClashing 87 = .ok (.goto (-85), 3) := by decide +kernel
theorem dX7_fillClashing_90 : decode cX7_fillClashing 90 = .ok (.return_, 1) := by decide +kernel
theorem dX7_plan_0 : decode cX7_plan 0 = .ok (.aload_n 0, 1) := by decide +kernel
theorem dX7_plan_1 : decode cX7_plan 1 = .ok (.invokevirtual 88, 3) := by decide +kernel
theorem dX7_plan_4 : decode cX7_plan 4 = .ok (.aload_n 0, 1) := by decide +kernel
theorem dX7_plan_5 : decode cX7_plan 5 = .ok (.invokevirtual 94, 3) := by decide +kernel
theorem dX7_plan_8 : decode cX7_plan 8 = .ok (.aload_n 0, 1) := by decide +kernel
theorem dX7_plan_9 : decode cX7_plan 9 = .ok (.sipush 1000, 3) := by decide +kernel
theorem dX7_plan_12 : decode cX7_plan 12 = .ok (.putfield 27, 3) := by decide +kernel
theorem dX7_plan_15 : decode cX7_plan 15 = .ok (.aload_n 0, 1) := by decide +kernel
theorem dX7_plan_16 : decode cX7_plan 16 = .ok (.iconst (-1), 1) := by decide +kernel
theorem dX7_plan_17 : decode cX7_plan 17 = .ok (.putfield 31, 3) := by decide +kernel
theorem dX7_plan_20 : decode cX7_plan 20 = .ok (.aload_n 0, 1) := by decide +kernel
theorem dX7_plan_21 : decode cX7_plan 21 = .ok (.iconst 0, 1) := by decide +kernel
theorem dX7_plan_22 : decode cX7_plan 22 = .ok (.iconst 0, 1) := by decide +kernel
theorem dX7_plan_23 : decode cX7_plan 23 = .ok (.iconst 0, 1) := by decide +kernel
theorem dX7_plan_24 : decode cX7_plan 24 = .ok (.invokevirtual 97, 3) := by decide +kernel
theorem dX7_plan_27 : decode cX7_plan 27 = .ok (.return_, 1) := by decide +kernel
theorem dX7_leastDelay_0 : decode cX7_leastDelay 0 = .ok (.aload_n 0, 1) := by decide +kernel
theorem dX7_leastDelay_1 : decode cX7_leastDelay 1 = .ok (.invokevirtual 101, 3) := by decide +kernel
theorem dX7_leastDelay_4 : decode cX7_leastDelay 4 = .ok (.aload_n 0, 1) := by decide +kernel
theorem dX7_leastDelay_5 : decode cX7_leastDelay 5 = .ok (.getfield 27, 3) := by decide +kernel
theorem dX7_leastDelay_8 : decode cX7_leastDelay 8 = .ok (.sipush 1000, 3) := by decide +kernel
theorem dX7_leastDelay_11 : decode cX7_leastDelay 11 = .ok (.if_icmp .ge 10, 3) := by decide +kernel
theorem dX7_leastDelay_14 : decode cX7_leastDelay 14 = .ok (.aload_n 0, 1) := by decide +kernel
theorem dX7_leastDelay_15 : decode cX7_leastDelay 15 = .ok (.getfield 27, 3) := by decide +kernel
theorem dX7_leastDelay_18 : decode cX7_leastDelay 18 = .ok (.goto 4, 3) := by decide +kernel
theorem dX7_leastDelay_21 : decode cX7_leastDelay 21 = .ok (.iconst (-1), 1) := by decide +kernel
theorem dX7_leastDelay_22 : decode cX7_leastDelay 22 = .ok (.ireturn, 1) := by decide +kernel
theorem dX7_delayDigits_0 : decode cX7_delayDigits 0 = .ok (.aload_n 0, 1) := by decide +kernel
theorem dX7_delayDigits_1 : decode cX7_delayDigits 1 = .ok (.invokevirtual 101, 3) := by decide +kernel
theorem dX7_delayDigits_4 : decode cX7_delayDigits 4 = .ok (.aload_n 0, 1) := by decide +kernel
theorem dX7_delayDigits_5 : decode cX7_delayDigits 5 = .ok (.getfield 31, 3) := by decide +kernel
theorem dX7_delayDigits_8 : decode cX7_delayDigits 8 = .ok (.ireturn, 1) := by decide +kernel
theorem dX7_place_0 : decode cX7_place 0 = .ok (.iload_n 1, 1) := by decide +kernel
theorem dX7_place_1 : decode cX7_place 1 = .ok (.bipush 6, 2) := by decide +kernel
theorem dX7_place_3 : decode cX7_place 3 = .ok (.if_icmp .ge 11, 3) := by decide +kernel
theorem dX7_place_6 : decode cX7_place 6 = .ok (.iload_n 1, 1) := by decide +kernel
theorem dX7_place_7 : decode cX7_place 7 = .ok (.aload_n 0, 1) := by decide +kernel
theorem dX7_place_8 : decode cX7_place 8 = .ok (.invokevirtual 48, 3) := by decide +kernel
theorem dX7_place_11 : decode cX7_place 11 = .ok (.if_icmp .lt 14, 3) := by decide +kernel
theorem dX7_place_14 : decode cX7_place 14 = .ok (.aload_n 0, 1) := by decide +kernel
theorem dX7_place_15 : decode cX7_place 15 = .ok (.iload_n 2, 1) := by decide +kernel
theorem dX7_place_16 : decode cX7_place 16 = .ok (.putfield 27, 3) := by decide +kernel
theorem dX7_place_19 : decode cX7_place 19 = .ok (.aload_n 0, 1) := by decide +kernel
theorem dX7_place_20 : decode cX7_place 20 = .ok (.iload_n 3, 1) := by decide +kernel
theorem dX7_place_21 : decode cX7_place 21 = .ok (.putfield 31, 3) := by decide +kernel
theorem dX7_place_24 : decode cX7_place 24 = .ok (.return_, 1) := by decide +kernel
theorem dX7_place_25 : decode cX7_place 25 = .ok (.iconst 0, 1) := by decide +kernel
theorem dX7_place_26 : decode cX7_place 26 = .ok (.istore 4, 2) := by decide +kernel
theorem dX7_place_28 : decode cX7_place 28 = .ok (.iload 4, 2) := by decide +kernel
theorem dX7_place_30 : decode cX7_place 30 = .ok (.iconst 4, 1) := by decide +kernel
theorem dX7_place_31 : decode cX7_place 31 = .ok (.if_icmp .gt 58, 3) := by decide +kernel
theorem dX7_place_34 : decode cX7_place 34 = .ok (.iload_n 2, 1) := by decide +kernel
theorem dX7_place_35 : decode cX7_place 35 = .ok (.iload 4, 2) := by decide +kernel
theorem dX7_place_37 : decode cX7_place 37 = .ok (.iadd, 1) := by decide +kernel
theorem dX7_place_38 : decode cX7_place 38 = .ok (.aload_n 0, 1) := by decide +kernel
theorem dX7_place_39 : decode cX7_place 39 = .ok (.getfield 27, 3) := by decide +kernel
theorem dX7_place_42 : decode cX7_place 42 = .ok (.if_icmp .ge 47, 3) := by decide +kernel
theorem dX7_place_45 : decode cX7_place 45 = .ok (.aload_n 0, 1) := by decide +kernel
theorem dX7_place_46 : decode cX7_place 46 = .ok (.iload_n 1, 1) := by decide +kernel
theorem dX7_place_47 : decode cX7_place 47 = .ok (.iload 4, 2) := by decide +kernel
theorem dX7_place_49 : decode cX7_place 49 = .ok (.invokevirtual 104, 3) := by decide +kernel
theorem dX7_place_52 : decode cX7_place 52 = .ok (.ifCond .eq 31, 3) := by decide +kernel
theorem dX7_place_55 : decode cX7_place 55 = .ok (.aload_n 0, 1) := by decide +kernel
theorem dX7_place_56 : decode cX7_place 56 = .ok (.getfield 24, 3) := by decide +kernel
theorem dX7_place_59 : decode cX7_place 59 = .ok (.iload_n 1, 1) := by decide +kernel
theorem dX7_place_60 : decode cX7_place 60 = .ok (.iload 4, 2) := by decide +kernel
theorem dX7_place_62 : decode cX7_place 62 = .ok (.invokestatic 80, 3) := by decide +kernel
theorem dX7_place_65 : decode cX7_place 65 = .ok (.aload_n 0, 1) := by decide +kernel
theorem dX7_place_66 : decode cX7_place 66 = .ok (.iload_n 1, 1) := by decide +kernel
theorem dX7_place_67 : decode cX7_place 67 = .ok (.iconst 1, 1) := by decide +kernel
theorem dX7_place_68 : decode cX7_place 68 = .ok (.iadd, 1) := by decide +kernel
theorem dX7_place_69 : decode cX7_place 69 = .ok (.iload_n 2, 1) := by decide +kernel
theorem dX7_place_70 : decode cX7_place 70 = .ok (.iload 4, 2) := by decide +kernel
theorem dX7_place_72 : decode cX7_place 72 = .ok (.iadd, 1) := by decide +kernel
theorem dX7_place_73 : decode cX7_place 73 = .ok (.iload_n 3, 1) := by decide +kernel
theorem dX7_place_74 : decode cX7_place 74 = .ok (.bipush 10, 2) := by decide +kernel
theorem dX7_place_76 : decode cX7_place 76 = .ok (.imul, 1) := by decide +kernel
theorem dX7_place_77 : decode cX7_place 77 = .ok (.iload 4, 2) := by decide +kernel
theorem dX7_place_79 : decode cX7_place 79 = .ok (.iadd, 1) := by decide +kernel
theorem dX7_place_80 : decode cX7_place 80 = .ok (.invokevirtual 97, 3) := by decide +kernel
theorem dX7_place_83 : decode cX7_place 83 = .ok (.iinc 4 1, 3) := by decide +kernel
theorem dX7_place_86 : decode cX7_place 86 = .ok (.goto (-58), 3) := by decide +kernel
theorem dX7_place_89 : decode cX7_place 89 = .ok (.return_, 1) := by decide +kernel
theorem dX7_fits_0 : decode cX7_fits 0 = .ok (.iconst 0, 1) := by decide +kernel
theorem dX7_fits_1 : decode cX7_fits 1 = .ok (.istore_n 3, 1) := by decide +kernel
theorem dX7_fits_2 : decode cX7_fits 2 = .ok (.iload_n 3, 1) := by decide +kernel
theorem dX7_fits_3 : decode cX7_fits 3 = .ok (.iload_n 1, 1) := by decide +kernel
theorem dX7_fits_4 : decode cX7_fits 4 = .ok (.if_icmp .ge 46, 3) := by decide +kernel
theorem dX7_fits_7 : decode cX7_fits 7 = .ok (.aload_n 0, 1) := by decide +kernel
theorem dX7_fits_8 : decode cX7_fits 8 = .ok (.getfield 24, 3) := by decide +kernel
theorem dX7_fits_11 : decode cX7_fits 11 = .ok (.iload_n 3, 1) := by decide +kernel
theorem dX7_fits_12 : decode cX7_fits 12 = .ok (.invokestatic 84, 3) := by decide +kernel
theorem dX7_fits_15 : decode cX7_fits 15 = .ok (.iload_n 2, 1) := by decide +kernel
theorem dX7_fits_16 : decode cX7_fits 16 = .ok (.isub, 1) := by decide +kernel
theorem dX7_fits_17 : decode cX7_fits 17 = .ok (.istore 4, 2) := by decide +kernel
theorem dX7_fits_19 : decode cX7_fits 19 = .ok (.aload_n 0, 1) := by decide +kernel
theorem dX7_fits_20 : decode cX7_fits 20 = .ok (.getfield 21, 3) := by decide +kernel
theorem dX7_fits_23 : decode cX7_fits 23 = .ok (.iload_n 3, 1) := by decide +kernel
theorem dX7_fits_24 : decode cX7_fits 24 = .ok (.bipush 6, 2) := by decide +kernel
theorem dX7_fits_26 : decode cX7_fits 26 = .ok (.imul, 1) := by decide +kernel
theorem dX7_fits_27 : decode cX7_fits 27 = .ok (.iload_n 1, 1) := by decide +kernel
theorem dX7_fits_28 : decode cX7_fits 28 = .ok (.iadd, 1) := by decide +kernel
theorem dX7_fits_29 : decode cX7_fits 29 = .ok (.invokestatic 84, 3) := by decide +kernel
theorem dX7_fits_32 : decode cX7_fits 32 = .ok (.iload 4, 2) := by decide +kernel
theorem dX7_fits_34 : decode cX7_fits 34 = .ok (.iconst 4, 1) := by decide +kernel
theorem dX7_fits_35 : decode cX7_fits 35 = .ok (.iadd, 1) := by decide +kernel
theorem dX7_fits_36 : decode cX7_fits 36 = .ok (.invokestatic 108, 3) := by decide +kernel
theorem dX7_fits_39 : decode cX7_fits 39 = .ok (.ifCond .eq 5, 3) := by decide +kernel
theorem dX7_fits_42 : decode cX7_fits 42 = .ok (.iconst 0, 1) := by decide +kernel
theorem dX7_fits_43 : decode cX7_fits 43 = .ok (.ireturn, 1) := by decide +kernel
theorem dX7_fits_44 : decode cX7_fits 44 = .ok (.iinc 3 1, 3) := by decide +kernel
theorem dX7_fits_47 : decode cX7_fits 47 = .ok (.goto (-45), 3) := by decide +kernel
theorem dX7_fits_50 : decode cX7_fits 50 = .ok (.iconst 1, 1) := by decide +kernel
theorem dX7_fits_51 : decode cX7_fits 51 = .ok (.ireturn, 1) := by decide +kernel
theorem dX7_notMet_0 : decode cX7_notMet 0 = .ok (.iload_n 1, 1) := by decide +kernel
theorem dX7_notMet_1 : decode cX7_notMet 1 = .ok (.istore 5, 2) := by decide +kernel
theorem dX7_notMet_3 : decode cX7_notMet 3 = .ok (.iconst 0, 1) := by decide +kernel
theorem dX7_notMet_4 : decode cX7_notMet 4 = .ok (.istore 6, 2) := by decide +kernel
theorem dX7_notMet_6 : decode cX7_notMet 6 = .ok (.iconst 0, 1) := by decide +kernel
theorem dX7_notMet_7 : decode cX7_notMet 7 = .ok (.istore 7, 2) := by decide +kernel
theorem dX7_notMet_9 : decode cX7_notMet 9 = .ok (.iload 7, 2) := by decide +kernel
theorem dX7_notMet_11 : decode cX7_notMet 11 = .ok (.iload_n 2, 1) := by decide +kernel
theorem dX7_notMet_12 : decode cX7_notMet 12 = .ok (.if_icmp .ge 38, 3) := by decide +kernel
theorem dX7_notMet_15 : decode cX7_notMet 15 = .ok (.aload_n 0, 1) := by decide +kernel
theorem dX7_notMet_16 : decode cX7_notMet 16 = .ok (.getfield 38, 3) := by decide +kernel
theorem dX7_notMet_19 : decode cX7_notMet 19 = .ok (.iload 5, 2) := by decide +kernel
theorem dX7_notMet_21 : decode cX7_notMet 21 = .ok (.iload_n 3, 1) := by decide +kernel
theorem dX7_notMet_22 : decode cX7_notMet 22 = .ok (.invokevirtual 77, 3) := by decide +kernel
theorem dX7_notMet_25 : decode cX7_notMet 25 = .ok (.istore 5, 2) := by decide +kernel
theorem dX7_notMet_27 : decode cX7_notMet 27 = .ok (.iload 6, 2) := by decide +kernel
theorem dX7_notMet_29 : decode cX7_notMet 29 = .ok (.iload 5, 2) := by decide +kernel
theorem dX7_notMet_31 : decode cX7_notMet 31 = .ok (.iload 4, 2) := by decide +kernel
theorem dX7_notMet_33 : decode cX7_notMet 33 = .ok (.if_icmp .eq 7, 3) := by decide +kernel
theorem dX7_notMet_36 : decode cX7_notMet 36 = .ok (.iconst 1, 1) := by decide +kernel
theorem dX7_notMet_37 : decode cX7_notMet 37 = .ok (.goto 4, 3) := by decide +kernel
theorem dX7_notMet_40 : decode cX7_notMet 40 = .ok (.iconst 0, 1) := by decide +kernel
theorem dX7_notMet_41 : decode cX7_notMet 41 = .ok (.iadd, 1) := by decide +kernel
theorem dX7_notMet_42 : decode cX7_notMet 42 = .ok (.istore 6, 2) := by decide +kernel
theorem dX7_notMet_44 : decode cX7_notMet 44 = .ok (.iinc 7 1, 3) := by decide +kernel
theorem dX7_notMet_47 : decode cX7_notMet 47 = .ok (.goto (-38), 3) := by decide +kernel
theorem dX7_notMet_50 : decode cX7_notMet 50 = .ok (.iload 6, 2) := by decide +kernel
theorem dX7_notMet_52 : decode cX7_notMet 52 = .ok (.ireturn, 1) := by decide +kernel
theorem dX7_countRests_0 : decode cX7_countRests 0 = .ok (.iconst 0, 1) := by decide +kernel
theorem dX7_countRests_1 : decode cX7_countRests 1 = .ok (.istore_n 3, 1) := by decide +kernel
theorem dX7_countRests_2 : decode cX7_countRests 2 = .ok (.iconst 0, 1) := by decide +kernel
theorem dX7_countRests_3 : decode cX7_countRests 3 = .ok (.istore 4, 2) := by decide +kernel
theorem dX7_countRests_5 : decode cX7_countRests 5 = .ok (.iload 4, 2) := by decide +kernel
theorem dX7_countRests_7 : decode cX7_countRests 7 = .ok (.aload_n 0, 1) := by decide +kernel
theorem dX7_countRests_8 : decode cX7_countRests 8 = .ok (.getfield 34, 3) := by decide +kernel
theorem dX7_countRests_11 : decode cX7_countRests 11 = .ok (.invokevirtual 111, 3) := by decide +kernel
theorem dX7_countRests_14 : decode cX7_countRests 14 = .ok (.if_icmp .ge 51, 3) := by decide +kernel
theorem dX7_countRests_17 : decode cX7_countRests 17 = .ok (.iconst 0, 1) := by decide +kernel
theorem dX7_countRests_18 : decode cX7_countRests 18 = .ok (.istore 5, 2) := by decide +kernel
theorem dX7_countRests_20 : decode cX7_countRests 20 = .ok (.iload 5, 2) := by decide +kernel
theorem dX7_countRests_22 : decode cX7_countRests 22 = .ok (.aload_n 0, 1) := by decide +kernel
theorem dX7_countRests_23 : decode cX7_countRests 23 = .ok (.getfield 34, 3) := by decide +kernel
theorem dX7_countRests_26 : decode cX7_countRests 26 = .ok (.invokevirtual 114, 3) := by decide +kernel
theorem dX7_countRests_29 : decode cX7_countRests 29 = .ok (.if_icmp .ge 30, 3) := by decide +kernel
theorem dX7_countRests_32 : decode cX7_countRests 32 = .ok (.iload_n 3, 1) := by decide +kernel
theorem dX7_countRests_33 : decode cX7_countRests 33 = .ok (.aload_n 0, 1) := by decide +kernel
theorem dX7_countRests_34 : decode cX7_countRests 34 = .ok (.iload_n 1, 1) := by decide +kernel
theorem dX7_countRests_35 : decode cX7_countRests 35 = .ok (.iload_n 2, 1) := by decide +kernel
theorem dX7_countRests_36 : decode cX7_countRests 36 = .ok (.iload 4, 2) := by decide +kernel
theorem dX7_countRests_38 : decode cX7_countRests 38 = .ok (.iload 5, 2) := by decide +kernel
theorem dX7_countRests_40 : decode cX7_countRests 40 = .ok (.invokevirtual 117, 3) := by decide +kernel
theorem dX7_countRests_43 : decode cX7_countRests 43 = .ok (.ifCond .eq 7, 3) := by decide +kernel
theorem dX7_countRests_46 : decode cX7_countRests 46 = .ok (.iconst 1, 1) := by decide +kernel
theorem dX7_countRests_47 : decode cX7_countRests 47 = .ok (.goto 4, 3) := by decide +kernel
theorem dX7_countRests_50 : decode cX7_countRests 50 = .ok (.iconst 0, 1) := by decide +kernel
theorem dX7_countRests_51 : decode cX7_countRests 51 = .ok (.iadd, 1) := by decide +kernel
theorem dX7_countRests_52 : decode cX7_countRests 52 = .ok (.istore_n 3, 1) := by decide +kernel
theorem dX7_countRests_53 : decode cX7_countRests 53 = .ok (.iinc 5 1, 3) := by decide +kernel
theorem dX7_countRests_56 : decode cX7_countRests 56 = .ok (.goto (-36), 3) := by decide +kernel
theorem dX7_countRests_59 : decode cX7_countRests 59 = .ok (.iinc 4 1, 3) := by decide +kernel
theorem dX7_countRests_62 : decode cX7_countRests 62 = .ok (.goto (-57), 3) := by decide +kernel
theorem dX7_countRests_65 : decode cX7_countRests 65 = .ok (.iload_n 3, 1) := by decide +kernel
theorem dX7_countRests_66 : decode cX7_countRests 66 = .ok (.ireturn, 1) := by decide +kernel
theorem dX7_restAt_0 : decode cX7_restAt 0 = .ok (.iconst 0, 1) := by decide +kernel
theorem dX7_restAt_1 : decode cX7_restAt 1 = .ok (.istore 4, 2) := by decide +kernel
theorem dX7_restAt_3 : decode cX7_restAt 3 = .ok (.iconst 0, 1) := by decide +kernel
theorem dX7_restAt_4 : decode cX7_restAt 4 = .ok (.istore 5, 2) := by decide +kernel
theorem dX7_restAt_6 : decode cX7_restAt 6 = .ok (.iload 5, 2) := by decide +kernel
theorem dX7_restAt_8 : decode cX7_restAt 8 = .ok (.aload_n 0, 1) := by decide +kernel
theorem dX7_restAt_9 : decode cX7_restAt 9 = .ok (.getfield 34, 3) := by decide +kernel
theorem dX7_restAt_12 : decode cX7_restAt 12 = .ok (.invokevirtual 111, 3) := by decide +kernel
theorem dX7_restAt_15 : decode cX7_restAt 15 = .ok (.if_icmp .ge 61, 3) := by decide +kernel
theorem dX7_restAt_18 : decode cX7_restAt 18 = .ok (.iconst 0, 1) := by decide +kernel
theorem dX7_restAt_19 : decode cX7_restAt 19 = .ok (.istore 6, 2) := by decide +kernel
theorem dX7_restAt_21 : decode cX7_restAt 21 = .ok (.iload 6, 2) := by decide +kernel
theorem dX7_restAt_23 : decode cX7_restAt 23 = .ok (.aload_n 0, 1) := by decide +kernel
theorem dX7_restAt_24 : decode cX7_restAt 24 = .ok (.getfield 34, 3) := by decide +kernel
theorem dX7_restAt_27 : decode cX7_restAt 27 = .ok (.invokevirtual 114, 3) := by decide +kernel
theorem dX7_restAt_30 : decode cX7_restAt 30 = .ok (.if_icmp .ge 40, 3) := by decide +kernel
theorem dX7_restAt_33 : decode cX7_restAt 33 = .ok (.aload_n 0, 1) := by decide +kernel
theorem dX7_restAt_34 : decode cX7_restAt 34 = .ok (.iload_n 1, 1) := by decide +kernel
theorem dX7_restAt_35 : decode cX7_restAt 35 = .ok (.iload_n 2, 1) := by decide +kernel
theorem dX7_restAt_36 : decode cX7_restAt 36 = .ok (.iload 5, 2) := by decide +kernel
theorem dX7_restAt_38 : decode cX7_restAt 38 = .ok (.iload 6, 2) := by decide +kernel
theorem dX7_restAt_40 : decode cX7_restAt 40 = .ok (.invokevirtual 117, 3) := by decide +kernel
theorem dX7_restAt_43 : decode cX7_restAt 43 = .ok (.ifCond .eq 21, 3) := by decide +kernel
theorem dX7_restAt_46 : decode cX7_restAt 46 = .ok (.iload 4, 2) := by decide +kernel
theorem dX7_restAt_48 : decode cX7_restAt 48 = .ok (.iload_n 3, 1) := by decide +kernel
theorem dX7_restAt_49 : decode cX7_restAt 49 = .ok (.if_icmp .ne 12, 3) := by decide +kernel
theorem dX7_restAt_52 : decode cX7_restAt 52 = .ok (.bipush 10, 2) := by decide +kernel
theorem dX7_restAt_54 : decode cX7_restAt 54 = .ok (.iload 5, 2) := by decide +kernel
theorem dX7_restAt_56 : decode cX7_restAt 56 = .ok (.imul, 1) := by decide +kernel
theorem dX7_restAt_57 : decode cX7_restAt 57 = .ok (.iload 6, 2) := by decide +kernel
theorem dX7_restAt_59 : decode cX7_restAt 59 = .ok (.iadd, 1) := by decide +kernel
theorem dX7_restAt_60 : decode cX7_restAt 60 = .ok (.ireturn, 1) := by decide +kernel
theorem dX7_restAt_61 : decode cX7_restAt 61 = .ok (.iinc 4 1, 3) := by decide +kernel
theorem dX7_restAt_64 : decode cX7_restAt 64 = .ok (.iinc 6 1, 3) := by decide +kernel
theorem dX7_restAt_67 : decode cX7_restAt 67 = .ok (.goto (-46), 3) := by decide +kernel
theorem dX7_restAt_70 : decode cX7_restAt 70 = .ok (.iinc 5 1, 3) := by decide +kernel
theorem dX7_restAt_73 : decode cX7_restAt 73 = .ok (.goto (-67), 3) := by decide +kernel
theorem dX7_restAt_76 : decode cX7_restAt 76 = .ok (.iconst (-1), 1) := by decide +kernel
theorem dX7_restAt_77 : decode cX7_restAt 77 = .ok (.ireturn, 1) := by decide +kernel
theorem dX7_isRest_0 : decode cX7_isRest 0 = .ok (.aload_n 0, 1) := by decide +kernel
theorem dX7_isRest_1 : decode cX7_isRest 1 = .ok (.iload_n 1, 1) := by decide +kernel
theorem dX7_isRest_2 : decode cX7_isRest 2 = .ok (.iload_n 2, 1) := by decide +kernel
theorem dX7_isRest_3 : decode cX7_isRest 3 = .ok (.iload_n 3, 1) := by decide +kernel
theorem dX7_isRest_4 : decode cX7_isRest 4 = .ok (.iload 4, 2) := by decide +kernel
theorem dX7_isRest_6 : decode cX7_isRest 6 = .ok (.invokevirtual 121, 3) := by decide +kernel
theorem dX7_isRest_9 : decode cX7_isRest 9 = .ok (.istore 5, 2) := by decide +kernel
theorem dX7_isRest_11 : decode cX7_isRest 11 = .ok (.iconst 0, 1) := by decide +kernel
theorem dX7_isRest_12 : decode cX7_isRest 12 = .ok (.istore 6, 2) := by decide +kernel
theorem dX7_isRest_14 : decode cX7_isRest 14 = .ok (.iload 6, 2) := by decide +kernel
theorem dX7_isRest_16 : decode cX7_isRest 16 = .ok (.aload_n 0, 1) := by decide +kernel
theorem dX7_isRest_17 : decode cX7_isRest 17 = .ok (.getfield 34, 3) := by decide +kernel
theorem dX7_isRest_20 : decode cX7_isRest 20 = .ok (.invokevirtual 111, 3) := by decide +kernel
theorem dX7_isRest_23 : decode cX7_isRest 23 = .ok (.if_icmp .ge 26, 3) := by decide +kernel
theorem dX7_isRest_26 : decode cX7_isRest 26 = .ok (.aload_n 0, 1) := by decide +kernel
theorem dX7_isRest_27 : decode cX7_isRest 27 = .ok (.iload_n 1, 1) := by decide +kernel
theorem dX7_isRest_28 : decode cX7_isRest 28 = .ok (.iload_n 2, 1) := by decide +kernel
theorem dX7_isRest_29 : decode cX7_isRest 29 = .ok (.iload 6, 2) := by decide +kernel
theorem dX7_isRest_31 : decode cX7_isRest 31 = .ok (.iload 4, 2) := by decide +kernel
theorem dX7_isRest_33 : decode cX7_isRest 33 = .ok (.invokevirtual 121, 3) := by decide +kernel
theorem dX7_isRest_36 : decode cX7_isRest 36 = .ok (.iload 5, 2) := by decide +kernel
theorem dX7_isRest_38 : decode cX7_isRest 38 = .ok (.if_icmp .le 5, 3) := by decide +kernel
theorem dX7_isRest_41 : decode cX7_isRest 41 = .ok (.iconst 0, 1) := by decide +kernel
theorem dX7_isRest_42 : decode cX7_isRest 42 = .ok (.ireturn, 1) := by decide +kernel
theorem dX7_isRest_43 : decode cX7_isRest 43 = .ok (.iinc 6 1, 3) := by decide +kernel
theorem dX7_isRest_46 : decode cX7_isRest 46 = .ok (.goto (-32), 3) := by decide +kernel
theorem dX7_isRest_49 : decode cX7_isRest 49 = .ok (.iconst 0, 1) := by decide +kernel
theorem dX7_isRest_50 : decode cX7_isRest 50 = .ok (.istore 6, 2) := by decide +kernel
theorem dX7_isRest_52 : decode cX7_isRest 52 = .ok (.iload 6, 2) := by decide +kernel
theorem dX7_isRest_54 : decode cX7_isRest 54 = .ok (.aload_n 0, 1) := by decide +kernel
theorem dX7_isRest_55 : decode cX7_isRest 55 = .ok (.getfield 34, 3) := by decide +kernel
theorem dX7_isRest_58 : decode cX7_isRest 58 = .ok (.invokevirtual 114, 3) := by decide +kernel
theorem dX7_isRest_61 : decode cX7_isRest 61 = .ok (.if_icmp .ge 25, 3) := by decide +kernel
theorem dX7_isRest_64 : decode cX7_isRest 64 = .ok (.aload_n 0, 1) := by decide +kernel
theorem dX7_isRest_65 : decode cX7_isRest 65 = .ok (.iload_n 1, 1) := by decide +kernel
theorem dX7_isRest_66 : decode cX7_isRest 66 = .ok (.iload_n 2, 1) := by decide +kernel
theorem dX7_isRest_67 : decode cX7_isRest 67 = .ok (.iload_n 3, 1) := by decide +kernel
theorem dX7_isRest_68 : decode cX7_isRest 68 = .ok (.iload 6, 2) := by decide +kernel
theorem dX7_isRest_70 : decode cX7_isRest 70 = .ok (.invokevirtual 121, 3) := by decide +kernel
theorem dX7_isRest_73 : decode cX7_isRest 73 = .ok (.iload 5, 2) := by decide +kernel
theorem dX7_isRest_75 : decode cX7_isRest 75 = .ok (.if_icmp .ge 5, 3) := by decide +kernel
theorem dX7_isRest_78 : decode cX7_isRest 78 = .ok (.iconst 0, 1) := by decide +kernel
theorem dX7_isRest_79 : decode cX7_isRest 79 = .ok (.ireturn, 1) := by decide +kernel
theorem dX7_isRest_80 : decode cX7_isRest 80 = .ok (.iinc 6 1, 3) := by decide +kernel
theorem dX7_isRest_83 : decode cX7_isRest 83 = .ok (.goto (-31), 3) := by decide +kernel
theorem dX7_isRest_86 : decode cX7_isRest 86 = .ok (.iconst 1, 1) := by decide +kernel
theorem dX7_isRest_87 : decode cX7_isRest 87 = .ok (.ireturn, 1) := by decide +kernel
theorem dX8_init_0 : decode cX8_init 0 = .ok (.aload_n 0, 1) := by decide +kernel
theorem dX8_init_1 : decode cX8_init 1 = .ok (.invokespecial 3, 3) := by decide +kernel
theorem dX8_init_4 : decode cX8_init 4 = .ok (.aload_n 0, 1) := by decide +kernel
theorem dX8_init_5 : decode cX8_init 5 = .ok (.bipush 40, 2) := by decide +kernel
theorem dX8_init_7 : decode cX8_init 7 = .ok (.newarray .int, 2) := by decide +kernel
theorem dX8_init_9 : decode cX8_init 9 = .ok (.putfield 11, 3) := by decide +kernel
theorem dX8_init_12 : decode cX8_init 12 = .ok (.aload_n 0, 1) := by decide +kernel
theorem dX8_init_13 : decode cX8_init 13 = .ok (.iconst 4, 1) := by decide +kernel
theorem dX8_init_14 : decode cX8_init 14 = .ok (.newarray .int, 2) := by decide +kernel
theorem dX8_init_16 : decode cX8_init 16 = .ok (.putfield 15, 3) := by decide +kernel
theorem dX8_init_19 : decode cX8_init 19 = .ok (.aload_n 0, 1) := by decide +kernel
theorem dX8_init_20 : decode cX8_init 20 = .ok (.bipush 40, 2) := by decide +kernel
theorem dX8_init_22 : decode cX8_init 22 = .ok (.newarray .int, 2) := by decide +kernel
theorem dX8_init_24 : decode cX8_init 24 = .ok (.putfield 18, 3) := by decide +kernel
theorem dX8_init_27 : decode cX8_init 27 = .ok (.aload_n 0, 1) := by decide +kernel
theorem dX8_init_28 : decode cX8_init 28 = .ok (.bipush 32, 2) := by decide +kernel
theorem dX8_init_30 : decode cX8_init 30 = .ok (.newarray .int, 2) := by decide +kernel
theorem dX8_init_32 : decode cX8_init 32 = .ok (.putfield 21, 3) := by decide +kernel
theorem dX8_init_35 : decode cX8_init 35 = .ok (.aload_n 0, 1) := by decide +kernel
theorem dX8_init_36 : decode cX8_init 36 = .ok (.iconst 0, 1) := by decide +kernel
theorem dX8_init_37 : decode cX8_init 37 = .ok (.putfield 24, 3) := by decide +kernel
theorem dX8_init_40 : decode cX8_init 40 = .ok (.aload_n 0, 1) := by decide +kernel
theorem dX8_init_41 : decode cX8_init 41 = .ok (.iconst 0, 1) := by decide +kernel
theorem dX8_init_42 : decode cX8_init 42 = .ok (.putfield 28, 3) := by decide +kernel
theorem dX8_init_45 : decode cX8_init 45 = .ok (.aload_n 0, 1) := by decide +kernel
theorem dX8_init_46 : decode cX8_init 46 = .ok (.aload_n 1, 1) := by decide +kernel
theorem dX8_init_47 : decode cX8_init 47 = .ok (.putfield 31, 3) := by decide +kernel
theorem dX8_init_50 : decode cX8_init 50 = .ok (.aload_n 0, 1) := by decide +kernel
theorem dX8_init_51 : decode cX8_init 51 = .ok (.aload_n 2, 1) := by decide +kernel
theorem dX8_init_52 : decode cX8_init 52 = .ok (.putfield 35, 3) := by decide +kernel
theorem dX8_init_55 : decode cX8_init 55 = .ok (.return_, 1) := by decide +kernel
theorem dX8_forget_0 : decode cX8_forget 0 = .ok (.aload_n 0, 1) := by decide +kernel
theorem dX8_forget_1 : decode cX8_forget 1 = .ok (.iconst 0, 1) := by decide +kernel
theorem dX8_forget_2 : decode cX8_forget 2 = .ok (.putfield 24, 3) := by decide +kernel
theorem dX8_forget_5 : decode cX8_forget 5 = .ok (.return_, 1) := by decide +kernel
theorem dX8_many_0 : decode cX8_many 0 = .ok (.aload_n 0, 1) := by decide +kernel
theorem dX8_many_1 : decode cX8_many 1 = .ok (.getfield 24, 3) := by decide +kernel
theorem dX8_many_4 : decode cX8_many 4 = .ok (.ireturn, 1) := by decide +kernel
theorem dX8_add_0 : decode cX8_add 0 = .ok (.aload_n 0, 1) := by decide +kernel
theorem dX8_add_1 : decode cX8_add 1 = .ok (.getfield 24, 3) := by decide +kernel
theorem dX8_add_4 : decode cX8_add 4 = .ok (.bipush 10, 2) := by decide +kernel
theorem dX8_add_6 : decode cX8_add 6 = .ok (.if_icmp .lt 5, 3) := by decide +kernel
theorem dX8_add_9 : decode cX8_add 9 = .ok (.iconst (-1), 1) := by decide +kernel
theorem dX8_add_10 : decode cX8_add 10 = .ok (.ireturn, 1) := by decide +kernel
theorem dX8_add_11 : decode cX8_add 11 = .ok (.aload_n 0, 1) := by decide +kernel
theorem dX8_add_12 : decode cX8_add 12 = .ok (.getfield 24, 3) := by decide +kernel
theorem dX8_add_15 : decode cX8_add 15 = .ok (.iconst 4, 1) := by decide +kernel
theorem dX8_add_16 : decode cX8_add 16 = .ok (.imul, 1) := by decide +kernel
theorem dX8_add_17 : decode cX8_add 17 = .ok (.istore 5, 2) := by decide +kernel
theorem dX8_add_19 : decode cX8_add 19 = .ok (.aload_n 0, 1) := by decide +kernel
theorem dX8_add_20 : decode cX8_add 20 = .ok (.getfield 11, 3) := by decide +kernel
theorem dX8_add_23 : decode cX8_add 23 = .ok (.iload 5, 2) := by decide +kernel
theorem dX8_add_25 : decode cX8_add 25 = .ok (.iload_n 1, 1) := by decide +kernel
theorem dX8_add_26 : decode cX8_add 26 = .ok (.invokestatic 39, 3) := by decide +kernel
theorem dX8_add_29 : decode cX8_add 29 = .ok (.aload_n 0, 1) := by decide +kernel
theorem dX8_add_30 : decode cX8_add 30 = .ok (.getfield 11, 3) := by decide +kernel
theorem dX8_add_33 : decode cX8_add 33 = .ok (.iload 5, 2) := by decide +kernel
theorem dX8_add_35 : decode cX8_add 35 = .ok (.iconst 1, 1) := by decide +kernel
theorem dX8_add_36 : decode cX8_add 36 = .ok (.iadd, 1) := by decide +kernel
theorem dX8_add_37 : decode cX8_add 37 = .ok (.iload_n 2, 1) := by decide +kernel
theorem dX8_add_38 : decode cX8_add 38 = .ok (.invokestatic 39, 3) := by decide +kernel
theorem dX8_add_41 : decode cX8_add 41 = .ok (.aload_n 0, 1) := by decide +kernel
theorem dX8_add_42 : decode cX8_add 42 = .ok (.getfield 11, 3) := by decide +kernel
theorem dX8_add_45 : decode cX8_add 45 = .ok (.iload 5, 2) := by decide +kernel
theorem dX8_add_47 : decode cX8_add 47 = .ok (.iconst 2, 1) := by decide +kernel
theorem dX8_add_48 : decode cX8_add 48 = .ok (.iadd, 1) := by decide +kernel
theorem dX8_add_49 : decode cX8_add 49 = .ok (.iload_n 3, 1) := by decide +kernel
theorem dX8_add_50 : decode cX8_add 50 = .ok (.invokestatic 39, 3) := by decide +kernel
theorem dX8_add_53 : decode cX8_add 53 = .ok (.aload_n 0, 1) := by decide +kernel
theorem dX8_add_54 : decode cX8_add 54 = .ok (.getfield 11, 3) := by decide +kernel
theorem dX8_add_57 : decode cX8_add 57 = .ok (.iload 5, 2) := by decide +kernel
theorem dX8_add_59 : decode cX8_add 59 = .ok (.iconst 3, 1) := by decide +kernel
theorem dX8_add_60 : decode cX8_add 60 = .ok (.iadd, 1) := by decide +kernel
theorem dX8_add_61 : decode cX8_add 61 = .ok (.iload 4, 2) := by decide +kernel
theorem dX8_add_63 : decode cX8_add 63 = .ok (.invokestatic 39, 3) := by decide +kernel
theorem dX8_add_66 : decode cX8_add 66 = .ok (.aload_n 0, 1) := by decide +kernel
theorem dX8_add_67 : decode cX8_add 67 = .ok (.dup, 1) := by decide +kernel
theorem dX8_add_68 : decode cX8_add 68 = .ok (.getfield 24, 3) := by decide +kernel
theorem dX8_add_71 : decode cX8_add 71 = .ok (.iconst 1, 1) := by decide +kernel
theorem dX8_add_72 : decode cX8_add 72 = .ok (.iadd, 1) := by decide +kernel
theorem dX8_add_73 : decode cX8_add 73 = .ok (.putfield 24, 3) := by decide +kernel
theorem dX8_add_76 : decode cX8_add 76 = .ok (.aload_n 0, 1) := by decide +kernel
theorem dX8_add_77 : decode cX8_add 77 = .ok (.getfield 24, 3) := by decide +kernel
theorem dX8_add_80 : decode cX8_add 80 = .ok (.ireturn, 1) := by decide +kernel
theorem dX8_unknownNow_0 : decode cX8_unknownNow 0 = .ok (.aload_n 0, 1) := by decide +kernel
theorem dX8_unknownNow_1 : decode cX8_unknownNow 1 = .ok (.iconst 0, 1) := by decide +kernel
theorem dX8_unknownNow_2 : decode cX8_unknownNow 2 = .ok (.putfield 28, 3) := by decide +kernel
theorem dX8_unknownNow_5 : decode cX8_unknownNow 5 = .ok (.iconst 0, 1) := by decide +kernel
theorem dX8_unknownNow_6 : decode cX8_unknownNow 6 = .ok (.istore_n 1, 1) := by decide +kernel
theorem dX8_unknownNow_7 : decode cX8_unknownNow 7 = .ok (.iload_n 1, 1) := by decide +kernel
theorem dX8_unknownNow_8 : decode cX8_unknownNow 8 = .ok (.aload_n 0, 1) := by decide +kernel
theorem dX8_unknownNow_9 : decode cX8_unknownNow 9 = .ok (.getfield 31, 3) := by decide +kernel
theorem dX8_unknownNow_12 : decode cX8_unknownNow 12 = .ok (.iconst 1, 1) := by decide +kernel
theorem dX8_unknownNow_13 : decode cX8_unknownNow 13 = .ok (.invokevirtual 45, 3) := by decide +kernel
theorem dX8_unknownNow_16 : decode cX8_unknownNow 16 = .ok (.if_icmp .ge 60, 3) := by decide +kernel
theorem dX8_unknownNow_19 : decode cX8_unknownNow 19 = .ok (.aload_n 0, 1) := by decide +kernel
theorem dX8_unknownNow_20 : decode cX8_unknownNow 20 = .ok (.getfield 28, 3) := by decide +kernel
theorem dX8_unknownNow_23 : decode cX8_unknownNow 23 = .ok (.iconst 4, 1) := by decide +kernel
theorem dX8_unknownNow_24 : decode cX8_unknownNow 24 = .ok (.if_icmp .ge 52, 3) := by decide +kernel
theorem dX8_unknownNow_27 : decode cX8_unknownNow 27 = .ok (.aload_n 0, 1) := by decide +kernel
theorem dX8_unknownNow_28 : decode cX8_unknownNow 28 = .ok (.getfield 31, 3) := by decide +kernel
theorem dX8_unknownNow_31 : decode cX8_unknownNow 31 = .ok (.iload_n 1, 1) := by decide +kernel
theorem dX8_unknownNow_32 : decode cX8_unknownNow 32 = .ok (.invokevirtual 48, 3) := by decide +kernel
theorem dX8_unknownNow_35 : decode cX8_unknownNow 35 = .ok (.istore_n 2, 1) := by decide +kernel
theorem dX8_unknownNow_36 : decode cX8_unknownNow 36 = .ok (.aload_n 0, 1) := by decide +kernel
theorem dX8_unknownNow_37 : decode cX8_unknownNow 37 = .ok (.getfield 35, 3) := by decide +kernel
theorem dX8_unknownNow_40 : decode cX8_unknownNow 40 = .ok (.iload_n 2, 1) := by decide +kernel
theorem dX8_unknownNow_41 : decode cX8_unknownNow 41 = .ok (.invokevirtual 51, 3) := by decide +kernel
theorem dX8_unknownNow_44 : decode cX8_unknownNow 44 = .ok (.iconst (-1), 1) := by decide +kernel
theorem dX8_unknownNow_45 : decode cX8_unknownNow 45 = .ok (.if_icmp .ne 25, 3) := by decide +kernel
theorem dX8_unknownNow_48 : decode cX8_unknownNow 48 = .ok (.aload_n 0, 1) := by decide +kernel
theorem dX8_unknownNow_49 : decode cX8_unknownNow 49 = .ok (.getfield 15, 3) := by decide +kernel
theorem dX8_unknownNow_52 : decode cX8_unknownNow 52 = .ok (.aload_n 0, 1) := by decide +kernel
theorem dX8_unknownNow_53 : decode cX8_unknownNow 53 = .ok (.getfield 28, 3) := by decide +kernel
theorem dX8_unknownNow_56 : decode cX8_unknownNow 56 = .ok (.iload_n 2, 1) := by decide +kernel
theorem dX8_unknownNow_57 : decode cX8_unknownNow 57 = .ok (.invokestatic 39, 3) := by decide +kernel
theorem dX8_unknownNow_60 : decode cX8_unknownNow 60 = .ok (.aload_n 0, 1) := by decide +kernel
theorem dX8_unknownNow_61 : decode cX8_unknownNow 61 = .ok (.dup, 1) := by decide +kernel
theorem dX8_unknownNow_62 : decode cX8_unknownNow 62 = .ok (.getfield 28, 3) := by decide +kernel
theorem dX8_unknownNow_65 : decode cX8_unknownNow 65 = .ok (.iconst 1, 1) := by decide +kernel
theorem dX8_unknownNow_66 : decode cX8_unknownNow 66 = .ok (.iadd, 1) := by decide +kernel
theorem dX8_unknownNow_67 : decode cX8_unknownNow 67 = .ok (.putfield 28, 3) := by decide +kernel
theorem dX8_unknownNow_70 : decode cX8_unknownNow 70 = .ok (.iinc 1 1, 3) := by decide +kernel
theorem dX8_unknownNow_73 : decode cX8_unknownNow 73 = .ok (.goto (-66), 3) := by decide +kernel
theorem dX8_unknownNow_76 : decode cX8_unknownNow 76 = .ok (.aload_n 0, 1) := by decide +kernel
theorem dX8_unknownNow_77 : decode cX8_unknownNow 77 = .ok (.getfield 28, 3) := by decide +kernel
theorem dX8_unknownNow_80 : decode cX8_unknownNow 80 = .ok (.ireturn, 1) := by decide +kernel
theorem dX8_beginAssumptions_0 : decode cX8_beginAssumptions 0 = .ok (.iconst 0, 1) := by decide +kernel
theorem dX8_beginAssumptions_1 : decode cX8_beginAssumptions 1 = .ok (.istore_n 1, 1) := by decide +kernel
theorem dX8_beginAssumptions_2 : decode cX8_beginAssumptions 2 = .ok (.iload_n 1, 1) := by decide +kernel
theorem dX8_beginAssumptions_3 : decode cX8_beginAssumptions 3 = .ok (.bipush 40, 2) := by decide +kernel
theorem dX8_beginAssumptions_5 : decode cX8_beginAssumptions 5 = .ok (.if_icmp .ge 25, 3) := by decide +kernel
theorem dX8_beginAssumptions_8 : decode cX8_beginAssumptions 8 = .ok (.aload_n 0, 1) := by decide +kernel
theorem dX8_beginAssumptions_9 : decode cX8_beginAssumptions 9 = .ok (.getfield 18, 3) := by decide +kernel
theorem dX8_beginAssumptions_12 : decode cX8_beginAssumptions 12 = .ok (.iload_n 1, 1) := by decide +kernel
theorem dX8_beginAssumptions_13 : decode cX8_beginAssumptions 13 = .ok (.aload_n 0, 1) := by decide +kernel
theorem dX8_beginAssumptions_14 : decode cX8_beginAssumptions 14 = .ok (.getfield 35, 3) := by decide +kernel
theorem dX8_beginAssumptions_17 : decode cX8_beginAssumptions 17 = .ok (.iload_n 1, 1) := by decide +kernel
theorem dX8_beginAssumptions_18 : decode cX8_beginAssumptions 18 = .ok (.invokevirtual 51, 3) := by decide +kernel
theorem dX8_beginAssumptions_21 : decode cX8_beginAssumptions 21 = .ok (.invokestatic 39, 3) := by decide +kernel
theorem dX8_beginAssumptions_24 : decode cX8_beginAssumptions 24 = .ok (.iinc 1 1, 3) := by decide +kernel
theorem dX8_beginAssumptions_27 : decode cX8_beginAssumptions 27 = .ok (.goto (-25), 3) := by decide +kernel
theorem dX8_beginAssumptions_30 : decode cX8_beginAssumptions 30 = .ok (.iconst 1, 1) := by decide +kernel
theorem dX8_beginAssumptions_31 : decode cX8_beginAssumptions 31 = .ok (.istore_n 1, 1) := by decide +kernel
theorem dX8_beginAssumptions_32 : decode cX8_beginAssumptions 32 = .ok (.aload_n 0, 1) := by decide +kernel
theorem dX8_beginAssumptions_33 : decode cX8_beginAssumptions 33 = .ok (.invokevirtual 56, 3) := by decide +kernel
theorem dX8_beginAssumptions_36 : decode cX8_beginAssumptions 36 = .ok (.istore_n 2, 1) := by decide +kernel
theorem dX8_beginAssumptions_37 : decode cX8_beginAssumptions 37 = .ok (.iconst 0, 1) := by decide +kernel
theorem dX8_beginAssumptions_38 : decode cX8_beginAssumptions 38 = .ok (.istore_n 3, 1) := by decide +kernel
theorem dX8_beginAssumptions_39 : decode cX8_beginAssumptions 39 = .ok (.iload_n 3, 1) := by decide +kernel
theorem dX8_beginAssumptions_40 : decode cX8_beginAssumptions 40 = .ok (.iload_n 2, 1) := by decide +kernel
theorem dX8_beginAssumptions_41 : decode cX8_beginAssumptions 41 = .ok (.if_icmp .ge 19, 3) := by decide +kernel
theorem dX8_beginAssumptions_44 : decode cX8_beginAssumptions 44 = .ok (.iload_n 1, 1) := by decide +kernel
theorem dX8_beginAssumptions_45 : decode cX8_beginAssumptions 45 = .ok (.aload_n 0, 1) := by decide +kernel
theorem dX8_beginAssumptions_46 : decode cX8_beginAssumptions 46 = .ok (.getfield 31, 3) := by decide +kernel
theorem dX8_beginAssumptions_49 : decode cX8_beginAssumptions 49 = .ok (.invokevirtual 60, 3) := by decide +kernel
theorem dX8_beginAssumptions_52 : decode cX8_beginAssumptions 52 = .ok (.imul, 1) := by decide +kernel
theorem dX8_beginAssumptions_53 : decode cX8_beginAssumptions 53 = .ok (.istore_n 1, 1) := by decide +kernel
theorem dX8_beginAssumptions_54 : decode cX8_beginAssumptions 54 = .ok (.iinc 3 1, 3) := by decide +kernel
theorem dX8_beginAssumptions_57 : decode cX8_beginAssumptions 57 = .ok (.goto (-18), 3) := by decide +kernel
theorem dX8_beginAssumptions_60 : decode cX8_beginAssumptions 60 = .ok (.iload_n 1, 1) := by decide +kernel
theorem dX8_beginAssumptions_61 : decode cX8_beginAssumptions 61 = .ok (.ireturn, 1) := by decide +kernel
theorem dX8_isNet_0 : decode cX8_isNet 0 = .ok (.iload_n 1, 1) := by decide +kernel
theorem dX8_isNet_1 : decode cX8_isNet 1 = .ok (.istore_n 2, 1) := by decide +kernel
theorem dX8_isNet_2 : decode cX8_isNet 2 = .ok (.aload_n 0, 1) := by decide +kernel
theorem dX8_isNet_3 : decode cX8_isNet 3 = .ok (.getfield 28, 3) := by decide +kernel
theorem dX8_isNet_6 : decode cX8_isNet 6 = .ok (.iconst 1, 1) := by decide +kernel
theorem dX8_isNet_7 : decode cX8_isNet 7 = .ok (.isub, 1) := by decide +kernel
theorem dX8_isNet_8 : decode cX8_isNet 8 = .ok (.istore_n 3, 1) := by decide +kernel
theorem dX8_isNet_9 : decode cX8_isNet 9 = .ok (.iload_n 3, 1) := by decide +kernel
theorem dX8_isNet_10 : decode cX8_isNet 10 = .ok (.ifCond .lt 46, 3) := by decide +kernel
theorem dX8_isNet_13 : decode cX8_isNet 13 = .ok (.iconst 1, 1) := by decide +kernel
theorem dX8_isNet_14 : decode cX8_isNet 14 = .ok (.aload_n 0, 1) := by decide +kernel
theorem dX8_isNet_15 : decode cX8_isNet 15 = .ok (.getfield 31, 3) := by decide +kernel
theorem dX8_isNet_18 : decode cX8_isNet 18 = .ok (.invokevirtual 60, 3) := by decide +kernel
theorem dX8_isNet_21 : decode cX8_isNet 21 = .ok (.invokestatic 63, 3) := by decide +kernel
theorem dX8_isNet_24 : decode cX8_isNet 24 = .ok (.istore 4, 2) := by decide +kernel
theorem dX8_isNet_26 : decode cX8_isNet 26 = .ok (.aload_n 0, 1) := by decide +kernel
theorem dX8_isNet_27 : decode cX8_isNet 27 = .ok (.getfield 18, 3) := by decide +kernel
theorem dX8_isNet_30 : decode cX8_isNet 30 = .ok (.aload_n 0, 1) := by decide +kernel
theorem dX8_isNet_31 : decode cX8_isNet 31 = .ok (.getfield 15, 3) := by decide +kernel
theorem dX8_isNet_34 : decode cX8_isNet 34 = .ok (.iload_n 3, 1) := by decide +kernel
theorem dX8_isNet_35 : decode cX8_isNet 35 = .ok (.invokestatic 69, 3) := by decide +kernel
theorem dX8_isNet_38 : decode cX8_isNet 38 = .ok (.iload_n 2, 1) := by decide +kernel
theorem dX8_isNet_39 : decode cX8_isNet 39 = .ok (.iload 4, 2) := by decide +kernel
theorem dX8_isNet_41 : decode cX8_isNet 41 = .ok (.irem, 1) := by decide +kernel
theorem dX8_isNet_42 : decode cX8_isNet 42 = .ok (.invokestatic 39, 3) := by decide +kernel
theorem dX8_isNet_45 : decode cX8_isNet 45 = .ok (.iload_n 2, 1) := by decide +kernel
theorem dX8_isNet_46 : decode cX8_isNet 46 = .ok (.iload 4, 2) := by decide +kernel
theorem dX8_isNet_48 : decode cX8_isNet 48 = .ok (.idiv, 1) := by decide +kernel
theorem dX8_isNet_49 : decode cX8_isNet 49 = .ok (.istore_n 2, 1) := by decide +kernel
theorem dX8_isNet_50 : decode cX8_isNet 50 = .ok (.iinc 3 (-1), 3) := by decide +kernel
theorem dX8_isNet_53 : decode cX8_isNet 53 = .ok (.goto (-44), 3) := by decide +kernel
theorem dX8_isNet_56 : decode cX8_isNet 56 = .ok (.iconst 0, 1) := by decide +kernel
theorem dX8_isNet_57 : decode cX8_isNet 57 = .ok (.istore_n 3, 1) := by decide +kernel
theorem dX8_isNet_58 : decode cX8_isNet 58 = .ok (.iload_n 3, 1) := by decide +kernel
theorem dX8_isNet_59 : decode cX8_isNet 59 = .ok (.aload_n 0, 1) := by decide +kernel
theorem dX8_isNet_60 : decode cX8_isNet 60 = .ok (.getfield 24, 3) := by decide +kernel
theorem dX8_isNet_63 : decode cX8_isNet 63 = .ok (.if_icmp .ge 21, 3) := by decide +kernel
theorem dX8_isNet_66 : decode cX8_isNet 66 = .ok (.aload_n 0, 1) := by decide +kernel
theorem dX8_isNet_67 : decode cX8_isNet 67 = .ok (.iload_n 3, 1) := by decide +kernel
theorem dX8_isNet_68 : decode cX8_isNet 68 = .ok (.iconst 4, 1) := by decide +kernel
theorem dX8_isNet_69 : decode cX8_isNet 69 = .ok (.imul, 1) := by decide +kernel
theorem dX8_isNet_70 : decode cX8_isNet 70 = .ok (.invokevirtual 73, 3) := by decide +kernel
theorem dX8_isNet_73 : decode cX8_isNet 73 = .ok (.ifCond .ne 5, 3) := by decide +kernel
theorem dX8_isNet_76 : decode cX8_isNet 76 = .ok (.iconst 0, 1) := by decide +kernel
theorem dX8_isNet_77 : decode cX8_isNet 77 = .ok (.ireturn, 1) := by decide +kernel
theorem dX8_isNet_78 : decode cX8_isNet 78 = .ok (.iinc 3 1, 3) := by decide +kernel
theorem dX8_isNet_81 : decode cX8_isNet 81 = .ok (.goto (-23), 3) := by decide +kernel
theorem dX8_isNet_84 : decode cX8_isNet 84 = .ok (.iconst 1, 1) := by decide +kernel
theorem dX8_isNet_85 : decode cX8_isNet 85 = .ok (.ireturn, 1) := by decide +kernel
theorem dX8_fits_0 : decode cX8_fits 0 = .ok (.aload_n 0, 1) := by decide +kernel
theorem dX8_fits_1 : decode cX8_fits 1 = .ok (.getfield 11, 3) := by decide +kernel
theorem dX8_fits_4 : decode cX8_fits 4 = .ok (.iload_n 1, 1) := by decide +kernel
theorem dX8_fits_5 : decode cX8_fits 5 = .ok (.invokestatic 69, 3) := by decide +kernel
theorem dX8_fits_8 : decode cX8_fits 8 = .ok (.istore_n 2, 1) := by decide +kernel
theorem dX8_fits_9 : decode cX8_fits 9 = .ok (.iconst 0, 1) := by decide +kernel
theorem dX8_fits_10 : decode cX8_fits 10 = .ok (.istore_n 3, 1) := by decide +kernel
theorem dX8_fits_11 : decode cX8_fits 11 = .ok (.iload_n 3, 1) := by decide +kernel
theorem dX8_fits_12 : decode cX8_fits 12 = .ok (.aload_n 0, 1) := by decide +kernel
theorem dX8_fits_13 : decode cX8_fits 13 = .ok (.getfield 11, 3) := by decide +kernel
theorem dX8_fits_16 : decode cX8_fits 16 = .ok (.iload_n 1, 1) := by decide +kernel
theorem dX8_fits_17 : decode cX8_fits 17 = .ok (.iconst 2, 1) := by decide +kernel
theorem dX8_fits_18 : decode cX8_fits 18 = .ok (.iadd, 1) := by decide +kernel
theorem dX8_fits_19 : decode cX8_fits 19 = .ok (.invokestatic 69, 3) := by decide +kernel
theorem dX8_fits_22 : decode cX8_fits 22 = .ok (.if_icmp .ge 31, 3) := by decide +kernel
theorem dX8_fits_25 : decode cX8_fits 25 = .ok (.aload_n 0, 1) := by decide +kernel
theorem dX8_fits_26 : decode cX8_fits 26 = .ok (.getfield 18, 3) := by decide +kernel
theorem dX8_fits_29 : decode cX8_fits 29 = .ok (.iload_n 2, 1) := by decide +kernel
theorem dX8_fits_30 : decode cX8_fits 30 = .ok (.aload_n 0, 1) := by decide +kernel
theorem dX8_fits_31 : decode cX8_fits 31 = .ok (.getfield 11, 3) := by decide +kernel
theorem dX8_fits_34 : decode cX8_fits 34 = .ok (.iload_n 1, 1) := by decide +kernel
theorem dX8_fits_35 : decode cX8_fits 35 = .ok (.iconst 1, 1) := by decide +kernel
theorem dX8_fits_36 : decode cX8_fits 36 = .ok (.iadd, 1) := by decide +kernel
theorem dX8_fits_37 : decode cX8_fits 37 = .ok (.invokestatic 69, 3) := by decide +kernel
theorem dX8_fits_40 : decode cX8_fits 40 = .ok (.invokestatic 77, 3) := by decide +kernel
theorem dX8_fits_43 : decode cX8_fits 43 = .ok (.invokestatic 69, 3) := by decide +kernel
theorem dX8_fits_46 : decode cX8_fits 46 = .ok (.istore_n 2, 1) := by decide +kernel
theorem dX8_fits_47 : decode cX8_fits 47 = .ok (.iinc 3 1, 3) := by decide +kernel
theorem dX8_fits_50 : decode cX8_fits 50 = .ok (.goto (-39), 3) := by decide +kernel
theorem dX8_fits_53 : decode cX8_fits 53 = .ok (.iload_n 2, 1) := by decide +kernel
theorem dX8_fits_54 : decode cX8_fits 54 = .ok (.aload_n 0, 1) := by decide +kernel
theorem dX8_fits_55 : decode cX8_fits 55 = .ok (.getfield 11, 3) := by decide +kernel
theorem dX8_fits_58 : decode cX8_fits 58 = .ok (.iload_n 1, 1) := by decide +kernel
theorem dX8_fits_59 : decode cX8_fits 59 = .ok (.iconst 3, 1) := by decide +kernel
theorem dX8_fits_60 : decode cX8_fits 60 = .ok (.iadd, 1) := by decide +kernel
theorem dX8_fits_61 : decode cX8_fits 61 = .ok (.invokestatic 69, 3) := by decide +kernel
theorem dX8_fits_64 : decode cX8_fits 64 = .ok (.if_icmp .ne 7, 3) := by decide +kernel
theorem dX8_fits_67 : decode cX8_fits 67 = .ok (.iconst 1, 1) := by decide +kernel
theorem dX8_fits_68 : decode cX8_fits 68 = .ok (.goto 4, 3) := by decide +kernel
theorem dX8_fits_71 : decode cX8_fits 71 = .ok (.iconst 0, 1) := by decide +kernel
theorem dX8_fits_72 : decode cX8_fits 72 = .ok (.ireturn, 1) := by decide +kernel
theorem dX8_assumedMouth_0 : decode cX8_assumedMouth 0 = .ok (.aload_n 0, 1) := by decide +kernel
theorem dX8_assumedMouth_1 : decode cX8_assumedMouth 1 = .ok (.getfield 18, 3) := by decide +kernel
theorem dX8_assumedMouth_4 : decode cX8_assumedMouth 4 = .ok (.aload_n 0, 1) := by decide +kernel
theorem dX8_assumedMouth_5 : decode cX8_assumedMouth 5 = .ok (.getfield 15, 3) := by decide +kernel
theorem dX8_assumedMouth_8 : decode cX8_assumedMouth 8 = .ok (.iload_n 1, 1) := by decide +kernel
theorem dX8_assumedMouth_9 : decode cX8_assumedMouth 9 = .ok (.invokestatic 69, 3) := by decide +kernel
theorem dX8_assumedMouth_12 : decode cX8_assumedMouth 12 = .ok (.invokestatic 69, 3) := by decide +kernel
theorem dX8_assumedMouth_15 : decode cX8_assumedMouth 15 = .ok (.ireturn, 1) := by decide +kernel
theorem dX8_countNets_0 : decode cX8_countNets 0 = .ok (.aload_n 0, 1) := by decide +kernel
theorem dX8_countNets_1 : decode cX8_countNets 1 = .ok (.invokevirtual 80, 3) := by decide +kernel
theorem dX8_countNets_4 : decode cX8_countNets 4 = .ok (.istore_n 1, 1) := by decide +kernel
theorem dX8_countNets_5 : decode cX8_countNets 5 = .ok (.iconst 0, 1) := by decide +kernel
theorem dX8_countNets_6 : decode cX8_countNets 6 = .ok (.istore_n 2, 1) := by decide +kernel
theorem dX8_countNets_7 : decode cX8_countNets 7 = .ok (.iconst 0, 1) := by decide +kernel
theorem dX8_countNets_8 : decode cX8_countNets 8 = .ok (.istore_n 3, 1) := by decide +kernel
theorem dX8_countNets_9 : decode cX8_countNets 9 = .ok (.iload_n 3, 1) := by decide +kernel
theorem dX8_countNets_10 : decode cX8_countNets 10 = .ok (.iload_n 1, 1) := by decide +kernel
theorem dX8_countNets_11 : decode cX8_countNets 11 = .ok (.if_icmp .ge 25, 3) := by decide +kernel
theorem dX8_countNets_14 : decode cX8_countNets 14 = .ok (.iload_n 2, 1) := by decide +kernel
theorem dX8_countNets_15 : decode cX8_countNets 15 = .ok (.aload_n 0, 1) := by decide +kernel
theorem dX8_countNets_16 : decode cX8_countNets 16 = .ok (.iload_n 3, 1) := by decide +kernel
theorem dX8_countNets_17 : decode cX8_countNets 17 = .ok (.invokevirtual 83, 3) := by decide +kernel
theorem dX8_countNets_20 : decode cX8_countNets 20 = .ok (.ifCond .eq 7, 3) := by decide +kernel
theorem dX8_countNets_23 : decode cX8_countNets 23 = .ok (.iconst 1, 1) := by decide +kernel
theorem dX8_countNets_24 : decode cX8_countNets 24 = .ok (.goto 4, 3) := by decide +kernel
theorem dX8_countNets_27 : decode cX8_countNets 27 = .ok (.iconst 0, 1) := by decide +kernel
theorem dX8_countNets_28 : decode cX8_countNets 28 = .ok (.iadd, 1) := by decide +kernel
theorem dX8_countNets_29 : decode cX8_countNets 29 = .ok (.istore_n 2, 1) := by decide +kernel
theorem dX8_countNets_30 : decode cX8_countNets 30 = .ok (.iinc 3 1, 3) := by decide +kernel
theorem dX8_countNets_33 : decode cX8_countNets 33 = .ok (.goto (-24), 3) := by decide +kernel
theorem dX8_countNets_36 : decode cX8_countNets 36 = .ok (.iload_n 2, 1) := by decide +kernel
theorem dX8_countNets_37 : decode cX8_countNets 37 = .ok (.ireturn, 1) := by decide +kernel
theorem dX8_netAt_0 : decode cX8_netAt 0 = .ok (.aload_n 0, 1) := by decide +kernel
theorem dX8_netAt_1 : decode cX8_netAt 1 = .ok (.invokevirtual 80, 3) := by decide +kernel
theorem dX8_netAt_4 : decode cX8_netAt 4 = .ok (.istore_n 2, 1) := by decide +kernel
theorem dX8_netAt_5 : decode cX8_netAt 5 = .ok (.iconst 0, 1) := by decide +kernel
theorem dX8_netAt_6 : decode cX8_netAt 6 = .ok (.istore_n 3, 1) := by decide +kernel
theorem dX8_netAt_7 : decode cX8_netAt 7 = .ok (.iconst 0, 1) := by decide +kernel
theorem dX8_netAt_8 : decode cX8_netAt 8 = .ok (.istore 4, 2) := by decide +kernel
theorem dX8_netAt_10 : decode cX8_netAt 10 = .ok (.iload 4, 2) := by decide +kernel
theorem dX8_netAt_12 : decode cX8_netAt 12 = .ok (.iload_n 2, 1) := by decide +kernel
theorem dX8_netAt_13 : decode cX8_netAt 13 = .ok (.if_icmp .ge 31, 3) := by decide +kernel
theorem dX8_netAt_16 : decode cX8_netAt 16 = .ok (.aload_n 0, 1) := by decide +kernel
theorem dX8_netAt_17 : decode cX8_netAt 17 = .ok (.iload 4, 2) := by decide +kernel
theorem dX8_netAt_19 : decode cX8_netAt 19 = .ok (.invokevirtual 83, 3) := by decide +kernel
theorem dX8_netAt_22 : decode cX8_netAt 22 = .ok (.ifCond .eq 16, 3) := by decide +kernel
theorem dX8_netAt_25 : decode cX8_netAt 25 = .ok (.iload_n 3, 1) := by decide +kernel
theorem dX8_netAt_26 : decode cX8_netAt 26 = .ok (.iload_n 1, 1) := by decide +kernel
theorem dX8_netAt_27 : decode cX8_netAt 27 = .ok (.if_icmp .ne 8, 3) := by decide +kernel
theorem dX8_netAt_30 : decode cX8_netAt 30 = .ok (.aload_n 0, 1) := by decide +kernel
theorem dX8_netAt_31 : decode cX8_netAt 31 = .ok (.invokevirtual 86, 3) := by decide +kernel
theorem dX8_netAt_34 : decode cX8_netAt 34 = .ok (.ireturn, 1) := by decide +kernel
theorem dX8_netAt_35 : decode cX8_netAt 35 = .ok (.iinc 3 1, 3) := by decide +kernel
theorem dX8_netAt_38 : decode cX8_netAt 38 = .ok (.iinc 4 1, 3) := by decide +kernel
theorem dX8_netAt_41 : decode cX8_netAt 41 = .ok (.goto (-31), 3) := by decide +kernel
theorem dX8_netAt_44 : decode cX8_netAt 44 = .ok (.iconst (-1), 1) := by decide +kernel
theorem dX8_netAt_45 : decode cX8_netAt 45 = .ok (.ireturn, 1) := by decide +kernel
theorem dX8_assumedDigits_0 : decode cX8_assumedDigits 0 = .ok (.iconst 0, 1) := by decide +kernel
theorem dX8_assumedDigits_1 : decode cX8_assumedDigits 1 = .ok (.istore_n 1, 1) := by decide +kernel
theorem dX8_assumedDigits_2 : decode cX8_assumedDigits 2 = .ok (.iconst 0, 1) := by decide +kernel
theorem dX8_assumedDigits_3 : decode cX8_assumedDigits 3 = .ok (.istore_n 2, 1) := by decide +kernel
theorem dX8_assumedDigits_4 : decode cX8_assumedDigits 4 = .ok (.iload_n 2, 1) := by decide +kernel
theorem dX8_assumedDigits_5 : decode cX8_assumedDigits 5 = .ok (.aload_n 0, 1) := by decide +kernel
theorem dX8_assumedDigits_6 : decode cX8_assumedDigits 6 = .ok (.getfield 28, 3) := by decide +kernel
theorem dX8_assumedDigits_9 : decode cX8_assumedDigits 9 = .ok (.if_icmp .ge 20, 3) := by decide +kernel
theorem dX8_assumedDigits_12 : decode cX8_assumedDigits 12 = .ok (.iload_n 1, 1) := by decide +kernel
theorem dX8_assumedDigits_13 : decode cX8_assumedDigits 13 = .ok (.bipush 10, 2) := by decide +kernel
theorem dX8_assumedDigits_15 : decode cX8_assumedDigits 15 = .ok (.imul, 1) := by decide +kernel
theorem dX8_assumedDigits_16 : decode cX8_assumedDigits 16 = .ok (.aload_n 0, 1) := by decide +kernel
theorem dX8_assumedDigits_17 : decode cX8_assumedDigits 17 = .ok (.iload_n 2, 1) := by decide +kernel
theorem dX8_assumedDigits_18 : decode cX8_assumedDigits 18 = .ok (.invokevirtual 89, 3) := by decide +kernel
theorem dX8_assumedDigits_21 : decode cX8_assumedDigits 21 = .ok (.iadd, 1) := by decide +kernel
theorem dX8_assumedDigits_22 : decode cX8_assumedDigits 22 = .ok (.istore_n 1, 1) := by decide +kernel
theorem dX8_assumedDigits_23 : decode cX8_assumedDigits 23 = .ok (.iinc 2 1, 3) := by decide +kernel
theorem dX8_assumedDigits_26 : decode cX8_assumedDigits 26 = .ok (.goto (-22), 3) := by decide +kernel
theorem dX8_assumedDigits_29 : decode cX8_assumedDigits 29 = .ok (.iload_n 1, 1) := by decide +kernel
theorem dX8_assumedDigits_30 : decode cX8_assumedDigits 30 = .ok (.ireturn, 1) := by decide +kernel
theorem dX8_couldLead_0 : decode cX8_couldLead 0 = .ok (.aload_n 0, 1) := by decide +kernel
theorem dX8_couldLead_1 : decode cX8_couldLead 1 = .ok (.invokevirtual 80, 3) := by decide +kernel
theorem dX8_couldLead_4 : decode cX8_couldLead 4 = .ok (.istore_n 2, 1) := by decide +kernel
theorem dX8_couldLead_5 : decode cX8_couldLead 5 = .ok (.iconst 0, 1) := by decide +kernel
theorem dX8_couldLead_6 : decode cX8_couldLead 6 = .ok (.istore_n 3, 1) := by decide +kernel
theorem dX8_couldLead_7 : decode cX8_couldLead 7 = .ok (.iconst 0, 1) := by decide +kernel
theorem dX8_couldLead_8 : decode cX8_couldLead 8 = .ok (.istore 4, 2) := by decide +kernel
theorem dX8_couldLead_10 : decode cX8_couldLead 10 = .ok (.iload 4, 2) := by decide +kernel
theorem dX8_couldLead_12 : decode cX8_couldLead 12 = .ok (.iload_n 2, 1) := by decide +kernel
theorem dX8_couldLead_13 : decode cX8_couldLead 13 = .ok (.if_icmp .ge 32, 3) := by decide +kernel
theorem dX8_couldLead_16 : decode cX8_couldLead 16 = .ok (.iload_n 3, 1) := by decide +kernel
theorem dX8_couldLead_17 : decode cX8_couldLead 17 = .ok (.aload_n 0, 1) := by decide +kernel
theorem dX8_couldLead_18 : decode cX8_couldLead 18 = .ok (.iload 4, 2) := by decide +kernel
theorem dX8_couldLead_20 : decode cX8_couldLead 20 = .ok (.invokevirtual 83, 3) := by decide +kernel
theorem dX8_couldLead_23 : decode cX8_couldLead 23 = .ok (.ifCond .eq 13, 3) := by decide +kernel
theorem dX8_couldLead_26 : decode cX8_couldLead 26 = .ok (.iconst 1, 1) := by decide +kernel
theorem dX8_couldLead_27 : decode cX8_couldLead 27 = .ok (.aload_n 0, 1) := by decide +kernel
theorem dX8_couldLead_28 : decode cX8_couldLead 28 = .ok (.iload_n 1, 1) := by decide +kernel
theorem dX8_couldLead_29 : decode cX8_couldLead 29 = .ok (.invokevirtual 89, 3) := by decide +kernel
theorem dX8_couldLead_32 : decode cX8_couldLead 32 = .ok (.ishl, 1) := by decide +kernel
theorem dX8_couldLead_33 : decode cX8_couldLead 33 = .ok (.goto 4, 3) := by decide +kernel
theorem dX8_couldLead_36 : decode cX8_couldLead 36 = .ok (.iconst 0, 1) := by decide +kernel
theorem dX8_couldLead_37 : decode cX8_couldLead 37 = .ok (.ior, 1) := by decide +kernel
theorem dX8_couldLead_38 : decode cX8_couldLead 38 = .ok (.istore_n 3, 1) := by decide +kernel
theorem dX8_couldLead_39 : decode cX8_couldLead 39 = .ok (.iinc 4 1, 3) := by decide +kernel
theorem dX8_couldLead_42 : decode cX8_couldLead 42 = .ok (.goto (-32), 3) := by decide +kernel
theorem dX8_couldLead_45 : decode cX8_couldLead 45 = .ok (.iload_n 3, 1) := by decide +kernel
theorem dX8_couldLead_46 : decode cX8_couldLead 46 = .ok (.ireturn, 1) := by decide +kernel
theorem dX8_mostTelling_0 : decode cX8_mostTelling 0 = .ok (.aload_n 0, 1) := by decide +kernel
theorem dX8_mostTelling_1 : decode cX8_mostTelling 1 = .ok (.invokevirtual 92, 3) := by decide +kernel
theorem dX8_mostTelling_4 : decode cX8_mostTelling 4 = .ok (.iconst (-1), 1) := by decide +kernel
theorem dX8_mostTelling_5 : decode cX8_mostTelling 5 = .ok (.istore_n 1, 1) := by decide +kernel
theorem dX8_mostTelling_6 : decode cX8_mostTelling 6 = .ok (.iconst 0, 1) := by decide +kernel
theorem dX8_mostTelling_7 : decode cX8_mostTelling 7 = .ok (.istore_n 2, 1) := by decide +kernel
theorem dX8_mostTelling_8 : decode cX8_mostTelling 8 = .ok (.iload_n 2, 1) := by decide +kernel
theorem dX8_mostTelling_9 : decode cX8_mostTelling 9 = .ok (.aload_n 0, 1) := by decide +kernel
theorem dX8_mostTelling_10 : decode cX8_mostTelling 10 = .ok (.getfield 28, 3) := by decide +kernel
theorem dX8_mostTelling_13 : decode cX8_mostTelling 13 = .ok (.if_icmp .ge 37, 3) := by decide +kernel
theorem dX8_mostTelling_16 : decode cX8_mostTelling 16 = .ok (.aload_n 0, 1) := by decide +kernel
theorem dX8_mostTelling_17 : decode cX8_mostTelling 17 = .ok (.iload_n 2, 1) := by decide +kernel
theorem dX8_mostTelling_18 : decode cX8_mostTelling 18 = .ok (.invokevirtual 95, 3) := by decide +kernel
theorem dX8_mostTelling_21 : decode cX8_mostTelling 21 = .ok (.ifCond .le 23, 3) := by decide +kernel
theorem dX8_mostTelling_24 : decode cX8_mostTelling 24 = .ok (.iload_n 1, 1) := by decide +kernel
theorem dX8_mostTelling_25 : decode cX8_mostTelling 25 = .ok (.iconst (-1), 1) := by decide +kernel
theorem dX8_mostTelling_26 : decode cX8_mostTelling 26 = .ok (.if_icmp .eq 16, 3) := by decide +kernel
theorem dX8_mostTelling_29 : decode cX8_mostTelling 29 = .ok (.aload_n 0, 1) := by decide +kernel
theorem dX8_mostTelling_30 : decode cX8_mostTelling 30 = .ok (.iload_n 2, 1) := by decide +kernel
theorem dX8_mostTelling_31 : decode cX8_mostTelling 31 = .ok (.invokevirtual 95, 3) := by decide +kernel
theorem dX8_mostTelling_34 : decode cX8_mostTelling 34 = .ok (.aload_n 0, 1) := by decide +kernel
theorem dX8_mostTelling_35 : decode cX8_mostTelling 35 = .ok (.iload_n 1, 1) := by decide +kernel
theorem dX8_mostTelling_36 : decode cX8_mostTelling 36 = .ok (.invokevirtual 95, 3) := by decide +kernel
theorem dX8_mostTelling_39 : decode cX8_mostTelling 39 = .ok (.if_icmp .ge 5, 3) := by decide +kernel
theorem dX8_mostTelling_42 : decode cX8_mostTelling 42 = .ok (.iload_n 2, 1) := by decide +kernel
theorem dX8_mostTelling_43 : decode cX8_mostTelling 43 = .ok (.istore_n 1, 1) := by decide +kernel
theorem dX8_mostTelling_44 : decode cX8_mostTelling 44 = .ok (.iinc 2 1, 3) := by decide +kernel
theorem dX8_mostTelling_47 : decode cX8_mostTelling 47 = .ok (.goto (-39), 3) := by decide +kernel
theorem dX8_mostTelling_50 : decode cX8_mostTelling 50 = .ok (.iload_n 1, 1) := by decide +kernel
theorem dX8_mostTelling_51 : decode cX8_mostTelling 51 = .ok (.ireturn, 1) := by decide +kernel
theorem dX8_countOften_0 : decode cX8_countOften 0 = .ok (.iconst 0, 1) := by decide +kernel
theorem dX8_countOften_1 : decode cX8_countOften 1 = .ok (.istore_n 1, 1) := by decide +kernel
theorem dX8_countOften_2 : decode cX8_countOften 2 = .ok (.iload_n 1, 1) := by decide +kernel
theorem dX8_countOften_3 : decode cX8_countOften 3 = .ok (.aload_n 0, 1) := by decide +kernel
theorem dX8_countOften_4 : decode cX8_countOften 4 = .ok (.getfield 21, 3) := by decide +kernel
theorem dX8_countOften_7 : decode cX8_countOften 7 = .ok (.arraylength, 1) := by decide +kernel
theorem dX8_countOften_8 : decode cX8_countOften 8 = .ok (.if_icmp .ge 18, 3) := by decide +kernel
theorem dX8_countOften_11 : decode cX8_countOften 11 = .ok (.aload_n 0, 1) := by decide +kernel
theorem dX8_countOften_12 : decode cX8_countOften 12 = .ok (.getfield 21, 3) := by decide +kernel
theorem dX8_countOften_15 : decode cX8_countOften 15 = .ok (.iload_n 1, 1) := by decide +kernel
theorem dX8_countOften_16 : decode cX8_countOften 16 = .ok (.iconst 0, 1) := by decide +kernel
theorem dX8_countOften_17 : decode cX8_countOften 17 = .ok (.invokestatic 39, 3) := by decide +kernel
theorem dX8_countOften_20 : decode cX8_countOften 20 = .ok (.iinc 1 1, 3) := by decide +kernel
theorem dX8_countOften_23 : decode cX8_countOften 23 = .ok (.goto (-21), 3) := by decide +kernel
theorem dX8_countOften_26 : decode cX8_countOften 26 = .ok (.aload_n 0, 1) := by decide +kernel
theorem dX8_countOften_27 : decode cX8_countOften 27 = .ok (.invokevirtual 80, 3) := by decide +kernel
theorem dX8_countOften_30 : decode cX8_countOften 30 = .ok (.istore_n 1, 1) := by decide +kernel
theorem dX8_countOften_31 : decode cX8_countOften 31 = .ok (.iconst 0, 1) := by decide +kernel
theorem dX8_countOften_32 : decode cX8_countOften 32 = .ok (.istore_n 2, 1) := by decide +kernel
theorem dX8_countOften_33 : decode cX8_countOften 33 = .ok (.iload_n 2, 1) := by decide +kernel
theorem dX8_countOften_34 : decode cX8_countOften 34 = .ok (.iload_n 1, 1) := by decide +kernel
theorem dX8_countOften_35 : decode cX8_countOften 35 = .ok (.if_icmp .ge 21, 3) := by decide +kernel
theorem dX8_countOften_38 : decode cX8_countOften 38 = .ok (.aload_n 0, 1) := by decide +kernel
theorem dX8_countOften_39 : decode cX8_countOften 39 = .ok (.iload_n 2, 1) := by decide +kernel
theorem dX8_countOften_40 : decode cX8_countOften 40 = .ok (.invokevirtual 83, 3) := by decide +kernel
theorem dX8_countOften_43 : decode cX8_countOften 43 = .ok (.ifCond .eq 7, 3) := by decide +kernel
theorem dX8_countOften_46 : decode cX8_countOften 46 = .ok (.aload_n 0, 1) := by decide +kernel
theorem dX8_countOften_47 : decode cX8_countOften 47 = .ok (.invokevirtual 98, 3) := by decide +kernel
theorem dX8_countOften_50 : decode cX8_countOften 50 = .ok (.iinc 2 1, 3) := by decide +kernel
theorem dX8_countOften_53 : decode cX8_countOften 53 = .ok (.goto (-20), 3) := by decide +kernel
theorem dX8_countOften_56 : decode cX8_countOften 56 = .ok (.return_, 1) := by decide +kernel
theorem dX8_countAssumed_0 : decode cX8_countAssumed 0 = .ok (.iconst 0, 1) := by decide +kernel
theorem dX8_countAssumed_1 : decode cX8_countAssumed 1 = .ok (.istore_n 1, 1) := by decide +kernel
theorem dX8_countAssumed_2 : decode cX8_countAssumed 2 = .ok (.iload_n 1, 1) := by decide +kernel
theorem dX8_countAssumed_3 : decode cX8_countAssumed 3 = .ok (.aload_n 0, 1) := by decide +kernel
theorem dX8_countAssumed_4 : decode cX8_countAssumed 4 = .ok (.getfield 28, 3) := by decide +kernel
theorem dX8_countAssumed_7 : decode cX8_countAssumed 7 = .ok (.if_icmp .ge 38, 3) := by decide +kernel
theorem dX8_countAssumed_10 : decode cX8_countAssumed 10 = .ok (.iload_n 1, 1) := by decide +kernel
theorem dX8_countAssumed_11 : decode cX8_countAssumed 11 = .ok (.bipush 8, 2) := by decide +kernel
theorem dX8_countAssumed_13 : decode cX8_countAssumed 13 = .ok (.imul, 1) := by decide +kernel
theorem dX8_countAssumed_14 : decode cX8_countAssumed 14 = .ok (.aload_n 0, 1) := by decide +kernel
theorem dX8_countAssumed_15 : decode cX8_countAssumed 15 = .ok (.iload_n 1, 1) := by decide +kernel
theorem dX8_countAssumed_16 : decode cX8_countAssumed 16 = .ok (.invokevirtual 89, 3) := by decide +kernel
theorem dX8_countAssumed_19 : decode cX8_countAssumed 19 = .ok (.iadd, 1) := by decide +kernel
theorem dX8_countAssumed_20 : decode cX8_countAssumed 20 = .ok (.istore_n 2, 1) := by decide +kernel
theorem dX8_countAssumed_21 : decode cX8_countAssumed 21 = .ok (.aload_n 0, 1) := by decide +kernel
theorem dX8_countAssumed_22 : decode cX8_countAssumed 22 = .ok (.getfield 21, 3) := by decide +kernel
theorem dX8_countAssumed_25 : decode cX8_countAssumed 25 = .ok (.iload_n 2, 1) := by decide +kernel
theorem dX8_countAssumed_26 : decode cX8_countAssumed 26 = .ok (.aload_n 0, 1) := by decide +kernel
theorem dX8_countAssumed_27 : decode cX8_countAssumed 27 = .ok (.getfield 21, 3) := by decide +kernel
theorem dX8_countAssumed_30 : decode cX8_countAssumed 30 = .ok (.iload_n 2, 1) := by decide +kernel
theorem dX8_countAssumed_31 : decode cX8_countAssumed 31 = .ok (.invokestatic 69, 3) := by decide +kernel
theorem dX8_countAssumed_34 : decode cX8_countAssumed 34 = .ok (.iconst 1, 1) := by decide +kernel
theorem dX8_countAssumed_35 : decode cX8_countAssumed 35 = .ok (.iadd, 1) := by decide +kernel
theorem dX8_countAssumed_36 : decode cX8_countAssumed 36 = .ok (.invokestatic 39, 3) := by decide +kernel
theorem dX8_countAssumed_39 : decode cX8_countAssumed 39 = .ok (.iinc 1 1, 3) := by decide +kernel
theorem dX8_countAssumed_42 : decode cX8_countAssumed 42 = .ok (.goto (-40), 3) := by decide +kernel
theorem dX8_countAssumed_45 : decode cX8_countAssumed 45 = .ok (.return_, 1) := by decide +kernel
theorem dX8_mostOften_0 : decode cX8_mostOften 0 = .ok (.iconst 0, 1) := by decide +kernel
theorem dX8_mostOften_1 : decode cX8_mostOften 1 = .ok (.istore_n 2, 1) := by decide +kernel
theorem dX8_mostOften_2 : decode cX8_mostOften 2 = .ok (.iconst 0, 1) := by decide +kernel
theorem dX8_mostOften_3 : decode cX8_mostOften 3 = .ok (.istore_n 3, 1) := by decide +kernel
theorem dX8_mostOften_4 : decode cX8_mostOften 4 = .ok (.iload_n 3, 1) := by decide +kernel
theorem dX8_mostOften_5 : decode cX8_mostOften 5 = .ok (.bipush 8, 2) := by decide +kernel
theorem dX8_mostOften_7 : decode cX8_mostOften 7 = .ok (.if_icmp .ge 27, 3) := by decide +kernel
theorem dX8_mostOften_10 : decode cX8_mostOften 10 = .ok (.iload_n 2, 1) := by decide +kernel
theorem dX8_mostOften_11 : decode cX8_mostOften 11 = .ok (.aload_n 0, 1) := by decide +kernel
theorem dX8_mostOften_12 : decode cX8_mostOften 12 = .ok (.getfield 21, 3) := by decide +kernel
theorem dX8_mostOften_15 : decode cX8_mostOften 15 = .ok (.iload_n 1, 1) := by decide +kernel
theorem dX8_mostOften_16 : decode cX8_mostOften 16 = .ok (.bipush 8, 2) := by decide +kernel
theorem dX8_mostOften_18 : decode cX8_mostOften 18 = .ok (.imul, 1) := by decide +kernel
theorem dX8_mostOften_19 : decode cX8_mostOften 19 = .ok (.iload_n 3, 1) := by decide +kernel
theorem dX8_mostOften_20 : decode cX8_mostOften 20 = .ok (.iadd, 1) := by decide +kernel
theorem dX8_mostOften_21 : decode cX8_mostOften 21 = .ok (.invokestatic 69, 3) := by decide +kernel
theorem dX8_mostOften_24 : decode cX8_mostOften 24 = .ok (.invokestatic 63, 3) := by decide +kernel
theorem dX8_mostOften_27 : decode cX8_mostOften 27 = .ok (.istore_n 2, 1) := by decide +kernel
theorem dX8_mostOften_28 : decode cX8_mostOften 28 = .ok (.iinc 3 1, 3) := by decide +kernel
theorem dX8_mostOften_31 : decode cX8_mostOften 31 = .ok (.goto (-27), 3) := by decide +kernel
theorem dX8_mostOften_34 : decode cX8_mostOften 34 = .ok (.iload_n 2, 1) := by decide +kernel
theorem dX8_mostOften_35 : decode cX8_mostOften 35 = .ok (.ireturn, 1) := by decide +kernel
theorem dX9_init_0 : decode cX9_init 0 = .ok (.aload_n 0, 1) := by decide +kernel
theorem dX9_init_1 : decode cX9_init 1 = .ok (.invokespecial 3, 3) := by decide +kernel
theorem dX9_init_4 : decode cX9_init 4 = .ok (.aload_n 0, 1) := by decide +kernel
theorem dX9_init_5 : decode cX9_init 5 = .ok (.sipush 240, 3) := by decide +kernel
theorem dX9_init_8 : decode cX9_init 8 = .ok (.newarray .int, 2) := by decide +kernel
theorem dX9_init_10 : decode cX9_init 10 = .ok (.putfield 11, 3) := by decide +kernel
theorem dX9_init_13 : decode cX9_init 13 = .ok (.aload_n 0, 1) := by decide +kernel
theorem dX9_init_14 : decode cX9_init 14 = .ok (.iconst 0, 1) := by decide +kernel
theorem dX9_init_15 : decode cX9_init 15 = .ok (.putfield 15, 3) := by decide +kernel
theorem dX9_init_18 : decode cX9_init 18 = .ok (.aload_n 0, 1) := by decide +kernel
theorem dX9_init_19 : decode cX9_init 19 = .ok (.iconst 0, 1) := by decide +kernel
theorem dX9_init_20 : decode cX9_init 20 = .ok (.putfield 19, 3) := by decide +kernel
theorem dX9_init_23 : decode cX9_init 23 = .ok (.aload_n 0, 1) := by decide +kernel
theorem dX9_init_24 : decode cX9_init 24 = .ok (.iconst (-1), 1) := by decide +kernel
theorem dX9_init_25 : decode cX9_init 25 = .ok (.putfield 22, 3) := by decide +kernel
theorem dX9_init_28 : decode cX9_init 28 = .ok (.return_, 1) := by decide +kernel
theorem dX9_size_0 : decode cX9_size 0 = .ok (.aload_n 0, 1) := by decide +kernel
theorem dX9_size_1 : decode cX9_size 1 = .ok (.getfield 15, 3) := by decide +kernel
theorem dX9_size_4 : decode cX9_size 4 = .ok (.ireturn, 1) := by decide +kernel
theorem dX9_add_0 : decode cX9_add 0 = .ok (.iload_n 1, 1) := by decide +kernel
theorem dX9_add_1 : decode cX9_add 1 = .ok (.invokestatic 25, 3) := by decide +kernel
theorem dX9_add_4 : decode cX9_add 4 = .ok (.iload_n 2, 1) := by decide +kernel
theorem dX9_add_5 : decode cX9_add 5 = .ok (.invokestatic 25, 3) := by decide +kernel
theorem dX9_add_8 : decode cX9_add 8 = .ok (.iadd, 1) := by decide +kernel
theorem dX9_add_9 : decode cX9_add 9 = .ok (.iload_n 3, 1) := by decide +kernel
theorem dX9_add_10 : decode cX9_add 10 = .ok (.invokestatic 25, 3) := by decide +kernel
theorem dX9_add_13 : decode cX9_add 13 = .ok (.iadd, 1) := by decide +kernel
theorem dX9_add_14 : decode cX9_add 14 = .ok (.iload 4, 2) := by decide +kernel
theorem dX9_add_16 : decode cX9_add 16 = .ok (.invokestatic 25, 3) := by decide +kernel
theorem dX9_add_19 : decode cX9_add 19 = .ok (.iadd, 1) := by decide +kernel
theorem dX9_add_20 : decode cX9_add 20 = .ok (.iload 5, 2) := by decide +kernel
theorem dX9_add_22 : decode cX9_add 22 = .ok (.invokestatic 25, 3) := by decide +kernel
theorem dX9_add_25 : decode cX9_add 25 = .ok (.iadd, 1) := by decide +kernel
theorem dX9_add_26 : decode cX9_add 26 = .ok (.istore 6, 2) := by decide +kernel
theorem dX9_add_28 : decode cX9_add 28 = .ok (.aload_n 0, 1) := by decide +kernel
theorem dX9_add_29 : decode cX9_add 29 = .ok (.getfield 15, 3) := by decide +kernel
theorem dX9_add_32 : decode cX9_add 32 = .ok (.iload 6, 2) := by decide +kernel
theorem dX9_add_34 : decode cX9_add 34 = .ok (.iadd, 1) := by decide +kernel
theorem dX9_add_35 : decode cX9_add 35 = .ok (.sipush 240, 3) := by decide +kernel
theorem dX9_add_38 : decode cX9_add 38 = .ok (.if_icmp .le 5, 3) := by decide +kernel
theorem dX9_add_41 : decode cX9_add 41 = .ok (.iconst 0, 1) := by decide +kernel
theorem dX9_add_42 : decode cX9_add 42 = .ok (.ireturn, 1) := by decide +kernel
theorem dX9_add_43 : decode cX9_add 43 = .ok (.aload_n 0, 1) := by decide +kernel
theorem dX9_add_44 : decode cX9_add 44 = .ok (.iload_n 1, 1) := by decide +kernel
theorem dX9_add_45 : decode cX9_add 45 = .ok (.invokevirtual 29, 3) := by decide +kernel
theorem dX9_add_48 : decode cX9_add 48 = .ok (.aload_n 0, 1) := by decide +kernel
theorem dX9_add_49 : decode cX9_add 49 = .ok (.iload_n 2, 1) := by decide +kernel
theorem dX9_add_50 : decode cX9_add 50 = .ok (.invokevirtual 29, 3) := by decide +kernel
theorem dX9_add_53 : decode cX9_add 53 = .ok (.aload_n 0, 1) := by decide +kernel
theorem dX9_add_54 : decode cX9_add 54 = .ok (.iload_n 3, 1) := by decide +kernel
theorem dX9_add_55 : decode cX9_add 55 = .ok (.invokevirtual 29, 3) := by decide +kernel
theorem dX9_add_58 : decode cX9_add 58 = .ok (.aload_n 0, 1) := by decide +kernel
theorem dX9_add_59 : decode cX9_add 59 = .ok (.iload 4, 2) := by decide +kernel
theorem dX9_add_61 : decode cX9_add 61 = .ok (.invokevirtual 29, 3) := by decide +kernel
theorem dX9_add_64 : decode cX9_add 64 = .ok (.aload_n 0, 1) := by decide +kernel
theorem dX9_add_65 : decode cX9_add 65 = .ok (.iload 5, 2) := by decide +kernel
theorem dX9_add_67 : decode cX9_add 67 = .ok (.invokevirtual 29, 3) := by decide +kernel
theorem dX9_add_70 : decode cX9_add 70 = .ok (.iconst 1, 1) := by decide +kernel
theorem dX9_add_71 : decode cX9_add 71 = .ok (.ireturn, 1) := by decide +kernel
theorem dX9_bytesIn_0 : decode cX9_bytesIn 0 = .ok (.iconst 0, 1) := by decide +kernel
theorem dX9_bytesIn_1 : decode cX9_bytesIn 1 = .ok (.istore_n 1, 1) := by decide +kernel
theorem dX9_bytesIn_2 : decode cX9_bytesIn 2 = .ok (.bipush 24, 2) := by decide +kernel
theorem dX9_bytesIn_4 : decode cX9_bytesIn 4 = .ok (.istore_n 2, 1) := by decide +kernel
theorem dX9_bytesIn_5 : decode cX9_bytesIn 5 = .ok (.iload_n 2, 1) := by decide +kernel
theorem dX9_bytesIn_6 : decode cX9_bytesIn 6 = .ok (.ifCond .lt 27, 3) := by decide +kernel
theorem dX9_bytesIn_9 : decode cX9_bytesIn 9 = .ok (.iload_n 1, 1) := by decide +kernel
theorem dX9_bytesIn_10 : decode cX9_bytesIn 10 = .ok (.iload_n 0, 1) := by decide +kernel
theorem dX9_bytesIn_11 : decode cX9_bytesIn 11 = .ok (.iload_n 2, 1) := by decide +kernel
theorem dX9_bytesIn_12 : decode cX9_bytesIn 12 = .ok (.iushr, 1) := by decide +kernel
theorem dX9_bytesIn_13 : decode cX9_bytesIn 13 = .ok (.sipush 255, 3) := by decide +kernel
theorem dX9_bytesIn_16 : decode cX9_bytesIn 16 = .ok (.iand, 1) := by decide +kernel
theorem dX9_bytesIn_17 : decode cX9_bytesIn 17 = .ok (.ifCond .eq 7, 3) := by decide +kernel
theorem dX9_bytesIn_20 : decode cX9_bytesIn 20 = .ok (.iconst 1, 1) := by decide +kernel
theorem dX9_bytesIn_21 : decode cX9_bytesIn 21 = .ok (.goto 4, 3) := by decide +kernel
theorem dX9_bytesIn_24 : decode cX9_bytesIn 24 = .ok (.iconst 0, 1) := by decide +kernel
theorem dX9_bytesIn_25 : decode cX9_bytesIn 25 = .ok (.iadd, 1) := by decide +kernel
theorem dX9_bytesIn_26 : decode cX9_bytesIn 26 = .ok (.istore_n 1, 1) := by decide +kernel
theorem dX9_bytesIn_27 : decode cX9_bytesIn 27 = .ok (.iinc 2 (-8), 3) := by decide +kernel
theorem dX9_bytesIn_30 : decode cX9_bytesIn 30 = .ok (.goto (-25), 3) := by decide +kernel
theorem dX9_bytesIn_33 : decode cX9_bytesIn 33 = .ok (.iload_n 1, 1) := by decide +kernel
theorem dX9_bytesIn_34 : decode cX9_bytesIn 34 = .ok (.ireturn, 1) := by decide +kernel
theorem dX9_append_0 : decode cX9_append 0 = .ok (.bipush 24, 2) := by decide +kernel
theorem dX9_append_2 : decode cX9_append 2 = .ok (.istore_n 2, 1) := by decide +kernel
theorem dX9_append_3 : decode cX9_append 3 = .ok (.iload_n 2, 1) := by decide +kernel
theorem dX9_append_4 : decode cX9_append 4 = .ok (.ifCond .lt 43, 3) := by decide +kernel
theorem dX9_append_7 : decode cX9_append 7 = .ok (.iload_n 1, 1) := by decide +kernel
theorem dX9_append_8 : decode cX9_append 8 = .ok (.iload_n 2, 1) := by decide +kernel
theorem dX9_append_9 : decode cX9_append 9 = .ok (.iushr, 1) := by decide +kernel
theorem dX9_append_10 : decode cX9_append 10 = .ok (.sipush 255, 3) := by decide +kernel
theorem dX9_append_13 : decode cX9_append 13 = .ok (.iand, 1) := by decide +kernel
theorem dX9_append_14 : decode cX9_append 14 = .ok (.istore_n 3, 1) := by decide +kernel
theorem dX9_append_15 : decode cX9_append 15 = .ok (.iload_n 3, 1) := by decide +kernel
theorem dX9_append_16 : decode cX9_append 16 = .ok (.ifCond .eq 25, 3) := by decide +kernel
theorem dX9_append_19 : decode cX9_append 19 = .ok (.aload_n 0, 1) := by decide +kernel
theorem dX9_append_20 : decode cX9_append 20 = .ok (.getfield 11, 3) := by decide +kernel
theorem dX9_append_23 : decode cX9_append 23 = .ok (.aload_n 0, 1) := by decide +kernel
theorem dX9_append_24 : decode cX9_append 24 = .ok (.getfield 15, 3) := by decide +kernel
theorem dX9_append_27 : decode cX9_append 27 = .ok (.iload_n 3, 1) := by decide +kernel
theorem dX9_append_28 : decode cX9_append 28 = .ok (.invokestatic 33, 3) := by decide +kernel
theorem dX9_append_31 : decode cX9_append 31 = .ok (.aload_n 0, 1) := by decide +kernel
theorem dX9_append_32 : decode cX9_append 32 = .ok (.dup, 1) := by decide +kernel
theorem dX9_append_33 : decode cX9_append 33 = .ok (.getfield 15, 3) := by decide +kernel
theorem dX9_append_36 : decode cX9_append 36 = .ok (.iconst 1, 1) := by decide +kernel
theorem dX9_append_37 : decode cX9_append 37 = .ok (.iadd, 1) := by decide +kernel
theorem dX9_append_38 : decode cX9_append 38 = .ok (.putfield 15, 3) := by decide +kernel
theorem dX9_append_41 : decode cX9_append 41 = .ok (.iinc 2 (-8), 3) := by decide +kernel
theorem dX9_append_44 : decode cX9_append 44 = .ok (.goto (-41), 3) := by decide +kernel
theorem dX9_append_47 : decode cX9_append 47 = .ok (.return_, 1) := by decide +kernel
theorem dX9_cut_0 : decode cX9_cut 0 = .ok (.iload_n 1, 1) := by decide +kernel
theorem dX9_cut_1 : decode cX9_cut 1 = .ok (.ifCond .lt 11, 3) := by decide +kernel
theorem dX9_cut_4 : decode cX9_cut 4 = .ok (.iload_n 1, 1) := by decide +kernel
theorem dX9_cut_5 : decode cX9_cut 5 = .ok (.aload_n 0, 1) := by decide +kernel
theorem dX9_cut_6 : decode cX9_cut 6 = .ok (.getfield 15, 3) := by decide +kernel
theorem dX9_cut_9 : decode cX9_cut 9 = .ok (.if_icmp .le 5, 3) := by decide +kernel
theorem dX9_cut_12 : decode cX9_cut 12 = .ok (.iconst 0, 1) := by decide +kernel
theorem dX9_cut_13 : decode cX9_cut 13 = .ok (.ireturn, 1) := by decide +kernel
theorem dX9_cut_14 : decode cX9_cut 14 = .ok (.aload_n 0, 1) := by decide +kernel
theorem dX9_cut_15 : decode cX9_cut 15 = .ok (.iload_n 1, 1) := by decide +kernel
theorem dX9_cut_16 : decode cX9_cut 16 = .ok (.putfield 15, 3) := by decide +kernel
theorem dX9_cut_19 : decode cX9_cut 19 = .ok (.iconst 1, 1) := by decide +kernel
theorem dX9_cut_20 : decode cX9_cut 20 = .ok (.ireturn, 1) := by decide +kernel
theorem dX9_rewind_0 : decode cX9_rewind 0 = .ok (.aload_n 0, 1) := by decide +kernel
theorem dX9_rewind_1 : decode cX9_rewind 1 = .ok (.iconst 0, 1) := by decide +kernel
theorem dX9_rewind_2 : decode cX9_rewind 2 = .ok (.putfield 19, 3) := by decide +kernel
theorem dX9_rewind_5 : decode cX9_rewind 5 = .ok (.aload_n 0, 1) := by decide +kernel
theorem dX9_rewind_6 : decode cX9_rewind 6 = .ok (.iconst (-1), 1) := by decide +kernel
theorem dX9_rewind_7 : decode cX9_rewind 7 = .ok (.putfield 22, 3) := by decide +kernel
theorem dX9_rewind_10 : decode cX9_rewind 10 = .ok (.return_, 1) := by decide +kernel
theorem dX9_firstFault_0 : decode cX9_firstFault 0 = .ok (.aload_n 0, 1) := by decide +kernel
theorem dX9_firstFault_1 : decode cX9_firstFault 1 = .ok (.getfield 22, 3) := by decide +kernel
theorem dX9_firstFault_4 : decode cX9_firstFault 4 = .ok (.ireturn, 1) := by decide +kernel
theorem dX9_isFaulty_0 : decode cX9_isFaulty 0 = .ok (.aload_n 0, 1) := by decide +kernel
theorem dX9_isFaulty_1 : decode cX9_isFaulty 1 = .ok (.getfield 22, 3) := by decide +kernel
theorem dX9_isFaulty_4 : decode cX9_isFaulty 4 = .ok (.iconst (-1), 1) := by decide +kernel
theorem dX9_isFaulty_5 : decode cX9_isFaulty 5 = .ok (.if_icmp .eq 7, 3) := by decide +kernel
theorem dX9_isFaulty_8 : decode cX9_isFaulty 8 = .ok (.iconst 1, 1) := by decide +kernel
theorem dX9_isFaulty_9 : decode cX9_isFaulty 9 = .ok (.goto 4, 3) := by decide +kernel
theorem dX9_isFaulty_12 : decode cX9_isFaulty 12 = .ok (.iconst 0, 1) := by decide +kernel
theorem dX9_isFaulty_13 : decode cX9_isFaulty 13 = .ok (.ireturn, 1) := by decide +kernel
theorem dX9_fail_0 : decode cX9_fail 0 = .ok (.aload_n 0, 1) := by decide +kernel
theorem dX9_fail_1 : decode cX9_fail 1 = .ok (.getfield 22, 3) := by decide +kernel
theorem dX9_fail_4 : decode cX9_fail 4 = .ok (.iconst (-1), 1) := by decide +kernel
theorem dX9_fail_5 : decode cX9_fail 5 = .ok (.if_icmp .ne 11, 3) := by decide +kernel
theorem dX9_fail_8 : decode cX9_fail 8 = .ok (.aload_n 0, 1) := by decide +kernel
theorem dX9_fail_9 : decode cX9_fail 9 = .ok (.aload_n 0, 1) := by decide +kernel
theorem dX9_fail_10 : decode cX9_fail 10 = .ok (.getfield 19, 3) := by decide +kernel
theorem dX9_fail_13 : decode cX9_fail 13 = .ok (.putfield 22, 3) := by decide +kernel
theorem dX9_fail_16 : decode cX9_fail 16 = .ok (.return_, 1) := by decide +kernel
theorem dX9_failAtEnd_0 : decode cX9_failAtEnd 0 = .ok (.aload_n 0, 1) := by decide +kernel
theorem dX9_failAtEnd_1 : decode cX9_failAtEnd 1 = .ok (.getfield 22, 3) := by decide +kernel
theorem dX9_failAtEnd_4 : decode cX9_failAtEnd 4 = .ok (.iconst (-1), 1) := by decide +kernel
theorem dX9_failAtEnd_5 : decode cX9_failAtEnd 5 = .ok (.if_icmp .ne 11, 3) := by decide +kernel
theorem dX9_failAtEnd_8 : decode cX9_failAtEnd 8 = .ok (.aload_n 0, 1) := by decide +kernel
theorem dX9_failAtEnd_9 : decode cX9_failAtEnd 9 = .ok (.aload_n 0, 1) := by decide +kernel
theorem dX9_failAtEnd_10 : decode cX9_failAtEnd 10 = .ok (.getfield 15, 3) := by decide +kernel
theorem dX9_failAtEnd_13 : decode cX9_failAtEnd 13 = .ok (.putfield 22, 3) := by decide +kernel
theorem dX9_failAtEnd_16 : decode cX9_failAtEnd 16 = .ok (.return_, 1) := by decide +kernel
theorem dX9_sign_0 : decode cX9_sign 0 = .ok (.aload_n 0, 1) := by decide +kernel
theorem dX9_sign_1 : decode cX9_sign 1 = .ok (.getfield 22, 3) := by decide +kernel
theorem dX9_sign_4 : decode cX9_sign 4 = .ok (.iconst (-1), 1) := by decide +kernel
theorem dX9_sign_5 : decode cX9_sign 5 = .ok (.if_icmp .eq 5, 3) := by decide +kernel
theorem dX9_sign_8 : decode cX9_sign 8 = .ok (.iconst (-1), 1) := by decide +kernel
theorem dX9_sign_9 : decode cX9_sign 9 = .ok (.ireturn, 1) := by decide +kernel
theorem dX9_sign_10 : decode cX9_sign 10 = .ok (.aload_n 0, 1) := by decide +kernel
theorem dX9_sign_11 : decode cX9_sign 11 = .ok (.getfield 15, 3) := by decide +kernel
theorem dX9_sign_14 : decode cX9_sign 14 = .ok (.aload_n 0, 1) := by decide +kernel
theorem dX9_sign_15 : decode cX9_sign 15 = .ok (.getfield 11, 3) := by decide +kernel
theorem dX9_sign_18 : decode cX9_sign 18 = .ok (.arraylength, 1) := by decide +kernel
theorem dX9_sign_19 : decode cX9_sign 19 = .ok (.invokestatic 37, 3) := by decide +kernel
theorem dX9_sign_22 : decode cX9_sign 22 = .ok (.istore_n 1, 1) := by decide +kernel
theorem dX9_sign_23 : decode cX9_sign 23 = .ok (.aload_n 0, 1) := by decide +kernel
theorem dX9_sign_24 : decode cX9_sign 24 = .ok (.getfield 19, 3) := by decide +kernel
theorem dX9_sign_27 : decode cX9_sign 27 = .ok (.ifCond .lt 38, 3) := by decide +kernel
theorem dX9_sign_30 : decode cX9_sign 30 = .ok (.aload_n 0, 1) := by decide +kernel
theorem dX9_sign_31 : decode cX9_sign 31 = .ok (.getfield 19, 3) := by decide +kernel
theorem dX9_sign_34 : decode cX9_sign 34 = .ok (.iload_n 1, 1) := by decide +kernel
theorem dX9_sign_35 : decode cX9_sign 35 = .ok (.if_icmp .ge 30, 3) := by decide +kernel
theorem dX9_sign_38 : decode cX9_sign 38 = .ok (.aload_n 0, 1) := by decide +kernel
theorem dX9_sign_39 : decode cX9_sign 39 = .ok (.getfield 11, 3) := by decide +kernel
theorem dX9_sign_42 : decode cX9_sign 42 = .ok (.aload_n 0, 1) := by decide +kernel
theorem dX9_sign_43 : decode cX9_sign 43 = .ok (.getfield 19, 3) := by decide +kernel
theorem dX9_sign_46 : decode cX9_sign 46 = .ok (.iaload, 1) := by decide +kernel
theorem dX9_sign_47 : decode cX9_sign 47 = .ok (.bipush 32, 2) := by decide +kernel
theorem dX9_sign_49 : decode cX9_sign 49 = .ok (.if_icmp .ne 16, 3) := by decide +kernel
theorem dX9_sign_52 : decode cX9_sign 52 = .ok (.aload_n 0, 1) := by decide +kernel
theorem dX9_sign_53 : decode cX9_sign 53 = .ok (.dup, 1) := by decide +kernel
theorem dX9_sign_54 : decode cX9_sign 54 = .ok (.getfield 19, 3) := by decide +kernel
theorem dX9_sign_57 : decode cX9_sign 57 = .ok (.iconst 1, 1) := by decide +kernel
theorem dX9_sign_58 : decode cX9_sign 58 = .ok (.iadd, 1) := by decide +kernel
theorem dX9_sign_59 : decode cX9_sign 59 = .ok (.putfield 19, 3) := by decide +kernel
theorem dX9_sign_62 : decode cX9_sign 62 = .ok (.goto (-39), 3) := by decide +kernel
theorem dX9_sign_65 : decode cX9_sign 65 = .ok (.aload_n 0, 1) := by decide +kernel
theorem dX9_sign_66 : decode cX9_sign 66 = .ok (.getfield 19, 3) := by decide +kernel
theorem dX9_sign_69 : decode cX9_sign 69 = .ok (.ifCond .lt 23, 3) := by decide +kernel
theorem dX9_sign_72 : decode cX9_sign 72 = .ok (.aload_n 0, 1) := by decide +kernel
theorem dX9_sign_73 : decode cX9_sign 73 = .ok (.getfield 19, 3) := by decide +kernel
theorem dX9_sign_76 : decode cX9_sign 76 = .ok (.iload_n 1, 1) := by decide +kernel
theorem dX9_sign_77 : decode cX9_sign 77 = .ok (.if_icmp .ge 15, 3) := by decide +kernel
theorem dX9_sign_80 : decode cX9_sign 80 = .ok (.aload_n 0, 1) := by decide +kernel
theorem dX9_sign_81 : decode cX9_sign 81 = .ok (.getfield 11, 3) := by decide +kernel
theorem dX9_sign_84 : decode cX9_sign 84 = .ok (.aload_n 0, 1) := by decide +kernel
theorem dX9_sign_85 : decode cX9_sign 85 = .ok (.getfield 19, 3) := by decide +kernel
theorem dX9_sign_88 : decode cX9_sign 88 = .ok (.iaload, 1) := by decide +kernel
theorem dX9_sign_89 : decode cX9_sign 89 = .ok (.goto 4, 3) := by decide +kernel
theorem dX9_sign_92 : decode cX9_sign 92 = .ok (.iconst (-1), 1) := by decide +kernel
theorem dX9_sign_93 : decode cX9_sign 93 = .ok (.ireturn, 1) := by decide +kernel
theorem dX9_take_0 : decode cX9_take 0 = .ok (.aload_n 0, 1) := by decide +kernel
theorem dX9_take_1 : decode cX9_take 1 = .ok (.invokevirtual 43, 3) := by decide +kernel
theorem dX9_take_4 : decode cX9_take 4 = .ok (.iload_n 1, 1) := by decide +kernel
theorem dX9_take_5 : decode cX9_take 5 = .ok (.if_icmp .ne 7, 3) := by decide +kernel
theorem dX9_take_8 : decode cX9_take 8 = .ok (.iconst 1, 1) := by decide +kernel
theorem dX9_take_9 : decode cX9_take 9 = .ok (.goto 4, 3) := by decide +kernel
theorem dX9_take_12 : decode cX9_take 12 = .ok (.iconst 0, 1) := by decide +kernel
theorem dX9_take_13 : decode cX9_take 13 = .ok (.istore_n 2, 1) := by decide +kernel
theorem dX9_take_14 : decode cX9_take 14 = .ok (.aload_n 0, 1) := by decide +kernel
theorem dX9_take_15 : decode cX9_take 15 = .ok (.dup, 1) := by decide +kernel
theorem dX9_take_16 : decode cX9_take 16 = .ok (.getfield 19, 3) := by decide +kernel
theorem dX9_take_19 : decode cX9_take 19 = .ok (.iload_n 2, 1) := by decide +kernel
theorem dX9_take_20 : decode cX9_take 20 = .ok (.ifCond .eq 7, 3) := by decide +kernel
theorem dX9_take_23 : decode cX9_take 23 = .ok (.iconst 1, 1) := by decide +kernel
theorem dX9_take_24 : decode cX9_take 24 = .ok (.goto 4, 3) := by decide +kernel
theorem dX9_take_27 : decode cX9_take 27 = .ok (.iconst 0, 1) := by decide +kernel
theorem dX9_take_28 : decode cX9_take 28 = .ok (.iadd, 1) := by decide +kernel
theorem dX9_take_29 : decode cX9_take 29 = .ok (.putfield 19, 3) := by decide +kernel
theorem dX9_take_32 : decode cX9_take 32 = .ok (.iload_n 2, 1) := by decide +kernel
theorem dX9_take_33 : decode cX9_take 33 = .ok (.ireturn, 1) := by decide +kernel
theorem dX9_need_0 : decode cX9_need 0 = .ok (.aload_n 0, 1) := by decide +kernel
theorem dX9_need_1 : decode cX9_need 1 = .ok (.invokevirtual 43, 3) := by decide +kernel
theorem dX9_need_4 : decode cX9_need 4 = .ok (.iload_n 1, 1) := by decide +kernel
theorem dX9_need_5 : decode cX9_need 5 = .ok (.if_icmp .ne 16, 3) := by decide +kernel
theorem dX9_need_8 : decode cX9_need 8 = .ok (.aload_n 0, 1) := by decide +kernel
theorem dX9_need_9 : decode cX9_need 9 = .ok (.dup, 1) := by decide +kernel
theorem dX9_need_10 : decode cX9_need 10 = .ok (.getfield 19, 3) := by decide +kernel
theorem dX9_need_13 : decode cX9_need 13 = .ok (.iconst 1, 1) := by decide +kernel
theorem dX9_need_14 : decode cX9_need 14 = .ok (.iadd, 1) := by decide +kernel
theorem dX9_need_15 : decode cX9_need 15 = .ok (.putfield 19, 3) := by decide +kernel
theorem dX9_need_18 : decode cX9_need 18 = .ok (.goto 7, 3) := by decide +kernel
theorem dX9_need_21 : decode cX9_need 21 = .ok (.aload_n 0, 1) := by decide +kernel
theorem dX9_need_22 : decode cX9_need 22 = .ok (.invokevirtual 47, 3) := by decide +kernel
theorem dX9_need_25 : decode cX9_need 25 = .ok (.return_, 1) := by decide +kernel
theorem dX9_goesOn_0 : decode cX9_goesOn 0 = .ok (.aload_n 0, 1) := by decide +kernel
theorem dX9_goesOn_1 : decode cX9_goesOn 1 = .ok (.invokevirtual 43, 3) := by decide +kernel
theorem dX9_goesOn_4 : decode cX9_goesOn 4 = .ok (.iconst (-1), 1) := by decide +kernel
theorem dX9_goesOn_5 : decode cX9_goesOn 5 = .ok (.if_icmp .ne 5, 3) := by decide +kernel
theorem dX9_goesOn_8 : decode cX9_goesOn 8 = .ok (.iconst 0, 1) := by decide +kernel
theorem dX9_goesOn_9 : decode cX9_goesOn 9 = .ok (.ireturn, 1) := by decide +kernel
theorem dX9_goesOn_10 : decode cX9_goesOn 10 = .ok (.aload_n 0, 1) := by decide +kernel
theorem dX9_goesOn_11 : decode cX9_goesOn 11 = .ok (.bipush 59, 2) := by decide +kernel
theorem dX9_goesOn_13 : decode cX9_goesOn 13 = .ok (.invokevirtual 50, 3) := by decide +kernel
theorem dX9_goesOn_16 : decode cX9_goesOn 16 = .ok (.aload_n 0, 1) := by decide +kernel
theorem dX9_goesOn_17 : decode cX9_goesOn 17 = .ok (.invokevirtual 53, 3) := by decide +kernel
theorem dX9_goesOn_20 : decode cX9_goesOn 20 = .ok (.ifCond .ne 7, 3) := by decide +kernel
theorem dX9_goesOn_23 : decode cX9_goesOn 23 = .ok (.iconst 1, 1) := by decide +kernel
theorem dX9_goesOn_24 : decode cX9_goesOn 24 = .ok (.goto 4, 3) := by decide +kernel
theorem dX9_goesOn_27 : decode cX9_goesOn 27 = .ok (.iconst 0, 1) := by decide +kernel
theorem dX9_goesOn_28 : decode cX9_goesOn 28 = .ok (.ireturn, 1) := by decide +kernel
theorem dX9_isDigitHere_0 : decode cX9_isDigitHere 0 = .ok (.aload_n 0, 1) := by decide +kernel
theorem dX9_isDigitHere_1 : decode cX9_isDigitHere 1 = .ok (.getfield 19, 3) := by decide +kernel
theorem dX9_isDigitHere_4 : decode cX9_isDigitHere 4 = .ok (.aload_n 0, 1) := by decide +kernel
theorem dX9_isDigitHere_5 : decode cX9_isDigitHere 5 = .ok (.getfield 15, 3) := by decide +kernel
theorem dX9_isDigitHere_8 : decode cX9_isDigitHere 8 = .ok (.if_icmp .ge 39, 3) := by decide +kernel
theorem dX9_isDigitHere_11 : decode cX9_isDigitHere 11 = .ok (.aload_n 0, 1) := by decide +kernel
theorem dX9_isDigitHere_12 : decode cX9_isDigitHere 12 = .ok (.getfield 11, 3) := by decide +kernel
theorem dX9_isDigitHere_15 : decode cX9_isDigitHere 15 = .ok (.aload_n 0, 1) := by decide +kernel
theorem dX9_isDigitHere_16 : decode cX9_isDigitHere 16 = .ok (.getfield 19, 3) := by decide +kernel
theorem dX9_isDigitHere_19 : decode cX9_isDigitHere 19 = .ok (.invokestatic 57, 3) := by decide +kernel
theorem dX9_isDigitHere_22 : decode cX9_isDigitHere 22 = .ok (.bipush 48, 2) := by decide +kernel
theorem dX9_isDigitHere_24 : decode cX9_isDigitHere 24 = .ok (.if_icmp .lt 23, 3) := by decide +kernel
theorem dX9_isDigitHere_27 : decode cX9_isDigitHere 27 = .ok (.aload_n 0, 1) := by decide +kernel
theorem dX9_isDigitHere_28 : decode cX9_isDigitHere 28 = .ok (.getfield 11, 3) := by decide +kernel
theorem dX9_isDigitHere_31 : decode cX9_isDigitHere 31 = .ok (.aload_n 0, 1) := by decide +kernel
theorem dX9_isDigitHere_32 : decode cX9_isDigitHere 32 = .ok (.getfield 19, 3) := by decide +kernel
theorem dX9_isDigitHere_35 : decode cX9_isDigitHere 35 = .ok (.invokestatic 57, 3) := by decide +kernel
theorem dX9_isDigitHere_38 : decode cX9_isDigitHere 38 = .ok (.bipush 57, 2) := by decide +kernel
theorem dX9_isDigitHere_40 : decode cX9_isDigitHere 40 = .ok (.if_icmp .gt 7, 3) := by decide +kernel
theorem dX9_isDigitHere_43 : decode cX9_isDigitHere 43 = .ok (.iconst 1, 1) := by decide +kernel
theorem dX9_isDigitHere_44 : decode cX9_isDigitHere 44 = .ok (.goto 4, 3) := by decide +kernel
theorem dX9_isDigitHere_47 : decode cX9_isDigitHere 47 = .ok (.iconst 0, 1) := by decide +kernel
theorem dX9_isDigitHere_48 : decode cX9_isDigitHere 48 = .ok (.ireturn, 1) := by decide +kernel
theorem dX9_number_0 : decode cX9_number 0 = .ok (.iconst 0, 1) := by decide +kernel
theorem dX9_number_1 : decode cX9_number 1 = .ok (.istore_n 2, 1) := by decide +kernel
theorem dX9_number_2 : decode cX9_number 2 = .ok (.aload_n 0, 1) := by decide +kernel
theorem dX9_number_3 : decode cX9_number 3 = .ok (.invokevirtual 43, 3) := by decide +kernel
theorem dX9_number_6 : decode cX9_number 6 = .ok (.iconst (-1), 1) := by decide +kernel
theorem dX9_number_7 : decode cX9_number 7 = .ok (.if_icmp .eq 10, 3) := by decide +kernel
theorem dX9_number_10 : decode cX9_number 10 = .ok (.aload_n 0, 1) := by decide +kernel
theorem dX9_number_11 : decode cX9_number 11 = .ok (.invokevirtual 61, 3) := by decide +kernel
theorem dX9_number_14 : decode cX9_number 14 = .ok (.ifCond .ne 7, 3) := by decide +kernel
theorem dX9_number_17 : decode cX9_number 17 = .ok (.aload_n 0, 1) := by decide +kernel
theorem dX9_number_18 : decode cX9_number 18 = .ok (.invokevirtual 47, 3) := by decide +kernel
theorem dX9_number_21 : decode cX9_number 21 = .ok (.iconst 0, 1) := by decide +kernel
theorem dX9_number_22 : decode cX9_number 22 = .ok (.istore_n 3, 1) := by decide +kernel
theorem dX9_number_23 : decode cX9_number 23 = .ok (.iload_n 3, 1) := by decide +kernel
theorem dX9_number_24 : decode cX9_number 24 = .ok (.iload_n 1, 1) := by decide +kernel
theorem dX9_number_25 : decode cX9_number 25 = .ok (.if_icmp .ge 53, 3) := by decide +kernel
theorem dX9_number_28 : decode cX9_number 28 = .ok (.aload_n 0, 1) := by decide +kernel
theorem dX9_number_29 : decode cX9_number 29 = .ok (.invokevirtual 53, 3) := by decide +kernel
theorem dX9_number_32 : decode cX9_number 32 = .ok (.ifCond .ne 46, 3) := by decide +kernel
theorem dX9_number_35 : decode cX9_number 35 = .ok (.aload_n 0, 1) := by decide +kernel
theorem dX9_number_36 : decode cX9_number 36 = .ok (.invokevirtual 61, 3) := by decide +kernel
theorem dX9_number_39 : decode cX9_number 39 = .ok (.ifCond .eq 39, 3) := by decide +kernel
theorem dX9_number_42 : decode cX9_number 42 = .ok (.iload_n 2, 1) := by decide +kernel
theorem dX9_number_43 : decode cX9_number 43 = .ok (.bipush 10, 2) := by decide +kernel
theorem dX9_number_45 : decode cX9_number 45 = .ok (.imul, 1) := by decide +kernel
theorem dX9_number_46 : decode cX9_number 46 = .ok (.aload_n 0, 1) := by decide +kernel
theorem dX9_number_47 : decode cX9_number 47 = .ok (.getfield 11, 3) := by decide +kernel
theorem dX9_number_50 : decode cX9_number 50 = .ok (.aload_n 0, 1) := by decide +kernel
theorem dX9_number_51 : decode cX9_number 51 = .ok (.getfield 19, 3) := by decide +kernel
theorem dX9_number_54 : decode cX9_number 54 = .ok (.invokestatic 57, 3) := by decide +kernel
theorem dX9_number_57 : decode cX9_number 57 = .ok (.iadd, 1) := by decide +kernel
theorem dX9_number_58 : decode cX9_number 58 = .ok (.bipush 48, 2) := by decide +kernel
theorem dX9_number_60 : decode cX9_number 60 = .ok (.isub, 1) := by decide +kernel
theorem dX9_number_61 : decode cX9_number 61 = .ok (.istore_n 2, 1) := by decide +kernel
theorem dX9_number_62 : decode cX9_number 62 = .ok (.aload_n 0, 1) := by decide +kernel
theorem dX9_number_63 : decode cX9_number 63 = .ok (.dup, 1) := by decide +kernel
theorem dX9_number_64 : decode cX9_number 64 = .ok (.getfield 19, 3) := by decide +kernel
theorem dX9_number_67 : decode cX9_number 67 = .ok (.iconst 1, 1) := by decide +kernel
theorem dX9_number_68 : decode cX9_number 68 = .ok (.iadd, 1) := by decide +kernel
theorem dX9_number_69 : decode cX9_number 69 = .ok (.putfield 19, 3) := by decide +kernel
theorem dX9_number_72 : decode cX9_number 72 = .ok (.iinc 3 1, 3) := by decide +kernel
theorem dX9_number_75 : decode cX9_number 75 = .ok (.goto (-52), 3) := by decide +kernel
theorem dX9_number_78 : decode cX9_number 78 = .ok (.aload_n 0, 1) := by decide +kernel
theorem dX9_number_79 : decode cX9_number 79 = .ok (.invokevirtual 61, 3) := by decide +kernel
theorem dX9_number_82 : decode cX9_number 82 = .ok (.ifCond .eq 7, 3) := by decide +kernel
theorem dX9_number_85 : decode cX9_number 85 = .ok (.aload_n 0, 1) := by decide +kernel
theorem dX9_number_86 : decode cX9_number 86 = .ok (.invokevirtual 47, 3) := by decide +kernel
theorem dX9_number_89 : decode cX9_number 89 = .ok (.iload_n 2, 1) := by decide +kernel
theorem dX9_number_90 : decode cX9_number 90 = .ok (.ireturn, 1) := by decide +kernel
theorem dX9_numberWithin_0 : decode cX9_numberWithin 0 = .ok (.aload_n 0, 1) := by decide +kernel
theorem dX9_numberWithin_1 : decode cX9_numberWithin 1 = .ok (.iload_n 1, 1) := by decide +kernel
theorem dX9_numberWithin_2 : decode cX9_numberWithin 2 = .ok (.invokevirtual 64, 3) := by decide +kernel
theorem dX9_numberWithin_5 : decode cX9_numberWithin 5 = .ok (.istore 4, 2) := by decide +kernel
theorem dX9_numberWithin_7 : decode cX9_numberWithin 7 = .ok (.aload_n 0, 1) := by decide +kernel
theorem dX9_numberWithin_8 : decode cX9_numberWithin 8 = .ok (.invokevirtual 53, 3) := by decide +kernel
theorem dX9_numberWithin_11 : decode cX9_numberWithin 11 = .ok (.ifCond .ne 25, 3) := by decide +kernel
theorem dX9_numberWithin_14 : decode cX9_numberWithin 14 = .ok (.iload 4, 2) := by decide +kernel
theorem dX9_numberWithin_16 : decode cX9_numberWithin 16 = .ok (.iload_n 2, 1) := by decide +kernel
theorem dX9_numberWithin_17 : decode cX9_numberWithin 17 = .ok (.if_icmp .lt 9, 3) := by decide +kernel
theorem dX9_numberWithin_20 : decode cX9_numberWithin 20 = .ok (.iload 4, 2) := by decide +kernel
theorem dX9_numberWithin_22 : decode cX9_numberWithin 22 = .ok (.iload_n 3, 1) := by decide +kernel
theorem dX9_numberWithin_23 : decode cX9_numberWithin 23 = .ok (.if_icmp .le 13, 3) := by decide +kernel
theorem dX9_numberWithin_26 : decode cX9_numberWithin 26 = .ok (.aload_n 0, 1) := by decide +kernel
theorem dX9_numberWithin_27 : decode cX9_numberWithin 27 = .ok (.aload_n 0, 1) := by decide +kernel
theorem dX9_numberWithin_28 : decode cX9_numberWithin 28 = .ok (.getfield 19, 3) := by decide +kernel
theorem dX9_numberWithin_31 : decode cX9_numberWithin 31 = .ok (.iconst 1, 1) := by decide +kernel
theorem dX9_numberWithin_32 : decode cX9_numberWithin 32 = .ok (.isub, 1) := by decide +kernel
theorem dX9_numberWithin_33 : decode cX9_numberWithin 33 = .ok (.putfield 22, 3) := by decide +kernel
theorem dX9_numberWithin_36 : decode cX9_numberWithin 36 = .ok (.iload 4, 2) := by decide +kernel
theorem dX9_numberWithin_38 : decode cX9_numberWithin 38 = .ok (.ireturn, 1) := by decide +kernel
theorem dX10_init_0 : decode cX10_init 0 = .ok (.aload_n 0, 1) := by decide +kernel
theorem dX10_init_1 : decode cX10_init 1 = .ok (.invokespecial 3, 3) := by decide +kernel
theorem dX10_init_4 : decode cX10_init 4 = .ok (.aload_n 0, 1) := by decide +kernel
theorem dX10_init_5 : decode cX10_init 5 = .ok (.bipush 8, 2) := by decide +kernel
theorem dX10_init_7 : decode cX10_init 7 = .ok (.newarray .int, 2) := by decide +kernel
theorem dX10_init_9 : decode cX10_init 9 = .ok (.putfield 9, 3) := by decide +kernel
theorem dX10_init_12 : decode cX10_init 12 = .ok (.aload_n 0, 1) := by decide +kernel
theorem dX10_init_13 : decode cX10_init 13 = .ok (.bipush 8, 2) := by decide +kernel
theorem dX10_init_15 : decode cX10_init 15 = .ok (.newarray .int, 2) := by decide +kernel
theorem dX10_init_17 : decode cX10_init 17 = .ok (.putfield 15, 3) := by decide +kernel
theorem dX10_init_20 : decode cX10_init 20 = .ok (.aload_n 0, 1) := by decide +kernel
theorem dX10_init_21 : decode cX10_init 21 = .ok (.aload_n 1, 1) := by decide +kernel
theorem dX10_init_22 : decode cX10_init 22 = .ok (.putfield 18, 3) := by decide +kernel
theorem dX10_init_25 : decode cX10_init 25 = .ok (.aload_n 0, 1) := by decide +kernel
theorem dX10_init_26 : decode cX10_init 26 = .ok (.aload_n 2, 1) := by decide +kernel
theorem dX10_init_27 : decode cX10_init 27 = .ok (.putfield 22, 3) := by decide +kernel
theorem dX10_init_30 : decode cX10_init 30 = .ok (.aload_n 0, 1) := by decide +kernel
theorem dX10_init_31 : decode cX10_init 31 = .ok (.aload_n 3, 1) := by decide +kernel
theorem dX10_init_32 : decode cX10_init 32 = .ok (.putfield 26, 3) := by decide +kernel
theorem dX10_init_35 : decode cX10_init 35 = .ok (.return_, 1) := by decide +kernel
theorem dX10_isUnknown_0 : decode cX10_isUnknown 0 = .ok (.iload_n 2, 1) := by decide +kernel
theorem dX10_isUnknown_1 : decode cX10_isUnknown 1 = .ok (.iconst 5, 1) := by decide +kernel
theorem dX10_isUnknown_2 : decode cX10_isUnknown 2 = .ok (.if_icmp .eq 20, 3) := by decide +kernel
theorem dX10_isUnknown_5 : decode cX10_isUnknown 5 = .ok (.aload_n 0, 1) := by decide +kernel
theorem dX10_isUnknown_6 : decode cX10_isUnknown 6 = .ok (.getfield 26, 3) := by decide +kernel
theorem dX10_isUnknown_9 : decode cX10_isUnknown 9 = .ok (.iload_n 1, 1) := by decide +kernel
theorem dX10_isUnknown_10 : decode cX10_isUnknown 10 = .ok (.iload_n 2, 1) := by decide +kernel
theorem dX10_isUnknown_11 : decode cX10_isUnknown 11 = .ok (.invokevirtual 30, 3) := by decide +kernel
theorem dX10_isUnknown_14 : decode cX10_isUnknown 14 = .ok (.iconst (-1), 1) := by decide +kernel
theorem dX10_isUnknown_15 : decode cX10_isUnknown 15 = .ok (.if_icmp .ne 7, 3) := by decide +kernel
theorem dX10_isUnknown_18 : decode cX10_isUnknown 18 = .ok (.iconst 1, 1) := by decide +kernel
theorem dX10_isUnknown_19 : decode cX10_isUnknown 19 = .ok (.goto 4, 3) := by decide +kernel
theorem dX10_isUnknown_22 : decode cX10_isUnknown 22 = .ok (.iconst 0, 1) := by decide +kernel
theorem dX10_isUnknown_23 : decode cX10_isUnknown 23 = .ok (.ireturn, 1) := by decide +kernel
theorem dX10_leadsTo_0 : decode cX10_leadsTo 0 = .ok (.iload_n 2, 1) := by decide +kernel
theorem dX10_leadsTo_1 : decode cX10_leadsTo 1 = .ok (.iconst 5, 1) := by decide +kernel
theorem dX10_leadsTo_2 : decode cX10_leadsTo 2 = .ok (.if_icmp .ne 7, 3) := by decide +kernel
theorem dX10_leadsTo_5 : decode cX10_leadsTo 5 = .ok (.iconst (-1), 1) := by decide +kernel
theorem dX10_leadsTo_6 : decode cX10_leadsTo 6 = .ok (.goto 12, 3) := by decide +kernel
theorem dX10_leadsTo_9 : decode cX10_leadsTo 9 = .ok (.aload_n 0, 1) := by decide +kernel
theorem dX10_leadsTo_10 : decode cX10_leadsTo 10 = .ok (.getfield 26, 3) := by decide +kernel
theorem dX10_leadsTo_13 : decode cX10_leadsTo 13 = .ok (.iload_n 1, 1) := by decide +kernel
theorem dX10_leadsTo_14 : decode cX10_leadsTo 14 = .ok (.iload_n 2, 1) := by decide +kernel
theorem dX10_leadsTo_15 : decode cX10_leadsTo 15 = .ok (.invokevirtual 30, 3) := by decide +kernel
theorem dX10_leadsTo_18 : decode cX10_leadsTo 18 = .ok (.istore_n 3, 1) := by decide +kernel
theorem dX10_leadsTo_19 : decode cX10_leadsTo 19 = .ok (.iload_n 3, 1) := by decide +kernel
theorem dX10_leadsTo_20 : decode cX10_leadsTo 20 = .ok (.iconst (-1), 1) := by decide +kernel
theorem dX10_leadsTo_21 : decode cX10_leadsTo 21 = .ok (.if_icmp .ne 7, 3) := by decide +kernel
theorem dX10_leadsTo_24 : decode cX10_leadsTo 24 = .ok (.iload_n 1, 1) := by decide +kernel
theorem dX10_leadsTo_25 : decode cX10_leadsTo 25 = .ok (.goto 4, 3) := by decide +kernel
theorem dX10_leadsTo_28 : decode cX10_leadsTo 28 = .ok (.iload_n 3, 1) := by decide +kernel
theorem dX10_leadsTo_29 : decode cX10_leadsTo 29 = .ok (.ireturn, 1) := by decide +kernel
theorem dX10_takes_0 : decode cX10_takes 0 = .ok (.iload_n 2, 1) := by decide +kernel
theorem dX10_takes_1 : decode cX10_takes 1 = .ok (.iconst 5, 1) := by decide +kernel
theorem dX10_takes_2 : decode cX10_takes 2 = .ok (.if_icmp .ne 7, 3) := by decide +kernel
theorem dX10_takes_5 : decode cX10_takes 5 = .ok (.iconst (-1), 1) := by decide +kernel
theorem dX10_takes_6 : decode cX10_takes 6 = .ok (.goto 12, 3) := by decide +kernel
theorem dX10_takes_9 : decode cX10_takes 9 = .ok (.aload_n 0, 1) := by decide +kernel
theorem dX10_takes_10 : decode cX10_takes 10 = .ok (.getfield 26, 3) := by decide +kernel
theorem dX10_takes_13 : decode cX10_takes 13 = .ok (.iload_n 1, 1) := by decide +kernel
theorem dX10_takes_14 : decode cX10_takes 14 = .ok (.iload_n 2, 1) := by decide +kernel
theorem dX10_takes_15 : decode cX10_takes 15 = .ok (.invokevirtual 30, 3) := by decide +kernel
theorem dX10_takes_18 : decode cX10_takes 18 = .ok (.istore_n 3, 1) := by decide +kernel
theorem dX10_takes_19 : decode cX10_takes 19 = .ok (.iload_n 3, 1) := by decide +kernel
theorem dX10_takes_20 : decode cX10_takes 20 = .ok (.iconst (-1), 1) := by decide +kernel
theorem dX10_takes_21 : decode cX10_takes 21 = .ok (.if_icmp .ne 7, 3) := by decide +kernel
theorem dX10_takes_24 : decode cX10_takes 24 = .ok (.iconst 1, 1) := by decide +kernel
theorem dX10_takes_25 : decode cX10_takes 25 = .ok (.goto 12, 3) := by decide +kernel
theorem dX10_takes_28 : decode cX10_takes 28 = .ok (.aload_n 0, 1) := by decide +kernel
theorem dX10_takes_29 : decode cX10_takes 29 = .ok (.getfield 18, 3) := by decide +kernel
theorem dX10_takes_32 : decode cX10_takes 32 = .ok (.iload_n 1, 1) := by decide +kernel
theorem dX10_takes_33 : decode cX10_takes 33 = .ok (.iload_n 2, 1) := by decide +kernel
theorem dX10_takes_34 : decode cX10_takes 34 = .ok (.invokevirtual 36, 3) := by decide +kernel
theorem dX10_takes_37 : decode cX10_takes 37 = .ok (.ireturn, 1) := by decide +kernel
theorem dX10_priceOf_0 : decode cX10_priceOf 0 = .ok (.aload_n 0, 1) := by decide +kernel
theorem dX10_priceOf_1 : decode cX10_priceOf 1 = .ok (.iload_n 1, 1) := by decide +kernel
theorem dX10_priceOf_2 : decode cX10_priceOf 2 = .ok (.iload_n 2, 1) := by decide +kernel
theorem dX10_priceOf_3 : decode cX10_priceOf 3 = .ok (.invokevirtual 41, 3) := by decide +kernel
theorem dX10_priceOf_6 : decode cX10_priceOf 6 = .ok (.istore_n 3, 1) := by decide +kernel
theorem dX10_priceOf_7 : decode cX10_priceOf 7 = .ok (.aload_n 0, 1) := by decide +kernel
theorem dX10_priceOf_8 : decode cX10_priceOf 8 = .ok (.getfield 22, 3) := by decide +kernel
theorem dX10_priceOf_11 : decode cX10_priceOf 11 = .ok (.invokevirtual 44, 3) := by decide +kernel
theorem dX10_priceOf_14 : decode cX10_priceOf 14 = .ok (.iconst (-1), 1) := by decide +kernel
theorem dX10_priceOf_15 : decode cX10_priceOf 15 = .ok (.if_icmp .ne 5, 3) := by decide +kernel
theorem dX10_priceOf_18 : decode cX10_priceOf 18 = .ok (.iload_n 3, 1) := by decide +kernel
theorem dX10_priceOf_19 : decode cX10_priceOf 19 = .ok (.ireturn, 1) := by decide +kernel
theorem dX10_priceOf_20 : decode cX10_priceOf 20 = .ok (.aload_n 0, 1) := by decide +kernel
theorem dX10_priceOf_21 : decode cX10_priceOf 21 = .ok (.iload_n 1, 1) := by decide +kernel
theorem dX10_priceOf_22 : decode cX10_priceOf 22 = .ok (.iload_n 2, 1) := by decide +kernel
theorem dX10_priceOf_23 : decode cX10_priceOf 23 = .ok (.invokevirtual 50, 3) := by decide +kernel
theorem dX10_priceOf_26 : decode cX10_priceOf 26 = .ok (.istore 4, 2) := by decide +kernel
theorem dX10_priceOf_28 : decode cX10_priceOf 28 = .ok (.aload_n 0, 1) := by decide +kernel
theorem dX10_priceOf_29 : decode cX10_priceOf 29 = .ok (.getfield 22, 3) := by decide +kernel
theorem dX10_priceOf_32 : decode cX10_priceOf 32 = .ok (.iload_n 2, 1) := by decide +kernel
theorem dX10_priceOf_33 : decode cX10_priceOf 33 = .ok (.iload_n 3, 1) := by decide +kernel
theorem dX10_priceOf_34 : decode cX10_priceOf 34 = .ok (.iload_n 1, 1) := by decide +kernel
theorem dX10_priceOf_35 : decode cX10_priceOf 35 = .ok (.iload 4, 2) := by decide +kernel
theorem dX10_priceOf_37 : decode cX10_priceOf 37 = .ok (.aload_n 0, 1) := by decide +kernel
theorem dX10_priceOf_38 : decode cX10_priceOf 38 = .ok (.getfield 26, 3) := by decide +kernel
theorem dX10_priceOf_41 : decode cX10_priceOf 41 = .ok (.iload 4, 2) := by decide +kernel
theorem dX10_priceOf_43 : decode cX10_priceOf 43 = .ok (.invokevirtual 53, 3) := by decide +kernel
theorem dX10_priceOf_46 : decode cX10_priceOf 46 = .ok (.invokevirtual 57, 3) := by decide +kernel
theorem dX10_priceOf_49 : decode cX10_priceOf 49 = .ok (.istore 5, 2) := by decide +kernel
theorem dX10_priceOf_51 : decode cX10_priceOf 51 = .ok (.iconst 0, 1) := by decide +kernel
theorem dX10_priceOf_52 : decode cX10_priceOf 52 = .ok (.bipush 99, 2) := by decide +kernel
theorem dX10_priceOf_54 : decode cX10_priceOf 54 = .ok (.iload 5, 2) := by decide +kernel
theorem dX10_priceOf_56 : decode cX10_priceOf 56 = .ok (.invokestatic 61, 3) := by decide +kernel
theorem dX10_priceOf_59 : decode cX10_priceOf 59 = .ok (.invokestatic 66, 3) := by decide +kernel
theorem dX10_priceOf_62 : decode cX10_priceOf 62 = .ok (.ireturn, 1) := by decide +kernel
theorem dX10_behind_0 : decode cX10_behind 0 = .ok (.iload_n 1, 1) := by decide +kernel
theorem dX10_behind_1 : decode cX10_behind 1 = .ok (.istore 4, 2) := by decide +kernel
theorem dX10_behind_3 : decode cX10_behind 3 = .ok (.iconst 0, 1) := by decide +kernel
theorem dX10_behind_4 : decode cX10_behind 4 = .ok (.istore 5, 2) := by decide +kernel
theorem dX10_behind_6 : decode cX10_behind 6 = .ok (.iload 5, 2) := by decide +kernel
theorem dX10_behind_8 : decode cX10_behind 8 = .ok (.iload_n 3, 1) := by decide +kernel
theorem dX10_behind_9 : decode cX10_behind 9 = .ok (.if_icmp .ge 18, 3) := by decide +kernel
theorem dX10_behind_12 : decode cX10_behind 12 = .ok (.aload_n 0, 1) := by decide +kernel
theorem dX10_behind_13 : decode cX10_behind 13 = .ok (.iload 4, 2) := by decide +kernel
theorem dX10_behind_15 : decode cX10_behind 15 = .ok (.iload_n 2, 1) := by decide +kernel
theorem dX10_behind_16 : decode cX10_behind 16 = .ok (.invokevirtual 50, 3) := by decide +kernel
theorem dX10_behind_19 : decode cX10_behind 19 = .ok (.istore 4, 2) := by decide +kernel
theorem dX10_behind_21 : decode cX10_behind 21 = .ok (.iinc 5 1, 3) := by decide +kernel
theorem dX10_behind_24 : decode cX10_behind 24 = .ok (.goto (-18), 3) := by decide +kernel
theorem dX10_behind_27 : decode cX10_behind 27 = .ok (.iload 4, 2) := by decide +kernel
theorem dX10_behind_29 : decode cX10_behind 29 = .ok (.ireturn, 1) := by decide +kernel
theorem dX10_circleLength_0 : decode cX10_circleLength 0 = .ok (.aload_n 0, 1) := by decide +kernel
theorem dX10_circleLength_1 : decode cX10_circleLength 1 = .ok (.iload_n 1, 1) := by decide +kernel
theorem dX10_circleLength_2 : decode cX10_circleLength 2 = .ok (.iload_n 2, 1) := by decide +kernel
theorem dX10_circleLength_3 : decode cX10_circleLength 3 = .ok (.bipush 8, 2) := by decide +kernel
theorem dX10_circleLength_5 : decode cX10_circleLength 5 = .ok (.invokevirtual 69, 3) := by decide +kernel
theorem dX10_circleLength_8 : decode cX10_circleLength 8 = .ok (.istore_n 3, 1) := by decide +kernel
theorem dX10_circleLength_9 : decode cX10_circleLength 9 = .ok (.aload_n 0, 1) := by decide +kernel
theorem dX10_circleLength_10 : decode cX10_circleLength 10 = .ok (.iload_n 3, 1) := by decide +kernel
theorem dX10_circleLength_11 : decode cX10_circleLength 11 = .ok (.iload_n 2, 1) := by decide +kernel
theorem dX10_circleLength_12 : decode cX10_circleLength 12 = .ok (.invokevirtual 50, 3) := by decide +kernel
theorem dX10_circleLength_15 : decode cX10_circleLength 15 = .ok (.istore 4, 2) := by decide +kernel
theorem dX10_circleLength_17 : decode cX10_circleLength 17 = .ok (.iconst 1, 1) := by decide +kernel
theorem dX10_circleLength_18 : decode cX10_circleLength 18 = .ok (.istore 5, 2) := by decide +kernel
theorem dX10_circleLength_20 : decode cX10_circleLength 20 = .ok (.iload 5, 2) := by decide +kernel
theorem dX10_circleLength_22 : decode cX10_circleLength 22 = .ok (.bipush 8, 2) := by decide +kernel
theorem dX10_circleLength_24 : decode cX10_circleLength 24 = .ok (.if_icmp .ge 24, 3) := by decide +kernel
theorem dX10_circleLength_27 : decode cX10_circleLength 27 = .ok (.iload 4, 2) := by decide +kernel
theorem dX10_circleLength_29 : decode cX10_circleLength 29 = .ok (.iload_n 3, 1) := by decide +kernel
theorem dX10_circleLength_30 : decode cX10_circleLength 30 = .ok (.if_icmp .eq 18, 3) := by decide +kernel
theorem dX10_circleLength_33 : decode cX10_circleLength 33 = .ok (.aload_n 0, 1) := by decide +kernel
theorem dX10_circleLength_34 : decode cX10_circleLength 34 = .ok (.iload 4, 2) := by decide +kernel
theorem dX10_circleLength_36 : decode cX10_circleLength 36 = .ok (.iload_n 2, 1) := by decide +kernel
theorem dX10_circleLength_37 : decode cX10_circleLength 37 = .ok (.invokevirtual 50, 3) := by decide +kernel
theorem dX10_circleLength_40 : decode cX10_circleLength 40 = .ok (.istore 4, 2) := by decide +kernel
theorem dX10_circleLength_42 : decode cX10_circleLength 42 = .ok (.iinc 5 1, 3) := by decide +kernel
theorem dX10_circleLength_45 : decode cX10_circleLength 45 = .ok (.goto (-25), 3) := by decide +kernel
theorem dX10_circleLength_48 : decode cX10_circleLength 48 = .ok (.iload 5, 2) := by decide +kernel
theorem dX10_circleLength_50 : decode cX10_circleLength 50 = .ok (.ireturn, 1) := by decide +kernel
theorem dX10_stepsToCircle_0 : decode cX10_stepsToCircle 0 = .ok (.iload_n 1, 1) := by decide +kernel
theorem dX10_stepsToCircle_1 : decode cX10_stepsToCircle 1 = .ok (.istore 4, 2) := by decide +kernel
theorem dX10_stepsToCircle_3 : decode cX10_stepsToCircle 3 = .ok (.aload_n 0, 1) := by decide +kernel
theorem dX10_stepsToCircle_4 : decode cX10_stepsToCircle 4 = .ok (.iload_n 1, 1) := by decide +kernel
theorem dX10_stepsToCircle_5 : decode cX10_stepsToCircle 5 = .ok (.iload_n 2, 1) := by decide +kernel
theorem dX10_stepsToCircle_6 : decode cX10_stepsToCircle 6 = .ok (.iload_n 3, 1) := by decide +kernel
theorem dX10_stepsToCircle_7 : decode cX10_stepsToCircle 7 = .ok (.invokevirtual 69, 3) := by decide +kernel
theorem dX10_stepsToCircle_10 : decode cX10_stepsToCircle 10 = .ok (.istore 5, 2) := by decide +kernel
theorem dX10_stepsToCircle_12 : decode cX10_stepsToCircle 12 = .ok (.iconst 0, 1) := by decide +kernel
theorem dX10_stepsToCircle_13 : decode cX10_stepsToCircle 13 = .ok (.istore 6, 2) := by decide +kernel
theorem dX10_stepsToCircle_15 : decode cX10_stepsToCircle 15 = .ok (.iload 6, 2) := by decide +kernel
theorem dX10_stepsToCircle_17 : decode cX10_stepsToCircle 17 = .ok (.bipush 8, 2) := by decide +kernel
theorem dX10_stepsToCircle_19 : decode cX10_stepsToCircle 19 = .ok (.if_icmp .ge 34, 3) := by decide +kernel
theorem dX10_stepsToCircle_22 : decode cX10_stepsToCircle 22 = .ok (.iload 4, 2) := by decide +kernel
theorem dX10_stepsToCircle_24 : decode cX10_stepsToCircle 24 = .ok (.iload 5, 2) := by decide +kernel
theorem dX10_stepsToCircle_26 : decode cX10_stepsToCircle 26 = .ok (.if_icmp .eq 27, 3) := by decide +kernel
theorem dX10_stepsToCircle_29 : decode cX10_stepsToCircle 29 = .ok (.aload_n 0, 1) := by decide +kernel
theorem dX10_stepsToCircle_30 : decode cX10_stepsToCircle 30 = .ok (.iload 4, 2) := by decide +kernel
theorem dX10_stepsToCircle_32 : decode cX10_stepsToCircle 32 = .ok (.iload_n 2, 1) := by decide +kernel
theorem dX10_stepsToCircle_33 : decode cX10_stepsToCircle 33 = .ok (.invokevirtual 50, 3) := by decide +kernel
theorem dX10_stepsToCircle_36 : decode cX10_stepsToCircle 36 = .ok (.istore 4, 2) := by decide +kernel
theorem dX10_stepsToCircle_38 : decode cX10_stepsToCircle 38 = .ok (.aload_n 0, 1) := by decide +kernel
theorem dX10_stepsToCircle_39 : decode cX10_stepsToCircle 39 = .ok (.iload 5, 2) := by decide +kernel
theorem dX10_stepsToCircle_41 : decode cX10_stepsToCircle 41 = .ok (.iload_n 2, 1) := by decide +kernel
theorem dX10_stepsToCircle_42 : decode cX10_stepsToCircle 42 = .ok (.invokevirtual 50, 3) := by decide +kernel
theorem dX10_stepsToCircle_45 : decode cX10_stepsToCircle 45 = .ok (.istore 5, 2) := by decide +kernel
theorem dX10_stepsToCircle_47 : decode cX10_stepsToCircle 47 = .ok (.iinc 6 1, 3) := by decide +kernel
theorem dX10_stepsToCircle_50 : decode cX10_stepsToCircle 50 = .ok (.goto (-35), 3) := by decide +kernel
theorem dX10_stepsToCircle_53 : decode cX10_stepsToCircle 53 = .ok (.iload 6, 2) := by decide +kernel
theorem dX10_stepsToCircle_55 : decode cX10_stepsToCircle 55 = .ok (.ireturn, 1) := by decide +kernel
theorem dX10_fewestChanges_0 : decode cX10_fewestChanges 0 = .ok (.iconst 1, 1) := by decide +kernel
theorem dX10_fewestChanges_1 : decode cX10_fewestChanges 1 = .ok (.iload_n 1, 1) := by decide +kernel
theorem dX10_fewestChanges_2 : decode cX10_fewestChanges 2 = .ok (.ishl, 1) := by decide +kernel
theorem dX10_fewestChanges_3 : decode cX10_fewestChanges 3 = .ok (.istore 4, 2) := by decide +kernel
theorem dX10_fewestChanges_5 : decode cX10_fewestChanges 5 = .ok (.iload_n 1, 1) := by decide +kernel
theorem dX10_fewestChanges_6 : decode cX10_fewestChanges 6 = .ok (.iload_n 2, 1) := by decide +kernel
theorem dX10_fewestChanges_7 : decode cX10_fewestChanges 7 = .ok (.if_icmp .ne 5, 3) := by decide +kernel
theorem dX10_fewestChanges_10 : decode cX10_fewestChanges 10 = .ok (.iconst 0, 1) := by decide +kernel
theorem dX10_fewestChanges_11 : decode cX10_fewestChanges 11 = .ok (.ireturn, 1) := by decide +kernel
theorem dX10_fewestChanges_12 : decode cX10_fewestChanges 12 = .ok (.iconst 0, 1) := by decide +kernel
theorem dX10_fewestChanges_13 : decode cX10_fewestChanges 13 = .ok (.istore 5, 2) := by decide +kernel
theorem dX10_fewestChanges_15 : decode cX10_fewestChanges 15 = .ok (.iload 5, 2) := by decide +kernel
theorem dX10_fewestChanges_17 : decode cX10_fewestChanges 17 = .ok (.bipush 8, 2) := by decide +kernel
theorem dX10_fewestChanges_19 : decode cX10_fewestChanges 19 = .ok (.if_icmp .gt 43, 3) := by decide +kernel
theorem dX10_fewestChanges_22 : decode cX10_fewestChanges 22 = .ok (.aload_n 0, 1) := by decide +kernel
theorem dX10_fewestChanges_23 : decode cX10_fewestChanges 23 = .ok (.iload 4, 2) := by decide +kernel
theorem dX10_fewestChanges_25 : decode cX10_fewestChanges 25 = .ok (.iload_n 3, 1) := by decide +kernel
theorem dX10_fewestChanges_26 : decode cX10_fewestChanges 26 = .ok (.invokevirtual 73, 3) := by decide +kernel
theorem dX10_fewestChanges_29 : decode cX10_fewestChanges 29 = .ok (.istore 6, 2) := by decide +kernel
theorem dX10_fewestChanges_31 : decode cX10_fewestChanges 31 = .ok (.iload 6, 2) := by decide +kernel
theorem dX10_fewestChanges_33 : decode cX10_fewestChanges 33 = .ok (.iload_n 2, 1) := by decide +kernel
theorem dX10_fewestChanges_34 : decode cX10_fewestChanges 34 = .ok (.invokestatic 76, 3) := by decide +kernel
theorem dX10_fewestChanges_37 : decode cX10_fewestChanges 37 = .ok (.ifCond .eq 6, 3) := by decide +kernel
theorem dX10_fewestChanges_40 : decode cX10_fewestChanges 40 = .ok (.iload 5, 2) := by decide +kernel
theorem dX10_fewestChanges_42 : decode cX10_fewestChanges 42 = .ok (.ireturn, 1) := by decide +kernel
theorem dX10_fewestChanges_43 : decode cX10_fewestChanges 43 = .ok (.iload 6, 2) := by decide +kernel
theorem dX10_fewestChanges_45 : decode cX10_fewestChanges 45 = .ok (.iload 4, 2) := by decide +kernel
theorem dX10_fewestChanges_47 : decode cX10_fewestChanges 47 = .ok (.if_icmp .ne 5, 3) := by decide +kernel
theorem dX10_fewestChanges_50 : decode cX10_fewestChanges 50 = .ok (.iconst (-1), 1) := by decide +kernel
theorem dX10_fewestChanges_51 : decode cX10_fewestChanges 51 = .ok (.ireturn, 1) := by decide +kernel
theorem dX10_fewestChanges_52 : decode cX10_fewestChanges 52 = .ok (.iload 6, 2) := by decide +kernel
theorem dX10_fewestChanges_54 : decode cX10_fewestChanges 54 = .ok (.istore 4, 2) := by decide +kernel
theorem dX10_fewestChanges_56 : decode cX10_fewestChanges 56 = .ok (.iinc 5 1, 3) := by decide +kernel
theorem dX10_fewestChanges_59 : decode cX10_fewestChanges 59 = .ok (.goto (-44), 3) := by decide +kernel
theorem dX10_fewestChanges_62 : decode cX10_fewestChanges 62 = .ok (.iconst (-1), 1) := by decide +kernel
theorem dX10_fewestChanges_63 : decode cX10_fewestChanges 63 = .ok (.ireturn, 1) := by decide +kernel
theorem dX10_reachedByOneLamp_0 : decode cX10_reachedByOneLamp 0 = .ok (.iload_n 1, 1) := by decide +kernel
theorem dX10_reachedByOneLamp_1 : decode cX10_reachedByOneLamp 1 = .ok (.istore_n 3, 1) := by decide +kernel
theorem dX10_reachedByOneLamp_2 : decode cX10_reachedByOneLamp 2 = .ok (.iconst 0, 1) := by decide +kernel
theorem dX10_reachedByOneLamp_3 : decode cX10_reachedByOneLamp 3 = .ok (.istore 4, 2) := by decide +kernel
theorem dX10_reachedByOneLamp_5 : decode cX10_reachedByOneLamp 5 = .ok (.iload 4, 2) := by decide +kernel
theorem dX10_reachedByOneLamp_7 : decode cX10_reachedByOneLamp 7 = .ok (.aload_n 0, 1) := by decide +kernel
theorem dX10_reachedByOneLamp_8 : decode cX10_reachedByOneLamp 8 = .ok (.getfield 18, 3) := by decide +kernel
theorem dX10_reachedByOneLamp_11 : decode cX10_reachedByOneLamp 11 = .ok (.invokevirtual 80, 3) := by decide +kernel
theorem dX10_reachedByOneLamp_14 : decode cX10_reachedByOneLamp 14 = .ok (.if_icmp .ge 28, 3) := by decide +kernel
theorem dX10_reachedByOneLamp_17 : decode cX10_reachedByOneLamp 17 = .ok (.iload_n 2, 1) := by decide +kernel
theorem dX10_reachedByOneLamp_18 : decode cX10_reachedByOneLamp 18 = .ok (.iload 4, 2) := by decide +kernel
theorem dX10_reachedByOneLamp_20 : decode cX10_reachedByOneLamp 20 = .ok (.invokestatic 76, 3) := by decide +kernel
theorem dX10_reachedByOneLamp_23 : decode cX10_reachedByOneLamp 23 = .ok (.ifCond .eq 13, 3) := by decide +kernel
theorem dX10_reachedByOneLamp_26 : decode cX10_reachedByOneLamp 26 = .ok (.iload_n 3, 1) := by decide +kernel
theorem dX10_reachedByOneLamp_27 : decode cX10_reachedByOneLamp 27 = .ok (.aload_n 0, 1) := by decide +kernel
theorem dX10_reachedByOneLamp_28 : decode cX10_reachedByOneLamp 28 = .ok (.iload_n 1, 1) := by decide +kernel
theorem dX10_reachedByOneLamp_29 : decode cX10_reachedByOneLamp 29 = .ok (.iload 4, 2) := by decide +kernel
theorem dX10_reachedByOneLamp_31 : decode cX10_reachedByOneLamp 31 = .ok (.invokevirtual 83, 3) := by decide +kernel
theorem dX10_reachedByOneLamp_34 : decode cX10_reachedByOneLamp 34 = .ok (.ior, 1) := by decide +kernel
theorem dX10_reachedByOneLamp_35 : decode cX10_reachedByOneLamp 35 = .ok (.istore_n 3, 1) := by decide +kernel
theorem dX10_reachedByOneLamp_36 : decode cX10_reachedByOneLamp 36 = .ok (.iinc 4 1, 3) := by decide +kernel
theorem dX10_reachedByOneLamp_39 : decode cX10_reachedByOneLamp 39 = .ok (.goto (-34), 3) := by decide +kernel
theorem dX10_reachedByOneLamp_42 : decode cX10_reachedByOneLamp 42 = .ok (.iload_n 3, 1) := by decide +kernel
theorem dX10_reachedByOneLamp_43 : decode cX10_reachedByOneLamp 43 = .ok (.ireturn, 1) := by decide +kernel
theorem dX10_trailOf_0 : decode cX10_trailOf 0 = .ok (.iload_n 1, 1) := by decide +kernel
theorem dX10_trailOf_1 : decode cX10_trailOf 1 = .ok (.istore_n 3, 1) := by decide +kernel
theorem dX10_trailOf_2 : decode cX10_trailOf 2 = .ok (.iconst 0, 1) := by decide +kernel
theorem dX10_trailOf_3 : decode cX10_trailOf 3 = .ok (.istore 4, 2) := by decide +kernel
theorem dX10_trailOf_5 : decode cX10_trailOf 5 = .ok (.iload 4, 2) := by decide +kernel
theorem dX10_trailOf_7 : decode cX10_trailOf 7 = .ok (.bipush 8, 2) := by decide +kernel
theorem dX10_trailOf_9 : decode cX10_trailOf 9 = .ok (.if_icmp .ge 20, 3) := by decide +kernel
theorem dX10_trailOf_12 : decode cX10_trailOf 12 = .ok (.iload_n 3, 1) := by decide +kernel
theorem dX10_trailOf_13 : decode cX10_trailOf 13 = .ok (.aload_n 0, 1) := by decide +kernel
theorem dX10_trailOf_14 : decode cX10_trailOf 14 = .ok (.iload_n 3, 1) := by decide +kernel
theorem dX10_trailOf_15 : decode cX10_trailOf 15 = .ok (.iconst 1, 1) := by decide +kernel
theorem dX10_trailOf_16 : decode cX10_trailOf 16 = .ok (.iload_n 2, 1) := by decide +kernel
theorem dX10_trailOf_17 : decode cX10_trailOf 17 = .ok (.ishl, 1) := by decide +kernel
theorem dX10_trailOf_18 : decode cX10_trailOf 18 = .ok (.invokevirtual 86, 3) := by decide +kernel
theorem dX10_trailOf_21 : decode cX10_trailOf 21 = .ok (.ior, 1) := by decide +kernel
theorem dX10_trailOf_22 : decode cX10_trailOf 22 = .ok (.istore_n 3, 1) := by decide +kernel
theorem dX10_trailOf_23 : decode cX10_trailOf 23 = .ok (.iinc 4 1, 3) := by decide +kernel
theorem dX10_trailOf_26 : decode cX10_trailOf 26 = .ok (.goto (-21), 3) := by decide +kernel
theorem dX10_trailOf_29 : decode cX10_trailOf 29 = .ok (.iload_n 3, 1) := by decide +kernel
theorem dX10_trailOf_30 : decode cX10_trailOf 30 = .ok (.ireturn, 1) := by decide +kernel
theorem dX10_behindOne_0 : decode cX10_behindOne 0 = .ok (.iconst 0, 1) := by decide +kernel
theorem dX10_behindOne_1 : decode cX10_behindOne 1 = .ok (.istore_n 3, 1) := by decide +kernel
theorem dX10_behindOne_2 : decode cX10_behindOne 2 = .ok (.iconst 0, 1) := by decide +kernel
theorem dX10_behindOne_3 : decode cX10_behindOne 3 = .ok (.istore 4, 2) := by decide +kernel
theorem dX10_behindOne_5 : decode cX10_behindOne 5 = .ok (.iload 4, 2) := by decide +kernel
theorem dX10_behindOne_7 : decode cX10_behindOne 7 = .ok (.aload_n 0, 1) := by decide +kernel
theorem dX10_behindOne_8 : decode cX10_behindOne 8 = .ok (.getfield 18, 3) := by decide +kernel
theorem dX10_behindOne_11 : decode cX10_behindOne 11 = .ok (.invokevirtual 89, 3) := by decide +kernel
theorem dX10_behindOne_14 : decode cX10_behindOne 14 = .ok (.if_icmp .ge 61, 3) := by decide +kernel
theorem dX10_behindOne_17 : decode cX10_behindOne 17 = .ok (.iconst 0, 1) := by decide +kernel
theorem dX10_behindOne_18 : decode cX10_behindOne 18 = .ok (.istore 5, 2) := by decide +kernel
theorem dX10_behindOne_20 : decode cX10_behindOne 20 = .ok (.iload 5, 2) := by decide +kernel
theorem dX10_behindOne_22 : decode cX10_behindOne 22 = .ok (.aload_n 0, 1) := by decide +kernel
theorem dX10_behindOne_23 : decode cX10_behindOne 23 = .ok (.getfield 18, 3) := by decide +kernel
theorem dX10_behindOne_26 : decode cX10_behindOne 26 = .ok (.invokevirtual 80, 3) := by decide +kernel
theorem dX10_behindOne_29 : decode cX10_behindOne 29 = .ok (.if_icmp .ge 40, 3) := by decide +kernel
theorem dX10_behindOne_32 : decode cX10_behindOne 32 = .ok (.iload_n 1, 1) := by decide +kernel
theorem dX10_behindOne_33 : decode cX10_behindOne 33 = .ok (.iload 4, 2) := by decide +kernel
theorem dX10_behindOne_35 : decode cX10_behindOne 35 = .ok (.invokestatic 76, 3) := by decide +kernel
theorem dX10_behindOne_38 : decode cX10_behindOne 38 = .ok (.ifCond .eq 31, 3) := by decide +kernel
theorem dX10_behindOne_41 : decode cX10_behindOne 41 = .ok (.iload_n 2, 1) := by decide +kernel
theorem dX10_behindOne_42 : decode cX10_behindOne 42 = .ok (.iload 5, 2) := by decide +kernel
theorem dX10_behindOne_44 : decode cX10_behindOne 44 = .ok (.invokestatic 76, 3) := by decide +kernel
theorem dX10_behindOne_47 : decode cX10_behindOne 47 = .ok (.ifCond .eq 16, 3) := by decide +kernel
theorem dX10_behindOne_50 : decode cX10_behindOne 50 = .ok (.iload_n 3, 1) := by decide +kernel
theorem dX10_behindOne_51 : decode cX10_behindOne 51 = .ok (.iconst 1, 1) := by decide +kernel
theorem dX10_behindOne_52 : decode cX10_behindOne 52 = .ok (.aload_n 0, 1) := by decide +kernel
theorem dX10_behindOne_53 : decode cX10_behindOne 53 = .ok (.iload 4, 2) := by decide +kernel
theorem dX10_behindOne_55 : decode cX10_behindOne 55 = .ok (.iload 5, 2) := by decide +kernel
theorem dX10_behindOne_57 : decode cX10_behindOne 57 = .ok (.invokevirtual 50, 3) := by decide +kernel
theorem dX10_behindOne_60 : decode cX10_behindOne 60 = .ok (.ishl, 1) := by decide +kernel
theorem dX10_behindOne_61 : decode cX10_behindOne 61 = .ok (.ior, 1) := by decide +kernel
theorem dX10_behindOne_62 : decode cX10_behindOne 62 = .ok (.istore_n 3, 1) := by decide +kernel
theorem dX10_behindOne_63 : decode cX10_behindOne 63 = .ok (.iinc 5 1, 3) := by decide +kernel
theorem dX10_behindOne_66 : decode cX10_behindOne 66 = .ok (.goto (-46), 3) := by decide +kernel
theorem dX10_behindOne_69 : decode cX10_behindOne 69 = .ok (.iinc 4 1, 3) := by decide +kernel
theorem dX10_behindOne_72 : decode cX10_behindOne 72 = .ok (.goto (-67), 3) := by decide +kernel
theorem dX10_behindOne_75 : decode cX10_behindOne 75 = .ok (.iload_n 3, 1) := by decide +kernel
theorem dX10_behindOne_76 : decode cX10_behindOne 76 = .ok (.ireturn, 1) := by decide +kernel
theorem dX10_reachedFrom_0 : decode cX10_reachedFrom 0 = .ok (.iconst 1, 1) := by decide +kernel
theorem dX10_reachedFrom_1 : decode cX10_reachedFrom 1 = .ok (.iload_n 1, 1) := by decide +kernel
theorem dX10_reachedFrom_2 : decode cX10_reachedFrom 2 = .ok (.ishl, 1) := by decide +kernel
theorem dX10_reachedFrom_3 : decode cX10_reachedFrom 3 = .ok (.istore_n 3, 1) := by decide +kernel
theorem dX10_reachedFrom_4 : decode cX10_reachedFrom 4 = .ok (.iconst 0, 1) := by decide +kernel
theorem dX10_reachedFrom_5 : decode cX10_reachedFrom 5 = .ok (.istore 4, 2) := by decide +kernel
theorem dX10_reachedFrom_7 : decode cX10_reachedFrom 7 = .ok (.iload 4, 2) := by decide +kernel
theorem dX10_reachedFrom_9 : decode cX10_reachedFrom 9 = .ok (.bipush 8, 2) := by decide +kernel
theorem dX10_reachedFrom_11 : decode cX10_reachedFrom 11 = .ok (.if_icmp .ge 18, 3) := by decide +kernel
theorem dX10_reachedFrom_14 : decode cX10_reachedFrom 14 = .ok (.iload_n 3, 1) := by decide +kernel
theorem dX10_reachedFrom_15 : decode cX10_reachedFrom 15 = .ok (.aload_n 0, 1) := by decide +kernel
theorem dX10_reachedFrom_16 : decode cX10_reachedFrom 16 = .ok (.iload_n 3, 1) := by decide +kernel
theorem dX10_reachedFrom_17 : decode cX10_reachedFrom 17 = .ok (.iload_n 2, 1) := by decide +kernel
theorem dX10_reachedFrom_18 : decode cX10_reachedFrom 18 = .ok (.invokevirtual 86, 3) := by decide +kernel
theorem dX10_reachedFrom_21 : decode cX10_reachedFrom 21 = .ok (.ior, 1) := by decide +kernel
theorem dX10_reachedFrom_22 : decode cX10_reachedFrom 22 = .ok (.istore_n 3, 1) := by decide +kernel
theorem dX10_reachedFrom_23 : decode cX10_reachedFrom 23 = .ok (.iinc 4 1, 3) := by decide +kernel
theorem dX10_reachedFrom_26 : decode cX10_reachedFrom 26 = .ok (.goto (-19), 3) := by decide +kernel
theorem dX10_reachedFrom_29 : decode cX10_reachedFrom 29 = .ok (.iload_n 3, 1) := by decide +kernel
theorem dX10_reachedFrom_30 : decode cX10_reachedFrom 30 = .ok (.ireturn, 1) := by decide +kernel
theorem dX10_fewestLamps_0 : decode cX10_fewestLamps 0 = .ok (.iconst 0, 1) := by decide +kernel
theorem dX10_fewestLamps_1 : decode cX10_fewestLamps 1 = .ok (.istore_n 1, 1) := by decide +kernel
theorem dX10_fewestLamps_2 : decode cX10_fewestLamps 2 = .ok (.iload_n 1, 1) := by decide +kernel
theorem dX10_fewestLamps_3 : decode cX10_fewestLamps 3 = .ok (.aload_n 0, 1) := by decide +kernel
theorem dX10_fewestLamps_4 : decode cX10_fewestLamps 4 = .ok (.getfield 18, 3) := by decide +kernel
theorem dX10_fewestLamps_7 : decode cX10_fewestLamps 7 = .ok (.invokevirtual 80, 3) := by decide +kernel
theorem dX10_fewestLamps_10 : decode cX10_fewestLamps 10 = .ok (.if_icmp .gt 46, 3) := by decide +kernel
theorem dX10_fewestLamps_13 : decode cX10_fewestLamps 13 = .ok (.iconst 0, 1) := by decide +kernel
theorem dX10_fewestLamps_14 : decode cX10_fewestLamps 14 = .ok (.istore_n 2, 1) := by decide +kernel
theorem dX10_fewestLamps_15 : decode cX10_fewestLamps 15 = .ok (.iload_n 2, 1) := by decide +kernel
theorem dX10_fewestLamps_16 : decode cX10_fewestLamps 16 = .ok (.aload_n 0, 1) := by decide +kernel
theorem dX10_fewestLamps_17 : decode cX10_fewestLamps 17 = .ok (.getfield 18, 3) := by decide +kernel
theorem dX10_fewestLamps_20 : decode cX10_fewestLamps 20 = .ok (.invokevirtual 92, 3) := by decide +kernel
theorem dX10_fewestLamps_23 : decode cX10_fewestLamps 23 = .ok (.if_icmp .gt 27, 3) := by decide +kernel
theorem dX10_fewestLamps_26 : decode cX10_fewestLamps 26 = .ok (.iload_n 2, 1) := by decide +kernel
theorem dX10_fewestLamps_27 : decode cX10_fewestLamps 27 = .ok (.invokestatic 95, 3) := by decide +kernel
theorem dX10_fewestLamps_30 : decode cX10_fewestLamps 30 = .ok (.iload_n 1, 1) := by decide +kernel
theorem dX10_fewestLamps_31 : decode cX10_fewestLamps 31 = .ok (.if_icmp .ne 13, 3) := by decide +kernel
theorem dX10_fewestLamps_34 : decode cX10_fewestLamps 34 = .ok (.aload_n 0, 1) := by decide +kernel
theorem dX10_fewestLamps_35 : decode cX10_fewestLamps 35 = .ok (.iload_n 2, 1) := by decide +kernel
theorem dX10_fewestLamps_36 : decode cX10_fewestLamps 36 = .ok (.invokevirtual 100, 3) := by decide +kernel
theorem dX10_fewestLamps_39 : decode cX10_fewestLamps 39 = .ok (.ifCond .eq 5, 3) := by decide +kernel
theorem dX10_fewestLamps_42 : decode cX10_fewestLamps 42 = .ok (.iload_n 2, 1) := by decide +kernel
theorem dX10_fewestLamps_43 : decode cX10_fewestLamps 43 = .ok (.ireturn, 1) := by decide +kernel
theorem dX10_fewestLamps_44 : decode cX10_fewestLamps 44 = .ok (.iinc 2 1, 3) := by decide +kernel
theorem dX10_fewestLamps_47 : decode cX10_fewestLamps 47 = .ok (.goto (-32), 3) := by decide +kernel
theorem dX10_fewestLamps_50 : decode cX10_fewestLamps 50 = .ok (.iinc 1 1, 3) := by decide +kernel
theorem dX10_fewestLamps_53 : decode cX10_fewestLamps 53 = .ok (.goto (-51), 3) := by decide +kernel
theorem dX10_fewestLamps_56 : decode cX10_fewestLamps 56 = .ok (.iconst (-1), 1) := by decide +kernel
theorem dX10_fewestLamps_57 : decode cX10_fewestLamps 57 = .ok (.ireturn, 1) := by decide +kernel
theorem dX10_joinsAll_0 : decode cX10_joinsAll 0 = .ok (.iconst 1, 1) := by decide +kernel
theorem dX10_joinsAll_1 : decode cX10_joinsAll 1 = .ok (.aload_n 0, 1) := by decide +kernel
theorem dX10_joinsAll_2 : decode cX10_joinsAll 2 = .ok (.getfield 18, 3) := by decide +kernel
theorem dX10_joinsAll_5 : decode cX10_joinsAll 5 = .ok (.invokevirtual 89, 3) := by decide +kernel
theorem dX10_joinsAll_8 : decode cX10_joinsAll 8 = .ok (.ishl, 1) := by decide +kernel
theorem dX10_joinsAll_9 : decode cX10_joinsAll 9 = .ok (.iconst 1, 1) := by decide +kernel
theorem dX10_joinsAll_10 : decode cX10_joinsAll 10 = .ok (.isub, 1) := by decide +kernel
theorem dX10_joinsAll_11 : decode cX10_joinsAll 11 = .ok (.istore_n 2, 1) := by decide +kernel
theorem dX10_joinsAll_12 : decode cX10_joinsAll 12 = .ok (.iconst 0, 1) := by decide +kernel
theorem dX10_joinsAll_13 : decode cX10_joinsAll 13 = .ok (.istore_n 3, 1) := by decide +kernel
theorem dX10_joinsAll_14 : decode cX10_joinsAll 14 = .ok (.iload_n 3, 1) := by decide +kernel
theorem dX10_joinsAll_15 : decode cX10_joinsAll 15 = .ok (.aload_n 0, 1) := by decide +kernel
theorem dX10_joinsAll_16 : decode cX10_joinsAll 16 = .ok (.getfield 18, 3) := by decide +kernel
theorem dX10_joinsAll_19 : decode cX10_joinsAll 19 = .ok (.invokevirtual 89, 3) := by decide +kernel
theorem dX10_joinsAll_22 : decode cX10_joinsAll 22 = .ok (.if_icmp .ge 21, 3) := by decide +kernel
theorem dX10_joinsAll_25 : decode cX10_joinsAll 25 = .ok (.aload_n 0, 1) := by decide +kernel
theorem dX10_joinsAll_26 : decode cX10_joinsAll 26 = .ok (.iload_n 3, 1) := by decide +kernel
theorem dX10_joinsAll_27 : decode cX10_joinsAll 27 = .ok (.iload_n 1, 1) := by decide +kernel
theorem dX10_joinsAll_28 : decode cX10_joinsAll 28 = .ok (.invokevirtual 104, 3) := by decide +kernel
theorem dX10_joinsAll_31 : decode cX10_joinsAll 31 = .ok (.iload_n 2, 1) := by decide +kernel
theorem dX10_joinsAll_32 : decode cX10_joinsAll 32 = .ok (.if_icmp .eq 5, 3) := by decide +kernel
theorem dX10_joinsAll_35 : decode cX10_joinsAll 35 = .ok (.iconst 0, 1) := by decide +kernel
theorem dX10_joinsAll_36 : decode cX10_joinsAll 36 = .ok (.ireturn, 1) := by decide +kernel
theorem dX10_joinsAll_37 : decode cX10_joinsAll 37 = .ok (.iinc 3 1, 3) := by decide +kernel
theorem dX10_joinsAll_40 : decode cX10_joinsAll 40 = .ok (.goto (-26), 3) := by decide +kernel
theorem dX10_joinsAll_43 : decode cX10_joinsAll 43 = .ok (.iconst 1, 1) := by decide +kernel
theorem dX10_joinsAll_44 : decode cX10_joinsAll 44 = .ok (.ireturn, 1) := by decide +kernel
theorem dX10_measure_0 : decode cX10_measure 0 = .ok (.iconst 0, 1) := by decide +kernel
theorem dX10_measure_1 : decode cX10_measure 1 = .ok (.istore 5, 2) := by decide +kernel
theorem dX10_measure_3 : decode cX10_measure 3 = .ok (.iload 5, 2) := by decide +kernel
theorem dX10_measure_5 : decode cX10_measure 5 = .ok (.bipush 8, 2) := by decide +kernel
theorem dX10_measure_7 : decode cX10_measure 7 = .ok (.if_icmp .ge 30, 3) := by decide +kernel
theorem dX10_measure_10 : decode cX10_measure 10 = .ok (.aload_n 0, 1) := by decide +kernel
theorem dX10_measure_11 : decode cX10_measure 11 = .ok (.getfield 9, 3) := by decide +kernel
theorem dX10_measure_14 : decode cX10_measure 14 = .ok (.iload 5, 2) := by decide +kernel
theorem dX10_measure_16 : decode cX10_measure 16 = .ok (.iload 5, 2) := by decide +kernel
theorem dX10_measure_18 : decode cX10_measure 18 = .ok (.iload_n 1, 1) := by decide +kernel
theorem dX10_measure_19 : decode cX10_measure 19 = .ok (.if_icmp .ne 7, 3) := by decide +kernel
theorem dX10_measure_22 : decode cX10_measure 22 = .ok (.iconst 0, 1) := by decide +kernel
theorem dX10_measure_23 : decode cX10_measure 23 = .ok (.goto 5, 3) := by decide +kernel
theorem dX10_measure_26 : decode cX10_measure 26 = .ok (.ldc 107, 2) := by decide +kernel
theorem dX10_measure_28 : decode cX10_measure 28 = .ok (.invokestatic 108, 3) := by decide +kernel
theorem dX10_measure_31 : decode cX10_measure 31 = .ok (.iinc 5 1, 3) := by decide +kernel
theorem dX10_measure_34 : decode cX10_measure 34 = .ok (.goto (-31), 3) := by decide +kernel
theorem dX10_measure_37 : decode cX10_measure 37 = .ok (.iload 4, 2) := by decide +kernel
theorem dX10_measure_39 : decode cX10_measure 39 = .ok (.iconst 1, 1) := by decide +kernel
theorem dX10_measure_40 : decode cX10_measure 40 = .ok (.iload_n 1, 1) := by decide +kernel
theorem dX10_measure_41 : decode cX10_measure 41 = .ok (.ishl, 1) := by decide +kernel
theorem dX10_measure_42 : decode cX10_measure 42 = .ok (.iconst (-1), 1) := by decide +kernel
theorem dX10_measure_43 : decode cX10_measure 43 = .ok (.ixor, 1) := by decide +kernel
theorem dX10_measure_44 : decode cX10_measure 44 = .ok (.iand, 1) := by decide +kernel
theorem dX10_measure_45 : decode cX10_measure 45 = .ok (.istore 5, 2) := by decide +kernel
theorem dX10_measure_47 : decode cX10_measure 47 = .ok (.iconst 1, 1) := by decide +kernel
theorem dX10_measure_48 : decode cX10_measure 48 = .ok (.istore 6, 2) := by decide +kernel
theorem dX10_measure_50 : decode cX10_measure 50 = .ok (.iconst 0, 1) := by decide +kernel
theorem dX10_measure_51 : decode cX10_measure 51 = .ok (.istore 7, 2) := by decide +kernel
theorem dX10_measure_53 : decode cX10_measure 53 = .ok (.iload 7, 2) := by decide +kernel
theorem dX10_measure_55 : decode cX10_measure 55 = .ok (.bipush 8, 2) := by decide +kernel
theorem dX10_measure_57 : decode cX10_measure 57 = .ok (.if_icmp .ge 78, 3) := by decide +kernel
theorem dX10_measure_60 : decode cX10_measure 60 = .ok (.iload 6, 2) := by decide +kernel
theorem dX10_measure_62 : decode cX10_measure 62 = .ok (.ifCond .eq 73, 3) := by decide +kernel
theorem dX10_measure_65 : decode cX10_measure 65 = .ok (.iconst 0, 1) := by decide +kernel
theorem dX10_measure_66 : decode cX10_measure 66 = .ok (.istore 6, 2) := by decide +kernel
theorem dX10_measure_68 : decode cX10_measure 68 = .ok (.iconst 0, 1) := by decide +kernel
theorem dX10_measure_69 : decode cX10_measure 69 = .ok (.istore 8, 2) := by decide +kernel
theorem dX10_measure_71 : decode cX10_measure 71 = .ok (.iload 8, 2) := by decide +kernel
theorem dX10_measure_73 : decode cX10_measure 73 = .ok (.aload_n 0, 1) := by decide +kernel
theorem dX10_measure_74 : decode cX10_measure 74 = .ok (.getfield 18, 3) := by decide +kernel
theorem dX10_measure_77 : decode cX10_measure 77 = .ok (.invokevirtual 89, 3) := by decide +kernel
theorem dX10_measure_80 : decode cX10_measure 80 = .ok (.if_icmp .ge 49, 3) := by decide +kernel
theorem dX10_measure_83 : decode cX10_measure 83 = .ok (.aload_n 0, 1) := by decide +kernel
theorem dX10_measure_84 : decode cX10_measure 84 = .ok (.iload 8, 2) := by decide +kernel
theorem dX10_measure_86 : decode cX10_measure 86 = .ok (.iload_n 2, 1) := by decide +kernel
theorem dX10_measure_87 : decode cX10_measure 87 = .ok (.iload_n 3, 1) := by decide +kernel
theorem dX10_measure_88 : decode cX10_measure 88 = .ok (.iload 5, 2) := by decide +kernel
theorem dX10_measure_90 : decode cX10_measure 90 = .ok (.invokevirtual 112, 3) := by decide +kernel
theorem dX10_measure_93 : decode cX10_measure 93 = .ok (.istore 9, 2) := by decide +kernel
theorem dX10_measure_95 : decode cX10_measure 95 = .ok (.iload 9, 2) := by decide +kernel
theorem dX10_measure_97 : decode cX10_measure 97 = .ok (.aload_n 0, 1) := by decide +kernel
theorem dX10_measure_98 : decode cX10_measure 98 = .ok (.getfield 9, 3) := by decide +kernel
theorem dX10_measure_101 : decode cX10_measure 101 = .ok (.iload 8, 2) := by decide +kernel
theorem dX10_measure_103 : decode cX10_measure 103 = .ok (.invokestatic 116, 3) := by decide +kernel
theorem dX10_measure_106 : decode cX10_measure 106 = .ok (.if_icmp .ge 17, 3) := by decide +kernel
theorem dX10_measure_109 : decode cX10_measure 109 = .ok (.aload_n 0, 1) := by decide +kernel
theorem dX10_measure_110 : decode cX10_measure 110 = .ok (.getfield 9, 3) := by decide +kernel
theorem dX10_measure_113 : decode cX10_measure 113 = .ok (.iload 8, 2) := by decide +kernel
theorem dX10_measure_115 : decode cX10_measure 115 = .ok (.iload 9, 2) := by decide +kernel
theorem dX10_measure_117 : decode cX10_measure 117 = .ok (.invokestatic 108, 3) := by decide +kernel
theorem dX10_measure_120 : decode cX10_measure 120 = .ok (.iconst 1, 1) := by decide +kernel
theorem dX10_measure_121 : decode cX10_measure 121 = .ok (.istore 6, 2) := by decide +kernel
theorem dX10_measure_123 : decode cX10_measure 123 = .ok (.iinc 8 1, 3) := by decide +kernel
theorem dX10_measure_126 : decode cX10_measure 126 = .ok (.goto (-55), 3) := by decide +kernel
theorem dX10_measure_129 : decode cX10_measure 129 = .ok (.iinc 7 1, 3) := by decide +kernel
theorem dX10_measure_132 : decode cX10_measure 132 = .ok (.goto (-79), 3) := by decide +kernel
theorem dX10_measure_135 : decode cX10_measure 135 = .ok (.return_, 1) := by decide +kernel
theorem dX10_leastBehind_0 : decode cX10_leastBehind 0 = .ok (.ldc 107, 2) := by decide +kernel
theorem dX10_leastBehind_2 : decode cX10_leastBehind 2 = .ok (.istore 5, 2) := by decide +kernel
theorem dX10_leastBehind_4 : decode cX10_leastBehind 4 = .ok (.iconst 0, 1) := by decide +kernel
theorem dX10_leastBehind_5 : decode cX10_leastBehind 5 = .ok (.istore 6, 2) := by decide +kernel
theorem dX10_leastBehind_7 : decode cX10_leastBehind 7 = .ok (.iload 6, 2) := by decide +kernel
theorem dX10_leastBehind_9 : decode cX10_leastBehind 9 = .ok (.aload_n 0, 1) := by decide +kernel
theorem dX10_leastBehind_10 : decode cX10_leastBehind 10 = .ok (.getfield 18, 3) := by decide +kernel
theorem dX10_leastBehind_13 : decode cX10_leastBehind 13 = .ok (.invokevirtual 80, 3) := by decide +kernel
theorem dX10_leastBehind_16 : decode cX10_leastBehind 16 = .ok (.if_icmp .ge 94, 3) := by decide +kernel
theorem dX10_leastBehind_19 : decode cX10_leastBehind 19 = .ok (.aload_n 0, 1) := by decide +kernel
theorem dX10_leastBehind_20 : decode cX10_leastBehind 20 = .ok (.iload_n 1, 1) := by decide +kernel
theorem dX10_leastBehind_21 : decode cX10_leastBehind 21 = .ok (.iload 6, 2) := by decide +kernel
theorem dX10_leastBehind_23 : decode cX10_leastBehind 23 = .ok (.invokevirtual 50, 3) := by decide +kernel
theorem dX10_leastBehind_26 : decode cX10_leastBehind 26 = .ok (.istore 7, 2) := by decide +kernel
theorem dX10_leastBehind_28 : decode cX10_leastBehind 28 = .ok (.iload_n 2, 1) := by decide +kernel
theorem dX10_leastBehind_29 : decode cX10_leastBehind 29 = .ok (.iload 6, 2) := by decide +kernel
theorem dX10_leastBehind_31 : decode cX10_leastBehind 31 = .ok (.invokestatic 76, 3) := by decide +kernel
theorem dX10_leastBehind_34 : decode cX10_leastBehind 34 = .ok (.ifCond .eq 70, 3) := by decide +kernel
theorem dX10_leastBehind_37 : decode cX10_leastBehind 37 = .ok (.iload 4, 2) := by decide +kernel
theorem dX10_leastBehind_39 : decode cX10_leastBehind 39 = .ok (.iload 7, 2) := by decide +kernel
theorem dX10_leastBehind_41 : decode cX10_leastBehind 41 = .ok (.invokestatic 76, 3) := by decide +kernel
theorem dX10_leastBehind_44 : decode cX10_leastBehind 44 = .ok (.ifCond .ne 60, 3) := by decide +kernel
theorem dX10_leastBehind_47 : decode cX10_leastBehind 47 = .ok (.aload_n 0, 1) := by decide +kernel
theorem dX10_leastBehind_48 : decode cX10_leastBehind 48 = .ok (.getfield 9, 3) := by decide +kernel
theorem dX10_leastBehind_51 : decode cX10_leastBehind 51 = .ok (.iload 7, 2) := by decide +kernel
theorem dX10_leastBehind_53 : decode cX10_leastBehind 53 = .ok (.invokestatic 116, 3) := by decide +kernel
theorem dX10_leastBehind_56 : decode cX10_leastBehind 56 = .ok (.ldc 107, 2) := by decide +kernel
theorem dX10_leastBehind_58 : decode cX10_leastBehind 58 = .ok (.if_icmp .ge 46, 3) := by decide +kernel
theorem dX10_leastBehind_61 : decode cX10_leastBehind 61 = .ok (.iload_n 3, 1) := by decide +kernel
theorem dX10_leastBehind_62 : decode cX10_leastBehind 62 = .ok (.iconst 1, 1) := by decide +kernel
theorem dX10_leastBehind_63 : decode cX10_leastBehind 63 = .ok (.if_icmp .ne 13, 3) := by decide +kernel
theorem dX10_leastBehind_66 : decode cX10_leastBehind 66 = .ok (.aload_n 0, 1) := by decide +kernel
theorem dX10_leastBehind_67 : decode cX10_leastBehind 67 = .ok (.iload_n 1, 1) := by decide +kernel
theorem dX10_leastBehind_68 : decode cX10_leastBehind 68 = .ok (.iload 6, 2) := by decide +kernel
theorem dX10_leastBehind_70 : decode cX10_leastBehind 70 = .ok (.invokevirtual 120, 3) := by decide +kernel
theorem dX10_leastBehind_73 : decode cX10_leastBehind 73 = .ok (.goto 10, 3) := by decide +kernel
theorem dX10_leastBehind_76 : decode cX10_leastBehind 76 = .ok (.aload_n 0, 1) := by decide +kernel
theorem dX10_leastBehind_77 : decode cX10_leastBehind 77 = .ok (.iload_n 1, 1) := by decide +kernel
theorem dX10_leastBehind_78 : decode cX10_leastBehind 78 = .ok (.iload 6, 2) := by decide +kernel
theorem dX10_leastBehind_80 : decode cX10_leastBehind 80 = .ok (.invokevirtual 41, 3) := by decide +kernel
theorem dX10_leastBehind_83 : decode cX10_leastBehind 83 = .ok (.istore 8, 2) := by decide +kernel
theorem dX10_leastBehind_85 : decode cX10_leastBehind 85 = .ok (.iload 5, 2) := by decide +kernel
theorem dX10_leastBehind_87 : decode cX10_leastBehind 87 = .ok (.iload 8, 2) := by decide +kernel
theorem dX10_leastBehind_89 : decode cX10_leastBehind 89 = .ok (.aload_n 0, 1) := by decide +kernel
theorem dX10_leastBehind_90 : decode cX10_leastBehind 90 = .ok (.getfield 9, 3) := by decide +kernel
theorem dX10_leastBehind_93 : decode cX10_leastBehind 93 = .ok (.iload 7, 2) := by decide +kernel
theorem dX10_leastBehind_95 : decode cX10_leastBehind 95 = .ok (.invokestatic 116, 3) := by decide +kernel
theorem dX10_leastBehind_98 : decode cX10_leastBehind 98 = .ok (.iadd, 1) := by decide +kernel
theorem dX10_leastBehind_99 : decode cX10_leastBehind 99 = .ok (.invokestatic 61, 3) := by decide +kernel
theorem dX10_leastBehind_102 : decode cX10_leastBehind 102 = .ok (.istore 5, 2) := by decide +kernel
theorem dX10_leastBehind_104 : decode cX10_leastBehind 104 = .ok (.iinc 6 1, 3) := by decide +kernel
theorem dX10_leastBehind_107 : decode cX10_leastBehind 107 = .ok (.goto (-100), 3) := by decide +kernel
theorem dX10_leastBehind_110 : decode cX10_leastBehind 110 = .ok (.iload 5, 2) := by decide +kernel
theorem dX10_leastBehind_112 : decode cX10_leastBehind 112 = .ok (.ireturn, 1) := by decide +kernel
theorem dX10_farFrom_0 : decode cX10_farFrom 0 = .ok (.aload_n 0, 1) := by decide +kernel
theorem dX10_farFrom_1 : decode cX10_farFrom 1 = .ok (.getfield 9, 3) := by decide +kernel
theorem dX10_farFrom_4 : decode cX10_farFrom 4 = .ok (.iload_n 1, 1) := by decide +kernel
theorem dX10_farFrom_5 : decode cX10_farFrom 5 = .ok (.invokestatic 116, 3) := by decide +kernel
theorem dX10_farFrom_8 : decode cX10_farFrom 8 = .ok (.ldc 107, 2) := by decide +kernel
theorem dX10_farFrom_10 : decode cX10_farFrom 10 = .ok (.if_icmp .ge 14, 3) := by decide +kernel
theorem dX10_farFrom_13 : decode cX10_farFrom 13 = .ok (.aload_n 0, 1) := by decide +kernel
theorem dX10_farFrom_14 : decode cX10_farFrom 14 = .ok (.getfield 9, 3) := by decide +kernel
theorem dX10_farFrom_17 : decode cX10_farFrom 17 = .ok (.iload_n 1, 1) := by decide +kernel
theorem dX10_farFrom_18 : decode cX10_farFrom 18 = .ok (.invokestatic 116, 3) := by decide +kernel
theorem dX10_farFrom_21 : decode cX10_farFrom 21 = .ok (.goto 4, 3) := by decide +kernel
theorem dX10_farFrom_24 : decode cX10_farFrom 24 = .ok (.iconst (-1), 1) := by decide +kernel
theorem dX10_farFrom_25 : decode cX10_farFrom 25 = .ok (.ireturn, 1) := by decide +kernel
theorem dX10_fewestHours_0 : decode cX10_fewestHours 0 = .ok (.aload_n 0, 1) := by decide +kernel
theorem dX10_fewestHours_1 : decode cX10_fewestHours 1 = .ok (.iload_n 2, 1) := by decide +kernel
theorem dX10_fewestHours_2 : decode cX10_fewestHours 2 = .ok (.iload_n 3, 1) := by decide +kernel
theorem dX10_fewestHours_3 : decode cX10_fewestHours 3 = .ok (.iconst 0, 1) := by decide +kernel
theorem dX10_fewestHours_4 : decode cX10_fewestHours 4 = .ok (.iconst 0, 1) := by decide +kernel
theorem dX10_fewestHours_5 : decode cX10_fewestHours 5 = .ok (.invokevirtual 123, 3) := by decide +kernel
theorem dX10_fewestHours_8 : decode cX10_fewestHours 8 = .ok (.aload_n 0, 1) := by decide +kernel
theorem dX10_fewestHours_9 : decode cX10_fewestHours 9 = .ok (.iload_n 1, 1) := by decide +kernel
theorem dX10_fewestHours_10 : decode cX10_fewestHours 10 = .ok (.invokevirtual 127, 3) := by decide +kernel
theorem dX10_fewestHours_13 : decode cX10_fewestHours 13 = .ok (.ireturn, 1) := by decide +kernel
theorem dX10_firstOfSoonest_0 : decode cX10_firstOfSoonest 0 = .ok (.aload_n 0, 1) := by decide +kernel
theorem dX10_firstOfSoonest_1 : decode cX10_firstOfSoonest 1 = .ok (.iload_n 2, 1) := by decide +kernel
theorem dX10_firstOfSoonest_2 : decode cX10_firstOfSoonest 2 = .ok (.iload_n 3, 1) := by decide +kernel
theorem dX10_firstOfSoonest_3 : decode cX10_firstOfSoonest 3 = .ok (.iconst 0, 1) := by decide +kernel
theorem dX10_firstOfSoonest_4 : decode cX10_firstOfSoonest 4 = .ok (.iconst 0, 1) := by decide +kernel
theorem dX10_firstOfSoonest_5 : decode cX10_firstOfSoonest 5 = .ok (.invokevirtual 123, 3) := by decide +kernel
theorem dX10_firstOfSoonest_8 : decode cX10_firstOfSoonest 8 = .ok (.iconst 0, 1) := by decide +kernel
theorem dX10_firstOfSoonest_9 : decode cX10_firstOfSoonest 9 = .ok (.istore 4, 2) := by decide +kernel
theorem dX10_firstOfSoonest_11 : decode cX10_firstOfSoonest 11 = .ok (.iload 4, 2) := by decide +kernel
theorem dX10_firstOfSoonest_13 : decode cX10_firstOfSoonest 13 = .ok (.aload_n 0, 1) := by decide +kernel
theorem dX10_firstOfSoonest_14 : decode cX10_firstOfSoonest 14 = .ok (.getfield 18, 3) := by decide +kernel
theorem dX10_firstOfSoonest_17 : decode cX10_firstOfSoonest 17 = .ok (.invokevirtual 80, 3) := by decide +kernel
theorem dX10_firstOfSoonest_20 : decode cX10_firstOfSoonest 20 = .ok (.if_icmp .ge 63, 3) := by decide +kernel
theorem dX10_firstOfSoonest_23 : decode cX10_firstOfSoonest 23 = .ok (.iload_n 1, 1) := by decide +kernel
theorem dX10_firstOfSoonest_24 : decode cX10_firstOfSoonest 24 = .ok (.iload_n 2, 1) := by decide +kernel
theorem dX10_firstOfSoonest_25 : decode cX10_firstOfSoonest 25 = .ok (.if_icmp .eq 58, 3) := by decide +kernel
theorem dX10_firstOfSoonest_28 : decode cX10_firstOfSoonest 28 = .ok (.aload_n 0, 1) := by decide +kernel
theorem dX10_firstOfSoonest_29 : decode cX10_firstOfSoonest 29 = .ok (.getfield 9, 3) := by decide +kernel
theorem dX10_firstOfSoonest_32 : decode cX10_firstOfSoonest 32 = .ok (.aload_n 0, 1) := by decide +kernel
theorem dX10_firstOfSoonest_33 : decode cX10_firstOfSoonest 33 = .ok (.iload_n 1, 1) := by decide +kernel
theorem dX10_firstOfSoonest_34 : decode cX10_firstOfSoonest 34 = .ok (.iload 4, 2) := by decide +kernel
theorem dX10_firstOfSoonest_36 : decode cX10_firstOfSoonest 36 = .ok (.invokevirtual 50, 3) := by decide +kernel
theorem dX10_firstOfSoonest_39 : decode cX10_firstOfSoonest 39 = .ok (.invokestatic 116, 3) := by decide +kernel
theorem dX10_firstOfSoonest_42 : decode cX10_firstOfSoonest 42 = .ok (.istore 5, 2) := by decide +kernel
theorem dX10_firstOfSoonest_44 : decode cX10_firstOfSoonest 44 = .ok (.iload_n 3, 1) := by decide +kernel
theorem dX10_firstOfSoonest_45 : decode cX10_firstOfSoonest 45 = .ok (.iload 4, 2) := by decide +kernel
theorem dX10_firstOfSoonest_47 : decode cX10_firstOfSoonest 47 = .ok (.invokestatic 76, 3) := by decide +kernel
theorem dX10_firstOfSoonest_50 : decode cX10_firstOfSoonest 50 = .ok (.ifCond .eq 27, 3) := by decide +kernel
theorem dX10_firstOfSoonest_53 : decode cX10_firstOfSoonest 53 = .ok (.aload_n 0, 1) := by decide +kernel
theorem dX10_firstOfSoonest_54 : decode cX10_firstOfSoonest 54 = .ok (.iload_n 1, 1) := by decide +kernel
theorem dX10_firstOfSoonest_55 : decode cX10_firstOfSoonest 55 = .ok (.iload 4, 2) := by decide +kernel
theorem dX10_firstOfSoonest_57 : decode cX10_firstOfSoonest 57 = .ok (.invokevirtual 41, 3) := by decide +kernel
theorem dX10_firstOfSoonest_60 : decode cX10_firstOfSoonest 60 = .ok (.iload 5, 2) := by decide +kernel
theorem dX10_firstOfSoonest_62 : decode cX10_firstOfSoonest 62 = .ok (.iadd, 1) := by decide +kernel
theorem dX10_firstOfSoonest_63 : decode cX10_firstOfSoonest 63 = .ok (.aload_n 0, 1) := by decide +kernel
theorem dX10_firstOfSoonest_64 : decode cX10_firstOfSoonest 64 = .ok (.getfield 9, 3) := by decide +kernel
theorem dX10_firstOfSoonest_67 : decode cX10_firstOfSoonest 67 = .ok (.iload_n 1, 1) := by decide +kernel
theorem dX10_firstOfSoonest_68 : decode cX10_firstOfSoonest 68 = .ok (.invokestatic 116, 3) := by decide +kernel
theorem dX10_firstOfSoonest_71 : decode cX10_firstOfSoonest 71 = .ok (.if_icmp .ne 6, 3) := by decide +kernel
theorem dX10_firstOfSoonest_74 : decode cX10_firstOfSoonest 74 = .ok (.iload 4, 2) := by decide +kernel
theorem dX10_firstOfSoonest_76 : decode cX10_firstOfSoonest 76 = .ok (.ireturn, 1) := by decide +kernel
theorem dX10_firstOfSoonest_77 : decode cX10_firstOfSoonest 77 = .ok (.iinc 4 1, 3) := by decide +kernel
theorem dX10_firstOfSoonest_80 : decode cX10_firstOfSoonest 80 = .ok (.goto (-69), 3) := by decide +kernel
theorem dX10_firstOfSoonest_83 : decode cX10_firstOfSoonest 83 = .ok (.iconst (-1), 1) := by decide +kernel
theorem dX10_firstOfSoonest_84 : decode cX10_firstOfSoonest 84 = .ok (.ireturn, 1) := by decide +kernel
theorem dX10_leastPrices_0 : decode cX10_leastPrices 0 = .ok (.aload_n 0, 1) := by decide +kernel
theorem dX10_leastPrices_1 : decode cX10_leastPrices 1 = .ok (.iload_n 2, 1) := by decide +kernel
theorem dX10_leastPrices_2 : decode cX10_leastPrices 2 = .ok (.iload_n 3, 1) := by decide +kernel
theorem dX10_leastPrices_3 : decode cX10_leastPrices 3 = .ok (.iconst 1, 1) := by decide +kernel
theorem dX10_leastPrices_4 : decode cX10_leastPrices 4 = .ok (.iconst 0, 1) := by decide +kernel
theorem dX10_leastPrices_5 : decode cX10_leastPrices 5 = .ok (.invokevirtual 123, 3) := by decide +kernel
theorem dX10_leastPrices_8 : decode cX10_leastPrices 8 = .ok (.aload_n 0, 1) := by decide +kernel
theorem dX10_leastPrices_9 : decode cX10_leastPrices 9 = .ok (.iload_n 1, 1) := by decide +kernel
theorem dX10_leastPrices_10 : decode cX10_leastPrices 10 = .ok (.invokevirtual 127, 3) := by decide +kernel
theorem dX10_leastPrices_13 : decode cX10_leastPrices 13 = .ok (.ireturn, 1) := by decide +kernel
theorem dX10_guarded_0 : decode cX10_guarded 0 = .ok (.iconst 0, 1) := by decide +kernel
theorem dX10_guarded_1 : decode cX10_guarded 1 = .ok (.istore_n 1, 1) := by decide +kernel
theorem dX10_guarded_2 : decode cX10_guarded 2 = .ok (.iconst 0, 1) := by decide +kernel
theorem dX10_guarded_3 : decode cX10_guarded 3 = .ok (.istore_n 2, 1) := by decide +kernel
theorem dX10_guarded_4 : decode cX10_guarded 4 = .ok (.iload_n 2, 1) := by decide +kernel
theorem dX10_guarded_5 : decode cX10_guarded 5 = .ok (.aload_n 0, 1) := by decide +kernel
theorem dX10_guarded_6 : decode cX10_guarded 6 = .ok (.getfield 18, 3) := by decide +kernel
theorem dX10_guarded_9 : decode cX10_guarded 9 = .ok (.invokevirtual 89, 3) := by decide +kernel
theorem dX10_guarded_12 : decode cX10_guarded 12 = .ok (.if_icmp .ge 30, 3) := by decide +kernel
theorem dX10_guarded_15 : decode cX10_guarded 15 = .ok (.iload_n 1, 1) := by decide +kernel
theorem dX10_guarded_16 : decode cX10_guarded 16 = .ok (.aload_n 0, 1) := by decide +kernel
theorem dX10_guarded_17 : decode cX10_guarded 17 = .ok (.getfield 26, 3) := by decide +kernel
theorem dX10_guarded_20 : decode cX10_guarded 20 = .ok (.iload_n 2, 1) := by decide +kernel
theorem dX10_guarded_21 : decode cX10_guarded 21 = .ok (.invokevirtual 53, 3) := by decide +kernel
theorem dX10_guarded_24 : decode cX10_guarded 24 = .ok (.ifCond .le 9, 3) := by decide +kernel
theorem dX10_guarded_27 : decode cX10_guarded 27 = .ok (.iconst 1, 1) := by decide +kernel
theorem dX10_guarded_28 : decode cX10_guarded 28 = .ok (.iload_n 2, 1) := by decide +kernel
theorem dX10_guarded_29 : decode cX10_guarded 29 = .ok (.ishl, 1) := by decide +kernel
theorem dX10_guarded_30 : decode cX10_guarded 30 = .ok (.goto 4, 3) := by decide +kernel
theorem dX10_guarded_33 : decode cX10_guarded 33 = .ok (.iconst 0, 1) := by decide +kernel
theorem dX10_guarded_34 : decode cX10_guarded 34 = .ok (.ior, 1) := by decide +kernel
theorem dX10_guarded_35 : decode cX10_guarded 35 = .ok (.istore_n 1, 1) := by decide +kernel
theorem dX10_guarded_36 : decode cX10_guarded 36 = .ok (.iinc 2 1, 3) := by decide +kernel
theorem dX10_guarded_39 : decode cX10_guarded 39 = .ok (.goto (-35), 3) := by decide +kernel
theorem dX10_guarded_42 : decode cX10_guarded 42 = .ok (.iload_n 1, 1) := by decide +kernel
theorem dX10_guarded_43 : decode cX10_guarded 43 = .ok (.ireturn, 1) := by decide +kernel
theorem dX10_fewestHoursUnseen_0 : decode cX10_fewestHoursUnseen 0 = .ok (.aload_n 0, 1) := by decide +kernel
theorem dX10_fewestHoursUnseen_1 : decode cX10_fewestHoursUnseen 1 = .ok (.iload_n 2, 1) := by decide +kernel
theorem dX10_fewestHoursUnseen_2 : decode cX10_fewestHoursUnseen 2 = .ok (.aload_n 0, 1) := by decide +kernel
theorem dX10_fewestHoursUnseen_3 : decode cX10_fewestHoursUnseen 3 = .ok (.getfield 18, 3) := by decide +kernel
theorem dX10_fewestHoursUnseen_6 : decode cX10_fewestHoursUnseen 6 = .ok (.invokevirtual 92, 3) := by decide +kernel
theorem dX10_fewestHoursUnseen_9 : decode cX10_fewestHoursUnseen 9 = .ok (.iconst 0, 1) := by decide +kernel
theorem dX10_fewestHoursUnseen_10 : decode cX10_fewestHoursUnseen 10 = .ok (.aload_n 0, 1) := by decide +kernel
theorem dX10_fewestHoursUnseen_11 : decode cX10_fewestHoursUnseen 11 = .ok (.invokevirtual 130, 3) := by decide +kernel
theorem dX10_fewestHoursUnseen_14 : decode cX10_fewestHoursUnseen 14 = .ok (.invokevirtual 123, 3) := by decide +kernel
theorem dX10_fewestHoursUnseen_17 : decode cX10_fewestHoursUnseen 17 = .ok (.aload_n 0, 1) := by decide +kernel
theorem dX10_fewestHoursUnseen_18 : decode cX10_fewestHoursUnseen 18 = .ok (.iload_n 1, 1) := by decide +kernel
theorem dX10_fewestHoursUnseen_19 : decode cX10_fewestHoursUnseen 19 = .ok (.invokevirtual 127, 3) := by decide +kernel
theorem dX10_fewestHoursUnseen_22 : decode cX10_fewestHoursUnseen 22 = .ok (.ireturn, 1) := by decide +kernel
theorem dX10_fewestPosts_0 : decode cX10_fewestPosts 0 = .ok (.aload_n 0, 1) := by decide +kernel
theorem dX10_fewestPosts_1 : decode cX10_fewestPosts 1 = .ok (.invokevirtual 130, 3) := by decide +kernel
theorem dX10_fewestPosts_4 : decode cX10_fewestPosts 4 = .ok (.istore_n 3, 1) := by decide +kernel
theorem dX10_fewestPosts_5 : decode cX10_fewestPosts 5 = .ok (.iconst 1, 1) := by decide +kernel
theorem dX10_fewestPosts_6 : decode cX10_fewestPosts 6 = .ok (.iload_n 1, 1) := by decide +kernel
theorem dX10_fewestPosts_7 : decode cX10_fewestPosts 7 = .ok (.ishl, 1) := by decide +kernel
theorem dX10_fewestPosts_8 : decode cX10_fewestPosts 8 = .ok (.iconst 1, 1) := by decide +kernel
theorem dX10_fewestPosts_9 : decode cX10_fewestPosts 9 = .ok (.iload_n 2, 1) := by decide +kernel
theorem dX10_fewestPosts_10 : decode cX10_fewestPosts 10 = .ok (.ishl, 1) := by decide +kernel
theorem dX10_fewestPosts_11 : decode cX10_fewestPosts 11 = .ok (.ior, 1) := by decide +kernel
theorem dX10_fewestPosts_12 : decode cX10_fewestPosts 12 = .ok (.istore 4, 2) := by decide +kernel
theorem dX10_fewestPosts_14 : decode cX10_fewestPosts 14 = .ok (.aload_n 0, 1) := by decide +kernel
theorem dX10_fewestPosts_15 : decode cX10_fewestPosts 15 = .ok (.invokevirtual 133, 3) := by decide +kernel
theorem dX10_fewestPosts_18 : decode cX10_fewestPosts 18 = .ok (.iconst 0, 1) := by decide +kernel
theorem dX10_fewestPosts_19 : decode cX10_fewestPosts 19 = .ok (.istore 5, 2) := by decide +kernel
theorem dX10_fewestPosts_21 : decode cX10_fewestPosts 21 = .ok (.iload 5, 2) := by decide +kernel
theorem dX10_fewestPosts_23 : decode cX10_fewestPosts 23 = .ok (.aload_n 0, 1) := by decide +kernel
theorem dX10_fewestPosts_24 : decode cX10_fewestPosts 24 = .ok (.getfield 18, 3) := by decide +kernel
theorem dX10_fewestPosts_27 : decode cX10_fewestPosts 27 = .ok (.invokevirtual 89, 3) := by decide +kernel
theorem dX10_fewestPosts_30 : decode cX10_fewestPosts 30 = .ok (.if_icmp .gt 66, 3) := by decide +kernel
theorem dX10_fewestPosts_33 : decode cX10_fewestPosts 33 = .ok (.iconst 0, 1) := by decide +kernel
theorem dX10_fewestPosts_34 : decode cX10_fewestPosts 34 = .ok (.istore 6, 2) := by decide +kernel
theorem dX10_fewestPosts_36 : decode cX10_fewestPosts 36 = .ok (.iload 6, 2) := by decide +kernel
theorem dX10_fewestPosts_38 : decode cX10_fewestPosts 38 = .ok (.iconst 1, 1) := by decide +kernel
theorem dX10_fewestPosts_39 : decode cX10_fewestPosts 39 = .ok (.aload_n 0, 1) := by decide +kernel
theorem dX10_fewestPosts_40 : decode cX10_fewestPosts 40 = .ok (.getfield 18, 3) := by decide +kernel
theorem dX10_fewestPosts_43 : decode cX10_fewestPosts 43 = .ok (.invokevirtual 89, 3) := by decide +kernel
theorem dX10_fewestPosts_46 : decode cX10_fewestPosts 46 = .ok (.ishl, 1) := by decide +kernel
theorem dX10_fewestPosts_47 : decode cX10_fewestPosts 47 = .ok (.if_icmp .ge 43, 3) := by decide +kernel
theorem dX10_fewestPosts_50 : decode cX10_fewestPosts 50 = .ok (.iload 6, 2) := by decide +kernel
theorem dX10_fewestPosts_52 : decode cX10_fewestPosts 52 = .ok (.invokestatic 95, 3) := by decide +kernel
theorem dX10_fewestPosts_55 : decode cX10_fewestPosts 55 = .ok (.iload 5, 2) := by decide +kernel
theorem dX10_fewestPosts_57 : decode cX10_fewestPosts 57 = .ok (.if_icmp .ne 27, 3) := by decide +kernel
theorem dX10_fewestPosts_60 : decode cX10_fewestPosts 60 = .ok (.iload 6, 2) := by decide +kernel
theorem dX10_fewestPosts_62 : decode cX10_fewestPosts 62 = .ok (.iload 4, 2) := by decide +kernel
theorem dX10_fewestPosts_64 : decode cX10_fewestPosts 64 = .ok (.iand, 1) := by decide +kernel
theorem dX10_fewestPosts_65 : decode cX10_fewestPosts 65 = .ok (.ifCond .ne 19, 3) := by decide +kernel
theorem dX10_fewestPosts_68 : decode cX10_fewestPosts 68 = .ok (.aload_n 0, 1) := by decide +kernel
theorem dX10_fewestPosts_69 : decode cX10_fewestPosts 69 = .ok (.iload_n 1, 1) := by decide +kernel
theorem dX10_fewestPosts_70 : decode cX10_fewestPosts 70 = .ok (.iload_n 2, 1) := by decide +kernel
theorem dX10_fewestPosts_71 : decode cX10_fewestPosts 71 = .ok (.iload_n 3, 1) := by decide +kernel
theorem dX10_fewestPosts_72 : decode cX10_fewestPosts 72 = .ok (.iload 6, 2) := by decide +kernel
theorem dX10_fewestPosts_74 : decode cX10_fewestPosts 74 = .ok (.ior, 1) := by decide +kernel
theorem dX10_fewestPosts_75 : decode cX10_fewestPosts 75 = .ok (.invokevirtual 136, 3) := by decide +kernel
theorem dX10_fewestPosts_78 : decode cX10_fewestPosts 78 = .ok (.ifCond .ne 6, 3) := by decide +kernel
theorem dX10_fewestPosts_81 : decode cX10_fewestPosts 81 = .ok (.iload 6, 2) := by decide +kernel
theorem dX10_fewestPosts_83 : decode cX10_fewestPosts 83 = .ok (.ireturn, 1) := by decide +kernel
theorem dX10_fewestPosts_84 : decode cX10_fewestPosts 84 = .ok (.iinc 6 1, 3) := by decide +kernel
theorem dX10_fewestPosts_87 : decode cX10_fewestPosts 87 = .ok (.goto (-51), 3) := by decide +kernel
theorem dX10_fewestPosts_90 : decode cX10_fewestPosts 90 = .ok (.iinc 5 1, 3) := by decide +kernel
theorem dX10_fewestPosts_93 : decode cX10_fewestPosts 93 = .ok (.goto (-72), 3) := by decide +kernel
theorem dX10_fewestPosts_96 : decode cX10_fewestPosts 96 = .ok (.iconst (-1), 1) := by decide +kernel
theorem dX10_fewestPosts_97 : decode cX10_fewestPosts 97 = .ok (.ireturn, 1) := by decide +kernel
theorem dX10_fillNexts_0 : decode cX10_fillNexts 0 = .ok (.iconst 0, 1) := by decide +kernel
theorem dX10_fillNexts_1 : decode cX10_fillNexts 1 = .ok (.istore_n 1, 1) := by decide +kernel
theorem dX10_fillNexts_2 : decode cX10_fillNexts 2 = .ok (.iload_n 1, 1) := by decide +kernel
theorem dX10_fillNexts_3 : decode cX10_fillNexts 3 = .ok (.aload_n 0, 1) := by decide +kernel
theorem dX10_fillNexts_4 : decode cX10_fillNexts 4 = .ok (.getfield 18, 3) := by decide +kernel
theorem dX10_fillNexts_7 : decode cX10_fillNexts 7 = .ok (.invokevirtual 89, 3) := by decide +kernel
theorem dX10_fillNexts_10 : decode cX10_fillNexts 10 = .ok (.if_icmp .ge 31, 3) := by decide +kernel
theorem dX10_fillNexts_13 : decode cX10_fillNexts 13 = .ok (.aload_n 0, 1) := by decide +kernel
theorem dX10_fillNexts_14 : decode cX10_fillNexts 14 = .ok (.getfield 15, 3) := by decide +kernel
theorem dX10_fillNexts_17 : decode cX10_fillNexts 17 = .ok (.iload_n 1, 1) := by decide +kernel
theorem dX10_fillNexts_18 : decode cX10_fillNexts 18 = .ok (.aload_n 0, 1) := by decide +kernel
theorem dX10_fillNexts_19 : decode cX10_fillNexts 19 = .ok (.iconst 1, 1) := by decide +kernel
theorem dX10_fillNexts_20 : decode cX10_fillNexts 20 = .ok (.iload_n 1, 1) := by decide +kernel
theorem dX10_fillNexts_21 : decode cX10_fillNexts 21 = .ok (.ishl, 1) := by decide +kernel
theorem dX10_fillNexts_22 : decode cX10_fillNexts 22 = .ok (.aload_n 0, 1) := by decide +kernel
theorem dX10_fillNexts_23 : decode cX10_fillNexts 23 = .ok (.getfield 18, 3) := by decide +kernel
theorem dX10_fillNexts_26 : decode cX10_fillNexts 26 = .ok (.invokevirtual 92, 3) := by decide +kernel
theorem dX10_fillNexts_29 : decode cX10_fillNexts 29 = .ok (.invokevirtual 86, 3) := by decide +kernel
theorem dX10_fillNexts_32 : decode cX10_fillNexts 32 = .ok (.invokestatic 108, 3) := by decide +kernel
theorem dX10_fillNexts_35 : decode cX10_fillNexts 35 = .ok (.iinc 1 1, 3) := by decide +kernel
theorem dX10_fillNexts_38 : decode cX10_fillNexts 38 = .ok (.goto (-36), 3) := by decide +kernel
theorem dX10_fillNexts_41 : decode cX10_fillNexts 41 = .ok (.return_, 1) := by decide +kernel
theorem dX10_sneaks_0 : decode cX10_sneaks 0 = .ok (.aload_n 0, 1) := by decide +kernel
theorem dX10_sneaks_1 : decode cX10_sneaks 1 = .ok (.getfield 15, 3) := by decide +kernel
theorem dX10_sneaks_4 : decode cX10_sneaks 4 = .ok (.iload_n 1, 1) := by decide +kernel
theorem dX10_sneaks_5 : decode cX10_sneaks 5 = .ok (.invokestatic 116, 3) := by decide +kernel
theorem dX10_sneaks_8 : decode cX10_sneaks 8 = .ok (.istore 4, 2) := by decide +kernel
theorem dX10_sneaks_10 : decode cX10_sneaks 10 = .ok (.iconst 0, 1) := by decide +kernel
theorem dX10_sneaks_11 : decode cX10_sneaks 11 = .ok (.istore 5, 2) := by decide +kernel
theorem dX10_sneaks_13 : decode cX10_sneaks 13 = .ok (.iload 5, 2) := by decide +kernel
theorem dX10_sneaks_15 : decode cX10_sneaks 15 = .ok (.bipush 8, 2) := by decide +kernel
theorem dX10_sneaks_17 : decode cX10_sneaks 17 = .ok (.if_icmp .ge 71, 3) := by decide +kernel
theorem dX10_sneaks_20 : decode cX10_sneaks 20 = .ok (.iload 4, 2) := by decide +kernel
theorem dX10_sneaks_22 : decode cX10_sneaks 22 = .ok (.iload_n 2, 1) := by decide +kernel
theorem dX10_sneaks_23 : decode cX10_sneaks 23 = .ok (.invokestatic 76, 3) := by decide +kernel
theorem dX10_sneaks_26 : decode cX10_sneaks 26 = .ok (.ifCond .ne 62, 3) := by decide +kernel
theorem dX10_sneaks_29 : decode cX10_sneaks 29 = .ok (.iconst 0, 1) := by decide +kernel
theorem dX10_sneaks_30 : decode cX10_sneaks 30 = .ok (.istore 6, 2) := by decide +kernel
theorem dX10_sneaks_32 : decode cX10_sneaks 32 = .ok (.iload 6, 2) := by decide +kernel
theorem dX10_sneaks_34 : decode cX10_sneaks 34 = .ok (.aload_n 0, 1) := by decide +kernel
theorem dX10_sneaks_35 : decode cX10_sneaks 35 = .ok (.getfield 18, 3) := by decide +kernel
theorem dX10_sneaks_38 : decode cX10_sneaks 38 = .ok (.invokevirtual 89, 3) := by decide +kernel
theorem dX10_sneaks_41 : decode cX10_sneaks 41 = .ok (.if_icmp .ge 41, 3) := by decide +kernel
theorem dX10_sneaks_44 : decode cX10_sneaks 44 = .ok (.iload 4, 2) := by decide +kernel
theorem dX10_sneaks_46 : decode cX10_sneaks 46 = .ok (.iload 4, 2) := by decide +kernel
theorem dX10_sneaks_48 : decode cX10_sneaks 48 = .ok (.iload_n 3, 1) := by decide +kernel
theorem dX10_sneaks_49 : decode cX10_sneaks 49 = .ok (.iconst (-1), 1) := by decide +kernel
theorem dX10_sneaks_50 : decode cX10_sneaks 50 = .ok (.ixor, 1) := by decide +kernel
theorem dX10_sneaks_51 : decode cX10_sneaks 51 = .ok (.iand, 1) := by decide +kernel
theorem dX10_sneaks_52 : decode cX10_sneaks 52 = .ok (.iload 6, 2) := by decide +kernel
theorem dX10_sneaks_54 : decode cX10_sneaks 54 = .ok (.invokestatic 76, 3) := by decide +kernel
theorem dX10_sneaks_57 : decode cX10_sneaks 57 = .ok (.ifCond .eq 15, 3) := by decide +kernel
theorem dX10_sneaks_60 : decode cX10_sneaks 60 = .ok (.aload_n 0, 1) := by decide +kernel
theorem dX10_sneaks_61 : decode cX10_sneaks 61 = .ok (.getfield 15, 3) := by decide +kernel
theorem dX10_sneaks_64 : decode cX10_sneaks 64 = .ok (.iload 6, 2) := by decide +kernel
theorem dX10_sneaks_66 : decode cX10_sneaks 66 = .ok (.invokestatic 116, 3) := by decide +kernel
theorem dX10_sneaks_69 : decode cX10_sneaks 69 = .ok (.goto 4, 3) := by decide +kernel
theorem dX10_sneaks_72 : decode cX10_sneaks 72 = .ok (.iconst 0, 1) := by decide +kernel
theorem dX10_sneaks_73 : decode cX10_sneaks 73 = .ok (.ior, 1) := by decide +kernel
theorem dX10_sneaks_74 : decode cX10_sneaks 74 = .ok (.istore 4, 2) := by decide +kernel
theorem dX10_sneaks_76 : decode cX10_sneaks 76 = .ok (.iinc 6 1, 3) := by decide +kernel
theorem dX10_sneaks_79 : decode cX10_sneaks 79 = .ok (.goto (-47), 3) := by decide +kernel
theorem dX10_sneaks_82 : decode cX10_sneaks 82 = .ok (.iinc 5 1, 3) := by decide +kernel
theorem dX10_sneaks_85 : decode cX10_sneaks 85 = .ok (.goto (-72), 3) := by decide +kernel
theorem dX10_sneaks_88 : decode cX10_sneaks 88 = .ok (.iload 4, 2) := by decide +kernel
theorem dX10_sneaks_90 : decode cX10_sneaks 90 = .ok (.iload_n 2, 1) := by decide +kernel
theorem dX10_sneaks_91 : decode cX10_sneaks 91 = .ok (.invokestatic 76, 3) := by decide +kernel
theorem dX10_sneaks_94 : decode cX10_sneaks 94 = .ok (.ireturn, 1) := by decide +kernel
theorem dX10_fewestTogether_0 : decode cX10_fewestTogether 0 = .ok (.lconst 1, 1) := by decide +kernel
theorem dX10_fewestTogether_1 : decode cX10_fewestTogether 1 = .ok (.iload_n 1, 1) := by decide +kernel
theorem dX10_fewestTogether_2 : decode cX10_fewestTogether 2 = .ok (.bipush 8, 2) := by decide +kernel
theorem dX10_fewestTogether_4 : decode cX10_fewestTogether 4 = .ok (.imul, 1) := by decide +kernel
theorem dX10_fewestTogether_5 : decode cX10_fewestTogether 5 = .ok (.iload_n 2, 1) := by decide +kernel
theorem dX10_fewestTogether_6 : decode cX10_fewestTogether 6 = .ok (.iadd, 1) := by decide +kernel
theorem dX10_fewestTogether_7 : decode cX10_fewestTogether 7 = .ok (.lshl, 1) := by decide +kernel
theorem dX10_fewestTogether_8 : decode cX10_fewestTogether 8 = .ok (.lstore 4, 2) := by decide +kernel
theorem dX10_fewestTogether_10 : decode cX10_fewestTogether 10 = .ok (.lload 4, 2) := by decide +kernel
theorem dX10_fewestTogether_12 : decode cX10_fewestTogether 12 = .ok (.lstore 6, 2) := by decide +kernel
theorem dX10_fewestTogether_14 : decode cX10_fewestTogether 14 = .ok (.iconst 0, 1) := by decide +kernel
theorem dX10_fewestTogether_15 : decode cX10_fewestTogether 15 = .ok (.istore 8, 2) := by decide +kernel
theorem dX10_fewestTogether_17 : decode cX10_fewestTogether 17 = .ok (.iload 8, 2) := by decide +kernel
theorem dX10_fewestTogether_19 : decode cX10_fewestTogether 19 = .ok (.bipush 64, 2) := by decide +kernel
theorem dX10_fewestTogether_21 : decode cX10_fewestTogether 21 = .ok (.if_icmp .gt 53, 3) := by decide +kernel
theorem dX10_fewestTogether_24 : decode cX10_fewestTogether 24 = .ok (.lload 4, 2) := by decide +kernel
theorem dX10_fewestTogether_26 : decode cX10_fewestTogether 26 = .ok (.lconst 0, 1) := by decide +kernel
theorem dX10_fewestTogether_27 : decode cX10_fewestTogether 27 = .ok (.lcmp, 1) := by decide +kernel
theorem dX10_fewestTogether_28 : decode cX10_fewestTogether 28 = .ok (.ifCond .eq 46, 3) := by decide +kernel
theorem dX10_fewestTogether_31 : decode cX10_fewestTogether 31 = .ok (.lload 4, 2) := by decide +kernel
theorem dX10_fewestTogether_33 : decode cX10_fewestTogether 33 = .ok (.ldc2_w 140, 3) := by decide +kernel
theorem dX10_fewestTogether_36 : decode cX10_fewestTogether 36 = .ok (.land, 1) := by decide +kernel
theorem dX10_fewestTogether_37 : decode cX10_fewestTogether 37 = .ok (.lconst 0, 1) := by decide +kernel
theorem dX10_fewestTogether_38 : decode cX10_fewestTogether 38 = .ok (.lcmp, 1) := by decide +kernel
theorem dX10_fewestTogether_39 : decode cX10_fewestTogether 39 = .ok (.ifCond .eq 6, 3) := by decide +kernel
theorem dX10_fewestTogether_42 : decode cX10_fewestTogether 42 = .ok (.iload 8, 2) := by decide +kernel
theorem dX10_fewestTogether_44 : decode cX10_fewestTogether 44 = .ok (.ireturn, 1) := by decide +kernel
theorem dX10_fewestTogether_45 : decode cX10_fewestTogether 45 = .ok (.aload_n 0, 1) := by decide +kernel
theorem dX10_fewestTogether_46 : decode cX10_fewestTogether 46 = .ok (.lload 4, 2) := by decide +kernel
theorem dX10_fewestTogether_48 : decode cX10_fewestTogether 48 = .ok (.iload_n 3, 1) := by decide +kernel
theorem dX10_fewestTogether_49 : decode cX10_fewestTogether 49 = .ok (.invokevirtual 142, 3) := by decide +kernel
theorem dX10_fewestTogether_52 : decode cX10_fewestTogether 52 = .ok (.lload 6, 2) := by decide +kernel
theorem dX10_fewestTogether_54 : decode cX10_fewestTogether 54 = .ok (.ldc2_w 146, 3) := by decide +kernel
theorem dX10_fewestTogether_57 : decode cX10_fewestTogether 57 = .ok (.lxor, 1) := by decide +kernel
theorem dX10_fewestTogether_58 : decode cX10_fewestTogether 58 = .ok (.land, 1) := by decide +kernel
theorem dX10_fewestTogether_59 : decode cX10_fewestTogether 59 = .ok (.lstore 4, 2) := by decide +kernel
theorem dX10_fewestTogether_61 : decode cX10_fewestTogether 61 = .ok (.lload 6, 2) := by decide +kernel
theorem dX10_fewestTogether_63 : decode cX10_fewestTogether 63 = .ok (.lload 4, 2) := by decide +kernel
theorem dX10_fewestTogether_65 : decode cX10_fewestTogether 65 = .ok (.lor, 1) := by decide +kernel
theorem dX10_fewestTogether_66 : decode cX10_fewestTogether 66 = .ok (.lstore 6, 2) := by decide +kernel
theorem dX10_fewestTogether_68 : decode cX10_fewestTogether 68 = .ok (.iinc 8 1, 3) := by decide +kernel
theorem dX10_fewestTogether_71 : decode cX10_fewestTogether 71 = .ok (.goto (-54), 3) := by decide +kernel
theorem dX10_fewestTogether_74 : decode cX10_fewestTogether 74 = .ok (.iconst (-1), 1) := by decide +kernel
theorem dX10_fewestTogether_75 : decode cX10_fewestTogether 75 = .ok (.ireturn, 1) := by decide +kernel
theorem dX10_pairsBehind_0 : decode cX10_pairsBehind 0 = .ok (.lconst 0, 1) := by decide +kernel
theorem dX10_pairsBehind_1 : decode cX10_pairsBehind 1 = .ok (.lstore 4, 2) := by decide +kernel
theorem dX10_pairsBehind_3 : decode cX10_pairsBehind 3 = .ok (.iconst 0, 1) := by decide +kernel
theorem dX10_pairsBehind_4 : decode cX10_pairsBehind 4 = .ok (.istore 6, 2) := by decide +kernel
theorem dX10_pairsBehind_6 : decode cX10_pairsBehind 6 = .ok (.iload 6, 2) := by decide +kernel
theorem dX10_pairsBehind_8 : decode cX10_pairsBehind 8 = .ok (.bipush 64, 2) := by decide +kernel
theorem dX10_pairsBehind_10 : decode cX10_pairsBehind 10 = .ok (.if_icmp .ge 87, 3) := by decide +kernel
theorem dX10_pairsBehind_13 : decode cX10_pairsBehind 13 = .ok (.iconst 0, 1) := by decide +kernel
theorem dX10_pairsBehind_14 : decode cX10_pairsBehind 14 = .ok (.istore 7, 2) := by decide +kernel
theorem dX10_pairsBehind_16 : decode cX10_pairsBehind 16 = .ok (.iload 7, 2) := by decide +kernel
theorem dX10_pairsBehind_18 : decode cX10_pairsBehind 18 = .ok (.aload_n 0, 1) := by decide +kernel
theorem dX10_pairsBehind_19 : decode cX10_pairsBehind 19 = .ok (.getfield 18, 3) := by decide +kernel
theorem dX10_pairsBehind_22 : decode cX10_pairsBehind 22 = .ok (.invokevirtual 80, 3) := by decide +kernel
theorem dX10_pairsBehind_25 : decode cX10_pairsBehind 25 = .ok (.if_icmp .ge 66, 3) := by decide +kernel
theorem dX10_pairsBehind_28 : decode cX10_pairsBehind 28 = .ok (.lload_n 1, 1) := by decide +kernel
theorem dX10_pairsBehind_29 : decode cX10_pairsBehind 29 = .ok (.iload 6, 2) := by decide +kernel
theorem dX10_pairsBehind_31 : decode cX10_pairsBehind 31 = .ok (.lushr, 1) := by decide +kernel
theorem dX10_pairsBehind_32 : decode cX10_pairsBehind 32 = .ok (.lconst 1, 1) := by decide +kernel
theorem dX10_pairsBehind_33 : decode cX10_pairsBehind 33 = .ok (.land, 1) := by decide +kernel
theorem dX10_pairsBehind_34 : decode cX10_pairsBehind 34 = .ok (.lconst 1, 1) := by decide +kernel
theorem dX10_pairsBehind_35 : decode cX10_pairsBehind 35 = .ok (.lcmp, 1) := by decide +kernel
theorem dX10_pairsBehind_36 : decode cX10_pairsBehind 36 = .ok (.ifCond .ne 55, 3) := by decide +kernel
theorem dX10_pairsBehind_39 : decode cX10_pairsBehind 39 = .ok (.iload_n 3, 1) := by decide +kernel
theorem dX10_pairsBehind_40 : decode cX10_pairsBehind 40 = .ok (.iload 7, 2) := by decide +kernel
theorem dX10_pairsBehind_42 : decode cX10_pairsBehind 42 = .ok (.invokestatic 76, 3) := by decide +kernel
theorem dX10_pairsBehind_45 : decode cX10_pairsBehind 45 = .ok (.ifCond .eq 40, 3) := by decide +kernel
theorem dX10_pairsBehind_48 : decode cX10_pairsBehind 48 = .ok (.aload_n 0, 1) := by decide +kernel
theorem dX10_pairsBehind_49 : decode cX10_pairsBehind 49 = .ok (.iload 6, 2) := by decide +kernel
theorem dX10_pairsBehind_51 : decode cX10_pairsBehind 51 = .ok (.bipush 8, 2) := by decide +kernel
theorem dX10_pairsBehind_53 : decode cX10_pairsBehind 53 = .ok (.idiv, 1) := by decide +kernel
theorem dX10_pairsBehind_54 : decode cX10_pairsBehind 54 = .ok (.iload 7, 2) := by decide +kernel
theorem dX10_pairsBehind_56 : decode cX10_pairsBehind 56 = .ok (.invokevirtual 50, 3) := by decide +kernel
theorem dX10_pairsBehind_59 : decode cX10_pairsBehind 59 = .ok (.istore 8, 2) := by decide +kernel
theorem dX10_pairsBehind_61 : decode cX10_pairsBehind 61 = .ok (.lload 4, 2) := by decide +kernel
theorem dX10_pairsBehind_63 : decode cX10_pairsBehind 63 = .ok (.lconst 1, 1) := by decide +kernel
theorem dX10_pairsBehind_64 : decode cX10_pairsBehind 64 = .ok (.iload 8, 2) := by decide +kernel
theorem dX10_pairsBehind_66 : decode cX10_pairsBehind 66 = .ok (.bipush 8, 2) := by decide +kernel
theorem dX10_pairsBehind_68 : decode cX10_pairsBehind 68 = .ok (.imul, 1) := by decide +kernel
theorem dX10_pairsBehind_69 : decode cX10_pairsBehind 69 = .ok (.aload_n 0, 1) := by decide +kernel
theorem dX10_pairsBehind_70 : decode cX10_pairsBehind 70 = .ok (.iload 6, 2) := by decide +kernel
theorem dX10_pairsBehind_72 : decode cX10_pairsBehind 72 = .ok (.bipush 8, 2) := by decide +kernel
theorem dX10_pairsBehind_74 : decode cX10_pairsBehind 74 = .ok (.irem, 1) := by decide +kernel
theorem dX10_pairsBehind_75 : decode cX10_pairsBehind 75 = .ok (.iload 7, 2) := by decide +kernel
theorem dX10_pairsBehind_77 : decode cX10_pairsBehind 77 = .ok (.invokevirtual 50, 3) := by decide +kernel
theorem dX10_pairsBehind_80 : decode cX10_pairsBehind 80 = .ok (.iadd, 1) := by decide +kernel
theorem dX10_pairsBehind_81 : decode cX10_pairsBehind 81 = .ok (.lshl, 1) := by decide +kernel
theorem dX10_pairsBehind_82 : decode cX10_pairsBehind 82 = .ok (.lor, 1) := by decide +kernel
theorem dX10_pairsBehind_83 : decode cX10_pairsBehind 83 = .ok (.lstore 4, 2) := by decide +kernel
theorem dX10_pairsBehind_85 : decode cX10_pairsBehind 85 = .ok (.iinc 7 1, 3) := by decide +kernel
theorem dX10_pairsBehind_88 : decode cX10_pairsBehind 88 = .ok (.goto (-72), 3) := by decide +kernel
theorem dX10_pairsBehind_91 : decode cX10_pairsBehind 91 = .ok (.iinc 6 1, 3) := by decide +kernel
theorem dX10_pairsBehind_94 : decode cX10_pairsBehind 94 = .ok (.goto (-88), 3) := by decide +kernel
theorem dX10_pairsBehind_97 : decode cX10_pairsBehind 97 = .ok (.lload 4, 2) := by decide +kernel
theorem dX10_pairsBehind_99 : decode cX10_pairsBehind 99 = .ok (.lreturn, 1) := by decide +kernel
theorem dX10_loopsAt_0 : decode cX10_loopsAt 0 = .ok (.iconst 0, 1) := by decide +kernel
theorem dX10_loopsAt_1 : decode cX10_loopsAt 1 = .ok (.istore_n 2, 1) := by decide +kernel
theorem dX10_loopsAt_2 : decode cX10_loopsAt 2 = .ok (.iconst 0, 1) := by decide +kernel
theorem dX10_loopsAt_3 : decode cX10_loopsAt 3 = .ok (.istore_n 3, 1) := by decide +kernel
theorem dX10_loopsAt_4 : decode cX10_loopsAt 4 = .ok (.iload_n 3, 1) := by decide +kernel
theorem dX10_loopsAt_5 : decode cX10_loopsAt 5 = .ok (.aload_n 0, 1) := by decide +kernel
theorem dX10_loopsAt_6 : decode cX10_loopsAt 6 = .ok (.getfield 18, 3) := by decide +kernel
theorem dX10_loopsAt_9 : decode cX10_loopsAt 9 = .ok (.invokevirtual 80, 3) := by decide +kernel
theorem dX10_loopsAt_12 : decode cX10_loopsAt 12 = .ok (.if_icmp .ge 29, 3) := by decide +kernel
theorem dX10_loopsAt_15 : decode cX10_loopsAt 15 = .ok (.iload_n 2, 1) := by decide +kernel
theorem dX10_loopsAt_16 : decode cX10_loopsAt 16 = .ok (.aload_n 0, 1) := by decide +kernel
theorem dX10_loopsAt_17 : decode cX10_loopsAt 17 = .ok (.iload_n 1, 1) := by decide +kernel
theorem dX10_loopsAt_18 : decode cX10_loopsAt 18 = .ok (.iload_n 3, 1) := by decide +kernel
theorem dX10_loopsAt_19 : decode cX10_loopsAt 19 = .ok (.invokevirtual 50, 3) := by decide +kernel
theorem dX10_loopsAt_22 : decode cX10_loopsAt 22 = .ok (.iload_n 1, 1) := by decide +kernel
theorem dX10_loopsAt_23 : decode cX10_loopsAt 23 = .ok (.if_icmp .ne 9, 3) := by decide +kernel
theorem dX10_loopsAt_26 : decode cX10_loopsAt 26 = .ok (.iconst 1, 1) := by decide +kernel
theorem dX10_loopsAt_27 : decode cX10_loopsAt 27 = .ok (.iload_n 3, 1) := by decide +kernel
theorem dX10_loopsAt_28 : decode cX10_loopsAt 28 = .ok (.ishl, 1) := by decide +kernel
theorem dX10_loopsAt_29 : decode cX10_loopsAt 29 = .ok (.goto 4, 3) := by decide +kernel
theorem dX10_loopsAt_32 : decode cX10_loopsAt 32 = .ok (.iconst 0, 1) := by decide +kernel
theorem dX10_loopsAt_33 : decode cX10_loopsAt 33 = .ok (.ior, 1) := by decide +kernel
theorem dX10_loopsAt_34 : decode cX10_loopsAt 34 = .ok (.istore_n 2, 1) := by decide +kernel
theorem dX10_loopsAt_35 : decode cX10_loopsAt 35 = .ok (.iinc 3 1, 3) := by decide +kernel
theorem dX10_loopsAt_38 : decode cX10_loopsAt 38 = .ok (.goto (-34), 3) := by decide +kernel
theorem dX10_loopsAt_41 : decode cX10_loopsAt 41 = .ok (.iload_n 2, 1) := by decide +kernel
theorem dX10_loopsAt_42 : decode cX10_loopsAt 42 = .ok (.ireturn, 1) := by decide +kernel
theorem dX10_sameByAll_0 : decode cX10_sameByAll 0 = .ok (.iconst 0, 1) := by decide +kernel
theorem dX10_sameByAll_1 : decode cX10_sameByAll 1 = .ok (.istore_n 1, 1) := by decide +kernel
theorem dX10_sameByAll_2 : decode cX10_sameByAll 2 = .ok (.iconst 0, 1) := by decide +kernel
theorem dX10_sameByAll_3 : decode cX10_sameByAll 3 = .ok (.istore_n 2, 1) := by decide +kernel
theorem dX10_sameByAll_4 : decode cX10_sameByAll 4 = .ok (.iload_n 2, 1) := by decide +kernel
theorem dX10_sameByAll_5 : decode cX10_sameByAll 5 = .ok (.aload_n 0, 1) := by decide +kernel
theorem dX10_sameByAll_6 : decode cX10_sameByAll 6 = .ok (.getfield 18, 3) := by decide +kernel
theorem dX10_sameByAll_9 : decode cX10_sameByAll 9 = .ok (.invokevirtual 89, 3) := by decide +kernel
theorem dX10_sameByAll_12 : decode cX10_sameByAll 12 = .ok (.if_icmp .ge 42, 3) := by decide +kernel
theorem dX10_sameByAll_15 : decode cX10_sameByAll 15 = .ok (.aload_n 0, 1) := by decide +kernel
theorem dX10_sameByAll_16 : decode cX10_sameByAll 16 = .ok (.iconst 1, 1) := by decide +kernel
theorem dX10_sameByAll_17 : decode cX10_sameByAll 17 = .ok (.iload_n 2, 1) := by decide +kernel
theorem dX10_sameByAll_18 : decode cX10_sameByAll 18 = .ok (.ishl, 1) := by decide +kernel
theorem dX10_sameByAll_19 : decode cX10_sameByAll 19 = .ok (.aload_n 0, 1) := by decide +kernel
theorem dX10_sameByAll_20 : decode cX10_sameByAll 20 = .ok (.getfield 18, 3) := by decide +kernel
theorem dX10_sameByAll_23 : decode cX10_sameByAll 23 = .ok (.invokevirtual 92, 3) := by decide +kernel
theorem dX10_sameByAll_26 : decode cX10_sameByAll 26 = .ok (.invokevirtual 86, 3) := by decide +kernel
theorem dX10_sameByAll_29 : decode cX10_sameByAll 29 = .ok (.istore_n 3, 1) := by decide +kernel
theorem dX10_sameByAll_30 : decode cX10_sameByAll 30 = .ok (.iload_n 1, 1) := by decide +kernel
theorem dX10_sameByAll_31 : decode cX10_sameByAll 31 = .ok (.iload_n 3, 1) := by decide +kernel
theorem dX10_sameByAll_32 : decode cX10_sameByAll 32 = .ok (.invokestatic 95, 3) := by decide +kernel
theorem dX10_sameByAll_35 : decode cX10_sameByAll 35 = .ok (.iconst 1, 1) := by decide +kernel
theorem dX10_sameByAll_36 : decode cX10_sameByAll 36 = .ok (.if_icmp .ne 9, 3) := by decide +kernel
theorem dX10_sameByAll_39 : decode cX10_sameByAll 39 = .ok (.iconst 1, 1) := by decide +kernel
theorem dX10_sameByAll_40 : decode cX10_sameByAll 40 = .ok (.iload_n 2, 1) := by decide +kernel
theorem dX10_sameByAll_41 : decode cX10_sameByAll 41 = .ok (.ishl, 1) := by decide +kernel
theorem dX10_sameByAll_42 : decode cX10_sameByAll 42 = .ok (.goto 4, 3) := by decide +kernel
theorem dX10_sameByAll_45 : decode cX10_sameByAll 45 = .ok (.iconst 0, 1) := by decide +kernel
theorem dX10_sameByAll_46 : decode cX10_sameByAll 46 = .ok (.ior, 1) := by decide +kernel
theorem dX10_sameByAll_47 : decode cX10_sameByAll 47 = .ok (.istore_n 1, 1) := by decide +kernel
theorem dX10_sameByAll_48 : decode cX10_sameByAll 48 = .ok (.iinc 2 1, 3) := by decide +kernel
theorem dX10_sameByAll_51 : decode cX10_sameByAll 51 = .ok (.goto (-47), 3) := by decide +kernel
theorem dX10_sameByAll_54 : decode cX10_sameByAll 54 = .ok (.iload_n 1, 1) := by decide +kernel
theorem dX10_sameByAll_55 : decode cX10_sameByAll 55 = .ok (.ireturn, 1) := by decide +kernel
theorem dX11_init_0 : decode cX11_init 0 = .ok (.aload_n 0, 1) := by decide +kernel
theorem dX11_init_1 : decode cX11_init 1 = .ok (.invokespecial 1, 3) := by decide +kernel
theorem dX11_init_4 : decode cX11_init 4 = .ok (.aload_n 0, 1) := by decide +kernel
theorem dX11_init_5 : decode cX11_init 5 = .ok (.new 7, 3) := by decide +kernel
theorem dX11_init_8 : decode cX11_init 8 = .ok (.dup, 1) := by decide +kernel
theorem dX11_init_9 : decode cX11_init 9 = .ok (.invokespecial 9, 3) := by decide +kernel
theorem dX11_init_12 : decode cX11_init 12 = .ok (.putfield 10, 3) := by decide +kernel
theorem dX11_init_15 : decode cX11_init 15 = .ok (.aload_n 0, 1) := by decide +kernel
theorem dX11_init_16 : decode cX11_init 16 = .ok (.new 16, 3) := by decide +kernel
theorem dX11_init_19 : decode cX11_init 19 = .ok (.dup, 1) := by decide +kernel
theorem dX11_init_20 : decode cX11_init 20 = .ok (.invokespecial 18, 3) := by decide +kernel
theorem dX11_init_23 : decode cX11_init 23 = .ok (.putfield 19, 3) := by decide +kernel
theorem dX11_init_26 : decode cX11_init 26 = .ok (.aload_n 0, 1) := by decide +kernel
theorem dX11_init_27 : decode cX11_init 27 = .ok (.new 16, 3) := by decide +kernel
theorem dX11_init_30 : decode cX11_init 30 = .ok (.dup, 1) := by decide +kernel
theorem dX11_init_31 : decode cX11_init 31 = .ok (.invokespecial 18, 3) := by decide +kernel
theorem dX11_init_34 : decode cX11_init 34 = .ok (.putfield 23, 3) := by decide +kernel
theorem dX11_init_37 : decode cX11_init 37 = .ok (.aload_n 0, 1) := by decide +kernel
theorem dX11_init_38 : decode cX11_init 38 = .ok (.new 26, 3) := by decide +kernel
theorem dX11_init_41 : decode cX11_init 41 = .ok (.dup, 1) := by decide +kernel
theorem dX11_init_42 : decode cX11_init 42 = .ok (.aload_n 0, 1) := by decide +kernel
theorem dX11_init_43 : decode cX11_init 43 = .ok (.getfield 10, 3) := by decide +kernel
theorem dX11_init_46 : decode cX11_init 46 = .ok (.aload_n 0, 1) := by decide +kernel
theorem dX11_init_47 : decode cX11_init 47 = .ok (.getfield 23, 3) := by decide +kernel
theorem dX11_init_50 : decode cX11_init 50 = .ok (.invokespecial 28, 3) := by decide +kernel
theorem dX11_init_53 : decode cX11_init 53 = .ok (.putfield 31, 3) := by decide +kernel
theorem dX11_init_56 : decode cX11_init 56 = .ok (.aload_n 0, 1) := by decide +kernel
theorem dX11_init_57 : decode cX11_init 57 = .ok (.new 35, 3) := by decide +kernel
theorem dX11_init_60 : decode cX11_init 60 = .ok (.dup, 1) := by decide +kernel
theorem dX11_init_61 : decode cX11_init 61 = .ok (.invokespecial 37, 3) := by decide +kernel
theorem dX11_init_64 : decode cX11_init 64 = .ok (.putfield 38, 3) := by decide +kernel
theorem dX11_init_67 : decode cX11_init 67 = .ok (.aload_n 0, 1) := by decide +kernel
theorem dX11_init_68 : decode cX11_init 68 = .ok (.new 42, 3) := by decide +kernel
theorem dX11_init_71 : decode cX11_init 71 = .ok (.dup, 1) := by decide +kernel
theorem dX11_init_72 : decode cX11_init 72 = .ok (.aload_n 0, 1) := by decide +kernel
theorem dX11_init_73 : decode cX11_init 73 = .ok (.getfield 10, 3) := by decide +kernel
theorem dX11_init_76 : decode cX11_init 76 = .ok (.aload_n 0, 1) := by decide +kernel
theorem dX11_init_77 : decode cX11_init 77 = .ok (.getfield 38, 3) := by decide +kernel
theorem dX11_init_80 : decode cX11_init 80 = .ok (.invokespecial 44, 3) := by decide +kernel
theorem dX11_init_83 : decode cX11_init 83 = .ok (.putfield 47, 3) := by decide +kernel
theorem dX11_init_86 : decode cX11_init 86 = .ok (.aload_n 0, 1) := by decide +kernel
theorem dX11_init_87 : decode cX11_init 87 = .ok (.new 51, 3) := by decide +kernel
theorem dX11_init_90 : decode cX11_init 90 = .ok (.dup, 1) := by decide +kernel
theorem dX11_init_91 : decode cX11_init 91 = .ok (.invokespecial 53, 3) := by decide +kernel
theorem dX11_init_94 : decode cX11_init 94 = .ok (.putfield 54, 3) := by decide +kernel
theorem dX11_init_97 : decode cX11_init 97 = .ok (.aload_n 0, 1) := by decide +kernel
theorem dX11_init_98 : decode cX11_init 98 = .ok (.new 58, 3) := by decide +kernel
theorem dX11_init_101 : decode cX11_init 101 = .ok (.dup, 1) := by decide +kernel
theorem dX11_init_102 : decode cX11_init 102 = .ok (.aload_n 0, 1) := by decide +kernel
theorem dX11_init_103 : decode cX11_init 103 = .ok (.getfield 54, 3) := by decide +kernel
theorem dX11_init_106 : decode cX11_init 106 = .ok (.invokespecial 60, 3) := by decide +kernel
theorem dX11_init_109 : decode cX11_init 109 = .ok (.putfield 63, 3) := by decide +kernel
theorem dX11_init_112 : decode cX11_init 112 = .ok (.aload_n 0, 1) := by decide +kernel
theorem dX11_init_113 : decode cX11_init 113 = .ok (.new 67, 3) := by decide +kernel
theorem dX11_init_116 : decode cX11_init 116 = .ok (.dup, 1) := by decide +kernel
theorem dX11_init_117 : decode cX11_init 117 = .ok (.aload_n 0, 1) := by decide +kernel
theorem dX11_init_118 : decode cX11_init 118 = .ok (.getfield 19, 3) := by decide +kernel
theorem dX11_init_121 : decode cX11_init 121 = .ok (.aload_n 0, 1) := by decide +kernel
theorem dX11_init_122 : decode cX11_init 122 = .ok (.getfield 38, 3) := by decide +kernel
theorem dX11_init_125 : decode cX11_init 125 = .ok (.aload_n 0, 1) := by decide +kernel
theorem dX11_init_126 : decode cX11_init 126 = .ok (.getfield 54, 3) := by decide +kernel
theorem dX11_init_129 : decode cX11_init 129 = .ok (.invokespecial 69, 3) := by decide +kernel
theorem dX11_init_132 : decode cX11_init 132 = .ok (.putfield 72, 3) := by decide +kernel
theorem dX11_init_135 : decode cX11_init 135 = .ok (.aload_n 0, 1) := by decide +kernel
theorem dX11_init_136 : decode cX11_init 136 = .ok (.new 76, 3) := by decide +kernel
theorem dX11_init_139 : decode cX11_init 139 = .ok (.dup, 1) := by decide +kernel
theorem dX11_init_140 : decode cX11_init 140 = .ok (.aload_n 0, 1) := by decide +kernel
theorem dX11_init_141 : decode cX11_init 141 = .ok (.getfield 19, 3) := by decide +kernel
theorem dX11_init_144 : decode cX11_init 144 = .ok (.aload_n 0, 1) := by decide +kernel
theorem dX11_init_145 : decode cX11_init 145 = .ok (.getfield 54, 3) := by decide +kernel
theorem dX11_init_148 : decode cX11_init 148 = .ok (.aload_n 0, 1) := by decide +kernel
theorem dX11_init_149 : decode cX11_init 149 = .ok (.getfield 63, 3) := by decide +kernel
theorem dX11_init_152 : decode cX11_init 152 = .ok (.aload_n 0, 1) := by decide +kernel
theorem dX11_init_153 : decode cX11_init 153 = .ok (.getfield 72, 3) := by decide +kernel
theorem dX11_init_156 : decode cX11_init 156 = .ok (.invokespecial 78, 3) := by decide +kernel
theorem dX11_init_159 : decode cX11_init 159 = .ok (.putfield 81, 3) := by decide +kernel
theorem dX11_init_162 : decode cX11_init 162 = .ok (.aload_n 0, 1) := by decide +kernel
theorem dX11_init_163 : decode cX11_init 163 = .ok (.new 85, 3) := by decide +kernel
theorem dX11_init_166 : decode cX11_init 166 = .ok (.dup, 1) := by decide +kernel
theorem dX11_init_167 : decode cX11_init 167 = .ok (.aload_n 0, 1) := by decide +kernel
theorem dX11_init_168 : decode cX11_init 168 = .ok (.getfield 19, 3) := by decide +kernel
theorem dX11_init_171 : decode cX11_init 171 = .ok (.aload_n 0, 1) := by decide +kernel
theorem dX11_init_172 : decode cX11_init 172 = .ok (.getfield 54, 3) := by decide +kernel
theorem dX11_init_175 : decode cX11_init 175 = .ok (.invokespecial 87, 3) := by decide +kernel
theorem dX11_init_178 : decode cX11_init 178 = .ok (.putfield 90, 3) := by decide +kernel
theorem dX11_init_181 : decode cX11_init 181 = .ok (.aload_n 0, 1) := by decide +kernel
theorem dX11_init_182 : decode cX11_init 182 = .ok (.new 94, 3) := by decide +kernel
theorem dX11_init_185 : decode cX11_init 185 = .ok (.dup, 1) := by decide +kernel
theorem dX11_init_186 : decode cX11_init 186 = .ok (.aload_n 0, 1) := by decide +kernel
theorem dX11_init_187 : decode cX11_init 187 = .ok (.getfield 19, 3) := by decide +kernel
theorem dX11_init_190 : decode cX11_init 190 = .ok (.aload_n 0, 1) := by decide +kernel
theorem dX11_init_191 : decode cX11_init 191 = .ok (.getfield 72, 3) := by decide +kernel
theorem dX11_init_194 : decode cX11_init 194 = .ok (.invokespecial 96, 3) := by decide +kernel
theorem dX11_init_197 : decode cX11_init 197 = .ok (.putfield 99, 3) := by decide +kernel
theorem dX11_init_200 : decode cX11_init 200 = .ok (.return_, 1) := by decide +kernel
theorem dX11_feed_0 : decode cX11_feed 0 = .ok (.aload_n 0, 1) := by decide +kernel
theorem dX11_feed_1 : decode cX11_feed 1 = .ok (.getfield 10, 3) := by decide +kernel
theorem dX11_feed_4 : decode cX11_feed 4 = .ok (.iload_n 1, 1) := by decide +kernel
theorem dX11_feed_5 : decode cX11_feed 5 = .ok (.iload_n 2, 1) := by decide +kernel
theorem dX11_feed_6 : decode cX11_feed 6 = .ok (.iload_n 3, 1) := by decide +kernel
theorem dX11_feed_7 : decode cX11_feed 7 = .ok (.iload 4, 2) := by decide +kernel
theorem dX11_feed_9 : decode cX11_feed 9 = .ok (.iload 5, 2) := by decide +kernel
theorem dX11_feed_11 : decode cX11_feed 11 = .ok (.invokevirtual 103, 3) := by decide +kernel
theorem dX11_feed_14 : decode cX11_feed 14 = .ok (.ifCond .eq 13, 3) := by decide +kernel
theorem dX11_feed_17 : decode cX11_feed 17 = .ok (.aload_n 0, 1) := by decide +kernel
theorem dX11_feed_18 : decode cX11_feed 18 = .ok (.getfield 10, 3) := by decide +kernel
theorem dX11_feed_21 : decode cX11_feed 21 = .ok (.invokevirtual 107, 3) := by decide +kernel
theorem dX11_feed_24 : decode cX11_feed 24 = .ok (.goto 4, 3) := by decide +kernel
theorem dX11_feed_27 : decode cX11_feed 27 = .ok (.iconst (-1), 1) := by decide +kernel
theorem dX11_feed_28 : decode cX11_feed 28 = .ok (.ireturn, 1) := by decide +kernel
theorem dX11_end_0 : decode cX11_end 0 = .ok (.aload_n 0, 1) := by decide +kernel
theorem dX11_end_1 : decode cX11_end 1 = .ok (.getfield 10, 3) := by decide +kernel
theorem dX11_end_4 : decode cX11_end 4 = .ok (.iload_n 1, 1) := by decide +kernel
theorem dX11_end_5 : decode cX11_end 5 = .ok (.invokevirtual 111, 3) := by decide +kernel
theorem dX11_end_8 : decode cX11_end 8 = .ok (.ireturn, 1) := by decide +kernel
theorem dX11_fault_0 : decode cX11_fault 0 = .ok (.iload_n 1, 1) := by decide +kernel
theorem dX11_fault_1 : decode cX11_fault 1 = .ok (.ifCond .ne 11, 3) := by decide +kernel
theorem dX11_fault_4 : decode cX11_fault 4 = .ok (.aload_n 0, 1) := by decide +kernel
theorem dX11_fault_5 : decode cX11_fault 5 = .ok (.getfield 31, 3) := by decide +kernel
theorem dX11_fault_8 : decode cX11_fault 8 = .ok (.invokevirtual 115, 3) := by decide +kernel
theorem dX11_fault_11 : decode cX11_fault 11 = .ok (.ireturn, 1) := by decide +kernel
theorem dX11_fault_12 : decode cX11_fault 12 = .ok (.iload_n 1, 1) := by decide +kernel
theorem dX11_fault_13 : decode cX11_fault 13 = .ok (.iconst 1, 1) := by decide +kernel
theorem dX11_fault_14 : decode cX11_fault 14 = .ok (.if_icmp .ne 13, 3) := by decide +kernel
theorem dX11_fault_17 : decode cX11_fault 17 = .ok (.aload_n 0, 1) := by decide +kernel
theorem dX11_fault_18 : decode cX11_fault 18 = .ok (.getfield 47, 3) := by decide +kernel
theorem dX11_fault_21 : decode cX11_fault 21 = .ok (.invokevirtual 118, 3) := by decide +kernel
theorem dX11_fault_24 : decode cX11_fault 24 = .ok (.goto 5, 3) := by decide +kernel
theorem dX11_fault_27 : decode cX11_fault 27 = .ok (.bipush (-2), 2) := by decide +kernel
theorem dX11_fault_29 : decode cX11_fault 29 = .ok (.ireturn, 1) := by decide +kernel
theorem dX11_text_0 : decode cX11_text 0 = .ok (.iload_n 1, 1) := by decide +kernel
theorem dX11_text_1 : decode cX11_text 1 = .ok (.ifCond .ne 67, 3) := by decide +kernel
theorem dX11_text_4 : decode cX11_text 4 = .ok (.aload_n 0, 1) := by decide +kernel
theorem dX11_text_5 : decode cX11_text 5 = .ok (.getfield 31, 3) := by decide +kernel
theorem dX11_text_8 : decode cX11_text 8 = .ok (.invokevirtual 115, 3) := by decide +kernel
theorem dX11_text_11 : decode cX11_text 11 = .ok (.iconst (-1), 1) := by decide +kernel
theorem dX11_text_12 : decode cX11_text 12 = .ok (.if_icmp .ne 56, 3) := by decide +kernel
theorem dX11_text_15 : decode cX11_text 15 = .ok (.aload_n 0, 1) := by decide +kernel
theorem dX11_text_16 : decode cX11_text 16 = .ok (.getfield 10, 3) := by decide +kernel
theorem dX11_text_19 : decode cX11_text 19 = .ok (.iconst 0, 1) := by decide +kernel
theorem dX11_text_20 : decode cX11_text 20 = .ok (.invokevirtual 111, 3) := by decide +kernel
theorem dX11_text_23 : decode cX11_text 23 = .ok (.pop, 1) := by decide +kernel
theorem dX11_text_24 : decode cX11_text 24 = .ok (.aload_n 0, 1) := by decide +kernel
theorem dX11_text_25 : decode cX11_text 25 = .ok (.getfield 19, 3) := by decide +kernel
theorem dX11_text_28 : decode cX11_text 28 = .ok (.aload_n 0, 1) := by decide +kernel
theorem dX11_text_29 : decode cX11_text 29 = .ok (.getfield 23, 3) := by decide +kernel
theorem dX11_text_32 : decode cX11_text 32 = .ok (.invokevirtual 119, 3) := by decide +kernel
theorem dX11_text_35 : decode cX11_text 35 = .ok (.aload_n 0, 1) := by decide +kernel
theorem dX11_text_36 : decode cX11_text 36 = .ok (.getfield 54, 3) := by decide +kernel
theorem dX11_text_39 : decode cX11_text 39 = .ok (.aload_n 0, 1) := by decide +kernel
theorem dX11_text_40 : decode cX11_text 40 = .ok (.getfield 19, 3) := by decide +kernel
theorem dX11_text_43 : decode cX11_text 43 = .ok (.invokevirtual 123, 3) := by decide +kernel
theorem dX11_text_46 : decode cX11_text 46 = .ok (.aload_n 0, 1) := by decide +kernel
theorem dX11_text_47 : decode cX11_text 47 = .ok (.getfield 63, 3) := by decide +kernel
theorem dX11_text_50 : decode cX11_text 50 = .ok (.invokevirtual 126, 3) := by decide +kernel
theorem dX11_text_53 : decode cX11_text 53 = .ok (.aload_n 0, 1) := by decide +kernel
theorem dX11_text_54 : decode cX11_text 54 = .ok (.getfield 90, 3) := by decide +kernel
theorem dX11_text_57 : decode cX11_text 57 = .ok (.invokevirtual 129, 3) := by decide +kernel
theorem dX11_text_60 : decode cX11_text 60 = .ok (.aload_n 0, 1) := by decide +kernel
theorem dX11_text_61 : decode cX11_text 61 = .ok (.getfield 19, 3) := by decide +kernel
theorem dX11_text_64 : decode cX11_text 64 = .ok (.invokevirtual 130, 3) := by decide +kernel
theorem dX11_text_67 : decode cX11_text 67 = .ok (.ireturn, 1) := by decide +kernel
theorem dX11_text_68 : decode cX11_text 68 = .ok (.iload_n 1, 1) := by decide +kernel
theorem dX11_text_69 : decode cX11_text 69 = .ok (.iconst 1, 1) := by decide +kernel
theorem dX11_text_70 : decode cX11_text 70 = .ok (.if_icmp .ne 41, 3) := by decide +kernel
theorem dX11_text_73 : decode cX11_text 73 = .ok (.aload_n 0, 1) := by decide +kernel
theorem dX11_text_74 : decode cX11_text 74 = .ok (.getfield 38, 3) := by decide +kernel
theorem dX11_text_77 : decode cX11_text 77 = .ok (.invokevirtual 133, 3) := by decide +kernel
theorem dX11_text_80 : decode cX11_text 80 = .ok (.ifCond .ne 31, 3) := by decide +kernel
theorem dX11_text_83 : decode cX11_text 83 = .ok (.aload_n 0, 1) := by decide +kernel
theorem dX11_text_84 : decode cX11_text 84 = .ok (.getfield 47, 3) := by decide +kernel
theorem dX11_text_87 : decode cX11_text 87 = .ok (.invokevirtual 118, 3) := by decide +kernel
theorem dX11_text_90 : decode cX11_text 90 = .ok (.iconst (-1), 1) := by decide +kernel
theorem dX11_text_91 : decode cX11_text 91 = .ok (.if_icmp .ne 20, 3) := by decide +kernel
theorem dX11_text_94 : decode cX11_text 94 = .ok (.aload_n 0, 1) := by decide +kernel
theorem dX11_text_95 : decode cX11_text 95 = .ok (.getfield 10, 3) := by decide +kernel
theorem dX11_text_98 : decode cX11_text 98 = .ok (.iconst 0, 1) := by decide +kernel
theorem dX11_text_99 : decode cX11_text 99 = .ok (.invokevirtual 111, 3) := by decide +kernel
theorem dX11_text_102 : decode cX11_text 102 = .ok (.pop, 1) := by decide +kernel
theorem dX11_text_103 : decode cX11_text 103 = .ok (.aload_n 0, 1) := by decide +kernel
theorem dX11_text_104 : decode cX11_text 104 = .ok (.getfield 38, 3) := by decide +kernel
theorem dX11_text_107 : decode cX11_text 107 = .ok (.invokevirtual 137, 3) := by decide +kernel
theorem dX11_text_110 : decode cX11_text 110 = .ok (.ireturn, 1) := by decide +kernel
theorem dX11_text_111 : decode cX11_text 111 = .ok (.iconst (-1), 1) := by decide +kernel
theorem dX11_text_112 : decode cX11_text 112 = .ok (.ireturn, 1) := by decide +kernel
theorem dX11_dark_0 : decode cX11_dark 0 = .ok (.aload_n 0, 1) := by decide +kernel
theorem dX11_dark_1 : decode cX11_dark 1 = .ok (.getfield 19, 3) := by decide +kernel
theorem dX11_dark_4 : decode cX11_dark 4 = .ok (.iload_n 1, 1) := by decide +kernel
theorem dX11_dark_5 : decode cX11_dark 5 = .ok (.invokevirtual 140, 3) := by decide +kernel
theorem dX11_dark_8 : decode cX11_dark 8 = .ok (.ifCond .eq 14, 3) := by decide +kernel
theorem dX11_dark_11 : decode cX11_dark 11 = .ok (.aload_n 0, 1) := by decide +kernel
theorem dX11_dark_12 : decode cX11_dark 12 = .ok (.getfield 19, 3) := by decide +kernel
theorem dX11_dark_15 : decode cX11_dark 15 = .ok (.iload_n 2, 1) := by decide +kernel
theorem dX11_dark_16 : decode cX11_dark 16 = .ok (.invokevirtual 143, 3) := by decide +kernel
theorem dX11_dark_19 : decode cX11_dark 19 = .ok (.ifCond .ne 5, 3) := by decide +kernel
theorem dX11_dark_22 : decode cX11_dark 22 = .ok (.iconst (-1), 1) := by decide +kernel
theorem dX11_dark_23 : decode cX11_dark 23 = .ok (.ireturn, 1) := by decide +kernel
theorem dX11_dark_24 : decode cX11_dark 24 = .ok (.iload_n 3, 1) := by decide +kernel
theorem dX11_dark_25 : decode cX11_dark 25 = .ok (.tableswitch 74 0 2 #[27, 54, 64], 27) := by decide +kernel
theorem dX11_dark_52 : decode cX11_dark 52 = .ok (.aload_n 0, 1) := by decide +kernel
theorem dX11_dark_53 : decode cX11_dark 53 = .ok (.getfield 72, 3) := by decide +kernel
theorem dX11_dark_56 : decode cX11_dark 56 = .ok (.iload_n 1, 1) := by decide +kernel
theorem dX11_dark_57 : decode cX11_dark 57 = .ok (.iload_n 2, 1) := by decide +kernel
theorem dX11_dark_58 : decode cX11_dark 58 = .ok (.invokevirtual 146, 3) := by decide +kernel
theorem dX11_dark_61 : decode cX11_dark 61 = .ok (.ifCond .eq 8, 3) := by decide +kernel
theorem dX11_dark_64 : decode cX11_dark 64 = .ok (.ldc 150, 2) := by decide +kernel
theorem dX11_dark_66 : decode cX11_dark 66 = .ok (.goto 12, 3) := by decide +kernel
theorem dX11_dark_69 : decode cX11_dark 69 = .ok (.aload_n 0, 1) := by decide +kernel
theorem dX11_dark_70 : decode cX11_dark 70 = .ok (.getfield 72, 3) := by decide +kernel
theorem dX11_dark_73 : decode cX11_dark 73 = .ok (.iload_n 1, 1) := by decide +kernel
theorem dX11_dark_74 : decode cX11_dark 74 = .ok (.iload_n 2, 1) := by decide +kernel
theorem dX11_dark_75 : decode cX11_dark 75 = .ok (.invokevirtual 151, 3) := by decide +kernel
theorem dX11_dark_78 : decode cX11_dark 78 = .ok (.ireturn, 1) := by decide +kernel
theorem dX11_dark_79 : decode cX11_dark 79 = .ok (.aload_n 0, 1) := by decide +kernel
theorem dX11_dark_80 : decode cX11_dark 80 = .ok (.getfield 72, 3) := by decide +kernel
theorem dX11_dark_83 : decode cX11_dark 83 = .ok (.iload_n 1, 1) := by decide +kernel
theorem dX11_dark_84 : decode cX11_dark 84 = .ok (.iload_n 2, 1) := by decide +kernel
theorem dX11_dark_85 : decode cX11_dark 85 = .ok (.invokevirtual 155, 3) := by decide +kernel
theorem dX11_dark_88 : decode cX11_dark 88 = .ok (.ireturn, 1) := by decide +kernel
theorem dX11_dark_89 : decode cX11_dark 89 = .ok (.aload_n 0, 1) := by decide +kernel
theorem dX11_dark_90 : decode cX11_dark 90 = .ok (.getfield 72, 3) := by decide +kernel
theorem dX11_dark_93 : decode cX11_dark 93 = .ok (.iload_n 1, 1) := by decide +kernel
theorem dX11_dark_94 : decode cX11_dark 94 = .ok (.iload_n 2, 1) := by decide +kernel
theorem dX11_dark_95 : decode cX11_dark 95 = .ok (.invokevirtual 158, 3) := by decide +kernel
theorem dX11_dark_98 : decode cX11_dark 98 = .ok (.ireturn, 1) := by decide +kernel
theorem dX11_dark_99 : decode cX11_dark 99 = .ok (.iconst (-1), 1) := by decide +kernel
theorem dX11_dark_100 : decode cX11_dark 100 = .ok (.ireturn, 1) := by decide +kernel
theorem dX11_train_0 : decode cX11_train 0 = .ok (.aload_n 0, 1) := by decide +kernel
theorem dX11_train_1 : decode cX11_train 1 = .ok (.getfield 54, 3) := by decide +kernel
theorem dX11_train_4 : decode cX11_train 4 = .ok (.iload_n 1, 1) := by decide +kernel
theorem dX11_train_5 : decode cX11_train 5 = .ok (.invokevirtual 161, 3) := by decide +kernel
theorem dX11_train_8 : decode cX11_train 8 = .ok (.ifCond .eq 12, 3) := by decide +kernel
theorem dX11_train_11 : decode cX11_train 11 = .ok (.iload_n 2, 1) := by decide +kernel
theorem dX11_train_12 : decode cX11_train 12 = .ok (.ifCond .lt 8, 3) := by decide +kernel
theorem dX11_train_15 : decode cX11_train 15 = .ok (.iload_n 2, 1) := by decide +kernel
theorem dX11_train_16 : decode cX11_train 16 = .ok (.iconst 3, 1) := by decide +kernel
theorem dX11_train_17 : decode cX11_train 17 = .ok (.if_icmp .le 11, 3) := by decide +kernel
theorem dX11_train_20 : decode cX11_train 20 = .ok (.new 164, 3) := by decide +kernel
theorem dX11_train_23 : decode cX11_train 23 = .ok (.dup, 1) := by decide +kernel
theorem dX11_train_24 : decode cX11_train 24 = .ok (.invokespecial 166, 3) := by decide +kernel
theorem dX11_train_27 : decode cX11_train 27 = .ok (.athrow, 1) := by decide +kernel
theorem dX11_train_28 : decode cX11_train 28 = .ok (.iload_n 2, 1) := by decide +kernel
theorem dX11_train_29 : decode cX11_train 29 = .ok (.tableswitch 56 0 2 #[27, 37, 46], 27) := by decide +kernel
theorem dX11_train_56 : decode cX11_train 56 = .ok (.aload_n 0, 1) := by decide +kernel
theorem dX11_train_57 : decode cX11_train 57 = .ok (.getfield 54, 3) := by decide +kernel
theorem dX11_train_60 : decode cX11_train 60 = .ok (.iload_n 1, 1) := by decide +kernel
theorem dX11_train_61 : decode cX11_train 61 = .ok (.iconst 0, 1) := by decide +kernel
theorem dX11_train_62 : decode cX11_train 62 = .ok (.invokevirtual 167, 3) := by decide +kernel
theorem dX11_train_65 : decode cX11_train 65 = .ok (.ireturn, 1) := by decide +kernel
theorem dX11_train_66 : decode cX11_train 66 = .ok (.aload_n 0, 1) := by decide +kernel
theorem dX11_train_67 : decode cX11_train 67 = .ok (.getfield 81, 3) := by decide +kernel
theorem dX11_train_70 : decode cX11_train 70 = .ok (.iload_n 1, 1) := by decide +kernel
theorem dX11_train_71 : decode cX11_train 71 = .ok (.invokevirtual 170, 3) := by decide +kernel
theorem dX11_train_74 : decode cX11_train 74 = .ok (.ireturn, 1) := by decide +kernel
theorem dX11_train_75 : decode cX11_train 75 = .ok (.aload_n 0, 1) := by decide +kernel
theorem dX11_train_76 : decode cX11_train 76 = .ok (.getfield 54, 3) := by decide +kernel
theorem dX11_train_79 : decode cX11_train 79 = .ok (.iload_n 1, 1) := by decide +kernel
theorem dX11_train_80 : decode cX11_train 80 = .ok (.iconst 4, 1) := by decide +kernel
theorem dX11_train_81 : decode cX11_train 81 = .ok (.invokevirtual 167, 3) := by decide +kernel
theorem dX11_train_84 : decode cX11_train 84 = .ok (.ireturn, 1) := by decide +kernel
theorem dX11_train_85 : decode cX11_train 85 = .ok (.aload_n 0, 1) := by decide +kernel
theorem dX11_train_86 : decode cX11_train 86 = .ok (.getfield 54, 3) := by decide +kernel
theorem dX11_train_89 : decode cX11_train 89 = .ok (.iload_n 1, 1) := by decide +kernel
theorem dX11_train_90 : decode cX11_train 90 = .ok (.iconst 5, 1) := by decide +kernel
theorem dX11_train_91 : decode cX11_train 91 = .ok (.invokevirtual 167, 3) := by decide +kernel
theorem dX11_train_94 : decode cX11_train 94 = .ok (.ireturn, 1) := by decide +kernel
theorem dX11_guards_0 : decode cX11_guards 0 = .ok (.aload_n 0, 1) := by decide +kernel
theorem dX11_guards_1 : decode cX11_guards 1 = .ok (.getfield 19, 3) := by decide +kernel
theorem dX11_guards_4 : decode cX11_guards 4 = .ok (.iload_n 1, 1) := by decide +kernel
theorem dX11_guards_5 : decode cX11_guards 5 = .ok (.invokevirtual 140, 3) := by decide +kernel
theorem dX11_guards_8 : decode cX11_guards 8 = .ok (.ifCond .eq 14, 3) := by decide +kernel
theorem dX11_guards_11 : decode cX11_guards 11 = .ok (.aload_n 0, 1) := by decide +kernel
theorem dX11_guards_12 : decode cX11_guards 12 = .ok (.getfield 54, 3) := by decide +kernel
theorem dX11_guards_15 : decode cX11_guards 15 = .ok (.iload_n 1, 1) := by decide +kernel
theorem dX11_guards_16 : decode cX11_guards 16 = .ok (.invokevirtual 174, 3) := by decide +kernel
theorem dX11_guards_19 : decode cX11_guards 19 = .ok (.goto 4, 3) := by decide +kernel
theorem dX11_guards_22 : decode cX11_guards 22 = .ok (.iconst (-1), 1) := by decide +kernel
theorem dX11_guards_23 : decode cX11_guards 23 = .ok (.ireturn, 1) := by decide +kernel
theorem dX11_law_0 : decode cX11_law 0 = .ok (.aload_n 0, 1) := by decide +kernel
theorem dX11_law_1 : decode cX11_law 1 = .ok (.getfield 38, 3) := by decide +kernel
theorem dX11_law_4 : decode cX11_law 4 = .ok (.iload_n 1, 1) := by decide +kernel
theorem dX11_law_5 : decode cX11_law 5 = .ok (.invokevirtual 177, 3) := by decide +kernel
theorem dX11_law_8 : decode cX11_law 8 = .ok (.ireturn, 1) := by decide +kernel
theorem dX11_sent_0 : decode cX11_sent 0 = .ok (.aload_n 0, 1) := by decide +kernel
theorem dX11_sent_1 : decode cX11_sent 1 = .ok (.getfield 19, 3) := by decide +kernel
theorem dX11_sent_4 : decode cX11_sent 4 = .ok (.iload_n 1, 1) := by decide +kernel
theorem dX11_sent_5 : decode cX11_sent 5 = .ok (.invokevirtual 140, 3) := by decide +kernel
theorem dX11_sent_8 : decode cX11_sent 8 = .ok (.ifCond .eq 34, 3) := by decide +kernel
theorem dX11_sent_11 : decode cX11_sent 11 = .ok (.aload_n 0, 1) := by decide +kernel
theorem dX11_sent_12 : decode cX11_sent 12 = .ok (.getfield 19, 3) := by decide +kernel
theorem dX11_sent_15 : decode cX11_sent 15 = .ok (.iload_n 2, 1) := by decide +kernel
theorem dX11_sent_16 : decode cX11_sent 16 = .ok (.invokevirtual 143, 3) := by decide +kernel
theorem dX11_sent_19 : decode cX11_sent 19 = .ok (.ifCond .eq 23, 3) := by decide +kernel
theorem dX11_sent_22 : decode cX11_sent 22 = .ok (.iload_n 3, 1) := by decide +kernel
theorem dX11_sent_23 : decode cX11_sent 23 = .ok (.ifCond .lt 19, 3) := by decide +kernel
theorem dX11_sent_26 : decode cX11_sent 26 = .ok (.iload_n 3, 1) := by decide +kernel
theorem dX11_sent_27 : decode cX11_sent 27 = .ok (.bipush 9, 2) := by decide +kernel
theorem dX11_sent_29 : decode cX11_sent 29 = .ok (.if_icmp .gt 13, 3) := by decide +kernel
theorem dX11_sent_32 : decode cX11_sent 32 = .ok (.aload_n 0, 1) := by decide +kernel
theorem dX11_sent_33 : decode cX11_sent 33 = .ok (.getfield 54, 3) := by decide +kernel
theorem dX11_sent_36 : decode cX11_sent 36 = .ok (.invokevirtual 180, 3) := by decide +kernel
theorem dX11_sent_39 : decode cX11_sent 39 = .ok (.ifCond .eq 5, 3) := by decide +kernel
theorem dX11_sent_42 : decode cX11_sent 42 = .ok (.iconst (-1), 1) := by decide +kernel
theorem dX11_sent_43 : decode cX11_sent 43 = .ok (.ireturn, 1) := by decide +kernel
theorem dX11_sent_44 : decode cX11_sent 44 = .ok (.aload_n 0, 1) := by decide +kernel
theorem dX11_sent_45 : decode cX11_sent 45 = .ok (.getfield 63, 3) := by decide +kernel
theorem dX11_sent_48 : decode cX11_sent 48 = .ok (.invokevirtual 183, 3) := by decide +kernel
theorem dX11_sent_51 : decode cX11_sent 51 = .ok (.aload_n 0, 1) := by decide +kernel
theorem dX11_sent_52 : decode cX11_sent 52 = .ok (.getfield 54, 3) := by decide +kernel
theorem dX11_sent_55 : decode cX11_sent 55 = .ok (.iload_n 1, 1) := by decide +kernel
theorem dX11_sent_56 : decode cX11_sent 56 = .ok (.iload_n 2, 1) := by decide +kernel
theorem dX11_sent_57 : decode cX11_sent 57 = .ok (.iconst 0, 1) := by decide +kernel
theorem dX11_sent_58 : decode cX11_sent 58 = .ok (.iload_n 3, 1) := by decide +kernel
theorem dX11_sent_59 : decode cX11_sent 59 = .ok (.invokevirtual 186, 3) := by decide +kernel
theorem dX11_sent_62 : decode cX11_sent 62 = .ok (.ireturn, 1) := by decide +kernel
theorem dX11_lamp_0 : decode cX11_lamp 0 = .ok (.aload_n 0, 1) := by decide +kernel
theorem dX11_lamp_1 : decode cX11_lamp 1 = .ok (.getfield 54, 3) := by decide +kernel
theorem dX11_lamp_4 : decode cX11_lamp 4 = .ok (.iload_n 1, 1) := by decide +kernel
theorem dX11_lamp_5 : decode cX11_lamp 5 = .ok (.invokevirtual 161, 3) := by decide +kernel
theorem dX11_lamp_8 : decode cX11_lamp 8 = .ok (.ifCond .eq 27, 3) := by decide +kernel
theorem dX11_lamp_11 : decode cX11_lamp 11 = .ok (.aload_n 0, 1) := by decide +kernel
theorem dX11_lamp_12 : decode cX11_lamp 12 = .ok (.getfield 19, 3) := by decide +kernel
theorem dX11_lamp_15 : decode cX11_lamp 15 = .ok (.iload_n 2, 1) := by decide +kernel
theorem dX11_lamp_16 : decode cX11_lamp 16 = .ok (.invokevirtual 143, 3) := by decide +kernel
theorem dX11_lamp_19 : decode cX11_lamp 19 = .ok (.ifCond .eq 16, 3) := by decide +kernel
theorem dX11_lamp_22 : decode cX11_lamp 22 = .ok (.aload_n 0, 1) := by decide +kernel
theorem dX11_lamp_23 : decode cX11_lamp 23 = .ok (.getfield 54, 3) := by decide +kernel
theorem dX11_lamp_26 : decode cX11_lamp 26 = .ok (.iload_n 1, 1) := by decide +kernel
theorem dX11_lamp_27 : decode cX11_lamp 27 = .ok (.iconst 5, 1) := by decide +kernel
theorem dX11_lamp_28 : decode cX11_lamp 28 = .ok (.invokevirtual 167, 3) := by decide +kernel
theorem dX11_lamp_31 : decode cX11_lamp 31 = .ok (.iconst 1, 1) := by decide +kernel
theorem dX11_lamp_32 : decode cX11_lamp 32 = .ok (.if_icmp .ne 5, 3) := by decide +kernel
theorem dX11_lamp_35 : decode cX11_lamp 35 = .ok (.iconst (-1), 1) := by decide +kernel
theorem dX11_lamp_36 : decode cX11_lamp 36 = .ok (.ireturn, 1) := by decide +kernel
theorem dX11_lamp_37 : decode cX11_lamp 37 = .ok (.aload_n 0, 1) := by decide +kernel
theorem dX11_lamp_38 : decode cX11_lamp 38 = .ok (.getfield 81, 3) := by decide +kernel
theorem dX11_lamp_41 : decode cX11_lamp 41 = .ok (.iload_n 1, 1) := by decide +kernel
theorem dX11_lamp_42 : decode cX11_lamp 42 = .ok (.invokevirtual 170, 3) := by decide +kernel
theorem dX11_lamp_45 : decode cX11_lamp 45 = .ok (.istore_n 3, 1) := by decide +kernel
theorem dX11_lamp_46 : decode cX11_lamp 46 = .ok (.aload_n 0, 1) := by decide +kernel
theorem dX11_lamp_47 : decode cX11_lamp 47 = .ok (.getfield 63, 3) := by decide +kernel
theorem dX11_lamp_50 : decode cX11_lamp 50 = .ok (.invokevirtual 183, 3) := by decide +kernel
theorem dX11_lamp_53 : decode cX11_lamp 53 = .ok (.aload_n 0, 1) := by decide +kernel
theorem dX11_lamp_54 : decode cX11_lamp 54 = .ok (.getfield 54, 3) := by decide +kernel
theorem dX11_lamp_57 : decode cX11_lamp 57 = .ok (.iload_n 1, 1) := by decide +kernel
theorem dX11_lamp_58 : decode cX11_lamp 58 = .ok (.iload_n 2, 1) := by decide +kernel
theorem dX11_lamp_59 : decode cX11_lamp 59 = .ok (.invokevirtual 190, 3) := by decide +kernel
theorem dX11_lamp_62 : decode cX11_lamp 62 = .ok (.iload_n 3, 1) := by decide +kernel
theorem dX11_lamp_63 : decode cX11_lamp 63 = .ok (.ireturn, 1) := by decide +kernel
theorem dX11_show_0 : decode cX11_show 0 = .ok (.aload_n 0, 1) := by decide +kernel
theorem dX11_show_1 : decode cX11_show 1 = .ok (.getfield 19, 3) := by decide +kernel
theorem dX11_show_4 : decode cX11_show 4 = .ok (.iload_n 1, 1) := by decide +kernel
theorem dX11_show_5 : decode cX11_show 5 = .ok (.invokevirtual 140, 3) := by decide +kernel
theorem dX11_show_8 : decode cX11_show 8 = .ok (.ifCond .eq 25, 3) := by decide +kernel
theorem dX11_show_11 : decode cX11_show 11 = .ok (.aload_n 0, 1) := by decide +kernel
theorem dX11_show_12 : decode cX11_show 12 = .ok (.getfield 19, 3) := by decide +kernel
theorem dX11_show_15 : decode cX11_show 15 = .ok (.iload_n 2, 1) := by decide +kernel
theorem dX11_show_16 : decode cX11_show 16 = .ok (.invokevirtual 194, 3) := by decide +kernel
theorem dX11_show_19 : decode cX11_show 19 = .ok (.ifCond .eq 14, 3) := by decide +kernel
theorem dX11_show_22 : decode cX11_show 22 = .ok (.aload_n 0, 1) := by decide +kernel
theorem dX11_show_23 : decode cX11_show 23 = .ok (.getfield 19, 3) := by decide +kernel
theorem dX11_show_26 : decode cX11_show 26 = .ok (.iload_n 3, 1) := by decide +kernel
theorem dX11_show_27 : decode cX11_show 27 = .ok (.invokevirtual 140, 3) := by decide +kernel
theorem dX11_show_30 : decode cX11_show 30 = .ok (.ifCond .ne 5, 3) := by decide +kernel
theorem dX11_show_33 : decode cX11_show 33 = .ok (.iconst (-1), 1) := by decide +kernel
theorem dX11_show_34 : decode cX11_show 34 = .ok (.ireturn, 1) := by decide +kernel
theorem dX11_show_35 : decode cX11_show 35 = .ok (.aload_n 0, 1) := by decide +kernel
theorem dX11_show_36 : decode cX11_show 36 = .ok (.getfield 54, 3) := by decide +kernel
theorem dX11_show_39 : decode cX11_show 39 = .ok (.iload_n 1, 1) := by decide +kernel
theorem dX11_show_40 : decode cX11_show 40 = .ok (.iload_n 2, 1) := by decide +kernel
theorem dX11_show_41 : decode cX11_show 41 = .ok (.invokevirtual 197, 3) := by decide +kernel
theorem dX11_show_44 : decode cX11_show 44 = .ok (.istore 4, 2) := by decide +kernel
theorem dX11_show_46 : decode cX11_show 46 = .ok (.iload 4, 2) := by decide +kernel
theorem dX11_show_48 : decode cX11_show 48 = .ok (.iload_n 3, 1) := by decide +kernel
theorem dX11_show_49 : decode cX11_show 49 = .ok (.if_icmp .ne 5, 3) := by decide +kernel
theorem dX11_show_52 : decode cX11_show 52 = .ok (.iconst (-1), 1) := by decide +kernel
theorem dX11_show_53 : decode cX11_show 53 = .ok (.ireturn, 1) := by decide +kernel
theorem dX11_show_54 : decode cX11_show 54 = .ok (.aload_n 0, 1) := by decide +kernel
theorem dX11_show_55 : decode cX11_show 55 = .ok (.getfield 63, 3) := by decide +kernel
theorem dX11_show_58 : decode cX11_show 58 = .ok (.invokevirtual 183, 3) := by decide +kernel
theorem dX11_show_61 : decode cX11_show 61 = .ok (.aload_n 0, 1) := by decide +kernel
theorem dX11_show_62 : decode cX11_show 62 = .ok (.getfield 54, 3) := by decide +kernel
theorem dX11_show_65 : decode cX11_show 65 = .ok (.iload_n 1, 1) := by decide +kernel
theorem dX11_show_66 : decode cX11_show 66 = .ok (.iload_n 2, 1) := by decide +kernel
theorem dX11_show_67 : decode cX11_show 67 = .ok (.iload_n 3, 1) := by decide +kernel
theorem dX11_show_68 : decode cX11_show 68 = .ok (.invokevirtual 200, 3) := by decide +kernel
theorem dX11_show_71 : decode cX11_show 71 = .ok (.iload 4, 2) := by decide +kernel
theorem dX11_show_73 : decode cX11_show 73 = .ok (.iconst (-1), 1) := by decide +kernel
theorem dX11_show_74 : decode cX11_show 74 = .ok (.if_icmp .ne 8, 3) := by decide +kernel
theorem dX11_show_77 : decode cX11_show 77 = .ok (.ldc 150, 2) := by decide +kernel
theorem dX11_show_79 : decode cX11_show 79 = .ok (.goto 5, 3) := by decide +kernel
theorem dX11_show_82 : decode cX11_show 82 = .ok (.iload 4, 2) := by decide +kernel
theorem dX11_show_84 : decode cX11_show 84 = .ok (.ireturn, 1) := by decide +kernel
theorem dX11_guard_0 : decode cX11_guard 0 = .ok (.aload_n 0, 1) := by decide +kernel
theorem dX11_guard_1 : decode cX11_guard 1 = .ok (.getfield 19, 3) := by decide +kernel
theorem dX11_guard_4 : decode cX11_guard 4 = .ok (.iload_n 1, 1) := by decide +kernel
theorem dX11_guard_5 : decode cX11_guard 5 = .ok (.invokevirtual 140, 3) := by decide +kernel
theorem dX11_guard_8 : decode cX11_guard 8 = .ok (.ifCond .ne 5, 3) := by decide +kernel
theorem dX11_guard_11 : decode cX11_guard 11 = .ok (.iconst (-1), 1) := by decide +kernel
theorem dX11_guard_12 : decode cX11_guard 12 = .ok (.ireturn, 1) := by decide +kernel
theorem dX11_guard_13 : decode cX11_guard 13 = .ok (.aload_n 0, 1) := by decide +kernel
theorem dX11_guard_14 : decode cX11_guard 14 = .ok (.getfield 54, 3) := by decide +kernel
theorem dX11_guard_17 : decode cX11_guard 17 = .ok (.iload_n 1, 1) := by decide +kernel
theorem dX11_guard_18 : decode cX11_guard 18 = .ok (.invokevirtual 174, 3) := by decide +kernel
theorem dX11_guard_21 : decode cX11_guard 21 = .ok (.iload_n 2, 1) := by decide +kernel
theorem dX11_guard_22 : decode cX11_guard 22 = .ok (.ifCond .eq 7, 3) := by decide +kernel
theorem dX11_guard_25 : decode cX11_guard 25 = .ok (.iconst 1, 1) := by decide +kernel
theorem dX11_guard_26 : decode cX11_guard 26 = .ok (.goto 4, 3) := by decide +kernel
theorem dX11_guard_29 : decode cX11_guard 29 = .ok (.iconst (-1), 1) := by decide +kernel
theorem dX11_guard_30 : decode cX11_guard 30 = .ok (.iadd, 1) := by decide +kernel
theorem dX11_guard_31 : decode cX11_guard 31 = .ok (.istore_n 3, 1) := by decide +kernel
theorem dX11_guard_32 : decode cX11_guard 32 = .ok (.iload_n 3, 1) := by decide +kernel
theorem dX11_guard_33 : decode cX11_guard 33 = .ok (.ifCond .lt 9, 3) := by decide +kernel
theorem dX11_guard_36 : decode cX11_guard 36 = .ok (.iload_n 3, 1) := by decide +kernel
theorem dX11_guard_37 : decode cX11_guard 37 = .ok (.bipush 9, 2) := by decide +kernel
theorem dX11_guard_39 : decode cX11_guard 39 = .ok (.if_icmp .le 5, 3) := by decide +kernel
theorem dX11_guard_42 : decode cX11_guard 42 = .ok (.iconst (-1), 1) := by decide +kernel
theorem dX11_guard_43 : decode cX11_guard 43 = .ok (.ireturn, 1) := by decide +kernel
theorem dX11_guard_44 : decode cX11_guard 44 = .ok (.aload_n 0, 1) := by decide +kernel
theorem dX11_guard_45 : decode cX11_guard 45 = .ok (.getfield 63, 3) := by decide +kernel
theorem dX11_guard_48 : decode cX11_guard 48 = .ok (.invokevirtual 183, 3) := by decide +kernel
theorem dX11_guard_51 : decode cX11_guard 51 = .ok (.aload_n 0, 1) := by decide +kernel
theorem dX11_guard_52 : decode cX11_guard 52 = .ok (.getfield 54, 3) := by decide +kernel
theorem dX11_guard_55 : decode cX11_guard 55 = .ok (.iload_n 1, 1) := by decide +kernel
theorem dX11_guard_56 : decode cX11_guard 56 = .ok (.iload_n 3, 1) := by decide +kernel
theorem dX11_guard_57 : decode cX11_guard 57 = .ok (.invokevirtual 204, 3) := by decide +kernel
theorem dX11_guard_60 : decode cX11_guard 60 = .ok (.iload_n 3, 1) := by decide +kernel
theorem dX11_guard_61 : decode cX11_guard 61 = .ok (.ireturn, 1) := by decide +kernel
theorem dX11_go_0 : decode cX11_go 0 = .ok (.aload_n 0, 1) := by decide +kernel
theorem dX11_go_1 : decode cX11_go 1 = .ok (.getfield 81, 3) := by decide +kernel
theorem dX11_go_4 : decode cX11_go 4 = .ok (.iload_n 1, 1) := by decide +kernel
theorem dX11_go_5 : decode cX11_go 5 = .ok (.invokevirtual 207, 3) := by decide +kernel
theorem dX11_go_8 : decode cX11_go 8 = .ok (.ifCond .eq 14, 3) := by decide +kernel
theorem dX11_go_11 : decode cX11_go 11 = .ok (.aload_n 0, 1) := by decide +kernel
theorem dX11_go_12 : decode cX11_go 12 = .ok (.getfield 81, 3) := by decide +kernel
theorem dX11_go_15 : decode cX11_go 15 = .ok (.iload_n 1, 1) := by decide +kernel
theorem dX11_go_16 : decode cX11_go 16 = .ok (.invokevirtual 210, 3) := by decide +kernel
theorem dX11_go_19 : decode cX11_go 19 = .ok (.goto 4, 3) := by decide +kernel
theorem dX11_go_22 : decode cX11_go 22 = .ok (.iconst (-1), 1) := by decide +kernel
theorem dX11_go_23 : decode cX11_go 23 = .ok (.ireturn, 1) := by decide +kernel
theorem dX11_fogs_0 : decode cX11_fogs 0 = .ok (.aload_n 0, 1) := by decide +kernel
theorem dX11_fogs_1 : decode cX11_fogs 1 = .ok (.getfield 81, 3) := by decide +kernel
theorem dX11_fogs_4 : decode cX11_fogs 4 = .ok (.iload_n 1, 1) := by decide +kernel
theorem dX11_fogs_5 : decode cX11_fogs 5 = .ok (.invokevirtual 213, 3) := by decide +kernel
theorem dX11_fogs_8 : decode cX11_fogs 8 = .ok (.ireturn, 1) := by decide +kernel
theorem dX11_years_0 : decode cX11_years 0 = .ok (.aload_n 0, 1) := by decide +kernel
theorem dX11_years_1 : decode cX11_years 1 = .ok (.getfield 81, 3) := by decide +kernel
theorem dX11_years_4 : decode cX11_years 4 = .ok (.iload_n 1, 1) := by decide +kernel
theorem dX11_years_5 : decode cX11_years 5 = .ok (.invokevirtual 207, 3) := by decide +kernel
theorem dX11_years_8 : decode cX11_years 8 = .ok (.ifCond .eq 15, 3) := by decide +kernel
theorem dX11_years_11 : decode cX11_years 11 = .ok (.aload_n 0, 1) := by decide +kernel
theorem dX11_years_12 : decode cX11_years 12 = .ok (.getfield 81, 3) := by decide +kernel
theorem dX11_years_15 : decode cX11_years 15 = .ok (.iload_n 1, 1) := by decide +kernel
theorem dX11_years_16 : decode cX11_years 16 = .ok (.lload_n 2, 1) := by decide +kernel
theorem dX11_years_17 : decode cX11_years 17 = .ok (.invokevirtual 216, 3) := by decide +kernel
theorem dX11_years_20 : decode cX11_years 20 = .ok (.goto 4, 3) := by decide +kernel
theorem dX11_years_23 : decode cX11_years 23 = .ok (.iconst (-1), 1) := by decide +kernel
theorem dX11_years_24 : decode cX11_years 24 = .ok (.ireturn, 1) := by decide +kernel
theorem dX11_undo_0 : decode cX11_undo 0 = .ok (.aload_n 0, 1) := by decide +kernel
theorem dX11_undo_1 : decode cX11_undo 1 = .ok (.getfield 63, 3) := by decide +kernel
theorem dX11_undo_4 : decode cX11_undo 4 = .ok (.invokevirtual 220, 3) := by decide +kernel
theorem dX11_undo_7 : decode cX11_undo 7 = .ok (.ireturn, 1) := by decide +kernel
theorem dX11_log_0 : decode cX11_log 0 = .ok (.aload_n 0, 1) := by decide +kernel
theorem dX11_log_1 : decode cX11_log 1 = .ok (.getfield 54, 3) := by decide +kernel
theorem dX11_log_4 : decode cX11_log 4 = .ok (.iload_n 1, 1) := by decide +kernel
theorem dX11_log_5 : decode cX11_log 5 = .ok (.iload_n 2, 1) := by decide +kernel
theorem dX11_log_6 : decode cX11_log 6 = .ok (.invokevirtual 223, 3) := by decide +kernel
theorem dX11_log_9 : decode cX11_log 9 = .ok (.ireturn, 1) := by decide +kernel
theorem dX11_comes_0 : decode cX11_comes 0 = .ok (.aload_n 0, 1) := by decide +kernel
theorem dX11_comes_1 : decode cX11_comes 1 = .ok (.getfield 19, 3) := by decide +kernel
theorem dX11_comes_4 : decode cX11_comes 4 = .ok (.iload_n 1, 1) := by decide +kernel
theorem dX11_comes_5 : decode cX11_comes 5 = .ok (.invokevirtual 140, 3) := by decide +kernel
theorem dX11_comes_8 : decode cX11_comes 8 = .ok (.ifCond .eq 24, 3) := by decide +kernel
theorem dX11_comes_11 : decode cX11_comes 11 = .ok (.aload_n 0, 1) := by decide +kernel
theorem dX11_comes_12 : decode cX11_comes 12 = .ok (.getfield 19, 3) := by decide +kernel
theorem dX11_comes_15 : decode cX11_comes 15 = .ok (.iload_n 2, 1) := by decide +kernel
theorem dX11_comes_16 : decode cX11_comes 16 = .ok (.invokevirtual 143, 3) := by decide +kernel
theorem dX11_comes_19 : decode cX11_comes 19 = .ok (.ifCond .eq 13, 3) := by decide +kernel
theorem dX11_comes_22 : decode cX11_comes 22 = .ok (.iload_n 3, 1) := by decide +kernel
theorem dX11_comes_23 : decode cX11_comes 23 = .ok (.ifCond .lt 9, 3) := by decide +kernel
theorem dX11_comes_26 : decode cX11_comes 26 = .ok (.iload_n 3, 1) := by decide +kernel
theorem dX11_comes_27 : decode cX11_comes 27 = .ok (.bipush 99, 2) := by decide +kernel
theorem dX11_comes_29 : decode cX11_comes 29 = .ok (.if_icmp .le 5, 3) := by decide +kernel
theorem dX11_comes_32 : decode cX11_comes 32 = .ok (.iconst (-1), 1) := by decide +kernel
theorem dX11_comes_33 : decode cX11_comes 33 = .ok (.ireturn, 1) := by decide +kernel
theorem dX11_comes_34 : decode cX11_comes 34 = .ok (.aload_n 0, 1) := by decide +kernel
theorem dX11_comes_35 : decode cX11_comes 35 = .ok (.getfield 72, 3) := by decide +kernel
theorem dX11_comes_38 : decode cX11_comes 38 = .ok (.iload_n 1, 1) := by decide +kernel
theorem dX11_comes_39 : decode cX11_comes 39 = .ok (.iload_n 2, 1) := by decide +kernel
theorem dX11_comes_40 : decode cX11_comes 40 = .ok (.iload_n 3, 1) := by decide +kernel
theorem dX11_comes_41 : decode cX11_comes 41 = .ok (.invokevirtual 226, 3) := by decide +kernel
theorem dX11_comes_44 : decode cX11_comes 44 = .ok (.ireturn, 1) := by decide +kernel
theorem dX11_round_0 : decode cX11_round 0 = .ok (.aload_n 0, 1) := by decide +kernel
theorem dX11_round_1 : decode cX11_round 1 = .ok (.getfield 19, 3) := by decide +kernel
theorem dX11_round_4 : decode cX11_round 4 = .ok (.iload_n 1, 1) := by decide +kernel
theorem dX11_round_5 : decode cX11_round 5 = .ok (.invokevirtual 140, 3) := by decide +kernel
theorem dX11_round_8 : decode cX11_round 8 = .ok (.ifCond .eq 23, 3) := by decide +kernel
theorem dX11_round_11 : decode cX11_round 11 = .ok (.aload_n 0, 1) := by decide +kernel
theorem dX11_round_12 : decode cX11_round 12 = .ok (.getfield 19, 3) := by decide +kernel
theorem dX11_round_15 : decode cX11_round 15 = .ok (.iload_n 2, 1) := by decide +kernel
theorem dX11_round_16 : decode cX11_round 16 = .ok (.invokevirtual 143, 3) := by decide +kernel
theorem dX11_round_19 : decode cX11_round 19 = .ok (.ifCond .eq 12, 3) := by decide +kernel
theorem dX11_round_22 : decode cX11_round 22 = .ok (.iload_n 3, 1) := by decide +kernel
theorem dX11_round_23 : decode cX11_round 23 = .ok (.ifCond .lt 8, 3) := by decide +kernel
theorem dX11_round_26 : decode cX11_round 26 = .ok (.iload_n 3, 1) := by decide +kernel
theorem dX11_round_27 : decode cX11_round 27 = .ok (.iconst 1, 1) := by decide +kernel
theorem dX11_round_28 : decode cX11_round 28 = .ok (.if_icmp .le 5, 3) := by decide +kernel
theorem dX11_round_31 : decode cX11_round 31 = .ok (.iconst (-1), 1) := by decide +kernel
theorem dX11_round_32 : decode cX11_round 32 = .ok (.ireturn, 1) := by decide +kernel
theorem dX11_round_33 : decode cX11_round 33 = .ok (.aload_n 0, 1) := by decide +kernel
theorem dX11_round_34 : decode cX11_round 34 = .ok (.getfield 72, 3) := by decide +kernel
theorem dX11_round_37 : decode cX11_round 37 = .ok (.iload_n 1, 1) := by decide +kernel
theorem dX11_round_38 : decode cX11_round 38 = .ok (.iload_n 2, 1) := by decide +kernel
theorem dX11_round_39 : decode cX11_round 39 = .ok (.invokevirtual 230, 3) := by decide +kernel
theorem dX11_round_42 : decode cX11_round 42 = .ok (.istore 4, 2) := by decide +kernel
theorem dX11_round_44 : decode cX11_round 44 = .ok (.iload_n 3, 1) := by decide +kernel
theorem dX11_round_45 : decode cX11_round 45 = .ok (.iconst 1, 1) := by decide +kernel
theorem dX11_round_46 : decode cX11_round 46 = .ok (.if_icmp .ne 8, 3) := by decide +kernel
theorem dX11_round_49 : decode cX11_round 49 = .ok (.iload 4, 2) := by decide +kernel
theorem dX11_round_51 : decode cX11_round 51 = .ok (.goto 14, 3) := by decide +kernel
theorem dX11_round_54 : decode cX11_round 54 = .ok (.aload_n 0, 1) := by decide +kernel
theorem dX11_round_55 : decode cX11_round 55 = .ok (.getfield 72, 3) := by decide +kernel
theorem dX11_round_58 : decode cX11_round 58 = .ok (.iload_n 1, 1) := by decide +kernel
theorem dX11_round_59 : decode cX11_round 59 = .ok (.iload_n 2, 1) := by decide +kernel
theorem dX11_round_60 : decode cX11_round 60 = .ok (.iload 4, 2) := by decide +kernel
theorem dX11_round_62 : decode cX11_round 62 = .ok (.invokevirtual 233, 3) := by decide +kernel
theorem dX11_round_65 : decode cX11_round 65 = .ok (.ireturn, 1) := by decide +kernel
theorem dX11_areAsked_0 : decode cX11_areAsked 0 = .ok (.aload_n 0, 1) := by decide +kernel
theorem dX11_areAsked_1 : decode cX11_areAsked 1 = .ok (.getfield 19, 3) := by decide +kernel
theorem dX11_areAsked_4 : decode cX11_areAsked 4 = .ok (.iload_n 1, 1) := by decide +kernel
theorem dX11_areAsked_5 : decode cX11_areAsked 5 = .ok (.invokevirtual 140, 3) := by decide +kernel
theorem dX11_areAsked_8 : decode cX11_areAsked 8 = .ok (.ifCond .eq 29, 3) := by decide +kernel
theorem dX11_areAsked_11 : decode cX11_areAsked 11 = .ok (.aload_n 0, 1) := by decide +kernel
theorem dX11_areAsked_12 : decode cX11_areAsked 12 = .ok (.getfield 19, 3) := by decide +kernel
theorem dX11_areAsked_15 : decode cX11_areAsked 15 = .ok (.iload_n 2, 1) := by decide +kernel
theorem dX11_areAsked_16 : decode cX11_areAsked 16 = .ok (.invokevirtual 140, 3) := by decide +kernel
theorem dX11_areAsked_19 : decode cX11_areAsked 19 = .ok (.ifCond .eq 18, 3) := by decide +kernel
theorem dX11_areAsked_22 : decode cX11_areAsked 22 = .ok (.aload_n 0, 1) := by decide +kernel
theorem dX11_areAsked_23 : decode cX11_areAsked 23 = .ok (.getfield 19, 3) := by decide +kernel
theorem dX11_areAsked_26 : decode cX11_areAsked 26 = .ok (.iload_n 3, 1) := by decide +kernel
theorem dX11_areAsked_27 : decode cX11_areAsked 27 = .ok (.invokevirtual 236, 3) := by decide +kernel
theorem dX11_areAsked_30 : decode cX11_areAsked 30 = .ok (.ifCond .eq 7, 3) := by decide +kernel
theorem dX11_areAsked_33 : decode cX11_areAsked 33 = .ok (.iconst 1, 1) := by decide +kernel
theorem dX11_areAsked_34 : decode cX11_areAsked 34 = .ok (.goto 4, 3) := by decide +kernel
theorem dX11_areAsked_37 : decode cX11_areAsked 37 = .ok (.iconst 0, 1) := by decide +kernel
theorem dX11_areAsked_38 : decode cX11_areAsked 38 = .ok (.ireturn, 1) := by decide +kernel
theorem dX11_changes_0 : decode cX11_changes 0 = .ok (.aload_n 0, 1) := by decide +kernel
theorem dX11_changes_1 : decode cX11_changes 1 = .ok (.iload_n 1, 1) := by decide +kernel
theorem dX11_changes_2 : decode cX11_changes 2 = .ok (.iload_n 2, 1) := by decide +kernel
theorem dX11_changes_3 : decode cX11_changes 3 = .ok (.iload_n 3, 1) := by decide +kernel
theorem dX11_changes_4 : decode cX11_changes 4 = .ok (.invokevirtual 239, 3) := by decide +kernel
theorem dX11_changes_7 : decode cX11_changes 7 = .ok (.ifCond .eq 16, 3) := by decide +kernel
theorem dX11_changes_10 : decode cX11_changes 10 = .ok (.aload_n 0, 1) := by decide +kernel
theorem dX11_changes_11 : decode cX11_changes 11 = .ok (.getfield 72, 3) := by decide +kernel
theorem dX11_changes_14 : decode cX11_changes 14 = .ok (.iload_n 1, 1) := by decide +kernel
theorem dX11_changes_15 : decode cX11_changes 15 = .ok (.iload_n 2, 1) := by decide +kernel
theorem dX11_changes_16 : decode cX11_changes 16 = .ok (.iload_n 3, 1) := by decide +kernel
theorem dX11_changes_17 : decode cX11_changes 17 = .ok (.invokevirtual 243, 3) := by decide +kernel
theorem dX11_changes_20 : decode cX11_changes 20 = .ok (.goto 4, 3) := by decide +kernel
theorem dX11_changes_23 : decode cX11_changes 23 = .ok (.iconst (-1), 1) := by decide +kernel
theorem dX11_changes_24 : decode cX11_changes 24 = .ok (.ireturn, 1) := by decide +kernel
theorem dX11_soonest_0 : decode cX11_soonest 0 = .ok (.aload_n 0, 1) := by decide +kernel
theorem dX11_soonest_1 : decode cX11_soonest 1 = .ok (.iload_n 1, 1) := by decide +kernel
theorem dX11_soonest_2 : decode cX11_soonest 2 = .ok (.iload_n 2, 1) := by decide +kernel
theorem dX11_soonest_3 : decode cX11_soonest 3 = .ok (.iload_n 3, 1) := by decide +kernel
theorem dX11_soonest_4 : decode cX11_soonest 4 = .ok (.invokevirtual 239, 3) := by decide +kernel
theorem dX11_soonest_7 : decode cX11_soonest 7 = .ok (.ifCond .eq 14, 3) := by decide +kernel
theorem dX11_soonest_10 : decode cX11_soonest 10 = .ok (.iload 4, 2) := by decide +kernel
theorem dX11_soonest_12 : decode cX11_soonest 12 = .ok (.ifCond .lt 9, 3) := by decide +kernel
theorem dX11_soonest_15 : decode cX11_soonest 15 = .ok (.iload 4, 2) := by decide +kernel
theorem dX11_soonest_17 : decode cX11_soonest 17 = .ok (.iconst 1, 1) := by decide +kernel
theorem dX11_soonest_18 : decode cX11_soonest 18 = .ok (.if_icmp .le 5, 3) := by decide +kernel
theorem dX11_soonest_21 : decode cX11_soonest 21 = .ok (.iconst (-1), 1) := by decide +kernel
theorem dX11_soonest_22 : decode cX11_soonest 22 = .ok (.ireturn, 1) := by decide +kernel
theorem dX11_soonest_23 : decode cX11_soonest 23 = .ok (.iload 4, 2) := by decide +kernel
theorem dX11_soonest_25 : decode cX11_soonest 25 = .ok (.ifCond .ne 16, 3) := by decide +kernel
theorem dX11_soonest_28 : decode cX11_soonest 28 = .ok (.aload_n 0, 1) := by decide +kernel
theorem dX11_soonest_29 : decode cX11_soonest 29 = .ok (.getfield 72, 3) := by decide +kernel
theorem dX11_soonest_32 : decode cX11_soonest 32 = .ok (.iload_n 1, 1) := by decide +kernel
theorem dX11_soonest_33 : decode cX11_soonest 33 = .ok (.iload_n 2, 1) := by decide +kernel
theorem dX11_soonest_34 : decode cX11_soonest 34 = .ok (.iload_n 3, 1) := by decide +kernel
theorem dX11_soonest_35 : decode cX11_soonest 35 = .ok (.invokevirtual 246, 3) := by decide +kernel
theorem dX11_soonest_38 : decode cX11_soonest 38 = .ok (.goto 13, 3) := by decide +kernel
theorem dX11_soonest_41 : decode cX11_soonest 41 = .ok (.aload_n 0, 1) := by decide +kernel
theorem dX11_soonest_42 : decode cX11_soonest 42 = .ok (.getfield 72, 3) := by decide +kernel
theorem dX11_soonest_45 : decode cX11_soonest 45 = .ok (.iload_n 1, 1) := by decide +kernel
theorem dX11_soonest_46 : decode cX11_soonest 46 = .ok (.iload_n 2, 1) := by decide +kernel
theorem dX11_soonest_47 : decode cX11_soonest 47 = .ok (.iload_n 3, 1) := by decide +kernel
theorem dX11_soonest_48 : decode cX11_soonest 48 = .ok (.invokevirtual 249, 3) := by decide +kernel
theorem dX11_soonest_51 : decode cX11_soonest 51 = .ok (.ireturn, 1) := by decide +kernel
theorem dX11_cheapest_0 : decode cX11_cheapest 0 = .ok (.aload_n 0, 1) := by decide +kernel
theorem dX11_cheapest_1 : decode cX11_cheapest 1 = .ok (.iload_n 1, 1) := by decide +kernel
theorem dX11_cheapest_2 : decode cX11_cheapest 2 = .ok (.iload_n 2, 1) := by decide +kernel
theorem dX11_cheapest_3 : decode cX11_cheapest 3 = .ok (.iload_n 3, 1) := by decide +kernel
theorem dX11_cheapest_4 : decode cX11_cheapest 4 = .ok (.invokevirtual 239, 3) := by decide +kernel
theorem dX11_cheapest_7 : decode cX11_cheapest 7 = .ok (.ifCond .eq 16, 3) := by decide +kernel
theorem dX11_cheapest_10 : decode cX11_cheapest 10 = .ok (.aload_n 0, 1) := by decide +kernel
theorem dX11_cheapest_11 : decode cX11_cheapest 11 = .ok (.getfield 72, 3) := by decide +kernel
theorem dX11_cheapest_14 : decode cX11_cheapest 14 = .ok (.iload_n 1, 1) := by decide +kernel
theorem dX11_cheapest_15 : decode cX11_cheapest 15 = .ok (.iload_n 2, 1) := by decide +kernel
theorem dX11_cheapest_16 : decode cX11_cheapest 16 = .ok (.iload_n 3, 1) := by decide +kernel
theorem dX11_cheapest_17 : decode cX11_cheapest 17 = .ok (.invokevirtual 252, 3) := by decide +kernel
theorem dX11_cheapest_20 : decode cX11_cheapest 20 = .ok (.goto 4, 3) := by decide +kernel
theorem dX11_cheapest_23 : decode cX11_cheapest 23 = .ok (.iconst (-1), 1) := by decide +kernel
theorem dX11_cheapest_24 : decode cX11_cheapest 24 = .ok (.ireturn, 1) := by decide +kernel
theorem dX11_reached_0 : decode cX11_reached 0 = .ok (.aload_n 0, 1) := by decide +kernel
theorem dX11_reached_1 : decode cX11_reached 1 = .ok (.getfield 19, 3) := by decide +kernel
theorem dX11_reached_4 : decode cX11_reached 4 = .ok (.iload_n 1, 1) := by decide +kernel
theorem dX11_reached_5 : decode cX11_reached 5 = .ok (.invokevirtual 140, 3) := by decide +kernel
theorem dX11_reached_8 : decode cX11_reached 8 = .ok (.ifCond .eq 26, 3) := by decide +kernel
theorem dX11_reached_11 : decode cX11_reached 11 = .ok (.aload_n 0, 1) := by decide +kernel
theorem dX11_reached_12 : decode cX11_reached 12 = .ok (.getfield 19, 3) := by decide +kernel
theorem dX11_reached_15 : decode cX11_reached 15 = .ok (.iload_n 2, 1) := by decide +kernel
theorem dX11_reached_16 : decode cX11_reached 16 = .ok (.invokevirtual 236, 3) := by decide +kernel
theorem dX11_reached_19 : decode cX11_reached 19 = .ok (.ifCond .eq 15, 3) := by decide +kernel
theorem dX11_reached_22 : decode cX11_reached 22 = .ok (.aload_n 0, 1) := by decide +kernel
theorem dX11_reached_23 : decode cX11_reached 23 = .ok (.getfield 72, 3) := by decide +kernel
theorem dX11_reached_26 : decode cX11_reached 26 = .ok (.iload_n 1, 1) := by decide +kernel
theorem dX11_reached_27 : decode cX11_reached 27 = .ok (.iload_n 2, 1) := by decide +kernel
theorem dX11_reached_28 : decode cX11_reached 28 = .ok (.invokevirtual 255, 3) := by decide +kernel
theorem dX11_reached_31 : decode cX11_reached 31 = .ok (.goto 4, 3) := by decide +kernel
theorem dX11_reached_34 : decode cX11_reached 34 = .ok (.iconst (-1), 1) := by decide +kernel
theorem dX11_reached_35 : decode cX11_reached 35 = .ok (.ireturn, 1) := by decide +kernel
theorem dX11_lamps_0 : decode cX11_lamps 0 = .ok (.aload_n 0, 1) := by decide +kernel
theorem dX11_lamps_1 : decode cX11_lamps 1 = .ok (.getfield 19, 3) := by decide +kernel
theorem dX11_lamps_4 : decode cX11_lamps 4 = .ok (.invokevirtual 258, 3) := by decide +kernel
theorem dX11_lamps_7 : decode cX11_lamps 7 = .ok (.ifCond .eq 13, 3) := by decide +kernel
theorem dX11_lamps_10 : decode cX11_lamps 10 = .ok (.aload_n 0, 1) := by decide +kernel
theorem dX11_lamps_11 : decode cX11_lamps 11 = .ok (.getfield 72, 3) := by decide +kernel
theorem dX11_lamps_14 : decode cX11_lamps 14 = .ok (.invokevirtual 261, 3) := by decide +kernel
theorem dX11_lamps_17 : decode cX11_lamps 17 = .ok (.goto 4, 3) := by decide +kernel
theorem dX11_lamps_20 : decode cX11_lamps 20 = .ok (.iconst (-1), 1) := by decide +kernel
theorem dX11_lamps_21 : decode cX11_lamps 21 = .ok (.ireturn, 1) := by decide +kernel
theorem dX11_timetable_0 : decode cX11_timetable 0 = .ok (.aload_n 0, 1) := by decide +kernel
theorem dX11_timetable_1 : decode cX11_timetable 1 = .ok (.getfield 19, 3) := by decide +kernel
theorem dX11_timetable_4 : decode cX11_timetable 4 = .ok (.invokevirtual 258, 3) := by decide +kernel
theorem dX11_timetable_7 : decode cX11_timetable 7 = .ok (.ifCond .eq 12, 3) := by decide +kernel
theorem dX11_timetable_10 : decode cX11_timetable 10 = .ok (.iload_n 1, 1) := by decide +kernel
theorem dX11_timetable_11 : decode cX11_timetable 11 = .ok (.ifCond .lt 8, 3) := by decide +kernel
theorem dX11_timetable_14 : decode cX11_timetable 14 = .ok (.iload_n 1, 1) := by decide +kernel
theorem dX11_timetable_15 : decode cX11_timetable 15 = .ok (.iconst 1, 1) := by decide +kernel
theorem dX11_timetable_16 : decode cX11_timetable 16 = .ok (.if_icmp .le 5, 3) := by decide +kernel
theorem dX11_timetable_19 : decode cX11_timetable 19 = .ok (.iconst (-1), 1) := by decide +kernel
theorem dX11_timetable_20 : decode cX11_timetable 20 = .ok (.ireturn, 1) := by decide +kernel
theorem dX11_timetable_21 : decode cX11_timetable 21 = .ok (.iload_n 1, 1) := by decide +kernel
theorem dX11_timetable_22 : decode cX11_timetable 22 = .ok (.ifCond .ne 13, 3) := by decide +kernel
theorem dX11_timetable_25 : decode cX11_timetable 25 = .ok (.aload_n 0, 1) := by decide +kernel
theorem dX11_timetable_26 : decode cX11_timetable 26 = .ok (.getfield 99, 3) := by decide +kernel
theorem dX11_timetable_29 : decode cX11_timetable 29 = .ok (.invokevirtual 264, 3) := by decide +kernel
theorem dX11_timetable_32 : decode cX11_timetable 32 = .ok (.goto 10, 3) := by decide +kernel
theorem dX11_timetable_35 : decode cX11_timetable 35 = .ok (.aload_n 0, 1) := by decide +kernel
theorem dX11_timetable_36 : decode cX11_timetable 36 = .ok (.getfield 99, 3) := by decide +kernel
theorem dX11_timetable_39 : decode cX11_timetable 39 = .ok (.invokevirtual 267, 3) := by decide +kernel
theorem dX11_timetable_42 : decode cX11_timetable 42 = .ok (.ireturn, 1) := by decide +kernel
theorem dX11_clashes_0 : decode cX11_clashes 0 = .ok (.aload_n 0, 1) := by decide +kernel
theorem dX11_clashes_1 : decode cX11_clashes 1 = .ok (.getfield 19, 3) := by decide +kernel
theorem dX11_clashes_4 : decode cX11_clashes 4 = .ok (.invokevirtual 258, 3) := by decide +kernel
theorem dX11_clashes_7 : decode cX11_clashes 7 = .ok (.ifCond .eq 13, 3) := by decide +kernel
theorem dX11_clashes_10 : decode cX11_clashes 10 = .ok (.aload_n 0, 1) := by decide +kernel
theorem dX11_clashes_11 : decode cX11_clashes 11 = .ok (.getfield 99, 3) := by decide +kernel
theorem dX11_clashes_14 : decode cX11_clashes 14 = .ok (.invokevirtual 270, 3) := by decide +kernel
theorem dX11_clashes_17 : decode cX11_clashes 17 = .ok (.goto 4, 3) := by decide +kernel
theorem dX11_clashes_20 : decode cX11_clashes 20 = .ok (.iconst (-1), 1) := by decide +kernel
theorem dX11_clashes_21 : decode cX11_clashes 21 = .ok (.ireturn, 1) := by decide +kernel
theorem dX11_lay_0 : decode cX11_lay 0 = .ok (.aload_n 0, 1) := by decide +kernel
theorem dX11_lay_1 : decode cX11_lay 1 = .ok (.getfield 19, 3) := by decide +kernel
theorem dX11_lay_4 : decode cX11_lay 4 = .ok (.iload_n 1, 1) := by decide +kernel
theorem dX11_lay_5 : decode cX11_lay 5 = .ok (.invokevirtual 140, 3) := by decide +kernel
theorem dX11_lay_8 : decode cX11_lay 8 = .ok (.ifCond .eq 26, 3) := by decide +kernel
theorem dX11_lay_11 : decode cX11_lay 11 = .ok (.aload_n 0, 1) := by decide +kernel
theorem dX11_lay_12 : decode cX11_lay 12 = .ok (.getfield 19, 3) := by decide +kernel
theorem dX11_lay_15 : decode cX11_lay 15 = .ok (.iload_n 2, 1) := by decide +kernel
theorem dX11_lay_16 : decode cX11_lay 16 = .ok (.invokevirtual 194, 3) := by decide +kernel
theorem dX11_lay_19 : decode cX11_lay 19 = .ok (.ifCond .eq 15, 3) := by decide +kernel
theorem dX11_lay_22 : decode cX11_lay 22 = .ok (.aload_n 0, 1) := by decide +kernel
theorem dX11_lay_23 : decode cX11_lay 23 = .ok (.getfield 19, 3) := by decide +kernel
theorem dX11_lay_26 : decode cX11_lay 26 = .ok (.iload 4, 2) := by decide +kernel
theorem dX11_lay_28 : decode cX11_lay 28 = .ok (.invokevirtual 140, 3) := by decide +kernel
theorem dX11_lay_31 : decode cX11_lay 31 = .ok (.ifCond .ne 5, 3) := by decide +kernel
theorem dX11_lay_34 : decode cX11_lay 34 = .ok (.iconst (-1), 1) := by decide +kernel
theorem dX11_lay_35 : decode cX11_lay 35 = .ok (.ireturn, 1) := by decide +kernel
theorem dX11_lay_36 : decode cX11_lay 36 = .ok (.iload_n 3, 1) := by decide +kernel
theorem dX11_lay_37 : decode cX11_lay 37 = .ok (.iconst 1, 1) := by decide +kernel
theorem dX11_lay_38 : decode cX11_lay 38 = .ok (.if_icmp .lt 23, 3) := by decide +kernel
theorem dX11_lay_41 : decode cX11_lay 41 = .ok (.iload_n 3, 1) := by decide +kernel
theorem dX11_lay_42 : decode cX11_lay 42 = .ok (.iconst 4, 1) := by decide +kernel
theorem dX11_lay_43 : decode cX11_lay 43 = .ok (.if_icmp .gt 18, 3) := by decide +kernel
theorem dX11_lay_46 : decode cX11_lay 46 = .ok (.aload_n 0, 1) := by decide +kernel
theorem dX11_lay_47 : decode cX11_lay 47 = .ok (.getfield 90, 3) := by decide +kernel
theorem dX11_lay_50 : decode cX11_lay 50 = .ok (.iload_n 1, 1) := by decide +kernel
theorem dX11_lay_51 : decode cX11_lay 51 = .ok (.iload_n 2, 1) := by decide +kernel
theorem dX11_lay_52 : decode cX11_lay 52 = .ok (.iload_n 3, 1) := by decide +kernel
theorem dX11_lay_53 : decode cX11_lay 53 = .ok (.iload 4, 2) := by decide +kernel
theorem dX11_lay_55 : decode cX11_lay 55 = .ok (.invokevirtual 273, 3) := by decide +kernel
theorem dX11_lay_58 : decode cX11_lay 58 = .ok (.goto 4, 3) := by decide +kernel
theorem dX11_lay_61 : decode cX11_lay 61 = .ok (.iconst (-1), 1) := by decide +kernel
theorem dX11_lay_62 : decode cX11_lay 62 = .ok (.ireturn, 1) := by decide +kernel
theorem dX11_nets_0 : decode cX11_nets 0 = .ok (.aload_n 0, 1) := by decide +kernel
theorem dX11_nets_1 : decode cX11_nets 1 = .ok (.getfield 19, 3) := by decide +kernel
theorem dX11_nets_4 : decode cX11_nets 4 = .ok (.invokevirtual 258, 3) := by decide +kernel
theorem dX11_nets_7 : decode cX11_nets 7 = .ok (.ifCond .eq 8, 3) := by decide +kernel
theorem dX11_nets_10 : decode cX11_nets 10 = .ok (.iload_n 1, 1) := by decide +kernel
theorem dX11_nets_11 : decode cX11_nets 11 = .ok (.iconst (-1), 1) := by decide +kernel
theorem dX11_nets_12 : decode cX11_nets 12 = .ok (.if_icmp .ge 5, 3) := by decide +kernel
theorem dX11_nets_15 : decode cX11_nets 15 = .ok (.iconst (-1), 1) := by decide +kernel
theorem dX11_nets_16 : decode cX11_nets 16 = .ok (.ireturn, 1) := by decide +kernel
theorem dX11_nets_17 : decode cX11_nets 17 = .ok (.iload_n 1, 1) := by decide +kernel
theorem dX11_nets_18 : decode cX11_nets 18 = .ok (.iconst (-1), 1) := by decide +kernel
theorem dX11_nets_19 : decode cX11_nets 19 = .ok (.if_icmp .ne 13, 3) := by decide +kernel
theorem dX11_nets_22 : decode cX11_nets 22 = .ok (.aload_n 0, 1) := by decide +kernel
theorem dX11_nets_23 : decode cX11_nets 23 = .ok (.getfield 90, 3) := by decide +kernel
theorem dX11_nets_26 : decode cX11_nets 26 = .ok (.invokevirtual 275, 3) := by decide +kernel
theorem dX11_nets_29 : decode cX11_nets 29 = .ok (.goto 11, 3) := by decide +kernel
theorem dX11_nets_32 : decode cX11_nets 32 = .ok (.aload_n 0, 1) := by decide +kernel
theorem dX11_nets_33 : decode cX11_nets 33 = .ok (.getfield 90, 3) := by decide +kernel
theorem dX11_nets_36 : decode cX11_nets 36 = .ok (.iload_n 1, 1) := by decide +kernel
theorem dX11_nets_37 : decode cX11_nets 37 = .ok (.invokevirtual 278, 3) := by decide +kernel
theorem dX11_nets_40 : decode cX11_nets 40 = .ok (.ireturn, 1) := by decide +kernel
theorem dX11_could_0 : decode cX11_could 0 = .ok (.iload_n 1, 1) := by decide +kernel
theorem dX11_could_1 : decode cX11_could 1 = .ok (.ifCond .lt 25, 3) := by decide +kernel
theorem dX11_could_4 : decode cX11_could 4 = .ok (.iload_n 1, 1) := by decide +kernel
theorem dX11_could_5 : decode cX11_could 5 = .ok (.aload_n 0, 1) := by decide +kernel
theorem dX11_could_6 : decode cX11_could 6 = .ok (.getfield 90, 3) := by decide +kernel
theorem dX11_could_9 : decode cX11_could 9 = .ok (.invokevirtual 281, 3) := by decide +kernel
theorem dX11_could_12 : decode cX11_could 12 = .ok (.if_icmp .ge 14, 3) := by decide +kernel
theorem dX11_could_15 : decode cX11_could 15 = .ok (.aload_n 0, 1) := by decide +kernel
theorem dX11_could_16 : decode cX11_could 16 = .ok (.getfield 90, 3) := by decide +kernel
theorem dX11_could_19 : decode cX11_could 19 = .ok (.iload_n 1, 1) := by decide +kernel
theorem dX11_could_20 : decode cX11_could 20 = .ok (.invokevirtual 284, 3) := by decide +kernel
theorem dX11_could_23 : decode cX11_could 23 = .ok (.goto 4, 3) := by decide +kernel
theorem dX11_could_26 : decode cX11_could 26 = .ok (.iconst (-1), 1) := by decide +kernel
theorem dX11_could_27 : decode cX11_could 27 = .ok (.ireturn, 1) := by decide +kernel
theorem dX11_tells_0 : decode cX11_tells 0 = .ok (.iload_n 1, 1) := by decide +kernel
theorem dX11_tells_1 : decode cX11_tells 1 = .ok (.ifCond .lt 18, 3) := by decide +kernel
theorem dX11_tells_4 : decode cX11_tells 4 = .ok (.iload_n 1, 1) := by decide +kernel
theorem dX11_tells_5 : decode cX11_tells 5 = .ok (.iconst 1, 1) := by decide +kernel
theorem dX11_tells_6 : decode cX11_tells 6 = .ok (.if_icmp .gt 13, 3) := by decide +kernel
theorem dX11_tells_9 : decode cX11_tells 9 = .ok (.aload_n 0, 1) := by decide +kernel
theorem dX11_tells_10 : decode cX11_tells 10 = .ok (.getfield 90, 3) := by decide +kernel
theorem dX11_tells_13 : decode cX11_tells 13 = .ok (.invokevirtual 281, 3) := by decide +kernel
theorem dX11_tells_16 : decode cX11_tells 16 = .ok (.ifCond .ne 5, 3) := by decide +kernel
theorem dX11_tells_19 : decode cX11_tells 19 = .ok (.iconst (-1), 1) := by decide +kernel
theorem dX11_tells_20 : decode cX11_tells 20 = .ok (.ireturn, 1) := by decide +kernel
theorem dX11_tells_21 : decode cX11_tells 21 = .ok (.aload_n 0, 1) := by decide +kernel
theorem dX11_tells_22 : decode cX11_tells 22 = .ok (.getfield 90, 3) := by decide +kernel
theorem dX11_tells_25 : decode cX11_tells 25 = .ok (.invokevirtual 287, 3) := by decide +kernel
theorem dX11_tells_28 : decode cX11_tells 28 = .ok (.istore_n 2, 1) := by decide +kernel
theorem dX11_tells_29 : decode cX11_tells 29 = .ok (.iload_n 1, 1) := by decide +kernel
theorem dX11_tells_30 : decode cX11_tells 30 = .ok (.ifCond .eq 8, 3) := by decide +kernel
theorem dX11_tells_33 : decode cX11_tells 33 = .ok (.iload_n 2, 1) := by decide +kernel
theorem dX11_tells_34 : decode cX11_tells 34 = .ok (.iconst (-1), 1) := by decide +kernel
theorem dX11_tells_35 : decode cX11_tells 35 = .ok (.if_icmp .ne 7, 3) := by decide +kernel
theorem dX11_tells_38 : decode cX11_tells 38 = .ok (.iload_n 2, 1) := by decide +kernel
theorem dX11_tells_39 : decode cX11_tells 39 = .ok (.goto 11, 3) := by decide +kernel
theorem dX11_tells_42 : decode cX11_tells 42 = .ok (.aload_n 0, 1) := by decide +kernel
theorem dX11_tells_43 : decode cX11_tells 43 = .ok (.getfield 90, 3) := by decide +kernel
theorem dX11_tells_46 : decode cX11_tells 46 = .ok (.iload_n 2, 1) := by decide +kernel
theorem dX11_tells_47 : decode cX11_tells 47 = .ok (.invokevirtual 290, 3) := by decide +kernel
theorem dX11_tells_50 : decode cX11_tells 50 = .ok (.ireturn, 1) := by decide +kernel
theorem dX11_yards_0 : decode cX11_yards 0 = .ok (.aload_n 0, 1) := by decide +kernel
theorem dX11_yards_1 : decode cX11_yards 1 = .ok (.getfield 19, 3) := by decide +kernel
theorem dX11_yards_4 : decode cX11_yards 4 = .ok (.iload_n 1, 1) := by decide +kernel
theorem dX11_yards_5 : decode cX11_yards 5 = .ok (.invokevirtual 140, 3) := by decide +kernel
theorem dX11_yards_8 : decode cX11_yards 8 = .ok (.ifCond .eq 24, 3) := by decide +kernel
theorem dX11_yards_11 : decode cX11_yards 11 = .ok (.aload_n 0, 1) := by decide +kernel
theorem dX11_yards_12 : decode cX11_yards 12 = .ok (.getfield 19, 3) := by decide +kernel
theorem dX11_yards_15 : decode cX11_yards 15 = .ok (.iload_n 2, 1) := by decide +kernel
theorem dX11_yards_16 : decode cX11_yards 16 = .ok (.invokevirtual 143, 3) := by decide +kernel
theorem dX11_yards_19 : decode cX11_yards 19 = .ok (.ifCond .eq 13, 3) := by decide +kernel
theorem dX11_yards_22 : decode cX11_yards 22 = .ok (.iload_n 3, 1) := by decide +kernel
theorem dX11_yards_23 : decode cX11_yards 23 = .ok (.ifCond .lt 9, 3) := by decide +kernel
theorem dX11_yards_26 : decode cX11_yards 26 = .ok (.iload_n 3, 1) := by decide +kernel
theorem dX11_yards_27 : decode cX11_yards 27 = .ok (.bipush 60, 2) := by decide +kernel
theorem dX11_yards_29 : decode cX11_yards 29 = .ok (.if_icmp .le 5, 3) := by decide +kernel
theorem dX11_yards_32 : decode cX11_yards 32 = .ok (.iconst (-1), 1) := by decide +kernel
theorem dX11_yards_33 : decode cX11_yards 33 = .ok (.ireturn, 1) := by decide +kernel
theorem dX11_yards_34 : decode cX11_yards 34 = .ok (.aload_n 0, 1) := by decide +kernel
theorem dX11_yards_35 : decode cX11_yards 35 = .ok (.getfield 81, 3) := by decide +kernel
theorem dX11_yards_38 : decode cX11_yards 38 = .ok (.iload_n 1, 1) := by decide +kernel
theorem dX11_yards_39 : decode cX11_yards 39 = .ok (.iload_n 2, 1) := by decide +kernel
theorem dX11_yards_40 : decode cX11_yards 40 = .ok (.iload_n 3, 1) := by decide +kernel
theorem dX11_yards_41 : decode cX11_yards 41 = .ok (.invokevirtual 293, 3) := by decide +kernel
theorem dX11_yards_44 : decode cX11_yards 44 = .ok (.ireturn, 1) := by decide +kernel
theorem dX11_unseen_0 : decode cX11_unseen 0 = .ok (.aload_n 0, 1) := by decide +kernel
theorem dX11_unseen_1 : decode cX11_unseen 1 = .ok (.getfield 19, 3) := by decide +kernel
theorem dX11_unseen_4 : decode cX11_unseen 4 = .ok (.iload_n 1, 1) := by decide +kernel
theorem dX11_unseen_5 : decode cX11_unseen 5 = .ok (.invokevirtual 140, 3) := by decide +kernel
theorem dX11_unseen_8 : decode cX11_unseen 8 = .ok (.ifCond .eq 26, 3) := by decide +kernel
theorem dX11_unseen_11 : decode cX11_unseen 11 = .ok (.aload_n 0, 1) := by decide +kernel
theorem dX11_unseen_12 : decode cX11_unseen 12 = .ok (.getfield 19, 3) := by decide +kernel
theorem dX11_unseen_15 : decode cX11_unseen 15 = .ok (.iload_n 2, 1) := by decide +kernel
theorem dX11_unseen_16 : decode cX11_unseen 16 = .ok (.invokevirtual 140, 3) := by decide +kernel
theorem dX11_unseen_19 : decode cX11_unseen 19 = .ok (.ifCond .eq 15, 3) := by decide +kernel
theorem dX11_unseen_22 : decode cX11_unseen 22 = .ok (.aload_n 0, 1) := by decide +kernel
theorem dX11_unseen_23 : decode cX11_unseen 23 = .ok (.getfield 72, 3) := by decide +kernel
theorem dX11_unseen_26 : decode cX11_unseen 26 = .ok (.iload_n 1, 1) := by decide +kernel
theorem dX11_unseen_27 : decode cX11_unseen 27 = .ok (.iload_n 2, 1) := by decide +kernel
theorem dX11_unseen_28 : decode cX11_unseen 28 = .ok (.invokevirtual 296, 3) := by decide +kernel
theorem dX11_unseen_31 : decode cX11_unseen 31 = .ok (.goto 4, 3) := by decide +kernel
theorem dX11_unseen_34 : decode cX11_unseen 34 = .ok (.iconst (-1), 1) := by decide +kernel
theorem dX11_unseen_35 : decode cX11_unseen 35 = .ok (.ireturn, 1) := by decide +kernel
theorem dX11_posts_0 : decode cX11_posts 0 = .ok (.aload_n 0, 1) := by decide +kernel
theorem dX11_posts_1 : decode cX11_posts 1 = .ok (.getfield 19, 3) := by decide +kernel
theorem dX11_posts_4 : decode cX11_posts 4 = .ok (.iload_n 1, 1) := by decide +kernel
theorem dX11_posts_5 : decode cX11_posts 5 = .ok (.invokevirtual 140, 3) := by decide +kernel
theorem dX11_posts_8 : decode cX11_posts 8 = .ok (.ifCond .eq 19, 3) := by decide +kernel
theorem dX11_posts_11 : decode cX11_posts 11 = .ok (.aload_n 0, 1) := by decide +kernel
theorem dX11_posts_12 : decode cX11_posts 12 = .ok (.getfield 19, 3) := by decide +kernel
theorem dX11_posts_15 : decode cX11_posts 15 = .ok (.iload_n 2, 1) := by decide +kernel
theorem dX11_posts_16 : decode cX11_posts 16 = .ok (.invokevirtual 140, 3) := by decide +kernel
theorem dX11_posts_19 : decode cX11_posts 19 = .ok (.ifCond .eq 8, 3) := by decide +kernel
theorem dX11_posts_22 : decode cX11_posts 22 = .ok (.iload_n 1, 1) := by decide +kernel
theorem dX11_posts_23 : decode cX11_posts 23 = .ok (.iload_n 2, 1) := by decide +kernel
theorem dX11_posts_24 : decode cX11_posts 24 = .ok (.if_icmp .ne 5, 3) := by decide +kernel
theorem dX11_posts_27 : decode cX11_posts 27 = .ok (.iconst (-1), 1) := by decide +kernel
theorem dX11_posts_28 : decode cX11_posts 28 = .ok (.ireturn, 1) := by decide +kernel
theorem dX11_posts_29 : decode cX11_posts 29 = .ok (.aload_n 0, 1) := by decide +kernel
theorem dX11_posts_30 : decode cX11_posts 30 = .ok (.getfield 72, 3) := by decide +kernel
theorem dX11_posts_33 : decode cX11_posts 33 = .ok (.iload_n 1, 1) := by decide +kernel
theorem dX11_posts_34 : decode cX11_posts 34 = .ok (.iload_n 2, 1) := by decide +kernel
theorem dX11_posts_35 : decode cX11_posts 35 = .ok (.invokevirtual 299, 3) := by decide +kernel
theorem dX11_posts_38 : decode cX11_posts 38 = .ok (.ireturn, 1) := by decide +kernel
theorem dX11_halves_0 : decode cX11_halves 0 = .ok (.aload_n 0, 1) := by decide +kernel
theorem dX11_halves_1 : decode cX11_halves 1 = .ok (.iload_n 1, 1) := by decide +kernel
theorem dX11_halves_2 : decode cX11_halves 2 = .ok (.iload_n 2, 1) := by decide +kernel
theorem dX11_halves_3 : decode cX11_halves 3 = .ok (.iload_n 3, 1) := by decide +kernel
theorem dX11_halves_4 : decode cX11_halves 4 = .ok (.invokevirtual 239, 3) := by decide +kernel
theorem dX11_halves_7 : decode cX11_halves 7 = .ok (.ifCond .eq 16, 3) := by decide +kernel
theorem dX11_halves_10 : decode cX11_halves 10 = .ok (.aload_n 0, 1) := by decide +kernel
theorem dX11_halves_11 : decode cX11_halves 11 = .ok (.getfield 72, 3) := by decide +kernel
theorem dX11_halves_14 : decode cX11_halves 14 = .ok (.iload_n 1, 1) := by decide +kernel
theorem dX11_halves_15 : decode cX11_halves 15 = .ok (.iload_n 2, 1) := by decide +kernel
theorem dX11_halves_16 : decode cX11_halves 16 = .ok (.iload_n 3, 1) := by decide +kernel
theorem dX11_halves_17 : decode cX11_halves 17 = .ok (.invokevirtual 302, 3) := by decide +kernel
theorem dX11_halves_20 : decode cX11_halves 20 = .ok (.goto 4, 3) := by decide +kernel
theorem dX11_halves_23 : decode cX11_halves 23 = .ok (.iconst (-1), 1) := by decide +kernel
theorem dX11_halves_24 : decode cX11_halves 24 = .ok (.ireturn, 1) := by decide +kernel
theorem dX11_smuggles_0 : decode cX11_smuggles 0 = .ok (.aload_n 0, 1) := by decide +kernel
theorem dX11_smuggles_1 : decode cX11_smuggles 1 = .ok (.getfield 19, 3) := by decide +kernel
theorem dX11_smuggles_4 : decode cX11_smuggles 4 = .ok (.iload_n 1, 1) := by decide +kernel
theorem dX11_smuggles_5 : decode cX11_smuggles 5 = .ok (.invokevirtual 140, 3) := by decide +kernel
theorem dX11_smuggles_8 : decode cX11_smuggles 8 = .ok (.ifCond .eq 37, 3) := by decide +kernel
theorem dX11_smuggles_11 : decode cX11_smuggles 11 = .ok (.aload_n 0, 1) := by decide +kernel
theorem dX11_smuggles_12 : decode cX11_smuggles 12 = .ok (.getfield 19, 3) := by decide +kernel
theorem dX11_smuggles_15 : decode cX11_smuggles 15 = .ok (.iload_n 3, 1) := by decide +kernel
theorem dX11_smuggles_16 : decode cX11_smuggles 16 = .ok (.invokevirtual 194, 3) := by decide +kernel
theorem dX11_smuggles_19 : decode cX11_smuggles 19 = .ok (.ifCond .eq 26, 3) := by decide +kernel
theorem dX11_smuggles_22 : decode cX11_smuggles 22 = .ok (.aload_n 0, 1) := by decide +kernel
theorem dX11_smuggles_23 : decode cX11_smuggles 23 = .ok (.getfield 19, 3) := by decide +kernel
theorem dX11_smuggles_26 : decode cX11_smuggles 26 = .ok (.iload 4, 2) := by decide +kernel
theorem dX11_smuggles_28 : decode cX11_smuggles 28 = .ok (.invokevirtual 140, 3) := by decide +kernel
theorem dX11_smuggles_31 : decode cX11_smuggles 31 = .ok (.ifCond .eq 14, 3) := by decide +kernel
theorem dX11_smuggles_34 : decode cX11_smuggles 34 = .ok (.iload_n 2, 1) := by decide +kernel
theorem dX11_smuggles_35 : decode cX11_smuggles 35 = .ok (.iconst 1, 1) := by decide +kernel
theorem dX11_smuggles_36 : decode cX11_smuggles 36 = .ok (.if_icmp .lt 9, 3) := by decide +kernel
theorem dX11_smuggles_39 : decode cX11_smuggles 39 = .ok (.iload_n 2, 1) := by decide +kernel
theorem dX11_smuggles_40 : decode cX11_smuggles 40 = .ok (.bipush 9, 2) := by decide +kernel
theorem dX11_smuggles_42 : decode cX11_smuggles 42 = .ok (.if_icmp .le 6, 3) := by decide +kernel
theorem dX11_smuggles_45 : decode cX11_smuggles 45 = .ok (.ldc 150, 2) := by decide +kernel
theorem dX11_smuggles_47 : decode cX11_smuggles 47 = .ok (.ireturn, 1) := by decide +kernel
theorem dX11_smuggles_48 : decode cX11_smuggles 48 = .ok (.aload_n 0, 1) := by decide +kernel
theorem dX11_smuggles_49 : decode cX11_smuggles 49 = .ok (.getfield 99, 3) := by decide +kernel
theorem dX11_smuggles_52 : decode cX11_smuggles 52 = .ok (.iload_n 1, 1) := by decide +kernel
theorem dX11_smuggles_53 : decode cX11_smuggles 53 = .ok (.iload_n 2, 1) := by decide +kernel
theorem dX11_smuggles_54 : decode cX11_smuggles 54 = .ok (.iload_n 3, 1) := by decide +kernel
theorem dX11_smuggles_55 : decode cX11_smuggles 55 = .ok (.iload 4, 2) := by decide +kernel
theorem dX11_smuggles_57 : decode cX11_smuggles 57 = .ok (.invokevirtual 305, 3) := by decide +kernel
theorem dX11_smuggles_60 : decode cX11_smuggles 60 = .ok (.ireturn, 1) := by decide +kernel
theorem dX11_rests_0 : decode cX11_rests 0 = .ok (.aload_n 0, 1) := by decide +kernel
theorem dX11_rests_1 : decode cX11_rests 1 = .ok (.getfield 19, 3) := by decide +kernel
theorem dX11_rests_4 : decode cX11_rests 4 = .ok (.iload_n 1, 1) := by decide +kernel
theorem dX11_rests_5 : decode cX11_rests 5 = .ok (.invokevirtual 140, 3) := by decide +kernel
theorem dX11_rests_8 : decode cX11_rests 8 = .ok (.ifCond .eq 19, 3) := by decide +kernel
theorem dX11_rests_11 : decode cX11_rests 11 = .ok (.iload_n 2, 1) := by decide +kernel
theorem dX11_rests_12 : decode cX11_rests 12 = .ok (.iconst 1, 1) := by decide +kernel
theorem dX11_rests_13 : decode cX11_rests 13 = .ok (.if_icmp .lt 14, 3) := by decide +kernel
theorem dX11_rests_16 : decode cX11_rests 16 = .ok (.iload_n 2, 1) := by decide +kernel
theorem dX11_rests_17 : decode cX11_rests 17 = .ok (.bipush 9, 2) := by decide +kernel
theorem dX11_rests_19 : decode cX11_rests 19 = .ok (.if_icmp .gt 8, 3) := by decide +kernel
theorem dX11_rests_22 : decode cX11_rests 22 = .ok (.iload_n 3, 1) := by decide +kernel
theorem dX11_rests_23 : decode cX11_rests 23 = .ok (.iconst (-1), 1) := by decide +kernel
theorem dX11_rests_24 : decode cX11_rests 24 = .ok (.if_icmp .ge 5, 3) := by decide +kernel
theorem dX11_rests_27 : decode cX11_rests 27 = .ok (.iconst (-1), 1) := by decide +kernel
theorem dX11_rests_28 : decode cX11_rests 28 = .ok (.ireturn, 1) := by decide +kernel
theorem dX11_rests_29 : decode cX11_rests 29 = .ok (.iload_n 3, 1) := by decide +kernel
theorem dX11_rests_30 : decode cX11_rests 30 = .ok (.iconst (-1), 1) := by decide +kernel
theorem dX11_rests_31 : decode cX11_rests 31 = .ok (.if_icmp .ne 15, 3) := by decide +kernel
theorem dX11_rests_34 : decode cX11_rests 34 = .ok (.aload_n 0, 1) := by decide +kernel
theorem dX11_rests_35 : decode cX11_rests 35 = .ok (.getfield 99, 3) := by decide +kernel
theorem dX11_rests_38 : decode cX11_rests 38 = .ok (.iload_n 1, 1) := by decide +kernel
theorem dX11_rests_39 : decode cX11_rests 39 = .ok (.iload_n 2, 1) := by decide +kernel
theorem dX11_rests_40 : decode cX11_rests 40 = .ok (.invokevirtual 308, 3) := by decide +kernel
theorem dX11_rests_43 : decode cX11_rests 43 = .ok (.goto 13, 3) := by decide +kernel
theorem dX11_rests_46 : decode cX11_rests 46 = .ok (.aload_n 0, 1) := by decide +kernel
theorem dX11_rests_47 : decode cX11_rests 47 = .ok (.getfield 99, 3) := by decide +kernel
theorem dX11_rests_50 : decode cX11_rests 50 = .ok (.iload_n 1, 1) := by decide +kernel
theorem dX11_rests_51 : decode cX11_rests 51 = .ok (.iload_n 2, 1) := by decide +kernel
theorem dX11_rests_52 : decode cX11_rests 52 = .ok (.iload_n 3, 1) := by decide +kernel
theorem dX11_rests_53 : decode cX11_rests 53 = .ok (.invokevirtual 311, 3) := by decide +kernel
theorem dX11_rests_56 : decode cX11_rests 56 = .ok (.ireturn, 1) := by decide +kernel
theorem dX11_astray_0 : decode cX11_astray 0 = .ok (.aload_n 0, 1) := by decide +kernel
theorem dX11_astray_1 : decode cX11_astray 1 = .ok (.getfield 19, 3) := by decide +kernel
theorem dX11_astray_4 : decode cX11_astray 4 = .ok (.invokevirtual 258, 3) := by decide +kernel
theorem dX11_astray_7 : decode cX11_astray 7 = .ok (.ifCond .eq 13, 3) := by decide +kernel
theorem dX11_astray_10 : decode cX11_astray 10 = .ok (.aload_n 0, 1) := by decide +kernel
theorem dX11_astray_11 : decode cX11_astray 11 = .ok (.getfield 54, 3) := by decide +kernel
theorem dX11_astray_14 : decode cX11_astray 14 = .ok (.invokevirtual 314, 3) := by decide +kernel
theorem dX11_astray_17 : decode cX11_astray 17 = .ok (.goto 4, 3) := by decide +kernel
theorem dX11_astray_20 : decode cX11_astray 20 = .ok (.iconst (-1), 1) := by decide +kernel
theorem dX11_astray_21 : decode cX11_astray 21 = .ok (.ireturn, 1) := by decide +kernel
theorem dX11_due_0 : decode cX11_due 0 = .ok (.aload_n 0, 1) := by decide +kernel
theorem dX11_due_1 : decode cX11_due 1 = .ok (.getfield 54, 3) := by decide +kernel
theorem dX11_due_4 : decode cX11_due 4 = .ok (.iload_n 1, 1) := by decide +kernel
theorem dX11_due_5 : decode cX11_due 5 = .ok (.invokevirtual 161, 3) := by decide +kernel
theorem dX11_due_8 : decode cX11_due 8 = .ok (.ifCond .eq 14, 3) := by decide +kernel
theorem dX11_due_11 : decode cX11_due 11 = .ok (.aload_n 0, 1) := by decide +kernel
theorem dX11_due_12 : decode cX11_due 12 = .ok (.getfield 54, 3) := by decide +kernel
theorem dX11_due_15 : decode cX11_due 15 = .ok (.iload_n 1, 1) := by decide +kernel
theorem dX11_due_16 : decode cX11_due 16 = .ok (.invokevirtual 317, 3) := by decide +kernel
theorem dX11_due_19 : decode cX11_due 19 = .ok (.goto 4, 3) := by decide +kernel
theorem dX11_due_22 : decode cX11_due 22 = .ok (.iconst (-1), 1) := by decide +kernel
theorem dX11_due_23 : decode cX11_due 23 = .ok (.ireturn, 1) := by decide +kernel
theorem dX11_loops_0 : decode cX11_loops 0 = .ok (.aload_n 0, 1) := by decide +kernel
theorem dX11_loops_1 : decode cX11_loops 1 = .ok (.getfield 19, 3) := by decide +kernel
theorem dX11_loops_4 : decode cX11_loops 4 = .ok (.iload_n 1, 1) := by decide +kernel
theorem dX11_loops_5 : decode cX11_loops 5 = .ok (.invokevirtual 140, 3) := by decide +kernel
theorem dX11_loops_8 : decode cX11_loops 8 = .ok (.ifCond .eq 14, 3) := by decide +kernel
theorem dX11_loops_11 : decode cX11_loops 11 = .ok (.aload_n 0, 1) := by decide +kernel
theorem dX11_loops_12 : decode cX11_loops 12 = .ok (.getfield 72, 3) := by decide +kernel
theorem dX11_loops_15 : decode cX11_loops 15 = .ok (.iload_n 1, 1) := by decide +kernel
theorem dX11_loops_16 : decode cX11_loops 16 = .ok (.invokevirtual 320, 3) := by decide +kernel
theorem dX11_loops_19 : decode cX11_loops 19 = .ok (.goto 4, 3) := by decide +kernel
theorem dX11_loops_22 : decode cX11_loops 22 = .ok (.iconst (-1), 1) := by decide +kernel
theorem dX11_loops_23 : decode cX11_loops 23 = .ok (.ireturn, 1) := by decide +kernel
theorem dX11_safe_0 : decode cX11_safe 0 = .ok (.aload_n 0, 1) := by decide +kernel
theorem dX11_safe_1 : decode cX11_safe 1 = .ok (.getfield 19, 3) := by decide +kernel
theorem dX11_safe_4 : decode cX11_safe 4 = .ok (.invokevirtual 258, 3) := by decide +kernel
theorem dX11_safe_7 : decode cX11_safe 7 = .ok (.ifCond .eq 13, 3) := by decide +kernel
theorem dX11_safe_10 : decode cX11_safe 10 = .ok (.aload_n 0, 1) := by decide +kernel
theorem dX11_safe_11 : decode cX11_safe 11 = .ok (.getfield 72, 3) := by decide +kernel
theorem dX11_safe_14 : decode cX11_safe 14 = .ok (.invokevirtual 323, 3) := by decide +kernel
theorem dX11_safe_17 : decode cX11_safe 17 = .ok (.goto 4, 3) := by decide +kernel
theorem dX11_safe_20 : decode cX11_safe 20 = .ok (.iconst (-1), 1) := by decide +kernel
theorem dX11_safe_21 : decode cX11_safe 21 = .ok (.ireturn, 1) := by decide +kernel
theorem dX11_visits_0 : decode cX11_visits 0 = .ok (.aload_n 0, 1) := by decide +kernel
theorem dX11_visits_1 : decode cX11_visits 1 = .ok (.getfield 19, 3) := by decide +kernel
theorem dX11_visits_4 : decode cX11_visits 4 = .ok (.iload_n 1, 1) := by decide +kernel
theorem dX11_visits_5 : decode cX11_visits 5 = .ok (.invokevirtual 140, 3) := by decide +kernel
theorem dX11_visits_8 : decode cX11_visits 8 = .ok (.ifCond .eq 14, 3) := by decide +kernel
theorem dX11_visits_11 : decode cX11_visits 11 = .ok (.aload_n 0, 1) := by decide +kernel
theorem dX11_visits_12 : decode cX11_visits 12 = .ok (.getfield 54, 3) := by decide +kernel
theorem dX11_visits_15 : decode cX11_visits 15 = .ok (.iload_n 1, 1) := by decide +kernel
theorem dX11_visits_16 : decode cX11_visits 16 = .ok (.invokevirtual 326, 3) := by decide +kernel
theorem dX11_visits_19 : decode cX11_visits 19 = .ok (.goto 4, 3) := by decide +kernel
theorem dX11_visits_22 : decode cX11_visits 22 = .ok (.iconst (-1), 1) := by decide +kernel
theorem dX11_visits_23 : decode cX11_visits 23 = .ok (.ireturn, 1) := by decide +kernel
theorem dX11_image_0 : decode cX11_image 0 = .ok (.aload_n 0, 1) := by decide +kernel
theorem dX11_image_1 : decode cX11_image 1 = .ok (.getfield 19, 3) := by decide +kernel
theorem dX11_image_4 : decode cX11_image 4 = .ok (.invokevirtual 258, 3) := by decide +kernel
theorem dX11_image_7 : decode cX11_image 7 = .ok (.ifCond .ne 5, 3) := by decide +kernel
theorem dX11_image_10 : decode cX11_image 10 = .ok (.iconst (-1), 1) := by decide +kernel
theorem dX11_image_11 : decode cX11_image 11 = .ok (.ireturn, 1) := by decide +kernel
theorem dX11_image_12 : decode cX11_image 12 = .ok (.aload_n 0, 1) := by decide +kernel
theorem dX11_image_13 : decode cX11_image 13 = .ok (.getfield 63, 3) := by decide +kernel
theorem dX11_image_16 : decode cX11_image 16 = .ok (.invokevirtual 329, 3) := by decide +kernel
theorem dX11_image_19 : decode cX11_image 19 = .ok (.aload_n 0, 1) := by decide +kernel
theorem dX11_image_20 : decode cX11_image 20 = .ok (.getfield 54, 3) := by decide +kernel
theorem dX11_image_23 : decode cX11_image 23 = .ok (.invokevirtual 332, 3) := by decide +kernel
theorem dX11_image_26 : decode cX11_image 26 = .ok (.ireturn, 1) := by decide +kernel
theorem dX11_back_0 : decode cX11_back 0 = .ok (.aload_n 0, 1) := by decide +kernel
theorem dX11_back_1 : decode cX11_back 1 = .ok (.getfield 63, 3) := by decide +kernel
theorem dX11_back_4 : decode cX11_back 4 = .ok (.invokevirtual 335, 3) := by decide +kernel
theorem dX11_back_7 : decode cX11_back 7 = .ok (.ifCond .eq 13, 3) := by decide +kernel
theorem dX11_back_10 : decode cX11_back 10 = .ok (.aload_n 0, 1) := by decide +kernel
theorem dX11_back_11 : decode cX11_back 11 = .ok (.getfield 54, 3) := by decide +kernel
theorem dX11_back_14 : decode cX11_back 14 = .ok (.invokevirtual 332, 3) := by decide +kernel
theorem dX11_back_17 : decode cX11_back 17 = .ok (.goto 4, 3) := by decide +kernel
theorem dX11_back_20 : decode cX11_back 20 = .ok (.iconst (-1), 1) := by decide +kernel
theorem dX11_back_21 : decode cX11_back 21 = .ok (.ireturn, 1) := by decide +kernel
theorem dX11_count_0 : decode cX11_count 0 = .ok (.iload_n 1, 1) := by decide +kernel
theorem dX11_count_1 : decode cX11_count 1 = .ok (.tableswitch 111 0 7 #[47, 55, 63, 71, 79, 87, 95, 103], 47) := by decide +kernel
theorem dX11_count_48 : decode cX11_count 48 = .ok (.aload_n 0, 1) := by decide +kernel
theorem dX11_count_49 : decode cX11_count 49 = .ok (.getfield 19, 3) := by decide +kernel
theorem dX11_count_52 : decode cX11_count 52 = .ok (.invokevirtual 130, 3) := by decide +kernel
theorem dX11_count_55 : decode cX11_count 55 = .ok (.ireturn, 1) := by decide +kernel
theorem dX11_count_56 : decode cX11_count 56 = .ok (.aload_n 0, 1) := by decide +kernel
theorem dX11_count_57 : decode cX11_count 57 = .ok (.getfield 19, 3) := by decide +kernel
theorem dX11_count_60 : decode cX11_count 60 = .ok (.invokevirtual 338, 3) := by decide +kernel
theorem dX11_count_63 : decode cX11_count 63 = .ok (.ireturn, 1) := by decide +kernel
theorem dX11_count_64 : decode cX11_count 64 = .ok (.aload_n 0, 1) := by decide +kernel
theorem dX11_count_65 : decode cX11_count 65 = .ok (.getfield 54, 3) := by decide +kernel
theorem dX11_count_68 : decode cX11_count 68 = .ok (.invokevirtual 341, 3) := by decide +kernel
theorem dX11_count_71 : decode cX11_count 71 = .ok (.ireturn, 1) := by decide +kernel
theorem dX11_count_72 : decode cX11_count 72 = .ok (.aload_n 0, 1) := by decide +kernel
theorem dX11_count_73 : decode cX11_count 73 = .ok (.getfield 54, 3) := by decide +kernel
theorem dX11_count_76 : decode cX11_count 76 = .ok (.invokevirtual 344, 3) := by decide +kernel
theorem dX11_count_79 : decode cX11_count 79 = .ok (.ireturn, 1) := by decide +kernel
theorem dX11_count_80 : decode cX11_count 80 = .ok (.aload_n 0, 1) := by decide +kernel
theorem dX11_count_81 : decode cX11_count 81 = .ok (.getfield 38, 3) := by decide +kernel
theorem dX11_count_84 : decode cX11_count 84 = .ok (.invokevirtual 347, 3) := by decide +kernel
theorem dX11_count_87 : decode cX11_count 87 = .ok (.ireturn, 1) := by decide +kernel
theorem dX11_count_88 : decode cX11_count 88 = .ok (.aload_n 0, 1) := by decide +kernel
theorem dX11_count_89 : decode cX11_count 89 = .ok (.getfield 10, 3) := by decide +kernel
theorem dX11_count_92 : decode cX11_count 92 = .ok (.invokevirtual 107, 3) := by decide +kernel
theorem dX11_count_95 : decode cX11_count 95 = .ok (.ireturn, 1) := by decide +kernel
theorem dX11_count_96 : decode cX11_count 96 = .ok (.aload_n 0, 1) := by decide +kernel
theorem dX11_count_97 : decode cX11_count 97 = .ok (.getfield 38, 3) := by decide +kernel
theorem dX11_count_100 : decode cX11_count 100 = .ok (.invokevirtual 350, 3) := by decide +kernel
theorem dX11_count_103 : decode cX11_count 103 = .ok (.ireturn, 1) := by decide +kernel
theorem dX11_count_104 : decode cX11_count 104 = .ok (.aload_n 0, 1) := by decide +kernel
theorem dX11_count_105 : decode cX11_count 105 = .ok (.getfield 54, 3) := by decide +kernel
theorem dX11_count_108 : decode cX11_count 108 = .ok (.invokevirtual 332, 3) := by decide +kernel
theorem dX11_count_111 : decode cX11_count 111 = .ok (.ireturn, 1) := by decide +kernel
theorem dX11_count_112 : decode cX11_count 112 = .ok (.aload_n 0, 1) := by decide +kernel
theorem dX11_count_113 : decode cX11_count 113 = .ok (.iload_n 1, 1) := by decide +kernel
theorem dX11_count_114 : decode cX11_count 114 = .ok (.invokevirtual 353, 3) := by decide +kernel
theorem dX11_count_117 : decode cX11_count 117 = .ok (.ireturn, 1) := by decide +kernel
theorem dX11_countMore_0 : decode cX11_countMore 0 = .ok (.iload_n 1, 1) := by decide +kernel
theorem dX11_countMore_1 : decode cX11_countMore 1 = .ok (.tableswitch 87 8 13 #[39, 47, 55, 63, 71, 79], 39) := by decide +kernel
theorem dX11_countMore_40 : decode cX11_countMore 40 = .ok (.aload_n 0, 1) := by decide +kernel
theorem dX11_countMore_41 : decode cX11_countMore 41 = .ok (.getfield 54, 3) := by decide +kernel
theorem dX11_countMore_44 : decode cX11_countMore 44 = .ok (.invokevirtual 356, 3) := by decide +kernel
theorem dX11_countMore_47 : decode cX11_countMore 47 = .ok (.ireturn, 1) := by decide +kernel
theorem dX11_countMore_48 : decode cX11_countMore 48 = .ok (.aload_n 0, 1) := by decide +kernel
theorem dX11_countMore_49 : decode cX11_countMore 49 = .ok (.getfield 81, 3) := by decide +kernel
theorem dX11_countMore_52 : decode cX11_countMore 52 = .ok (.invokevirtual 359, 3) := by decide +kernel
theorem dX11_countMore_55 : decode cX11_countMore 55 = .ok (.ireturn, 1) := by decide +kernel
theorem dX11_countMore_56 : decode cX11_countMore 56 = .ok (.aload_n 0, 1) := by decide +kernel
theorem dX11_countMore_57 : decode cX11_countMore 57 = .ok (.getfield 90, 3) := by decide +kernel
theorem dX11_countMore_60 : decode cX11_countMore 60 = .ok (.invokevirtual 281, 3) := by decide +kernel
theorem dX11_countMore_63 : decode cX11_countMore 63 = .ok (.ireturn, 1) := by decide +kernel
theorem dX11_countMore_64 : decode cX11_countMore 64 = .ok (.aload_n 0, 1) := by decide +kernel
theorem dX11_countMore_65 : decode cX11_countMore 65 = .ok (.getfield 90, 3) := by decide +kernel
theorem dX11_countMore_68 : decode cX11_countMore 68 = .ok (.invokevirtual 362, 3) := by decide +kernel
theorem dX11_countMore_71 : decode cX11_countMore 71 = .ok (.ireturn, 1) := by decide +kernel
theorem dX11_countMore_72 : decode cX11_countMore 72 = .ok (.aload_n 0, 1) := by decide +kernel
theorem dX11_countMore_73 : decode cX11_countMore 73 = .ok (.getfield 54, 3) := by decide +kernel
theorem dX11_countMore_76 : decode cX11_countMore 76 = .ok (.invokevirtual 363, 3) := by decide +kernel
theorem dX11_countMore_79 : decode cX11_countMore 79 = .ok (.ireturn, 1) := by decide +kernel
theorem dX11_countMore_80 : decode cX11_countMore 80 = .ok (.aload_n 0, 1) := by decide +kernel
theorem dX11_countMore_81 : decode cX11_countMore 81 = .ok (.getfield 63, 3) := by decide +kernel
theorem dX11_countMore_84 : decode cX11_countMore 84 = .ok (.invokevirtual 366, 3) := by decide +kernel
theorem dX11_countMore_87 : decode cX11_countMore 87 = .ok (.ireturn, 1) := by decide +kernel
theorem dX11_countMore_88 : decode cX11_countMore 88 = .ok (.ldc 150, 2) := by decide +kernel
theorem dX11_countMore_90 : decode cX11_countMore 90 = .ok (.ireturn, 1) := by decide +kernel
theorem dX11_at_0 : decode cX11_at 0 = .ok (.iload_n 1, 1) := by decide +kernel
theorem dX11_at_1 : decode cX11_at 1 = .ok (.ifCond .lt 15, 3) := by decide +kernel
theorem dX11_at_4 : decode cX11_at 4 = .ok (.iload_n 1, 1) := by decide +kernel
theorem dX11_at_5 : decode cX11_at 5 = .ok (.aload_n 0, 1) := by decide +kernel
theorem dX11_at_6 : decode cX11_at 6 = .ok (.arraylength, 1) := by decide +kernel
theorem dX11_at_7 : decode cX11_at 7 = .ok (.if_icmp .ge 9, 3) := by decide +kernel
theorem dX11_at_10 : decode cX11_at 10 = .ok (.aload_n 0, 1) := by decide +kernel
theorem dX11_at_11 : decode cX11_at 11 = .ok (.iload_n 1, 1) := by decide +kernel
theorem dX11_at_12 : decode cX11_at 12 = .ok (.iaload, 1) := by decide +kernel
theorem dX11_at_13 : decode cX11_at 13 = .ok (.goto 4, 3) := by decide +kernel
theorem dX11_at_16 : decode cX11_at 16 = .ok (.iconst 0, 1) := by decide +kernel
theorem dX11_at_17 : decode cX11_at 17 = .ok (.ireturn, 1) := by decide +kernel
theorem dX11_put_0 : decode cX11_put 0 = .ok (.iload_n 1, 1) := by decide +kernel
theorem dX11_put_1 : decode cX11_put 1 = .ok (.ifCond .lt 13, 3) := by decide +kernel
theorem dX11_put_4 : decode cX11_put 4 = .ok (.iload_n 1, 1) := by decide +kernel
theorem dX11_put_5 : decode cX11_put 5 = .ok (.aload_n 0, 1) := by decide +kernel
theorem dX11_put_6 : decode cX11_put 6 = .ok (.arraylength, 1) := by decide +kernel
theorem dX11_put_7 : decode cX11_put 7 = .ok (.if_icmp .ge 7, 3) := by decide +kernel
theorem dX11_put_10 : decode cX11_put 10 = .ok (.aload_n 0, 1) := by decide +kernel
theorem dX11_put_11 : decode cX11_put 11 = .ok (.iload_n 1, 1) := by decide +kernel
theorem dX11_put_12 : decode cX11_put 12 = .ok (.iload_n 2, 1) := by decide +kernel
theorem dX11_put_13 : decode cX11_put 13 = .ok (.iastore, 1) := by decide +kernel
theorem dX11_put_14 : decode cX11_put 14 = .ok (.return_, 1) := by decide +kernel
theorem dX11_copy_0 : decode cX11_copy 0 = .ok (.aload_n 0, 1) := by decide +kernel
theorem dX11_copy_1 : decode cX11_copy 1 = .ok (.iconst 0, 1) := by decide +kernel
theorem dX11_copy_2 : decode cX11_copy 2 = .ok (.aload_n 1, 1) := by decide +kernel
theorem dX11_copy_3 : decode cX11_copy 3 = .ok (.iconst 0, 1) := by decide +kernel
theorem dX11_copy_4 : decode cX11_copy 4 = .ok (.aload_n 0, 1) := by decide +kernel
theorem dX11_copy_5 : decode cX11_copy 5 = .ok (.arraylength, 1) := by decide +kernel
theorem dX11_copy_6 : decode cX11_copy 6 = .ok (.aload_n 1, 1) := by decide +kernel
theorem dX11_copy_7 : decode cX11_copy 7 = .ok (.arraylength, 1) := by decide +kernel
theorem dX11_copy_8 : decode cX11_copy 8 = .ok (.invokestatic 367, 3) := by decide +kernel
theorem dX11_copy_11 : decode cX11_copy 11 = .ok (.invokestatic 372, 3) := by decide +kernel
theorem dX11_copy_14 : decode cX11_copy 14 = .ok (.return_, 1) := by decide +kernel
theorem dX11_darkOf_0 : decode cX11_darkOf 0 = .ok (.iload_n 0, 1) := by decide +kernel
theorem dX11_darkOf_1 : decode cX11_darkOf 1 = .ok (.iconst 5, 1) := by decide +kernel
theorem dX11_darkOf_2 : decode cX11_darkOf 2 = .ok (.imul, 1) := by decide +kernel
theorem dX11_darkOf_3 : decode cX11_darkOf 3 = .ok (.iload_n 1, 1) := by decide +kernel
theorem dX11_darkOf_4 : decode cX11_darkOf 4 = .ok (.iadd, 1) := by decide +kernel
theorem dX11_darkOf_5 : decode cX11_darkOf 5 = .ok (.ireturn, 1) := by decide +kernel
theorem dX11_holds_0 : decode cX11_holds 0 = .ok (.iload_n 0, 1) := by decide +kernel
theorem dX11_holds_1 : decode cX11_holds 1 = .ok (.iload_n 1, 1) := by decide +kernel
theorem dX11_holds_2 : decode cX11_holds 2 = .ok (.ishr, 1) := by decide +kernel
theorem dX11_holds_3 : decode cX11_holds 3 = .ok (.iconst 1, 1) := by decide +kernel
theorem dX11_holds_4 : decode cX11_holds 4 = .ok (.iand, 1) := by decide +kernel
theorem dX11_holds_5 : decode cX11_holds 5 = .ok (.iconst 1, 1) := by decide +kernel
theorem dX11_holds_6 : decode cX11_holds 6 = .ok (.if_icmp .ne 7, 3) := by decide +kernel
theorem dX11_holds_9 : decode cX11_holds 9 = .ok (.iconst 1, 1) := by decide +kernel
theorem dX11_holds_10 : decode cX11_holds 10 = .ok (.goto 4, 3) := by decide +kernel
theorem dX11_holds_13 : decode cX11_holds 13 = .ok (.iconst 0, 1) := by decide +kernel
theorem dX11_holds_14 : decode cX11_holds 14 = .ok (.ireturn, 1) := by decide +kernel
theorem dX11_faded_0 : decode cX11_faded 0 = .ok (.iload_n 0, 1) := by decide +kernel
theorem dX11_faded_1 : decode cX11_faded 1 = .ok (.iconst 5, 1) := by decide +kernel
theorem dX11_faded_2 : decode cX11_faded 2 = .ok (.if_icmp .eq 11, 3) := by decide +kernel
theorem dX11_faded_5 : decode cX11_faded 5 = .ok (.iload_n 2, 1) := by decide +kernel
theorem dX11_faded_6 : decode cX11_faded 6 = .ok (.ifCond .le 7, 3) := by decide +kernel
theorem dX11_faded_9 : decode cX11_faded 9 = .ok (.iload_n 1, 1) := by decide +kernel
theorem dX11_faded_10 : decode cX11_faded 10 = .ok (.ifCond .ge 5, 3) := by decide +kernel
theorem dX11_faded_13 : decode cX11_faded 13 = .ok (.iload_n 0, 1) := by decide +kernel
theorem dX11_faded_14 : decode cX11_faded 14 = .ok (.ireturn, 1) := by decide +kernel
theorem dX11_faded_15 : decode cX11_faded 15 = .ok (.iload_n 0, 1) := by decide +kernel
theorem dX11_faded_16 : decode cX11_faded 16 = .ok (.iload_n 1, 1) := by decide +kernel
theorem dX11_faded_17 : decode cX11_faded 17 = .ok (.iload_n 2, 1) := by decide +kernel
theorem dX11_faded_18 : decode cX11_faded 18 = .ok (.idiv, 1) := by decide +kernel
theorem dX11_faded_19 : decode cX11_faded 19 = .ok (.isub, 1) := by decide +kernel
theorem dX11_faded_20 : decode cX11_faded 20 = .ok (.istore_n 3, 1) := by decide +kernel
theorem dX11_faded_21 : decode cX11_faded 21 = .ok (.iload_n 3, 1) := by decide +kernel
theorem dX11_faded_22 : decode cX11_faded 22 = .ok (.ifCond .ge 7, 3) := by decide +kernel
theorem dX11_faded_25 : decode cX11_faded 25 = .ok (.iconst 5, 1) := by decide +kernel
theorem dX11_faded_26 : decode cX11_faded 26 = .ok (.goto 4, 3) := by decide +kernel
theorem dX11_faded_29 : decode cX11_faded 29 = .ok (.iload_n 3, 1) := by decide +kernel
theorem dX11_faded_30 : decode cX11_faded 30 = .ok (.ireturn, 1) := by decide +kernel
theorem dJ6_bitCount_0f7a4_0 : decode cJ6_bitCount_0f7a4 0 = .ok (.iload_n 0, 1) := by decide +kernel
theorem dJ6_bitCount_0f7a4_1 : decode cJ6_bitCount_0f7a4 1 = .ok (.iload_n 0, 1) := by decide +kernel
theorem dJ6_bitCount_0f7a4_2 : decode cJ6_bitCount_0f7a4 2 = .ok (.iconst 1, 1) := by decide +kernel
theorem dJ6_bitCount_0f7a4_3 : decode cJ6_bitCount_0f7a4 3 = .ok (.iushr, 1) := by decide +kernel
theorem dJ6_bitCount_0f7a4_4 : decode cJ6_bitCount_0f7a4 4 = .ok (.ldc_w 265, 3) := by decide +kernel
theorem dJ6_bitCount_0f7a4_7 : decode cJ6_bitCount_0f7a4 7 = .ok (.iand, 1) := by decide +kernel
theorem dJ6_bitCount_0f7a4_8 : decode cJ6_bitCount_0f7a4 8 = .ok (.isub, 1) := by decide +kernel
theorem dJ6_bitCount_0f7a4_9 : decode cJ6_bitCount_0f7a4 9 = .ok (.istore_n 0, 1) := by decide +kernel
theorem dJ6_bitCount_0f7a4_10 : decode cJ6_bitCount_0f7a4 10 = .ok (.iload_n 0, 1) := by decide +kernel
theorem dJ6_bitCount_0f7a4_11 : decode cJ6_bitCount_0f7a4 11 = .ok (.ldc_w 266, 3) := by decide +kernel
theorem dJ6_bitCount_0f7a4_14 : decode cJ6_bitCount_0f7a4 14 = .ok (.iand, 1) := by decide +kernel
theorem dJ6_bitCount_0f7a4_15 : decode cJ6_bitCount_0f7a4 15 = .ok (.iload_n 0, 1) := by decide +kernel
theorem dJ6_bitCount_0f7a4_16 : decode cJ6_bitCount_0f7a4 16 = .ok (.iconst 2, 1) := by decide +kernel
theorem dJ6_bitCount_0f7a4_17 : decode cJ6_bitCount_0f7a4 17 = .ok (.iushr, 1) := by decide +kernel
theorem dJ6_bitCount_0f7a4_18 : decode cJ6_bitCount_0f7a4 18 = .ok (.ldc_w 266, 3) := by decide +kernel
theorem dJ6_bitCount_0f7a4_21 : decode cJ6_bitCount_0f7a4 21 = .ok (.iand, 1) := by decide +kernel
theorem dJ6_bitCount_0f7a4_22 : decode cJ6_bitCount_0f7a4 22 = .ok (.iadd, 1) := by decide +kernel
theorem dJ6_bitCount_0f7a4_23 : decode cJ6_bitCount_0f7a4 23 = .ok (.istore_n 0, 1) := by decide +kernel
theorem dJ6_bitCount_0f7a4_24 : decode cJ6_bitCount_0f7a4 24 = .ok (.iload_n 0, 1) := by decide +kernel
theorem dJ6_bitCount_0f7a4_25 : decode cJ6_bitCount_0f7a4 25 = .ok (.iload_n 0, 1) := by decide +kernel
theorem dJ6_bitCount_0f7a4_26 : decode cJ6_bitCount_0f7a4 26 = .ok (.iconst 4, 1) := by decide +kernel
theorem dJ6_bitCount_0f7a4_27 : decode cJ6_bitCount_0f7a4 27 = .ok (.iushr, 1) := by decide +kernel
theorem dJ6_bitCount_0f7a4_28 : decode cJ6_bitCount_0f7a4 28 = .ok (.iadd, 1) := by decide +kernel
theorem dJ6_bitCount_0f7a4_29 : decode cJ6_bitCount_0f7a4 29 = .ok (.ldc_w 267, 3) := by decide +kernel
theorem dJ6_bitCount_0f7a4_32 : decode cJ6_bitCount_0f7a4 32 = .ok (.iand, 1) := by decide +kernel
theorem dJ6_bitCount_0f7a4_33 : decode cJ6_bitCount_0f7a4 33 = .ok (.istore_n 0, 1) := by decide +kernel
theorem dJ6_bitCount_0f7a4_34 : decode cJ6_bitCount_0f7a4 34 = .ok (.iload_n 0, 1) := by decide +kernel
theorem dJ6_bitCount_0f7a4_35 : decode cJ6_bitCount_0f7a4 35 = .ok (.iload_n 0, 1) := by decide +kernel
theorem dJ6_bitCount_0f7a4_36 : decode cJ6_bitCount_0f7a4 36 = .ok (.bipush 8, 2) := by decide +kernel
theorem dJ6_bitCount_0f7a4_38 : decode cJ6_bitCount_0f7a4 38 = .ok (.iushr, 1) := by decide +kernel
theorem dJ6_bitCount_0f7a4_39 : decode cJ6_bitCount_0f7a4 39 = .ok (.iadd, 1) := by decide +kernel
theorem dJ6_bitCount_0f7a4_40 : decode cJ6_bitCount_0f7a4 40 = .ok (.istore_n 0, 1) := by decide +kernel
theorem dJ6_bitCount_0f7a4_41 : decode cJ6_bitCount_0f7a4 41 = .ok (.iload_n 0, 1) := by decide +kernel
theorem dJ6_bitCount_0f7a4_42 : decode cJ6_bitCount_0f7a4 42 = .ok (.iload_n 0, 1) := by decide +kernel
theorem dJ6_bitCount_0f7a4_43 : decode cJ6_bitCount_0f7a4 43 = .ok (.bipush 16, 2) := by decide +kernel
theorem dJ6_bitCount_0f7a4_45 : decode cJ6_bitCount_0f7a4 45 = .ok (.iushr, 1) := by decide +kernel
theorem dJ6_bitCount_0f7a4_46 : decode cJ6_bitCount_0f7a4 46 = .ok (.iadd, 1) := by decide +kernel
theorem dJ6_bitCount_0f7a4_47 : decode cJ6_bitCount_0f7a4 47 = .ok (.istore_n 0, 1) := by decide +kernel
theorem dJ6_bitCount_0f7a4_48 : decode cJ6_bitCount_0f7a4 48 = .ok (.iload_n 0, 1) := by decide +kernel
theorem dJ6_bitCount_0f7a4_49 : decode cJ6_bitCount_0f7a4 49 = .ok (.bipush 63, 2) := by decide +kernel
theorem dJ6_bitCount_0f7a4_51 : decode cJ6_bitCount_0f7a4 51 = .ok (.iand, 1) := by decide +kernel
theorem dJ6_bitCount_0f7a4_52 : decode cJ6_bitCount_0f7a4 52 = .ok (.ireturn, 1) := by decide +kernel
theorem dJ9_max_7cf53_0 : decode cJ9_max_7cf53 0 = .ok (.iload_n 0, 1) := by decide +kernel
theorem dJ9_max_7cf53_1 : decode cJ9_max_7cf53 1 = .ok (.iload_n 1, 1) := by decide +kernel
theorem dJ9_max_7cf53_2 : decode cJ9_max_7cf53 2 = .ok (.if_icmp .lt 7, 3) := by decide +kernel
theorem dJ9_max_7cf53_5 : decode cJ9_max_7cf53 5 = .ok (.iload_n 0, 1) := by decide +kernel
theorem dJ9_max_7cf53_6 : decode cJ9_max_7cf53 6 = .ok (.goto 4, 3) := by decide +kernel
theorem dJ9_max_7cf53_9 : decode cJ9_max_7cf53 9 = .ok (.iload_n 1, 1) := by decide +kernel
theorem dJ9_max_7cf53_10 : decode cJ9_max_7cf53 10 = .ok (.ireturn, 1) := by decide +kernel
theorem dJ9_max_f86c9_0 : decode cJ9_max_f86c9 0 = .ok (.lload_n 0, 1) := by decide +kernel
theorem dJ9_max_f86c9_1 : decode cJ9_max_f86c9 1 = .ok (.lload_n 2, 1) := by decide +kernel
theorem dJ9_max_f86c9_2 : decode cJ9_max_f86c9 2 = .ok (.lcmp, 1) := by decide +kernel
theorem dJ9_max_f86c9_3 : decode cJ9_max_f86c9 3 = .ok (.ifCond .lt 7, 3) := by decide +kernel
theorem dJ9_max_f86c9_6 : decode cJ9_max_f86c9 6 = .ok (.lload_n 0, 1) := by decide +kernel
theorem dJ9_max_f86c9_7 : decode cJ9_max_f86c9 7 = .ok (.goto 4, 3) := by decide +kernel
theorem dJ9_max_f86c9_10 : decode cJ9_max_f86c9 10 = .ok (.lload_n 2, 1) := by decide +kernel
theorem dJ9_max_f86c9_11 : decode cJ9_max_f86c9 11 = .ok (.lreturn, 1) := by decide +kernel
theorem dJ9_min_7cf53_0 : decode cJ9_min_7cf53 0 = .ok (.iload_n 0, 1) := by decide +kernel
theorem dJ9_min_7cf53_1 : decode cJ9_min_7cf53 1 = .ok (.iload_n 1, 1) := by decide +kernel
theorem dJ9_min_7cf53_2 : decode cJ9_min_7cf53 2 = .ok (.if_icmp .gt 7, 3) := by decide +kernel
theorem dJ9_min_7cf53_5 : decode cJ9_min_7cf53 5 = .ok (.iload_n 0, 1) := by decide +kernel
theorem dJ9_min_7cf53_6 : decode cJ9_min_7cf53 6 = .ok (.goto 4, 3) := by decide +kernel
theorem dJ9_min_7cf53_9 : decode cJ9_min_7cf53 9 = .ok (.iload_n 1, 1) := by decide +kernel
theorem dJ9_min_7cf53_10 : decode cJ9_min_7cf53 10 = .ok (.ireturn, 1) := by decide +kernel
theorem dJ9_min_f86c9_0 : decode cJ9_min_f86c9 0 = .ok (.lload_n 0, 1) := by decide +kernel
theorem dJ9_min_f86c9_1 : decode cJ9_min_f86c9 1 = .ok (.lload_n 2, 1) := by decide +kernel
theorem dJ9_min_f86c9_2 : decode cJ9_min_f86c9 2 = .ok (.lcmp, 1) := by decide +kernel
theorem dJ9_min_f86c9_3 : decode cJ9_min_f86c9 3 = .ok (.ifCond .gt 7, 3) := by decide +kernel
theorem dJ9_min_f86c9_6 : decode cJ9_min_f86c9 6 = .ok (.lload_n 0, 1) := by decide +kernel
theorem dJ9_min_f86c9_7 : decode cJ9_min_f86c9 7 = .ok (.goto 4, 3) := by decide +kernel
theorem dJ9_min_f86c9_10 : decode cJ9_min_f86c9 10 = .ok (.lload_n 2, 1) := by decide +kernel
theorem dJ9_min_f86c9_11 : decode cJ9_min_f86c9 11 = .ok (.lreturn, 1) := by decide +kernel
