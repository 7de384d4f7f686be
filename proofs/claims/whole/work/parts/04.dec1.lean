theorem dX0_init_0 : decode cX0_init 0 = .ok (.aload_n 0, 1) := by decide +kernel
theorem dX0_init_1 : decode cX0_init 1 = .ok (.invokespecial 3, 3) := by decide +kernel
theorem dX0_init_4 : decode cX0_init 4 = .ok (.aload_n 0, 1) := by decide +kernel
theorem dX0_init_5 : decode cX0_init 5 = .ok (.sipush 256, 3) := by decide +kernel
theorem dX0_init_8 : decode cX0_init 8 = .ok (.newarray .int, 2) := by decide +kernel
theorem dX0_init_10 : decode cX0_init 10 = .ok (.putfield 9, 3) := by decide +kernel
theorem dX0_init_13 : decode cX0_init 13 = .ok (.aload_n 0, 1) := by decide +kernel
theorem dX0_init_14 : decode cX0_init 14 = .ok (.sipush 256, 3) := by decide +kernel
theorem dX0_init_17 : decode cX0_init 17 = .ok (.putfield 15, 3) := by decide +kernel
theorem dX0_init_20 : decode cX0_init 20 = .ok (.aload_n 0, 1) := by decide +kernel
theorem dX0_init_21 : decode cX0_init 21 = .ok (.getfield 9, 3) := by decide +kernel
theorem dX0_init_24 : decode cX0_init 24 = .ok (.iconst (-1), 1) := by decide +kernel
theorem dX0_init_25 : decode cX0_init 25 = .ok (.invokestatic 19, 3) := by decide +kernel
theorem dX0_init_28 : decode cX0_init 28 = .ok (.iconst 0, 1) := by decide +kernel
theorem dX0_init_29 : decode cX0_init 29 = .ok (.istore_n 1, 1) := by decide +kernel
theorem dX0_init_30 : decode cX0_init 30 = .ok (.iload_n 1, 1) := by decide +kernel
theorem dX0_init_31 : decode cX0_init 31 = .ok (.sipush 256, 3) := by decide +kernel
theorem dX0_init_34 : decode cX0_init 34 = .ok (.if_icmp .ge 17, 3) := by decide +kernel
theorem dX0_init_37 : decode cX0_init 37 = .ok (.aload_n 0, 1) := by decide +kernel
theorem dX0_init_38 : decode cX0_init 38 = .ok (.getfield 9, 3) := by decide +kernel
theorem dX0_init_41 : decode cX0_init 41 = .ok (.iload_n 1, 1) := by decide +kernel
theorem dX0_init_42 : decode cX0_init 42 = .ok (.bipush 6, 2) := by decide +kernel
theorem dX0_init_44 : decode cX0_init 44 = .ok (.iastore, 1) := by decide +kernel
theorem dX0_init_45 : decode cX0_init 45 = .ok (.iinc 1 64, 3) := by decide +kernel
theorem dX0_init_48 : decode cX0_init 48 = .ok (.goto (-18), 3) := by decide +kernel
theorem dX0_init_51 : decode cX0_init 51 = .ok (.return_, 1) := by decide +kernel
theorem dX0_freePage_0 : decode cX0_freePage 0 = .ok (.iconst 0, 1) := by decide +kernel
theorem dX0_freePage_1 : decode cX0_freePage 1 = .ok (.istore_n 3, 1) := by decide +kernel
theorem dX0_freePage_2 : decode cX0_freePage 2 = .ok (.iconst 0, 1) := by decide +kernel
theorem dX0_freePage_3 : decode cX0_freePage 3 = .ok (.istore 4, 2) := by decide +kernel
theorem dX0_freePage_5 : decode cX0_freePage 5 = .ok (.iload 4, 2) := by decide +kernel
theorem dX0_freePage_7 : decode cX0_freePage 7 = .ok (.sipush 256, 3) := by decide +kernel
theorem dX0_freePage_10 : decode cX0_freePage 10 = .ok (.if_icmp .ge 31, 3) := by decide +kernel
theorem dX0_freePage_13 : decode cX0_freePage 13 = .ok (.aload_n 0, 1) := by decide +kernel
theorem dX0_freePage_14 : decode cX0_freePage 14 = .ok (.getfield 9, 3) := by decide +kernel
theorem dX0_freePage_17 : decode cX0_freePage 17 = .ok (.iload 4, 2) := by decide +kernel
theorem dX0_freePage_19 : decode cX0_freePage 19 = .ok (.iaload, 1) := by decide +kernel
theorem dX0_freePage_20 : decode cX0_freePage 20 = .ok (.iload_n 1, 1) := by decide +kernel
theorem dX0_freePage_21 : decode cX0_freePage 21 = .ok (.if_icmp .ne 14, 3) := by decide +kernel
theorem dX0_freePage_24 : decode cX0_freePage 24 = .ok (.iload_n 3, 1) := by decide +kernel
theorem dX0_freePage_25 : decode cX0_freePage 25 = .ok (.iload_n 2, 1) := by decide +kernel
theorem dX0_freePage_26 : decode cX0_freePage 26 = .ok (.if_icmp .ne 6, 3) := by decide +kernel
theorem dX0_freePage_29 : decode cX0_freePage 29 = .ok (.iload 4, 2) := by decide +kernel
theorem dX0_freePage_31 : decode cX0_freePage 31 = .ok (.ireturn, 1) := by decide +kernel
theorem dX0_freePage_32 : decode cX0_freePage 32 = .ok (.iinc 3 1, 3) := by decide +kernel
theorem dX0_freePage_35 : decode cX0_freePage 35 = .ok (.iinc 4 1, 3) := by decide +kernel
theorem dX0_freePage_38 : decode cX0_freePage 38 = .ok (.goto (-33), 3) := by decide +kernel
theorem dX0_freePage_41 : decode cX0_freePage 41 = .ok (.iconst (-1), 1) := by decide +kernel
theorem dX0_freePage_42 : decode cX0_freePage 42 = .ok (.ireturn, 1) := by decide +kernel
theorem dX0_take_0 : decode cX0_take 0 = .ok (.iload_n 1, 1) := by decide +kernel
theorem dX0_take_1 : decode cX0_take 1 = .ok (.istore_n 2, 1) := by decide +kernel
theorem dX0_take_2 : decode cX0_take 2 = .ok (.iload_n 2, 1) := by decide +kernel
theorem dX0_take_3 : decode cX0_take 3 = .ok (.bipush 6, 2) := by decide +kernel
theorem dX0_take_5 : decode cX0_take 5 = .ok (.if_icmp .gt 30, 3) := by decide +kernel
theorem dX0_take_8 : decode cX0_take 8 = .ok (.aload_n 0, 1) := by decide +kernel
theorem dX0_take_9 : decode cX0_take 9 = .ok (.iload_n 2, 1) := by decide +kernel
theorem dX0_take_10 : decode cX0_take 10 = .ok (.iconst 0, 1) := by decide +kernel
theorem dX0_take_11 : decode cX0_take 11 = .ok (.invokevirtual 25, 3) := by decide +kernel
theorem dX0_take_14 : decode cX0_take 14 = .ok (.istore_n 3, 1) := by decide +kernel
theorem dX0_take_15 : decode cX0_take 15 = .ok (.iload_n 3, 1) := by decide +kernel
theorem dX0_take_16 : decode cX0_take 16 = .ok (.iconst (-1), 1) := by decide +kernel
theorem dX0_take_17 : decode cX0_take 17 = .ok (.if_icmp .eq 12, 3) := by decide +kernel
theorem dX0_take_20 : decode cX0_take 20 = .ok (.aload_n 0, 1) := by decide +kernel
theorem dX0_take_21 : decode cX0_take 21 = .ok (.iload_n 3, 1) := by decide +kernel
theorem dX0_take_22 : decode cX0_take 22 = .ok (.iload_n 2, 1) := by decide +kernel
theorem dX0_take_23 : decode cX0_take 23 = .ok (.iload_n 1, 1) := by decide +kernel
theorem dX0_take_24 : decode cX0_take 24 = .ok (.invokevirtual 29, 3) := by decide +kernel
theorem dX0_take_27 : decode cX0_take 27 = .ok (.iload_n 3, 1) := by decide +kernel
theorem dX0_take_28 : decode cX0_take 28 = .ok (.ireturn, 1) := by decide +kernel
theorem dX0_take_29 : decode cX0_take 29 = .ok (.iinc 2 1, 3) := by decide +kernel
theorem dX0_take_32 : decode cX0_take 32 = .ok (.goto (-30), 3) := by decide +kernel
theorem dX0_take_35 : decode cX0_take 35 = .ok (.iconst (-1), 1) := by decide +kernel
theorem dX0_take_36 : decode cX0_take 36 = .ok (.ireturn, 1) := by decide +kernel
theorem dX0_halve_0 : decode cX0_halve 0 = .ok (.aload_n 0, 1) := by decide +kernel
theorem dX0_halve_1 : decode cX0_halve 1 = .ok (.getfield 9, 3) := by decide +kernel
theorem dX0_halve_4 : decode cX0_halve 4 = .ok (.iload_n 1, 1) := by decide +kernel
theorem dX0_halve_5 : decode cX0_halve 5 = .ok (.iconst (-1), 1) := by decide +kernel
theorem dX0_halve_6 : decode cX0_halve 6 = .ok (.iastore, 1) := by decide +kernel
theorem dX0_halve_7 : decode cX0_halve 7 = .ok (.iload_n 2, 1) := by decide +kernel
theorem dX0_halve_8 : decode cX0_halve 8 = .ok (.iconst 1, 1) := by decide +kernel
theorem dX0_halve_9 : decode cX0_halve 9 = .ok (.isub, 1) := by decide +kernel
theorem dX0_halve_10 : decode cX0_halve 10 = .ok (.istore 4, 2) := by decide +kernel
theorem dX0_halve_12 : decode cX0_halve 12 = .ok (.iload 4, 2) := by decide +kernel
theorem dX0_halve_14 : decode cX0_halve 14 = .ok (.iload_n 3, 1) := by decide +kernel
theorem dX0_halve_15 : decode cX0_halve 15 = .ok (.if_icmp .lt 21, 3) := by decide +kernel
theorem dX0_halve_18 : decode cX0_halve 18 = .ok (.aload_n 0, 1) := by decide +kernel
theorem dX0_halve_19 : decode cX0_halve 19 = .ok (.iload_n 1, 1) := by decide +kernel
theorem dX0_halve_20 : decode cX0_halve 20 = .ok (.iconst 1, 1) := by decide +kernel
theorem dX0_halve_21 : decode cX0_halve 21 = .ok (.iload 4, 2) := by decide +kernel
theorem dX0_halve_23 : decode cX0_halve 23 = .ok (.ishl, 1) := by decide +kernel
theorem dX0_halve_24 : decode cX0_halve 24 = .ok (.iadd, 1) := by decide +kernel
theorem dX0_halve_25 : decode cX0_halve 25 = .ok (.iload 4, 2) := by decide +kernel
theorem dX0_halve_27 : decode cX0_halve 27 = .ok (.invokevirtual 33, 3) := by decide +kernel
theorem dX0_halve_30 : decode cX0_halve 30 = .ok (.iinc 4 (-1), 3) := by decide +kernel
theorem dX0_halve_33 : decode cX0_halve 33 = .ok (.goto (-21), 3) := by decide +kernel
theorem dX0_halve_36 : decode cX0_halve 36 = .ok (.aload_n 0, 1) := by decide +kernel
theorem dX0_halve_37 : decode cX0_halve 37 = .ok (.dup, 1) := by decide +kernel
theorem dX0_halve_38 : decode cX0_halve 38 = .ok (.getfield 15, 3) := by decide +kernel
theorem dX0_halve_41 : decode cX0_halve 41 = .ok (.iconst 1, 1) := by decide +kernel
theorem dX0_halve_42 : decode cX0_halve 42 = .ok (.iload_n 3, 1) := by decide +kernel
theorem dX0_halve_43 : decode cX0_halve 43 = .ok (.ishl, 1) := by decide +kernel
theorem dX0_halve_44 : decode cX0_halve 44 = .ok (.isub, 1) := by decide +kernel
theorem dX0_halve_45 : decode cX0_halve 45 = .ok (.putfield 15, 3) := by decide +kernel
theorem dX0_halve_48 : decode cX0_halve 48 = .ok (.return_, 1) := by decide +kernel
theorem dX0_giveBack_0 : decode cX0_giveBack 0 = .ok (.iload_n 1, 1) := by decide +kernel
theorem dX0_giveBack_1 : decode cX0_giveBack 1 = .ok (.istore_n 3, 1) := by decide +kernel
theorem dX0_giveBack_2 : decode cX0_giveBack 2 = .ok (.iload_n 2, 1) := by decide +kernel
theorem dX0_giveBack_3 : decode cX0_giveBack 3 = .ok (.istore 4, 2) := by decide +kernel
theorem dX0_giveBack_5 : decode cX0_giveBack 5 = .ok (.iload 4, 2) := by decide +kernel
theorem dX0_giveBack_7 : decode cX0_giveBack 7 = .ok (.bipush 6, 2) := by decide +kernel
theorem dX0_giveBack_9 : decode cX0_giveBack 9 = .ok (.if_icmp .ge 44, 3) := by decide +kernel
theorem dX0_giveBack_12 : decode cX0_giveBack 12 = .ok (.aload_n 0, 1) := by decide +kernel
theorem dX0_giveBack_13 : decode cX0_giveBack 13 = .ok (.iload_n 3, 1) := by decide +kernel
theorem dX0_giveBack_14 : decode cX0_giveBack 14 = .ok (.iconst 1, 1) := by decide +kernel
theorem dX0_giveBack_15 : decode cX0_giveBack 15 = .ok (.iload 4, 2) := by decide +kernel
theorem dX0_giveBack_17 : decode cX0_giveBack 17 = .ok (.ishl, 1) := by decide +kernel
theorem dX0_giveBack_18 : decode cX0_giveBack 18 = .ok (.ixor, 1) := by decide +kernel
theorem dX0_giveBack_19 : decode cX0_giveBack 19 = .ok (.iload 4, 2) := by decide +kernel
theorem dX0_giveBack_21 : decode cX0_giveBack 21 = .ok (.invokevirtual 37, 3) := by decide +kernel
theorem dX0_giveBack_24 : decode cX0_giveBack 24 = .ok (.ifCond .eq 29, 3) := by decide +kernel
theorem dX0_giveBack_27 : decode cX0_giveBack 27 = .ok (.aload_n 0, 1) := by decide +kernel
theorem dX0_giveBack_28 : decode cX0_giveBack 28 = .ok (.iload_n 3, 1) := by decide +kernel
theorem dX0_giveBack_29 : decode cX0_giveBack 29 = .ok (.iconst 1, 1) := by decide +kernel
theorem dX0_giveBack_30 : decode cX0_giveBack 30 = .ok (.iload 4, 2) := by decide +kernel
theorem dX0_giveBack_32 : decode cX0_giveBack 32 = .ok (.ishl, 1) := by decide +kernel
theorem dX0_giveBack_33 : decode cX0_giveBack 33 = .ok (.ixor, 1) := by decide +kernel
theorem dX0_giveBack_34 : decode cX0_giveBack 34 = .ok (.iconst (-1), 1) := by decide +kernel
theorem dX0_giveBack_35 : decode cX0_giveBack 35 = .ok (.invokevirtual 33, 3) := by decide +kernel
theorem dX0_giveBack_38 : decode cX0_giveBack 38 = .ok (.iload_n 3, 1) := by decide +kernel
theorem dX0_giveBack_39 : decode cX0_giveBack 39 = .ok (.iconst 1, 1) := by decide +kernel
theorem dX0_giveBack_40 : decode cX0_giveBack 40 = .ok (.iload 4, 2) := by decide +kernel
theorem dX0_giveBack_42 : decode cX0_giveBack 42 = .ok (.ishl, 1) := by decide +kernel
theorem dX0_giveBack_43 : decode cX0_giveBack 43 = .ok (.iconst (-1), 1) := by decide +kernel
theorem dX0_giveBack_44 : decode cX0_giveBack 44 = .ok (.ixor, 1) := by decide +kernel
theorem dX0_giveBack_45 : decode cX0_giveBack 45 = .ok (.iand, 1) := by decide +kernel
theorem dX0_giveBack_46 : decode cX0_giveBack 46 = .ok (.istore_n 3, 1) := by decide +kernel
theorem dX0_giveBack_47 : decode cX0_giveBack 47 = .ok (.iinc 4 1, 3) := by decide +kernel
theorem dX0_giveBack_50 : decode cX0_giveBack 50 = .ok (.goto (-45), 3) := by decide +kernel
theorem dX0_giveBack_53 : decode cX0_giveBack 53 = .ok (.aload_n 0, 1) := by decide +kernel
theorem dX0_giveBack_54 : decode cX0_giveBack 54 = .ok (.iload_n 3, 1) := by decide +kernel
theorem dX0_giveBack_55 : decode cX0_giveBack 55 = .ok (.iload 4, 2) := by decide +kernel
theorem dX0_giveBack_57 : decode cX0_giveBack 57 = .ok (.invokevirtual 33, 3) := by decide +kernel
theorem dX0_giveBack_60 : decode cX0_giveBack 60 = .ok (.aload_n 0, 1) := by decide +kernel
theorem dX0_giveBack_61 : decode cX0_giveBack 61 = .ok (.dup, 1) := by decide +kernel
theorem dX0_giveBack_62 : decode cX0_giveBack 62 = .ok (.getfield 15, 3) := by decide +kernel
theorem dX0_giveBack_65 : decode cX0_giveBack 65 = .ok (.iconst 1, 1) := by decide +kernel
theorem dX0_giveBack_66 : decode cX0_giveBack 66 = .ok (.iload_n 2, 1) := by decide +kernel
theorem dX0_giveBack_67 : decode cX0_giveBack 67 = .ok (.ishl, 1) := by decide +kernel
theorem dX0_giveBack_68 : decode cX0_giveBack 68 = .ok (.iadd, 1) := by decide +kernel
theorem dX0_giveBack_69 : decode cX0_giveBack 69 = .ok (.putfield 15, 3) := by decide +kernel
theorem dX0_giveBack_72 : decode cX0_giveBack 72 = .ok (.return_, 1) := by decide +kernel
theorem dX0_isFree_0 : decode cX0_isFree 0 = .ok (.iload_n 1, 1) := by decide +kernel
theorem dX0_isFree_1 : decode cX0_isFree 1 = .ok (.ifCond .lt 24, 3) := by decide +kernel
theorem dX0_isFree_4 : decode cX0_isFree 4 = .ok (.iload_n 1, 1) := by decide +kernel
theorem dX0_isFree_5 : decode cX0_isFree 5 = .ok (.sipush 256, 3) := by decide +kernel
theorem dX0_isFree_8 : decode cX0_isFree 8 = .ok (.if_icmp .ge 17, 3) := by decide +kernel
theorem dX0_isFree_11 : decode cX0_isFree 11 = .ok (.aload_n 0, 1) := by decide +kernel
theorem dX0_isFree_12 : decode cX0_isFree 12 = .ok (.getfield 9, 3) := by decide +kernel
theorem dX0_isFree_15 : decode cX0_isFree 15 = .ok (.iload_n 1, 1) := by decide +kernel
theorem dX0_isFree_16 : decode cX0_isFree 16 = .ok (.iaload, 1) := by decide +kernel
theorem dX0_isFree_17 : decode cX0_isFree 17 = .ok (.iload_n 2, 1) := by decide +kernel
theorem dX0_isFree_18 : decode cX0_isFree 18 = .ok (.if_icmp .ne 7, 3) := by decide +kernel
theorem dX0_isFree_21 : decode cX0_isFree 21 = .ok (.iconst 1, 1) := by decide +kernel
theorem dX0_isFree_22 : decode cX0_isFree 22 = .ok (.goto 4, 3) := by decide +kernel
theorem dX0_isFree_25 : decode cX0_isFree 25 = .ok (.iconst 0, 1) := by decide +kernel
theorem dX0_isFree_26 : decode cX0_isFree 26 = .ok (.ireturn, 1) := by decide +kernel
theorem dX0_setFree_0 : decode cX0_setFree 0 = .ok (.iload_n 1, 1) := by decide +kernel
theorem dX0_setFree_1 : decode cX0_setFree 1 = .ok (.ifCond .lt 17, 3) := by decide +kernel
theorem dX0_setFree_4 : decode cX0_setFree 4 = .ok (.iload_n 1, 1) := by decide +kernel
theorem dX0_setFree_5 : decode cX0_setFree 5 = .ok (.sipush 256, 3) := by decide +kernel
theorem dX0_setFree_8 : decode cX0_setFree 8 = .ok (.if_icmp .ge 10, 3) := by decide +kernel
theorem dX0_setFree_11 : decode cX0_setFree 11 = .ok (.aload_n 0, 1) := by decide +kernel
theorem dX0_setFree_12 : decode cX0_setFree 12 = .ok (.getfield 9, 3) := by decide +kernel
theorem dX0_setFree_15 : decode cX0_setFree 15 = .ok (.iload_n 1, 1) := by decide +kernel
theorem dX0_setFree_16 : decode cX0_setFree 16 = .ok (.iload_n 2, 1) := by decide +kernel
theorem dX0_setFree_17 : decode cX0_setFree 17 = .ok (.iastore, 1) := by decide +kernel
theorem dX0_setFree_18 : decode cX0_setFree 18 = .ok (.return_, 1) := by decide +kernel
theorem dX1_init_0 : decode cX1_init 0 = .ok (.aload_n 0, 1) := by decide +kernel
theorem dX1_init_1 : decode cX1_init 1 = .ok (.invokespecial 3, 3) := by decide +kernel
theorem dX1_init_4 : decode cX1_init 4 = .ok (.aload_n 0, 1) := by decide +kernel
theorem dX1_init_5 : decode cX1_init 5 = .ok (.iconst 3, 1) := by decide +kernel
theorem dX1_init_6 : decode cX1_init 6 = .ok (.anewarray 9, 3) := by decide +kernel
theorem dX1_init_9 : decode cX1_init 9 = .ok (.putfield 11, 3) := by decide +kernel
theorem dX1_init_12 : decode cX1_init 12 = .ok (.aload_n 0, 1) := by decide +kernel
theorem dX1_init_13 : decode cX1_init 13 = .ok (.iconst 4, 1) := by decide +kernel
theorem dX1_init_14 : decode cX1_init 14 = .ok (.anewarray 17, 3) := by decide +kernel
theorem dX1_init_17 : decode cX1_init 17 = .ok (.putfield 19, 3) := by decide +kernel
theorem dX1_init_20 : decode cX1_init 20 = .ok (.aload_n 0, 1) := by decide +kernel
theorem dX1_init_21 : decode cX1_init 21 = .ok (.iconst 4, 1) := by decide +kernel
theorem dX1_init_22 : decode cX1_init 22 = .ok (.anewarray 17, 3) := by decide +kernel
theorem dX1_init_25 : decode cX1_init 25 = .ok (.putfield 23, 3) := by decide +kernel
theorem dX1_init_28 : decode cX1_init 28 = .ok (.aload_n 0, 1) := by decide +kernel
theorem dX1_init_29 : decode cX1_init 29 = .ok (.iconst 3, 1) := by decide +kernel
theorem dX1_init_30 : decode cX1_init 30 = .ok (.anewarray 17, 3) := by decide +kernel
theorem dX1_init_33 : decode cX1_init 33 = .ok (.putfield 26, 3) := by decide +kernel
theorem dX1_init_36 : decode cX1_init 36 = .ok (.aload_n 0, 1) := by decide +kernel
theorem dX1_init_37 : decode cX1_init 37 = .ok (.iload_n 1, 1) := by decide +kernel
theorem dX1_init_38 : decode cX1_init 38 = .ok (.putfield 29, 3) := by decide +kernel
theorem dX1_init_41 : decode cX1_init 41 = .ok (.aload_n 0, 1) := by decide +kernel
theorem dX1_init_42 : decode cX1_init 42 = .ok (.iload_n 2, 1) := by decide +kernel
theorem dX1_init_43 : decode cX1_init 43 = .ok (.putfield 33, 3) := by decide +kernel
theorem dX1_init_46 : decode cX1_init 46 = .ok (.aload_n 0, 1) := by decide +kernel
theorem dX1_init_47 : decode cX1_init 47 = .ok (.iload_n 3, 1) := by decide +kernel
theorem dX1_init_48 : decode cX1_init 48 = .ok (.putfield 36, 3) := by decide +kernel
theorem dX1_init_51 : decode cX1_init 51 = .ok (.aload_n 0, 1) := by decide +kernel
theorem dX1_init_52 : decode cX1_init 52 = .ok (.iload 4, 2) := by decide +kernel
theorem dX1_init_54 : decode cX1_init 54 = .ok (.putfield 39, 3) := by decide +kernel
theorem dX1_init_57 : decode cX1_init 57 = .ok (.aload_n 0, 1) := by decide +kernel
theorem dX1_init_58 : decode cX1_init 58 = .ok (.iload 5, 2) := by decide +kernel
theorem dX1_init_60 : decode cX1_init 60 = .ok (.putfield 42, 3) := by decide +kernel
theorem dX1_init_63 : decode cX1_init 63 = .ok (.aload_n 0, 1) := by decide +kernel
theorem dX1_init_64 : decode cX1_init 64 = .ok (.iload_n 2, 1) := by decide +kernel
theorem dX1_init_65 : decode cX1_init 65 = .ok (.iload_n 3, 1) := by decide +kernel
theorem dX1_init_66 : decode cX1_init 66 = .ok (.invokestatic 45, 3) := by decide +kernel
theorem dX1_init_69 : decode cX1_init 69 = .ok (.putfield 49, 3) := by decide +kernel
theorem dX1_init_72 : decode cX1_init 72 = .ok (.sipush 1024, 3) := by decide +kernel
theorem dX1_init_75 : decode cX1_init 75 = .ok (.iload 4, 2) := by decide +kernel
theorem dX1_init_77 : decode cX1_init 77 = .ok (.ishl, 1) := by decide +kernel
theorem dX1_init_78 : decode cX1_init 78 = .ok (.istore 6, 2) := by decide +kernel
theorem dX1_init_80 : decode cX1_init 80 = .ok (.aload_n 0, 1) := by decide +kernel
theorem dX1_init_81 : decode cX1_init 81 = .ok (.aload_n 0, 1) := by decide +kernel
theorem dX1_init_82 : decode cX1_init 82 = .ok (.getfield 49, 3) := by decide +kernel
theorem dX1_init_85 : decode cX1_init 85 = .ok (.ifCond .le 13, 3) := by decide +kernel
theorem dX1_init_88 : decode cX1_init 88 = .ok (.iload 6, 2) := by decide +kernel
theorem dX1_init_90 : decode cX1_init 90 = .ok (.aload_n 0, 1) := by decide +kernel
theorem dX1_init_91 : decode cX1_init 91 = .ok (.getfield 49, 3) := by decide +kernel
theorem dX1_init_94 : decode cX1_init 94 = .ok (.idiv, 1) := by decide +kernel
theorem dX1_init_95 : decode cX1_init 95 = .ok (.goto 4, 3) := by decide +kernel
theorem dX1_init_98 : decode cX1_init 98 = .ok (.iconst 0, 1) := by decide +kernel
theorem dX1_init_99 : decode cX1_init 99 = .ok (.putfield 52, 3) := by decide +kernel
theorem dX1_init_102 : decode cX1_init 102 = .ok (.iload 6, 2) := by decide +kernel
theorem dX1_init_104 : decode cX1_init 104 = .ok (.aload_n 0, 1) := by decide +kernel
theorem dX1_init_105 : decode cX1_init 105 = .ok (.getfield 52, 3) := by decide +kernel
theorem dX1_init_108 : decode cX1_init 108 = .ok (.aload_n 0, 1) := by decide +kernel
theorem dX1_init_109 : decode cX1_init 109 = .ok (.getfield 49, 3) := by decide +kernel
theorem dX1_init_112 : decode cX1_init 112 = .ok (.imul, 1) := by decide +kernel
theorem dX1_init_113 : decode cX1_init 113 = .ok (.isub, 1) := by decide +kernel
theorem dX1_init_114 : decode cX1_init 114 = .ok (.istore 7, 2) := by decide +kernel
theorem dX1_init_116 : decode cX1_init 116 = .ok (.aload_n 0, 1) := by decide +kernel
theorem dX1_init_117 : decode cX1_init 117 = .ok (.iload_n 3, 1) := by decide +kernel
theorem dX1_init_118 : decode cX1_init 118 = .ok (.ifCond .le 12, 3) := by decide +kernel
theorem dX1_init_121 : decode cX1_init 121 = .ok (.iload 7, 2) := by decide +kernel
theorem dX1_init_123 : decode cX1_init 123 = .ok (.iload_n 3, 1) := by decide +kernel
theorem dX1_init_124 : decode cX1_init 124 = .ok (.idiv, 1) := by decide +kernel
theorem dX1_init_125 : decode cX1_init 125 = .ok (.iconst 1, 1) := by decide +kernel
theorem dX1_init_126 : decode cX1_init 126 = .ok (.iadd, 1) := by decide +kernel
theorem dX1_init_127 : decode cX1_init 127 = .ok (.goto 4, 3) := by decide +kernel
theorem dX1_init_130 : decode cX1_init 130 = .ok (.iconst 1, 1) := by decide +kernel
theorem dX1_init_131 : decode cX1_init 131 = .ok (.putfield 55, 3) := by decide +kernel
theorem dX1_init_134 : decode cX1_init 134 = .ok (.iconst 0, 1) := by decide +kernel
theorem dX1_init_135 : decode cX1_init 135 = .ok (.istore 8, 2) := by decide +kernel
theorem dX1_init_137 : decode cX1_init 137 = .ok (.iload 8, 2) := by decide +kernel
theorem dX1_init_139 : decode cX1_init 139 = .ok (.iconst 3, 1) := by decide +kernel
theorem dX1_init_140 : decode cX1_init 140 = .ok (.if_icmp .ge 23, 3) := by decide +kernel
theorem dX1_init_143 : decode cX1_init 143 = .ok (.aload_n 0, 1) := by decide +kernel
theorem dX1_init_144 : decode cX1_init 144 = .ok (.getfield 11, 3) := by decide +kernel
theorem dX1_init_147 : decode cX1_init 147 = .ok (.iload 8, 2) := by decide +kernel
theorem dX1_init_149 : decode cX1_init 149 = .ok (.new 9, 3) := by decide +kernel
theorem dX1_init_152 : decode cX1_init 152 = .ok (.dup, 1) := by decide +kernel
theorem dX1_init_153 : decode cX1_init 153 = .ok (.invokespecial 58, 3) := by decide +kernel
theorem dX1_init_156 : decode cX1_init 156 = .ok (.aastore, 1) := by decide +kernel
theorem dX1_init_157 : decode cX1_init 157 = .ok (.iinc 8 1, 3) := by decide +kernel
theorem dX1_init_160 : decode cX1_init 160 = .ok (.goto (-23), 3) := by decide +kernel
theorem dX1_init_163 : decode cX1_init 163 = .ok (.iconst 0, 1) := by decide +kernel
theorem dX1_init_164 : decode cX1_init 164 = .ok (.istore 8, 2) := by decide +kernel
theorem dX1_init_166 : decode cX1_init 166 = .ok (.iload 8, 2) := by decide +kernel
theorem dX1_init_168 : decode cX1_init 168 = .ok (.iconst 4, 1) := by decide +kernel
theorem dX1_init_169 : decode cX1_init 169 = .ok (.if_icmp .ge 37, 3) := by decide +kernel
theorem dX1_init_172 : decode cX1_init 172 = .ok (.aload_n 0, 1) := by decide +kernel
theorem dX1_init_173 : decode cX1_init 173 = .ok (.getfield 19, 3) := by decide +kernel
theorem dX1_init_176 : decode cX1_init 176 = .ok (.iload 8, 2) := by decide +kernel
theorem dX1_init_178 : decode cX1_init 178 = .ok (.new 17, 3) := by decide +kernel
theorem dX1_init_181 : decode cX1_init 181 = .ok (.dup, 1) := by decide +kernel
theorem dX1_init_182 : decode cX1_init 182 = .ok (.invokespecial 59, 3) := by decide +kernel
theorem dX1_init_185 : decode cX1_init 185 = .ok (.aastore, 1) := by decide +kernel
theorem dX1_init_186 : decode cX1_init 186 = .ok (.aload_n 0, 1) := by decide +kernel
theorem dX1_init_187 : decode cX1_init 187 = .ok (.getfield 23, 3) := by decide +kernel
theorem dX1_init_190 : decode cX1_init 190 = .ok (.iload 8, 2) := by decide +kernel
theorem dX1_init_192 : decode cX1_init 192 = .ok (.new 17, 3) := by decide +kernel
theorem dX1_init_195 : decode cX1_init 195 = .ok (.dup, 1) := by decide +kernel
theorem dX1_init_196 : decode cX1_init 196 = .ok (.invokespecial 59, 3) := by decide +kernel
theorem dX1_init_199 : decode cX1_init 199 = .ok (.aastore, 1) := by decide +kernel
theorem dX1_init_200 : decode cX1_init 200 = .ok (.iinc 8 1, 3) := by decide +kernel
theorem dX1_init_203 : decode cX1_init 203 = .ok (.goto (-37), 3) := by decide +kernel
theorem dX1_init_206 : decode cX1_init 206 = .ok (.return_, 1) := by decide +kernel
theorem dX1_relist_0 : decode cX1_relist 0 = .ok (.aload_n 1, 1) := by decide +kernel
theorem dX1_relist_1 : decode cX1_relist 1 = .ok (.invokevirtual 60, 3) := by decide +kernel
theorem dX1_relist_4 : decode cX1_relist 4 = .ok (.istore_n 2, 1) := by decide +kernel
theorem dX1_relist_5 : decode cX1_relist 5 = .ok (.aload_n 1, 1) := by decide +kernel
theorem dX1_relist_6 : decode cX1_relist 6 = .ok (.getfield 66, 3) := by decide +kernel
theorem dX1_relist_9 : decode cX1_relist 9 = .ok (.iload_n 2, 1) := by decide +kernel
theorem dX1_relist_10 : decode cX1_relist 10 = .ok (.if_icmp .eq 23, 3) := by decide +kernel
theorem dX1_relist_13 : decode cX1_relist 13 = .ok (.aload_n 0, 1) := by decide +kernel
theorem dX1_relist_14 : decode cX1_relist 14 = .ok (.aload_n 1, 1) := by decide +kernel
theorem dX1_relist_15 : decode cX1_relist 15 = .ok (.invokevirtual 69, 3) := by decide +kernel
theorem dX1_relist_18 : decode cX1_relist 18 = .ok (.aload_n 1, 1) := by decide +kernel
theorem dX1_relist_19 : decode cX1_relist 19 = .ok (.iload_n 2, 1) := by decide +kernel
theorem dX1_relist_20 : decode cX1_relist 20 = .ok (.putfield 66, 3) := by decide +kernel
theorem dX1_relist_23 : decode cX1_relist 23 = .ok (.aload_n 0, 1) := by decide +kernel
theorem dX1_relist_24 : decode cX1_relist 24 = .ok (.getfield 11, 3) := by decide +kernel
theorem dX1_relist_27 : decode cX1_relist 27 = .ok (.iload_n 2, 1) := by decide +kernel
theorem dX1_relist_28 : decode cX1_relist 28 = .ok (.aaload, 1) := by decide +kernel
theorem dX1_relist_29 : decode cX1_relist 29 = .ok (.aload_n 1, 1) := by decide +kernel
theorem dX1_relist_30 : decode cX1_relist 30 = .ok (.invokevirtual 73, 3) := by decide +kernel
theorem dX1_relist_33 : decode cX1_relist 33 = .ok (.return_, 1) := by decide +kernel
theorem dX1_unlist_0 : decode cX1_unlist 0 = .ok (.aload_n 1, 1) := by decide +kernel
theorem dX1_unlist_1 : decode cX1_unlist 1 = .ok (.getfield 66, 3) := by decide +kernel
theorem dX1_unlist_4 : decode cX1_unlist 4 = .ok (.iconst (-1), 1) := by decide +kernel
theorem dX1_unlist_5 : decode cX1_unlist 5 = .ok (.if_icmp .eq 21, 3) := by decide +kernel
theorem dX1_unlist_8 : decode cX1_unlist 8 = .ok (.aload_n 0, 1) := by decide +kernel
theorem dX1_unlist_9 : decode cX1_unlist 9 = .ok (.getfield 11, 3) := by decide +kernel
theorem dX1_unlist_12 : decode cX1_unlist 12 = .ok (.aload_n 1, 1) := by decide +kernel
theorem dX1_unlist_13 : decode cX1_unlist 13 = .ok (.getfield 66, 3) := by decide +kernel
theorem dX1_unlist_16 : decode cX1_unlist 16 = .ok (.aaload, 1) := by decide +kernel
theorem dX1_unlist_17 : decode cX1_unlist 17 = .ok (.aload_n 1, 1) := by decide +kernel
theorem dX1_unlist_18 : decode cX1_unlist 18 = .ok (.invokevirtual 76, 3) := by decide +kernel
theorem dX1_unlist_21 : decode cX1_unlist 21 = .ok (.aload_n 1, 1) := by decide +kernel
theorem dX1_unlist_22 : decode cX1_unlist 22 = .ok (.iconst (-1), 1) := by decide +kernel
theorem dX1_unlist_23 : decode cX1_unlist 23 = .ok (.putfield 66, 3) := by decide +kernel
theorem dX1_unlist_26 : decode cX1_unlist 26 = .ok (.return_, 1) := by decide +kernel
theorem dX1_takeFromMagazines_0 : decode cX1_takeFromMagazines 0 = .ok (.aload_n 0, 1) := by decide +kernel
theorem dX1_takeFromMagazines_1 : decode cX1_takeFromMagazines 1 = .ok (.getfield 19, 3) := by decide +kernel
theorem dX1_takeFromMagazines_4 : decode cX1_takeFromMagazines 4 = .ok (.iload_n 1, 1) := by decide +kernel
theorem dX1_takeFromMagazines_5 : decode cX1_takeFromMagazines 5 = .ok (.aaload, 1) := by decide +kernel
theorem dX1_takeFromMagazines_6 : decode cX1_takeFromMagazines 6 = .ok (.getfield 79, 3) := by decide +kernel
theorem dX1_takeFromMagazines_9 : decode cX1_takeFromMagazines 9 = .ok (.ifCond .ne 23, 3) := by decide +kernel
theorem dX1_takeFromMagazines_12 : decode cX1_takeFromMagazines 12 = .ok (.aload_n 0, 1) := by decide +kernel
theorem dX1_takeFromMagazines_13 : decode cX1_takeFromMagazines 13 = .ok (.getfield 23, 3) := by decide +kernel
theorem dX1_takeFromMagazines_16 : decode cX1_takeFromMagazines 16 = .ok (.iload_n 1, 1) := by decide +kernel
theorem dX1_takeFromMagazines_17 : decode cX1_takeFromMagazines 17 = .ok (.aaload, 1) := by decide +kernel
theorem dX1_takeFromMagazines_18 : decode cX1_takeFromMagazines 18 = .ok (.getfield 79, 3) := by decide +kernel
theorem dX1_takeFromMagazines_21 : decode cX1_takeFromMagazines 21 = .ok (.ifCond .le 11, 3) := by decide +kernel
theorem dX1_takeFromMagazines_24 : decode cX1_takeFromMagazines 24 = .ok (.aload_n 0, 1) := by decide +kernel
theorem dX1_takeFromMagazines_25 : decode cX1_takeFromMagazines 25 = .ok (.iload_n 1, 1) := by decide +kernel
theorem dX1_takeFromMagazines_26 : decode cX1_takeFromMagazines 26 = .ok (.invokevirtual 82, 3) := by decide +kernel
theorem dX1_takeFromMagazines_29 : decode cX1_takeFromMagazines 29 = .ok (.goto 40, 3) := by decide +kernel
theorem dX1_takeFromMagazines_32 : decode cX1_takeFromMagazines 32 = .ok (.aload_n 0, 1) := by decide +kernel
theorem dX1_takeFromMagazines_33 : decode cX1_takeFromMagazines 33 = .ok (.getfield 19, 3) := by decide +kernel
theorem dX1_takeFromMagazines_36 : decode cX1_takeFromMagazines 36 = .ok (.iload_n 1, 1) := by decide +kernel
theorem dX1_takeFromMagazines_37 : decode cX1_takeFromMagazines 37 = .ok (.aaload, 1) := by decide +kernel
theorem dX1_takeFromMagazines_38 : decode cX1_takeFromMagazines 38 = .ok (.getfield 79, 3) := by decide +kernel
theorem dX1_takeFromMagazines_41 : decode cX1_takeFromMagazines 41 = .ok (.ifCond .ne 28, 3) := by decide +kernel
theorem dX1_takeFromMagazines_44 : decode cX1_takeFromMagazines 44 = .ok (.aload_n 0, 1) := by decide +kernel
theorem dX1_takeFromMagazines_45 : decode cX1_takeFromMagazines 45 = .ok (.invokevirtual 86, 3) := by decide +kernel
theorem dX1_takeFromMagazines_48 : decode cX1_takeFromMagazines 48 = .ok (.astore_n 2, 1) := by decide +kernel
theorem dX1_takeFromMagazines_49 : decode cX1_takeFromMagazines 49 = .ok (.aload_n 0, 1) := by decide +kernel
theorem dX1_takeFromMagazines_50 : decode cX1_takeFromMagazines 50 = .ok (.getfield 19, 3) := by decide +kernel
theorem dX1_takeFromMagazines_53 : decode cX1_takeFromMagazines 53 = .ok (.iload_n 1, 1) := by decide +kernel
theorem dX1_takeFromMagazines_54 : decode cX1_takeFromMagazines 54 = .ok (.aload_n 2, 1) := by decide +kernel
theorem dX1_takeFromMagazines_55 : decode cX1_takeFromMagazines 55 = .ok (.ifnonnull 12, 3) := by decide +kernel
theorem dX1_takeFromMagazines_58 : decode cX1_takeFromMagazines 58 = .ok (.aload_n 0, 1) := by decide +kernel
theorem dX1_takeFromMagazines_59 : decode cX1_takeFromMagazines 59 = .ok (.getfield 19, 3) := by decide +kernel
theorem dX1_takeFromMagazines_62 : decode cX1_takeFromMagazines 62 = .ok (.iload_n 1, 1) := by decide +kernel
theorem dX1_takeFromMagazines_63 : decode cX1_takeFromMagazines 63 = .ok (.aaload, 1) := by decide +kernel
theorem dX1_takeFromMagazines_64 : decode cX1_takeFromMagazines 64 = .ok (.goto 4, 3) := by decide +kernel
theorem dX1_takeFromMagazines_67 : decode cX1_takeFromMagazines 67 = .ok (.aload_n 2, 1) := by decide +kernel
theorem dX1_takeFromMagazines_68 : decode cX1_takeFromMagazines 68 = .ok (.aastore, 1) := by decide +kernel
theorem dX1_takeFromMagazines_69 : decode cX1_takeFromMagazines 69 = .ok (.aload_n 0, 1) := by decide +kernel
theorem dX1_takeFromMagazines_70 : decode cX1_takeFromMagazines 70 = .ok (.getfield 19, 3) := by decide +kernel
theorem dX1_takeFromMagazines_73 : decode cX1_takeFromMagazines 73 = .ok (.iload_n 1, 1) := by decide +kernel
theorem dX1_takeFromMagazines_74 : decode cX1_takeFromMagazines 74 = .ok (.aaload, 1) := by decide +kernel
theorem dX1_takeFromMagazines_75 : decode cX1_takeFromMagazines 75 = .ok (.invokevirtual 90, 3) := by decide +kernel
theorem dX1_takeFromMagazines_78 : decode cX1_takeFromMagazines 78 = .ok (.ireturn, 1) := by decide +kernel
theorem dX1_putIntoMagazines_0 : decode cX1_putIntoMagazines 0 = .ok (.aload_n 0, 1) := by decide +kernel
theorem dX1_putIntoMagazines_1 : decode cX1_putIntoMagazines 1 = .ok (.getfield 19, 3) := by decide +kernel
theorem dX1_putIntoMagazines_4 : decode cX1_putIntoMagazines 4 = .ok (.iload_n 1, 1) := by decide +kernel
theorem dX1_putIntoMagazines_5 : decode cX1_putIntoMagazines 5 = .ok (.aaload, 1) := by decide +kernel
theorem dX1_putIntoMagazines_6 : decode cX1_putIntoMagazines 6 = .ok (.invokevirtual 93, 3) := by decide +kernel
theorem dX1_putIntoMagazines_9 : decode cX1_putIntoMagazines 9 = .ok (.ifCond .eq 81, 3) := by decide +kernel
theorem dX1_putIntoMagazines_12 : decode cX1_putIntoMagazines 12 = .ok (.aload_n 0, 1) := by decide +kernel
theorem dX1_putIntoMagazines_13 : decode cX1_putIntoMagazines 13 = .ok (.getfield 23, 3) := by decide +kernel
theorem dX1_putIntoMagazines_16 : decode cX1_putIntoMagazines 16 = .ok (.iload_n 1, 1) := by decide +kernel
theorem dX1_putIntoMagazines_17 : decode cX1_putIntoMagazines 17 = .ok (.aaload, 1) := by decide +kernel
theorem dX1_putIntoMagazines_18 : decode cX1_putIntoMagazines 18 = .ok (.invokevirtual 93, 3) := by decide +kernel
theorem dX1_putIntoMagazines_21 : decode cX1_putIntoMagazines 21 = .ok (.ifCond .ne 11, 3) := by decide +kernel
theorem dX1_putIntoMagazines_24 : decode cX1_putIntoMagazines 24 = .ok (.aload_n 0, 1) := by decide +kernel
theorem dX1_putIntoMagazines_25 : decode cX1_putIntoMagazines 25 = .ok (.iload_n 1, 1) := by decide +kernel
theorem dX1_putIntoMagazines_26 : decode cX1_putIntoMagazines 26 = .ok (.invokevirtual 82, 3) := by decide +kernel
theorem dX1_putIntoMagazines_29 : decode cX1_putIntoMagazines 29 = .ok (.goto 61, 3) := by decide +kernel
theorem dX1_putIntoMagazines_32 : decode cX1_putIntoMagazines 32 = .ok (.aload_n 0, 1) := by decide +kernel
theorem dX1_putIntoMagazines_33 : decode cX1_putIntoMagazines 33 = .ok (.getfield 97, 3) := by decide +kernel
theorem dX1_putIntoMagazines_36 : decode cX1_putIntoMagazines 36 = .ok (.iconst 3, 1) := by decide +kernel
theorem dX1_putIntoMagazines_37 : decode cX1_putIntoMagazines 37 = .ok (.if_icmp .ge 53, 3) := by decide +kernel
theorem dX1_putIntoMagazines_40 : decode cX1_putIntoMagazines 40 = .ok (.aload_n 0, 1) := by decide +kernel
theorem dX1_putIntoMagazines_41 : decode cX1_putIntoMagazines 41 = .ok (.getfield 26, 3) := by decide +kernel
theorem dX1_putIntoMagazines_44 : decode cX1_putIntoMagazines 44 = .ok (.aload_n 0, 1) := by decide +kernel
theorem dX1_putIntoMagazines_45 : decode cX1_putIntoMagazines 45 = .ok (.getfield 97, 3) := by decide +kernel
theorem dX1_putIntoMagazines_48 : decode cX1_putIntoMagazines 48 = .ok (.aload_n 0, 1) := by decide +kernel
theorem dX1_putIntoMagazines_49 : decode cX1_putIntoMagazines 49 = .ok (.getfield 23, 3) := by decide +kernel
theorem dX1_putIntoMagazines_52 : decode cX1_putIntoMagazines 52 = .ok (.iload_n 1, 1) := by decide +kernel
theorem dX1_putIntoMagazines_53 : decode cX1_putIntoMagazines 53 = .ok (.aaload, 1) := by decide +kernel
theorem dX1_putIntoMagazines_54 : decode cX1_putIntoMagazines 54 = .ok (.aastore, 1) := by decide +kernel
theorem dX1_putIntoMagazines_55 : decode cX1_putIntoMagazines 55 = .ok (.aload_n 0, 1) := by decide +kernel
theorem dX1_putIntoMagazines_56 : decode cX1_putIntoMagazines 56 = .ok (.dup, 1) := by decide +kernel
theorem dX1_putIntoMagazines_57 : decode cX1_putIntoMagazines 57 = .ok (.getfield 97, 3) := by decide +kernel
theorem dX1_putIntoMagazines_60 : decode cX1_putIntoMagazines 60 = .ok (.iconst 1, 1) := by decide +kernel
theorem dX1_putIntoMagazines_61 : decode cX1_putIntoMagazines 61 = .ok (.iadd, 1) := by decide +kernel
theorem dX1_putIntoMagazines_62 : decode cX1_putIntoMagazines 62 = .ok (.putfield 97, 3) := by decide +kernel
theorem dX1_putIntoMagazines_65 : decode cX1_putIntoMagazines 65 = .ok (.aload_n 0, 1) := by decide +kernel
theorem dX1_putIntoMagazines_66 : decode cX1_putIntoMagazines 66 = .ok (.getfield 23, 3) := by decide +kernel
theorem dX1_putIntoMagazines_69 : decode cX1_putIntoMagazines 69 = .ok (.iload_n 1, 1) := by decide +kernel
theorem dX1_putIntoMagazines_70 : decode cX1_putIntoMagazines 70 = .ok (.aload_n 0, 1) := by decide +kernel
theorem dX1_putIntoMagazines_71 : decode cX1_putIntoMagazines 71 = .ok (.getfield 19, 3) := by decide +kernel
theorem dX1_putIntoMagazines_74 : decode cX1_putIntoMagazines 74 = .ok (.iload_n 1, 1) := by decide +kernel
theorem dX1_putIntoMagazines_75 : decode cX1_putIntoMagazines 75 = .ok (.aaload, 1) := by decide +kernel
theorem dX1_putIntoMagazines_76 : decode cX1_putIntoMagazines 76 = .ok (.aastore, 1) := by decide +kernel
theorem dX1_putIntoMagazines_77 : decode cX1_putIntoMagazines 77 = .ok (.aload_n 0, 1) := by decide +kernel
theorem dX1_putIntoMagazines_78 : decode cX1_putIntoMagazines 78 = .ok (.getfield 19, 3) := by decide +kernel
theorem dX1_putIntoMagazines_81 : decode cX1_putIntoMagazines 81 = .ok (.iload_n 1, 1) := by decide +kernel
theorem dX1_putIntoMagazines_82 : decode cX1_putIntoMagazines 82 = .ok (.new 17, 3) := by decide +kernel
theorem dX1_putIntoMagazines_85 : decode cX1_putIntoMagazines 85 = .ok (.dup, 1) := by decide +kernel
theorem dX1_putIntoMagazines_86 : decode cX1_putIntoMagazines 86 = .ok (.invokespecial 59, 3) := by decide +kernel
theorem dX1_putIntoMagazines_89 : decode cX1_putIntoMagazines 89 = .ok (.aastore, 1) := by decide +kernel
theorem dX1_putIntoMagazines_90 : decode cX1_putIntoMagazines 90 = .ok (.aload_n 0, 1) := by decide +kernel
theorem dX1_putIntoMagazines_91 : decode cX1_putIntoMagazines 91 = .ok (.getfield 19, 3) := by decide +kernel
theorem dX1_putIntoMagazines_94 : decode cX1_putIntoMagazines 94 = .ok (.iload_n 1, 1) := by decide +kernel
theorem dX1_putIntoMagazines_95 : decode cX1_putIntoMagazines 95 = .ok (.aaload, 1) := by decide +kernel
theorem dX1_putIntoMagazines_96 : decode cX1_putIntoMagazines 96 = .ok (.iload_n 2, 1) := by decide +kernel
theorem dX1_putIntoMagazines_97 : decode cX1_putIntoMagazines 97 = .ok (.invokevirtual 100, 3) := by decide +kernel
theorem dX1_putIntoMagazines_100 : decode cX1_putIntoMagazines 100 = .ok (.ireturn, 1) := by decide +kernel
theorem dX1_changePlaces_0 : decode cX1_changePlaces 0 = .ok (.aload_n 0, 1) := by decide +kernel
theorem dX1_changePlaces_1 : decode cX1_changePlaces 1 = .ok (.getfield 19, 3) := by decide +kernel
theorem dX1_changePlaces_4 : decode cX1_changePlaces 4 = .ok (.iload_n 1, 1) := by decide +kernel
theorem dX1_changePlaces_5 : decode cX1_changePlaces 5 = .ok (.aaload, 1) := by decide +kernel
theorem dX1_changePlaces_6 : decode cX1_changePlaces 6 = .ok (.astore_n 2, 1) := by decide +kernel
theorem dX1_changePlaces_7 : decode cX1_changePlaces 7 = .ok (.aload_n 0, 1) := by decide +kernel
theorem dX1_changePlaces_8 : decode cX1_changePlaces 8 = .ok (.getfield 19, 3) := by decide +kernel
theorem dX1_changePlaces_11 : decode cX1_changePlaces 11 = .ok (.iload_n 1, 1) := by decide +kernel
theorem dX1_changePlaces_12 : decode cX1_changePlaces 12 = .ok (.aload_n 0, 1) := by decide +kernel
theorem dX1_changePlaces_13 : decode cX1_changePlaces 13 = .ok (.getfield 23, 3) := by decide +kernel
theorem dX1_changePlaces_16 : decode cX1_changePlaces 16 = .ok (.iload_n 1, 1) := by decide +kernel
theorem dX1_changePlaces_17 : decode cX1_changePlaces 17 = .ok (.aaload, 1) := by decide +kernel
theorem dX1_changePlaces_18 : decode cX1_changePlaces 18 = .ok (.aastore, 1) := by decide +kernel
theorem dX1_changePlaces_19 : decode cX1_changePlaces 19 = .ok (.aload_n 0, 1) := by decide +kernel
theorem dX1_changePlaces_20 : decode cX1_changePlaces 20 = .ok (.getfield 23, 3) := by decide +kernel
theorem dX1_changePlaces_23 : decode cX1_changePlaces 23 = .ok (.iload_n 1, 1) := by decide +kernel
theorem dX1_changePlaces_24 : decode cX1_changePlaces 24 = .ok (.aload_n 2, 1) := by decide +kernel
theorem dX1_changePlaces_25 : decode cX1_changePlaces 25 = .ok (.aastore, 1) := by decide +kernel
theorem dX1_changePlaces_26 : decode cX1_changePlaces 26 = .ok (.return_, 1) := by decide +kernel
theorem dX1_takeFromDepot_0 : decode cX1_takeFromDepot 0 = .ok (.aload_n 0, 1) := by decide +kernel
theorem dX1_takeFromDepot_1 : decode cX1_takeFromDepot 1 = .ok (.getfield 97, 3) := by decide +kernel
theorem dX1_takeFromDepot_4 : decode cX1_takeFromDepot 4 = .ok (.ifCond .gt 5, 3) := by decide +kernel
theorem dX1_takeFromDepot_7 : decode cX1_takeFromDepot 7 = .ok (.aconst_null, 1) := by decide +kernel
theorem dX1_takeFromDepot_8 : decode cX1_takeFromDepot 8 = .ok (.areturn, 1) := by decide +kernel
theorem dX1_takeFromDepot_9 : decode cX1_takeFromDepot 9 = .ok (.aload_n 0, 1) := by decide +kernel
theorem dX1_takeFromDepot_10 : decode cX1_takeFromDepot 10 = .ok (.dup, 1) := by decide +kernel
theorem dX1_takeFromDepot_11 : decode cX1_takeFromDepot 11 = .ok (.getfield 97, 3) := by decide +kernel
theorem dX1_takeFromDepot_14 : decode cX1_takeFromDepot 14 = .ok (.iconst 1, 1) := by decide +kernel
theorem dX1_takeFromDepot_15 : decode cX1_takeFromDepot 15 = .ok (.isub, 1) := by decide +kernel
theorem dX1_takeFromDepot_16 : decode cX1_takeFromDepot 16 = .ok (.putfield 97, 3) := by decide +kernel
theorem dX1_takeFromDepot_19 : decode cX1_takeFromDepot 19 = .ok (.aload_n 0, 1) := by decide +kernel
theorem dX1_takeFromDepot_20 : decode cX1_takeFromDepot 20 = .ok (.getfield 26, 3) := by decide +kernel
theorem dX1_takeFromDepot_23 : decode cX1_takeFromDepot 23 = .ok (.aload_n 0, 1) := by decide +kernel
theorem dX1_takeFromDepot_24 : decode cX1_takeFromDepot 24 = .ok (.getfield 97, 3) := by decide +kernel
theorem dX1_takeFromDepot_27 : decode cX1_takeFromDepot 27 = .ok (.aaload, 1) := by decide +kernel
theorem dX1_takeFromDepot_28 : decode cX1_takeFromDepot 28 = .ok (.astore_n 1, 1) := by decide +kernel
theorem dX1_takeFromDepot_29 : decode cX1_takeFromDepot 29 = .ok (.aload_n 0, 1) := by decide +kernel
theorem dX1_takeFromDepot_30 : decode cX1_takeFromDepot 30 = .ok (.getfield 26, 3) := by decide +kernel
theorem dX1_takeFromDepot_33 : decode cX1_takeFromDepot 33 = .ok (.aload_n 0, 1) := by decide +kernel
theorem dX1_takeFromDepot_34 : decode cX1_takeFromDepot 34 = .ok (.getfield 97, 3) := by decide +kernel
theorem dX1_takeFromDepot_37 : decode cX1_takeFromDepot 37 = .ok (.aconst_null, 1) := by decide +kernel
theorem dX1_takeFromDepot_38 : decode cX1_takeFromDepot 38 = .ok (.aastore, 1) := by decide +kernel
theorem dX1_takeFromDepot_39 : decode cX1_takeFromDepot 39 = .ok (.aload_n 1, 1) := by decide +kernel
theorem dX1_takeFromDepot_40 : decode cX1_takeFromDepot 40 = .ok (.areturn, 1) := by decide +kernel
theorem dX1_inMagazines_0 : decode cX1_inMagazines 0 = .ok (.aload_n 0, 1) := by decide +kernel
theorem dX1_inMagazines_1 : decode cX1_inMagazines 1 = .ok (.getfield 97, 3) := by decide +kernel
theorem dX1_inMagazines_4 : decode cX1_inMagazines 4 = .ok (.iconst 4, 1) := by decide +kernel
theorem dX1_inMagazines_5 : decode cX1_inMagazines 5 = .ok (.imul, 1) := by decide +kernel
theorem dX1_inMagazines_6 : decode cX1_inMagazines 6 = .ok (.istore_n 1, 1) := by decide +kernel
theorem dX1_inMagazines_7 : decode cX1_inMagazines 7 = .ok (.iconst 0, 1) := by decide +kernel
theorem dX1_inMagazines_8 : decode cX1_inMagazines 8 = .ok (.istore_n 2, 1) := by decide +kernel
theorem dX1_inMagazines_9 : decode cX1_inMagazines 9 = .ok (.iload_n 2, 1) := by decide +kernel
theorem dX1_inMagazines_10 : decode cX1_inMagazines 10 = .ok (.iconst 4, 1) := by decide +kernel
theorem dX1_inMagazines_11 : decode cX1_inMagazines 11 = .ok (.if_icmp .ge 31, 3) := by decide +kernel
theorem dX1_inMagazines_14 : decode cX1_inMagazines 14 = .ok (.iload_n 1, 1) := by decide +kernel
theorem dX1_inMagazines_15 : decode cX1_inMagazines 15 = .ok (.aload_n 0, 1) := by decide +kernel
theorem dX1_inMagazines_16 : decode cX1_inMagazines 16 = .ok (.getfield 19, 3) := by decide +kernel
theorem dX1_inMagazines_19 : decode cX1_inMagazines 19 = .ok (.iload_n 2, 1) := by decide +kernel
theorem dX1_inMagazines_20 : decode cX1_inMagazines 20 = .ok (.aaload, 1) := by decide +kernel
theorem dX1_inMagazines_21 : decode cX1_inMagazines 21 = .ok (.getfield 79, 3) := by decide +kernel
theorem dX1_inMagazines_24 : decode cX1_inMagazines 24 = .ok (.aload_n 0, 1) := by decide +kernel
theorem dX1_inMagazines_25 : decode cX1_inMagazines 25 = .ok (.getfield 23, 3) := by decide +kernel
theorem dX1_inMagazines_28 : decode cX1_inMagazines 28 = .ok (.iload_n 2, 1) := by decide +kernel
theorem dX1_inMagazines_29 : decode cX1_inMagazines 29 = .ok (.aaload, 1) := by decide +kernel
theorem dX1_inMagazines_30 : decode cX1_inMagazines 30 = .ok (.getfield 79, 3) := by decide +kernel
theorem dX1_inMagazines_33 : decode cX1_inMagazines 33 = .ok (.iadd, 1) := by decide +kernel
theorem dX1_inMagazines_34 : decode cX1_inMagazines 34 = .ok (.iadd, 1) := by decide +kernel
theorem dX1_inMagazines_35 : decode cX1_inMagazines 35 = .ok (.istore_n 1, 1) := by decide +kernel
theorem dX1_inMagazines_36 : decode cX1_inMagazines 36 = .ok (.iinc 2 1, 3) := by decide +kernel
theorem dX1_inMagazines_39 : decode cX1_inMagazines 39 = .ok (.goto (-30), 3) := by decide +kernel
theorem dX1_inMagazines_42 : decode cX1_inMagazines 42 = .ok (.iload_n 1, 1) := by decide +kernel
theorem dX1_inMagazines_43 : decode cX1_inMagazines 43 = .ok (.ireturn, 1) := by decide +kernel
theorem dX2_init_0 : decode cX2_init 0 = .ok (.aload_n 0, 1) := by decide +kernel
theorem dX2_init_1 : decode cX2_init 1 = .ok (.invokespecial 3, 3) := by decide +kernel
theorem dX2_init_4 : decode cX2_init 4 = .ok (.aload_n 0, 1) := by decide +kernel
theorem dX2_init_5 : decode cX2_init 5 = .ok (.iconst 4, 1) := by decide +kernel
theorem dX2_init_6 : decode cX2_init 6 = .ok (.newarray .int, 2) := by decide +kernel
theorem dX2_init_8 : decode cX2_init 8 = .ok (.putfield 9, 3) := by decide +kernel
theorem dX2_init_11 : decode cX2_init 11 = .ok (.return_, 1) := by decide +kernel
theorem dX2_isFull_0 : decode cX2_isFull 0 = .ok (.aload_n 0, 1) := by decide +kernel
theorem dX2_isFull_1 : decode cX2_isFull 1 = .ok (.getfield 15, 3) := by decide +kernel
theorem dX2_isFull_4 : decode cX2_isFull 4 = .ok (.iconst 4, 1) := by decide +kernel
theorem dX2_isFull_5 : decode cX2_isFull 5 = .ok (.if_icmp .lt 7, 3) := by decide +kernel
theorem dX2_isFull_8 : decode cX2_isFull 8 = .ok (.iconst 1, 1) := by decide +kernel
theorem dX2_isFull_9 : decode cX2_isFull 9 = .ok (.goto 4, 3) := by decide +kernel
theorem dX2_isFull_12 : decode cX2_isFull 12 = .ok (.iconst 0, 1) := by decide +kernel
theorem dX2_isFull_13 : decode cX2_isFull 13 = .ok (.ireturn, 1) := by decide +kernel
theorem dX2_put_0 : decode cX2_put 0 = .ok (.aload_n 0, 1) := by decide +kernel
theorem dX2_put_1 : decode cX2_put 1 = .ok (.invokevirtual 19, 3) := by decide +kernel
theorem dX2_put_4 : decode cX2_put 4 = .ok (.ifCond .eq 5, 3) := by decide +kernel
theorem dX2_put_7 : decode cX2_put 7 = .ok (.iconst 0, 1) := by decide +kernel
theorem dX2_put_8 : decode cX2_put 8 = .ok (.ireturn, 1) := by decide +kernel
theorem dX2_put_9 : decode cX2_put 9 = .ok (.aload_n 0, 1) := by decide +kernel
theorem dX2_put_10 : decode cX2_put 10 = .ok (.getfield 9, 3) := by decide +kernel
theorem dX2_put_13 : decode cX2_put 13 = .ok (.aload_n 0, 1) := by decide +kernel
theorem dX2_put_14 : decode cX2_put 14 = .ok (.getfield 15, 3) := by decide +kernel
theorem dX2_put_17 : decode cX2_put 17 = .ok (.iload_n 1, 1) := by decide +kernel
theorem dX2_put_18 : decode cX2_put 18 = .ok (.iastore, 1) := by decide +kernel
theorem dX2_put_19 : decode cX2_put 19 = .ok (.aload_n 0, 1) := by decide +kernel
theorem dX2_put_20 : decode cX2_put 20 = .ok (.dup, 1) := by decide +kernel
theorem dX2_put_21 : decode cX2_put 21 = .ok (.getfield 15, 3) := by decide +kernel
theorem dX2_put_24 : decode cX2_put 24 = .ok (.iconst 1, 1) := by decide +kernel
theorem dX2_put_25 : decode cX2_put 25 = .ok (.iadd, 1) := by decide +kernel
theorem dX2_put_26 : decode cX2_put 26 = .ok (.putfield 15, 3) := by decide +kernel
theorem dX2_put_29 : decode cX2_put 29 = .ok (.iconst 1, 1) := by decide +kernel
theorem dX2_put_30 : decode cX2_put 30 = .ok (.ireturn, 1) := by decide +kernel
theorem dX2_takeLast_0 : decode cX2_takeLast 0 = .ok (.aload_n 0, 1) := by decide +kernel
theorem dX2_takeLast_1 : decode cX2_takeLast 1 = .ok (.getfield 15, 3) := by decide +kernel
theorem dX2_takeLast_4 : decode cX2_takeLast 4 = .ok (.ifCond .gt 5, 3) := by decide +kernel
theorem dX2_takeLast_7 : decode cX2_takeLast 7 = .ok (.iconst (-1), 1) := by decide +kernel
theorem dX2_takeLast_8 : decode cX2_takeLast 8 = .ok (.ireturn, 1) := by decide +kernel
theorem dX2_takeLast_9 : decode cX2_takeLast 9 = .ok (.aload_n 0, 1) := by decide +kernel
theorem dX2_takeLast_10 : decode cX2_takeLast 10 = .ok (.dup, 1) := by decide +kernel
theorem dX2_takeLast_11 : decode cX2_takeLast 11 = .ok (.getfield 15, 3) := by decide +kernel
theorem dX2_takeLast_14 : decode cX2_takeLast 14 = .ok (.iconst 1, 1) := by decide +kernel
theorem dX2_takeLast_15 : decode cX2_takeLast 15 = .ok (.isub, 1) := by decide +kernel
theorem dX2_takeLast_16 : decode cX2_takeLast 16 = .ok (.putfield 15, 3) := by decide +kernel
theorem dX2_takeLast_19 : decode cX2_takeLast 19 = .ok (.aload_n 0, 1) := by decide +kernel
theorem dX2_takeLast_20 : decode cX2_takeLast 20 = .ok (.getfield 9, 3) := by decide +kernel
theorem dX2_takeLast_23 : decode cX2_takeLast 23 = .ok (.aload_n 0, 1) := by decide +kernel
theorem dX2_takeLast_24 : decode cX2_takeLast 24 = .ok (.getfield 15, 3) := by decide +kernel
theorem dX2_takeLast_27 : decode cX2_takeLast 27 = .ok (.iaload, 1) := by decide +kernel
theorem dX2_takeLast_28 : decode cX2_takeLast 28 = .ok (.ireturn, 1) := by decide +kernel
theorem dX3_init_0 : decode cX3_init 0 = .ok (.aload_n 0, 1) := by decide +kernel
theorem dX3_init_1 : decode cX3_init 1 = .ok (.invokespecial 3, 3) := by decide +kernel
theorem dX3_init_4 : decode cX3_init 4 = .ok (.aload_n 0, 1) := by decide +kernel
theorem dX3_init_5 : decode cX3_init 5 = .ok (.iconst (-1), 1) := by decide +kernel
theorem dX3_init_6 : decode cX3_init 6 = .ok (.putfield 9, 3) := by decide +kernel
theorem dX3_init_9 : decode cX3_init 9 = .ok (.aload_n 0, 1) := by decide +kernel
theorem dX3_init_10 : decode cX3_init 10 = .ok (.iconst (-1), 1) := by decide +kernel
theorem dX3_init_11 : decode cX3_init 11 = .ok (.putfield 15, 3) := by decide +kernel
theorem dX3_init_14 : decode cX3_init 14 = .ok (.aload_n 0, 1) := by decide +kernel
theorem dX3_init_15 : decode cX3_init 15 = .ok (.aload_n 1, 1) := by decide +kernel
theorem dX3_init_16 : decode cX3_init 16 = .ok (.putfield 18, 3) := by decide +kernel
theorem dX3_init_19 : decode cX3_init 19 = .ok (.aload_n 0, 1) := by decide +kernel
theorem dX3_init_20 : decode cX3_init 20 = .ok (.iload_n 2, 1) := by decide +kernel
theorem dX3_init_21 : decode cX3_init 21 = .ok (.putfield 22, 3) := by decide +kernel
theorem dX3_init_24 : decode cX3_init 24 = .ok (.aload_n 0, 1) := by decide +kernel
theorem dX3_init_25 : decode cX3_init 25 = .ok (.iload_n 3, 1) := by decide +kernel
theorem dX3_init_26 : decode cX3_init 26 = .ok (.putfield 25, 3) := by decide +kernel
theorem dX3_init_29 : decode cX3_init 29 = .ok (.iconst 1, 1) := by decide +kernel
theorem dX3_init_30 : decode cX3_init 30 = .ok (.iconst 4, 1) := by decide +kernel
theorem dX3_init_31 : decode cX3_init 31 = .ok (.aload_n 1, 1) := by decide +kernel
theorem dX3_init_32 : decode cX3_init 32 = .ok (.getfield 28, 3) := by decide +kernel
theorem dX3_init_35 : decode cX3_init 35 = .ok (.invokestatic 33, 3) := by decide +kernel
theorem dX3_init_38 : decode cX3_init 38 = .ok (.invokestatic 39, 3) := by decide +kernel
theorem dX3_init_41 : decode cX3_init 41 = .ok (.istore 4, 2) := by decide +kernel
theorem dX3_init_43 : decode cX3_init 43 = .ok (.aload_n 0, 1) := by decide +kernel
theorem dX3_init_44 : decode cX3_init 44 = .ok (.iload 4, 2) := by decide +kernel
theorem dX3_init_46 : decode cX3_init 46 = .ok (.newarray .int, 2) := by decide +kernel
theorem dX3_init_48 : decode cX3_init 48 = .ok (.putfield 42, 3) := by decide +kernel
theorem dX3_init_51 : decode cX3_init 51 = .ok (.aload_n 0, 1) := by decide +kernel
theorem dX3_init_52 : decode cX3_init 52 = .ok (.iload 4, 2) := by decide +kernel
theorem dX3_init_54 : decode cX3_init 54 = .ok (.newarray .int, 2) := by decide +kernel
theorem dX3_init_56 : decode cX3_init 56 = .ok (.putfield 46, 3) := by decide +kernel
theorem dX3_init_59 : decode cX3_init 59 = .ok (.return_, 1) := by decide +kernel
theorem dX3_firstByte_0 : decode cX3_firstByte 0 = .ok (.aload_n 0, 1) := by decide +kernel
theorem dX3_firstByte_1 : decode cX3_firstByte 1 = .ok (.getfield 22, 3) := by decide +kernel
theorem dX3_firstByte_4 : decode cX3_firstByte 4 = .ok (.sipush 1024, 3) := by decide +kernel
theorem dX3_firstByte_7 : decode cX3_firstByte 7 = .ok (.imul, 1) := by decide +kernel
theorem dX3_firstByte_8 : decode cX3_firstByte 8 = .ok (.ireturn, 1) := by decide +kernel
theorem dX3_beginOf_0 : decode cX3_beginOf 0 = .ok (.aload_n 0, 1) := by decide +kernel
theorem dX3_beginOf_1 : decode cX3_beginOf 1 = .ok (.invokevirtual 49, 3) := by decide +kernel
theorem dX3_beginOf_4 : decode cX3_beginOf 4 = .ok (.aload_n 0, 1) := by decide +kernel
theorem dX3_beginOf_5 : decode cX3_beginOf 5 = .ok (.getfield 25, 3) := by decide +kernel
theorem dX3_beginOf_8 : decode cX3_beginOf 8 = .ok (.aload_n 0, 1) := by decide +kernel
theorem dX3_beginOf_9 : decode cX3_beginOf 9 = .ok (.getfield 18, 3) := by decide +kernel
theorem dX3_beginOf_12 : decode cX3_beginOf 12 = .ok (.getfield 53, 3) := by decide +kernel
theorem dX3_beginOf_15 : decode cX3_beginOf 15 = .ok (.imul, 1) := by decide +kernel
theorem dX3_beginOf_16 : decode cX3_beginOf 16 = .ok (.iadd, 1) := by decide +kernel
theorem dX3_beginOf_17 : decode cX3_beginOf 17 = .ok (.iload_n 1, 1) := by decide +kernel
theorem dX3_beginOf_18 : decode cX3_beginOf 18 = .ok (.aload_n 0, 1) := by decide +kernel
theorem dX3_beginOf_19 : decode cX3_beginOf 19 = .ok (.getfield 18, 3) := by decide +kernel
theorem dX3_beginOf_22 : decode cX3_beginOf 22 = .ok (.getfield 56, 3) := by decide +kernel
theorem dX3_beginOf_25 : decode cX3_beginOf 25 = .ok (.imul, 1) := by decide +kernel
theorem dX3_beginOf_26 : decode cX3_beginOf 26 = .ok (.iadd, 1) := by decide +kernel
theorem dX3_beginOf_27 : decode cX3_beginOf 27 = .ok (.ireturn, 1) := by decide +kernel
theorem dX3_numberOver_0 : decode cX3_numberOver 0 = .ok (.iload_n 1, 1) := by decide +kernel
theorem dX3_numberOver_1 : decode cX3_numberOver 1 = .ok (.aload_n 0, 1) := by decide +kernel
theorem dX3_numberOver_2 : decode cX3_numberOver 2 = .ok (.iconst 0, 1) := by decide +kernel
theorem dX3_numberOver_3 : decode cX3_numberOver 3 = .ok (.invokevirtual 59, 3) := by decide +kernel
theorem dX3_numberOver_6 : decode cX3_numberOver 6 = .ok (.isub, 1) := by decide +kernel
theorem dX3_numberOver_7 : decode cX3_numberOver 7 = .ok (.istore_n 2, 1) := by decide +kernel
theorem dX3_numberOver_8 : decode cX3_numberOver 8 = .ok (.iload_n 2, 1) := by decide +kernel
theorem dX3_numberOver_9 : decode cX3_numberOver 9 = .ok (.ifCond .lt 13, 3) := by decide +kernel
theorem dX3_numberOver_12 : decode cX3_numberOver 12 = .ok (.aload_n 0, 1) := by decide +kernel
theorem dX3_numberOver_13 : decode cX3_numberOver 13 = .ok (.getfield 18, 3) := by decide +kernel
theorem dX3_numberOver_16 : decode cX3_numberOver 16 = .ok (.getfield 56, 3) := by decide +kernel
theorem dX3_numberOver_19 : decode cX3_numberOver 19 = .ok (.ifCond .gt 5, 3) := by decide +kernel
theorem dX3_numberOver_22 : decode cX3_numberOver 22 = .ok (.iconst (-1), 1) := by decide +kernel
theorem dX3_numberOver_23 : decode cX3_numberOver 23 = .ok (.ireturn, 1) := by decide +kernel
theorem dX3_numberOver_24 : decode cX3_numberOver 24 = .ok (.iload_n 2, 1) := by decide +kernel
theorem dX3_numberOver_25 : decode cX3_numberOver 25 = .ok (.aload_n 0, 1) := by decide +kernel
theorem dX3_numberOver_26 : decode cX3_numberOver 26 = .ok (.getfield 18, 3) := by decide +kernel
theorem dX3_numberOver_29 : decode cX3_numberOver 29 = .ok (.getfield 56, 3) := by decide +kernel
theorem dX3_numberOver_32 : decode cX3_numberOver 32 = .ok (.idiv, 1) := by decide +kernel
theorem dX3_numberOver_33 : decode cX3_numberOver 33 = .ok (.istore_n 3, 1) := by decide +kernel
theorem dX3_numberOver_34 : decode cX3_numberOver 34 = .ok (.iload_n 3, 1) := by decide +kernel
theorem dX3_numberOver_35 : decode cX3_numberOver 35 = .ok (.aload_n 0, 1) := by decide +kernel
theorem dX3_numberOver_36 : decode cX3_numberOver 36 = .ok (.getfield 18, 3) := by decide +kernel
theorem dX3_numberOver_39 : decode cX3_numberOver 39 = .ok (.getfield 28, 3) := by decide +kernel
theorem dX3_numberOver_42 : decode cX3_numberOver 42 = .ok (.if_icmp .ge 7, 3) := by decide +kernel
theorem dX3_numberOver_45 : decode cX3_numberOver 45 = .ok (.iload_n 3, 1) := by decide +kernel
theorem dX3_numberOver_46 : decode cX3_numberOver 46 = .ok (.goto 4, 3) := by decide +kernel
theorem dX3_numberOver_49 : decode cX3_numberOver 49 = .ok (.iconst (-1), 1) := by decide +kernel
theorem dX3_numberOver_50 : decode cX3_numberOver 50 = .ok (.ireturn, 1) := by decide +kernel
theorem dX3_isLive_0 : decode cX3_isLive 0 = .ok (.aload_n 0, 1) := by decide +kernel
theorem dX3_isLive_1 : decode cX3_isLive 1 = .ok (.iload_n 1, 1) := by decide +kernel
theorem dX3_isLive_2 : decode cX3_isLive 2 = .ok (.invokevirtual 63, 3) := by decide +kernel
theorem dX3_isLive_5 : decode cX3_isLive 5 = .ok (.ifCond .eq 18, 3) := by decide +kernel
theorem dX3_isLive_8 : decode cX3_isLive 8 = .ok (.aload_n 0, 1) := by decide +kernel
theorem dX3_isLive_9 : decode cX3_isLive 9 = .ok (.getfield 42, 3) := by decide +kernel
theorem dX3_isLive_12 : decode cX3_isLive 12 = .ok (.iload_n 1, 1) := by decide +kernel
theorem dX3_isLive_13 : decode cX3_isLive 13 = .ok (.iaload, 1) := by decide +kernel
theorem dX3_isLive_14 : decode cX3_isLive 14 = .ok (.bipush (-2), 2) := by decide +kernel
theorem dX3_isLive_16 : decode cX3_isLive 16 = .ok (.if_icmp .ne 7, 3) := by decide +kernel
theorem dX3_isLive_19 : decode cX3_isLive 19 = .ok (.iconst 1, 1) := by decide +kernel
theorem dX3_isLive_20 : decode cX3_isLive 20 = .ok (.goto 4, 3) := by decide +kernel
theorem dX3_isLive_23 : decode cX3_isLive 23 = .ok (.iconst 0, 1) := by decide +kernel
theorem dX3_isLive_24 : decode cX3_isLive 24 = .ok (.ireturn, 1) := by decide +kernel
theorem dX3_liveBeginsAt_0 : decode cX3_liveBeginsAt 0 = .ok (.aload_n 0, 1) := by decide +kernel
theorem dX3_liveBeginsAt_1 : decode cX3_liveBeginsAt 1 = .ok (.iload_n 1, 1) := by decide +kernel
theorem dX3_liveBeginsAt_2 : decode cX3_liveBeginsAt 2 = .ok (.invokevirtual 67, 3) := by decide +kernel
theorem dX3_liveBeginsAt_5 : decode cX3_liveBeginsAt 5 = .ok (.istore_n 2, 1) := by decide +kernel
theorem dX3_liveBeginsAt_6 : decode cX3_liveBeginsAt 6 = .ok (.aload_n 0, 1) := by decide +kernel
theorem dX3_liveBeginsAt_7 : decode cX3_liveBeginsAt 7 = .ok (.iload_n 2, 1) := by decide +kernel
theorem dX3_liveBeginsAt_8 : decode cX3_liveBeginsAt 8 = .ok (.invokevirtual 70, 3) := by decide +kernel
theorem dX3_liveBeginsAt_11 : decode cX3_liveBeginsAt 11 = .ok (.ifCond .eq 16, 3) := by decide +kernel
theorem dX3_liveBeginsAt_14 : decode cX3_liveBeginsAt 14 = .ok (.aload_n 0, 1) := by decide +kernel
theorem dX3_liveBeginsAt_15 : decode cX3_liveBeginsAt 15 = .ok (.iload_n 2, 1) := by decide +kernel
theorem dX3_liveBeginsAt_16 : decode cX3_liveBeginsAt 16 = .ok (.invokevirtual 59, 3) := by decide +kernel
theorem dX3_liveBeginsAt_19 : decode cX3_liveBeginsAt 19 = .ok (.iload_n 1, 1) := by decide +kernel
theorem dX3_liveBeginsAt_20 : decode cX3_liveBeginsAt 20 = .ok (.if_icmp .ne 7, 3) := by decide +kernel
theorem dX3_liveBeginsAt_23 : decode cX3_liveBeginsAt 23 = .ok (.iconst 1, 1) := by decide +kernel
theorem dX3_liveBeginsAt_24 : decode cX3_liveBeginsAt 24 = .ok (.goto 4, 3) := by decide +kernel
theorem dX3_liveBeginsAt_27 : decode cX3_liveBeginsAt 27 = .ok (.iconst 0, 1) := by decide +kernel
theorem dX3_liveBeginsAt_28 : decode cX3_liveBeginsAt 28 = .ok (.ireturn, 1) := by decide +kernel
theorem dX3_markOf_0 : decode cX3_markOf 0 = .ok (.aload_n 0, 1) := by decide +kernel
theorem dX3_markOf_1 : decode cX3_markOf 1 = .ok (.iload_n 1, 1) := by decide +kernel
theorem dX3_markOf_2 : decode cX3_markOf 2 = .ok (.invokevirtual 63, 3) := by decide +kernel
theorem dX3_markOf_5 : decode cX3_markOf 5 = .ok (.ifCond .eq 12, 3) := by decide +kernel
theorem dX3_markOf_8 : decode cX3_markOf 8 = .ok (.aload_n 0, 1) := by decide +kernel
theorem dX3_markOf_9 : decode cX3_markOf 9 = .ok (.getfield 46, 3) := by decide +kernel
theorem dX3_markOf_12 : decode cX3_markOf 12 = .ok (.iload_n 1, 1) := by decide +kernel
theorem dX3_markOf_13 : decode cX3_markOf 13 = .ok (.iaload, 1) := by decide +kernel
theorem dX3_markOf_14 : decode cX3_markOf 14 = .ok (.goto 10, 3) := by decide +kernel
theorem dX3_markOf_17 : decode cX3_markOf 17 = .ok (.aload_n 0, 1) := by decide +kernel
theorem dX3_markOf_18 : decode cX3_markOf 18 = .ok (.getfield 18, 3) := by decide +kernel
theorem dX3_markOf_21 : decode cX3_markOf 21 = .ok (.getfield 73, 3) := by decide +kernel
theorem dX3_markOf_24 : decode cX3_markOf 24 = .ok (.ireturn, 1) := by decide +kernel
theorem dX3_changeMark_0 : decode cX3_changeMark 0 = .ok (.aload_n 0, 1) := by decide +kernel
theorem dX3_changeMark_1 : decode cX3_changeMark 1 = .ok (.iload_n 1, 1) := by decide +kernel
theorem dX3_changeMark_2 : decode cX3_changeMark 2 = .ok (.invokevirtual 76, 3) := by decide +kernel
theorem dX3_changeMark_5 : decode cX3_changeMark 5 = .ok (.istore_n 3, 1) := by decide +kernel
theorem dX3_changeMark_6 : decode cX3_changeMark 6 = .ok (.aload_n 0, 1) := by decide +kernel
theorem dX3_changeMark_7 : decode cX3_changeMark 7 = .ok (.iload_n 1, 1) := by decide +kernel
theorem dX3_changeMark_8 : decode cX3_changeMark 8 = .ok (.invokevirtual 63, 3) := by decide +kernel
theorem dX3_changeMark_11 : decode cX3_changeMark 11 = .ok (.ifCond .eq 10, 3) := by decide +kernel
theorem dX3_changeMark_14 : decode cX3_changeMark 14 = .ok (.aload_n 0, 1) := by decide +kernel
theorem dX3_changeMark_15 : decode cX3_changeMark 15 = .ok (.getfield 46, 3) := by decide +kernel
theorem dX3_changeMark_18 : decode cX3_changeMark 18 = .ok (.iload_n 1, 1) := by decide +kernel
theorem dX3_changeMark_19 : decode cX3_changeMark 19 = .ok (.iload_n 2, 1) := by decide +kernel
theorem dX3_changeMark_20 : decode cX3_changeMark 20 = .ok (.iastore, 1) := by decide +kernel
theorem dX3_changeMark_21 : decode cX3_changeMark 21 = .ok (.iload_n 3, 1) := by decide +kernel
theorem dX3_changeMark_22 : decode cX3_changeMark 22 = .ok (.ireturn, 1) := by decide +kernel
theorem dX3_kind_0 : decode cX3_kind 0 = .ok (.aload_n 0, 1) := by decide +kernel
theorem dX3_kind_1 : decode cX3_kind 1 = .ok (.getfield 79, 3) := by decide +kernel
theorem dX3_kind_4 : decode cX3_kind 4 = .ok (.aload_n 0, 1) := by decide +kernel
theorem dX3_kind_5 : decode cX3_kind 5 = .ok (.getfield 18, 3) := by decide +kernel
theorem dX3_kind_8 : decode cX3_kind 8 = .ok (.getfield 28, 3) := by decide +kernel
theorem dX3_kind_11 : decode cX3_kind 11 = .ok (.if_icmp .lt 5, 3) := by decide +kernel
theorem dX3_kind_14 : decode cX3_kind 14 = .ok (.iconst 0, 1) := by decide +kernel
theorem dX3_kind_15 : decode cX3_kind 15 = .ok (.ireturn, 1) := by decide +kernel
theorem dX3_kind_16 : decode cX3_kind 16 = .ok (.aload_n 0, 1) := by decide +kernel
theorem dX3_kind_17 : decode cX3_kind 17 = .ok (.getfield 79, 3) := by decide +kernel
theorem dX3_kind_20 : decode cX3_kind 20 = .ok (.ifCond .ne 7, 3) := by decide +kernel
theorem dX3_kind_23 : decode cX3_kind 23 = .ok (.iconst 2, 1) := by decide +kernel
theorem dX3_kind_24 : decode cX3_kind 24 = .ok (.goto 4, 3) := by decide +kernel
theorem dX3_kind_27 : decode cX3_kind 27 = .ok (.iconst 1, 1) := by decide +kernel
theorem dX3_kind_28 : decode cX3_kind 28 = .ok (.ireturn, 1) := by decide +kernel
theorem dX3_firstFree_0 : decode cX3_firstFree 0 = .ok (.aload_n 0, 1) := by decide +kernel
theorem dX3_firstFree_1 : decode cX3_firstFree 1 = .ok (.getfield 15, 3) := by decide +kernel
theorem dX3_firstFree_4 : decode cX3_firstFree 4 = .ok (.iconst (-1), 1) := by decide +kernel
theorem dX3_firstFree_5 : decode cX3_firstFree 5 = .ok (.if_icmp .eq 8, 3) := by decide +kernel
theorem dX3_firstFree_8 : decode cX3_firstFree 8 = .ok (.aload_n 0, 1) := by decide +kernel
theorem dX3_firstFree_9 : decode cX3_firstFree 9 = .ok (.getfield 15, 3) := by decide +kernel
theorem dX3_firstFree_12 : decode cX3_firstFree 12 = .ok (.ireturn, 1) := by decide +kernel
theorem dX3_firstFree_13 : decode cX3_firstFree 13 = .ok (.aload_n 0, 1) := by decide +kernel
theorem dX3_firstFree_14 : decode cX3_firstFree 14 = .ok (.getfield 82, 3) := by decide +kernel
theorem dX3_firstFree_17 : decode cX3_firstFree 17 = .ok (.aload_n 0, 1) := by decide +kernel
theorem dX3_firstFree_18 : decode cX3_firstFree 18 = .ok (.getfield 18, 3) := by decide +kernel
theorem dX3_firstFree_21 : decode cX3_firstFree 21 = .ok (.getfield 28, 3) := by decide +kernel
theorem dX3_firstFree_24 : decode cX3_firstFree 24 = .ok (.if_icmp .ge 10, 3) := by decide +kernel
theorem dX3_firstFree_27 : decode cX3_firstFree 27 = .ok (.aload_n 0, 1) := by decide +kernel
theorem dX3_firstFree_28 : decode cX3_firstFree 28 = .ok (.getfield 82, 3) := by decide +kernel
theorem dX3_firstFree_31 : decode cX3_firstFree 31 = .ok (.goto 4, 3) := by decide +kernel
theorem dX3_firstFree_34 : decode cX3_firstFree 34 = .ok (.iconst (-1), 1) := by decide +kernel
theorem dX3_firstFree_35 : decode cX3_firstFree 35 = .ok (.ireturn, 1) := by decide +kernel
theorem dX3_takeFirst_0 : decode cX3_takeFirst 0 = .ok (.aload_n 0, 1) := by decide +kernel
theorem dX3_takeFirst_1 : decode cX3_takeFirst 1 = .ok (.invokevirtual 85, 3) := by decide +kernel
theorem dX3_takeFirst_4 : decode cX3_takeFirst 4 = .ok (.istore_n 1, 1) := by decide +kernel
theorem dX3_takeFirst_5 : decode cX3_takeFirst 5 = .ok (.aload_n 0, 1) := by decide +kernel
theorem dX3_takeFirst_6 : decode cX3_takeFirst 6 = .ok (.iload_n 1, 1) := by decide +kernel
theorem dX3_takeFirst_7 : decode cX3_takeFirst 7 = .ok (.invokevirtual 63, 3) := by decide +kernel
theorem dX3_takeFirst_10 : decode cX3_takeFirst 10 = .ok (.ifCond .eq 26, 3) := by decide +kernel
theorem dX3_takeFirst_13 : decode cX3_takeFirst 13 = .ok (.aload_n 0, 1) := by decide +kernel
theorem dX3_takeFirst_14 : decode cX3_takeFirst 14 = .ok (.aload_n 0, 1) := by decide +kernel
theorem dX3_takeFirst_15 : decode cX3_takeFirst 15 = .ok (.getfield 42, 3) := by decide +kernel
theorem dX3_takeFirst_18 : decode cX3_takeFirst 18 = .ok (.iload_n 1, 1) := by decide +kernel
theorem dX3_takeFirst_19 : decode cX3_takeFirst 19 = .ok (.iaload, 1) := by decide +kernel
theorem dX3_takeFirst_20 : decode cX3_takeFirst 20 = .ok (.putfield 15, 3) := by decide +kernel
theorem dX3_takeFirst_23 : decode cX3_takeFirst 23 = .ok (.aload_n 0, 1) := by decide +kernel
theorem dX3_takeFirst_24 : decode cX3_takeFirst 24 = .ok (.dup, 1) := by decide +kernel
theorem dX3_takeFirst_25 : decode cX3_takeFirst 25 = .ok (.getfield 79, 3) := by decide +kernel
theorem dX3_takeFirst_28 : decode cX3_takeFirst 28 = .ok (.iconst 1, 1) := by decide +kernel
theorem dX3_takeFirst_29 : decode cX3_takeFirst 29 = .ok (.iadd, 1) := by decide +kernel
theorem dX3_takeFirst_30 : decode cX3_takeFirst 30 = .ok (.putfield 79, 3) := by decide +kernel
theorem dX3_takeFirst_33 : decode cX3_takeFirst 33 = .ok (.goto 48, 3) := by decide +kernel
theorem dX3_takeFirst_36 : decode cX3_takeFirst 36 = .ok (.iload_n 1, 1) := by decide +kernel
theorem dX3_takeFirst_37 : decode cX3_takeFirst 37 = .ok (.iconst (-1), 1) := by decide +kernel
theorem dX3_takeFirst_38 : decode cX3_takeFirst 38 = .ok (.if_icmp .eq 43, 3) := by decide +kernel
theorem dX3_takeFirst_41 : decode cX3_takeFirst 41 = .ok (.aload_n 0, 1) := by decide +kernel
theorem dX3_takeFirst_42 : decode cX3_takeFirst 42 = .ok (.invokevirtual 88, 3) := by decide +kernel
theorem dX3_takeFirst_45 : decode cX3_takeFirst 45 = .ok (.aload_n 0, 1) := by decide +kernel
theorem dX3_takeFirst_46 : decode cX3_takeFirst 46 = .ok (.getfield 46, 3) := by decide +kernel
theorem dX3_takeFirst_49 : decode cX3_takeFirst 49 = .ok (.aload_n 0, 1) := by decide +kernel
theorem dX3_takeFirst_50 : decode cX3_takeFirst 50 = .ok (.getfield 82, 3) := by decide +kernel
theorem dX3_takeFirst_53 : decode cX3_takeFirst 53 = .ok (.aload_n 0, 1) := by decide +kernel
theorem dX3_takeFirst_54 : decode cX3_takeFirst 54 = .ok (.getfield 18, 3) := by decide +kernel
theorem dX3_takeFirst_57 : decode cX3_takeFirst 57 = .ok (.getfield 73, 3) := by decide +kernel
theorem dX3_takeFirst_60 : decode cX3_takeFirst 60 = .ok (.iastore, 1) := by decide +kernel
theorem dX3_takeFirst_61 : decode cX3_takeFirst 61 = .ok (.aload_n 0, 1) := by decide +kernel
theorem dX3_takeFirst_62 : decode cX3_takeFirst 62 = .ok (.dup, 1) := by decide +kernel
theorem dX3_takeFirst_63 : decode cX3_takeFirst 63 = .ok (.getfield 82, 3) := by decide +kernel
theorem dX3_takeFirst_66 : decode cX3_takeFirst 66 = .ok (.iconst 1, 1) := by decide +kernel
theorem dX3_takeFirst_67 : decode cX3_takeFirst 67 = .ok (.iadd, 1) := by decide +kernel
theorem dX3_takeFirst_68 : decode cX3_takeFirst 68 = .ok (.putfield 82, 3) := by decide +kernel
theorem dX3_takeFirst_71 : decode cX3_takeFirst 71 = .ok (.aload_n 0, 1) := by decide +kernel
theorem dX3_takeFirst_72 : decode cX3_takeFirst 72 = .ok (.dup, 1) := by decide +kernel
theorem dX3_takeFirst_73 : decode cX3_takeFirst 73 = .ok (.getfield 79, 3) := by decide +kernel
theorem dX3_takeFirst_76 : decode cX3_takeFirst 76 = .ok (.iconst 1, 1) := by decide +kernel
theorem dX3_takeFirst_77 : decode cX3_takeFirst 77 = .ok (.iadd, 1) := by decide +kernel
theorem dX3_takeFirst_78 : decode cX3_takeFirst 78 = .ok (.putfield 79, 3) := by decide +kernel
theorem dX3_takeFirst_81 : decode cX3_takeFirst 81 = .ok (.iload_n 1, 1) := by decide +kernel
theorem dX3_takeFirst_82 : decode cX3_takeFirst 82 = .ok (.ireturn, 1) := by decide +kernel
theorem dX3_become_0 : decode cX3_become 0 = .ok (.aload_n 0, 1) := by decide +kernel
theorem dX3_become_1 : decode cX3_become 1 = .ok (.iload_n 1, 1) := by decide +kernel
theorem dX3_become_2 : decode cX3_become 2 = .ok (.invokevirtual 63, 3) := by decide +kernel
theorem dX3_become_5 : decode cX3_become 5 = .ok (.ifCond .eq 10, 3) := by decide +kernel
theorem dX3_become_8 : decode cX3_become 8 = .ok (.aload_n 0, 1) := by decide +kernel
theorem dX3_become_9 : decode cX3_become 9 = .ok (.getfield 42, 3) := by decide +kernel
theorem dX3_become_12 : decode cX3_become 12 = .ok (.iload_n 1, 1) := by decide +kernel
theorem dX3_become_13 : decode cX3_become 13 = .ok (.iload_n 2, 1) := by decide +kernel
theorem dX3_become_14 : decode cX3_become 14 = .ok (.iastore, 1) := by decide +kernel
theorem dX3_become_15 : decode cX3_become 15 = .ok (.return_, 1) := by decide +kernel
theorem dX3_putFirst_0 : decode cX3_putFirst 0 = .ok (.aload_n 0, 1) := by decide +kernel
theorem dX3_putFirst_1 : decode cX3_putFirst 1 = .ok (.iload_n 1, 1) := by decide +kernel
theorem dX3_putFirst_2 : decode cX3_putFirst 2 = .ok (.invokevirtual 63, 3) := by decide +kernel
theorem dX3_putFirst_5 : decode cX3_putFirst 5 = .ok (.ifCond .eq 28, 3) := by decide +kernel
theorem dX3_putFirst_8 : decode cX3_putFirst 8 = .ok (.aload_n 0, 1) := by decide +kernel
theorem dX3_putFirst_9 : decode cX3_putFirst 9 = .ok (.getfield 42, 3) := by decide +kernel
theorem dX3_putFirst_12 : decode cX3_putFirst 12 = .ok (.iload_n 1, 1) := by decide +kernel
theorem dX3_putFirst_13 : decode cX3_putFirst 13 = .ok (.aload_n 0, 1) := by decide +kernel
theorem dX3_putFirst_14 : decode cX3_putFirst 14 = .ok (.getfield 15, 3) := by decide +kernel
theorem dX3_putFirst_17 : decode cX3_putFirst 17 = .ok (.iastore, 1) := by decide +kernel
theorem dX3_putFirst_18 : decode cX3_putFirst 18 = .ok (.aload_n 0, 1) := by decide +kernel
theorem dX3_putFirst_19 : decode cX3_putFirst 19 = .ok (.iload_n 1, 1) := by decide +kernel
theorem dX3_putFirst_20 : decode cX3_putFirst 20 = .ok (.putfield 15, 3) := by decide +kernel
theorem dX3_putFirst_23 : decode cX3_putFirst 23 = .ok (.aload_n 0, 1) := by decide +kernel
theorem dX3_putFirst_24 : decode cX3_putFirst 24 = .ok (.dup, 1) := by decide +kernel
theorem dX3_putFirst_25 : decode cX3_putFirst 25 = .ok (.getfield 79, 3) := by decide +kernel
theorem dX3_putFirst_28 : decode cX3_putFirst 28 = .ok (.iconst 1, 1) := by decide +kernel
theorem dX3_putFirst_29 : decode cX3_putFirst 29 = .ok (.isub, 1) := by decide +kernel
theorem dX3_putFirst_30 : decode cX3_putFirst 30 = .ok (.putfield 79, 3) := by decide +kernel
theorem dX3_putFirst_33 : decode cX3_putFirst 33 = .ok (.return_, 1) := by decide +kernel
theorem dX3_wasTaken_0 : decode cX3_wasTaken 0 = .ok (.iload_n 1, 1) := by decide +kernel
theorem dX3_wasTaken_1 : decode cX3_wasTaken 1 = .ok (.ifCond .lt 15, 3) := by decide +kernel
theorem dX3_wasTaken_4 : decode cX3_wasTaken 4 = .ok (.iload_n 1, 1) := by decide +kernel
theorem dX3_wasTaken_5 : decode cX3_wasTaken 5 = .ok (.aload_n 0, 1) := by decide +kernel
theorem dX3_wasTaken_6 : decode cX3_wasTaken 6 = .ok (.getfield 82, 3) := by decide +kernel
theorem dX3_wasTaken_9 : decode cX3_wasTaken 9 = .ok (.if_icmp .ge 7, 3) := by decide +kernel
theorem dX3_wasTaken_12 : decode cX3_wasTaken 12 = .ok (.iconst 1, 1) := by decide +kernel
theorem dX3_wasTaken_13 : decode cX3_wasTaken 13 = .ok (.goto 4, 3) := by decide +kernel
theorem dX3_wasTaken_16 : decode cX3_wasTaken 16 = .ok (.iconst 0, 1) := by decide +kernel
theorem dX3_wasTaken_17 : decode cX3_wasTaken 17 = .ok (.ireturn, 1) := by decide +kernel
theorem dX3_makeRoomForOne_0 : decode cX3_makeRoomForOne 0 = .ok (.aload_n 0, 1) := by decide +kernel
theorem dX3_makeRoomForOne_1 : decode cX3_makeRoomForOne 1 = .ok (.getfield 82, 3) := by decide +kernel
theorem dX3_makeRoomForOne_4 : decode cX3_makeRoomForOne 4 = .ok (.aload_n 0, 1) := by decide +kernel
theorem dX3_makeRoomForOne_5 : decode cX3_makeRoomForOne 5 = .ok (.getfield 42, 3) := by decide +kernel
theorem dX3_makeRoomForOne_8 : decode cX3_makeRoomForOne 8 = .ok (.arraylength, 1) := by decide +kernel
theorem dX3_makeRoomForOne_9 : decode cX3_makeRoomForOne 9 = .ok (.if_icmp .lt 45, 3) := by decide +kernel
theorem dX3_makeRoomForOne_12 : decode cX3_makeRoomForOne 12 = .ok (.aload_n 0, 1) := by decide +kernel
theorem dX3_makeRoomForOne_13 : decode cX3_makeRoomForOne 13 = .ok (.getfield 18, 3) := by decide +kernel
theorem dX3_makeRoomForOne_16 : decode cX3_makeRoomForOne 16 = .ok (.getfield 28, 3) := by decide +kernel
theorem dX3_makeRoomForOne_19 : decode cX3_makeRoomForOne 19 = .ok (.iconst 2, 1) := by decide +kernel
theorem dX3_makeRoomForOne_20 : decode cX3_makeRoomForOne 20 = .ok (.aload_n 0, 1) := by decide +kernel
theorem dX3_makeRoomForOne_21 : decode cX3_makeRoomForOne 21 = .ok (.getfield 42, 3) := by decide +kernel
theorem dX3_makeRoomForOne_24 : decode cX3_makeRoomForOne 24 = .ok (.arraylength, 1) := by decide +kernel
theorem dX3_makeRoomForOne_25 : decode cX3_makeRoomForOne 25 = .ok (.imul, 1) := by decide +kernel
theorem dX3_makeRoomForOne_26 : decode cX3_makeRoomForOne 26 = .ok (.invokestatic 33, 3) := by decide +kernel
theorem dX3_makeRoomForOne_29 : decode cX3_makeRoomForOne 29 = .ok (.istore_n 1, 1) := by decide +kernel
theorem dX3_makeRoomForOne_30 : decode cX3_makeRoomForOne 30 = .ok (.aload_n 0, 1) := by decide +kernel
theorem dX3_makeRoomForOne_31 : decode cX3_makeRoomForOne 31 = .ok (.aload_n 0, 1) := by decide +kernel
theorem dX3_makeRoomForOne_32 : decode cX3_makeRoomForOne 32 = .ok (.getfield 42, 3) := by decide +kernel
theorem dX3_makeRoomForOne_35 : decode cX3_makeRoomForOne 35 = .ok (.iload_n 1, 1) := by decide +kernel
theorem dX3_makeRoomForOne_36 : decode cX3_makeRoomForOne 36 = .ok (.invokestatic 91, 3) := by decide +kernel
theorem dX3_makeRoomForOne_39 : decode cX3_makeRoomForOne 39 = .ok (.putfield 42, 3) := by decide +kernel
theorem dX3_makeRoomForOne_42 : decode cX3_makeRoomForOne 42 = .ok (.aload_n 0, 1) := by decide +kernel
theorem dX3_makeRoomForOne_43 : decode cX3_makeRoomForOne 43 = .ok (.aload_n 0, 1) := by decide +kernel
theorem dX3_makeRoomForOne_44 : decode cX3_makeRoomForOne 44 = .ok (.getfield 46, 3) := by decide +kernel
theorem dX3_makeRoomForOne_47 : decode cX3_makeRoomForOne 47 = .ok (.iload_n 1, 1) := by decide +kernel
theorem dX3_makeRoomForOne_48 : decode cX3_makeRoomForOne 48 = .ok (.invokestatic 91, 3) := by decide +kernel
theorem dX3_makeRoomForOne_51 : decode cX3_makeRoomForOne 51 = .ok (.putfield 46, 3) := by decide +kernel
theorem dX3_makeRoomForOne_54 : decode cX3_makeRoomForOne 54 = .ok (.return_, 1) := by decide +kernel
theorem dX4_init_0 : decode cX4_init 0 = .ok (.aload_n 0, 1) := by decide +kernel
theorem dX4_init_1 : decode cX4_init 1 = .ok (.invokespecial 1, 3) := by decide +kernel
theorem dX4_init_4 : decode cX4_init 4 = .ok (.return_, 1) := by decide +kernel
theorem dX4_putFirst_0 : decode cX4_putFirst 0 = .ok (.aload_n 1, 1) := by decide +kernel
theorem dX4_putFirst_1 : decode cX4_putFirst 1 = .ok (.aconst_null, 1) := by decide +kernel
theorem dX4_putFirst_2 : decode cX4_putFirst 2 = .ok (.putfield 7, 3) := by decide +kernel
theorem dX4_putFirst_5 : decode cX4_putFirst 5 = .ok (.aload_n 1, 1) := by decide +kernel
theorem dX4_putFirst_6 : decode cX4_putFirst 6 = .ok (.aload_n 0, 1) := by decide +kernel
theorem dX4_putFirst_7 : decode cX4_putFirst 7 = .ok (.getfield 13, 3) := by decide +kernel
theorem dX4_putFirst_10 : decode cX4_putFirst 10 = .ok (.putfield 18, 3) := by decide +kernel
theorem dX4_putFirst_13 : decode cX4_putFirst 13 = .ok (.aload_n 0, 1) := by decide +kernel
theorem dX4_putFirst_14 : decode cX4_putFirst 14 = .ok (.getfield 13, 3) := by decide +kernel
theorem dX4_putFirst_17 : decode cX4_putFirst 17 = .ok (.ifnull 11, 3) := by decide +kernel
theorem dX4_putFirst_20 : decode cX4_putFirst 20 = .ok (.aload_n 0, 1) := by decide +kernel
theorem dX4_putFirst_21 : decode cX4_putFirst 21 = .ok (.getfield 13, 3) := by decide +kernel
theorem dX4_putFirst_24 : decode cX4_putFirst 24 = .ok (.aload_n 1, 1) := by decide +kernel
theorem dX4_putFirst_25 : decode cX4_putFirst 25 = .ok (.putfield 7, 3) := by decide +kernel
theorem dX4_putFirst_28 : decode cX4_putFirst 28 = .ok (.aload_n 0, 1) := by decide +kernel
theorem dX4_putFirst_29 : decode cX4_putFirst 29 = .ok (.aload_n 1, 1) := by decide +kernel
theorem dX4_putFirst_30 : decode cX4_putFirst 30 = .ok (.putfield 13, 3) := by decide +kernel
theorem dX4_putFirst_33 : decode cX4_putFirst 33 = .ok (.return_, 1) := by decide +kernel
theorem dX4_remove_0 : decode cX4_remove 0 = .ok (.aload_n 1, 1) := by decide +kernel
theorem dX4_remove_1 : decode cX4_remove 1 = .ok (.getfield 7, 3) := by decide +kernel
theorem dX4_remove_4 : decode cX4_remove 4 = .ok (.ifnonnull 14, 3) := by decide +kernel
theorem dX4_remove_7 : decode cX4_remove 7 = .ok (.aload_n 0, 1) := by decide +kernel
theorem dX4_remove_8 : decode cX4_remove 8 = .ok (.aload_n 1, 1) := by decide +kernel
theorem dX4_remove_9 : decode cX4_remove 9 = .ok (.getfield 18, 3) := by decide +kernel
theorem dX4_remove_12 : decode cX4_remove 12 = .ok (.putfield 13, 3) := by decide +kernel
theorem dX4_remove_15 : decode cX4_remove 15 = .ok (.goto 14, 3) := by decide +kernel
theorem dX4_remove_18 : decode cX4_remove 18 = .ok (.aload_n 1, 1) := by decide +kernel
theorem dX4_remove_19 : decode cX4_remove 19 = .ok (.getfield 7, 3) := by decide +kernel
theorem dX4_remove_22 : decode cX4_remove 22 = .ok (.aload_n 1, 1) := by decide +kernel
theorem dX4_remove_23 : decode cX4_remove 23 = .ok (.getfield 18, 3) := by decide +kernel
theorem dX4_remove_26 : decode cX4_remove 26 = .ok (.putfield 18, 3) := by decide +kernel
theorem dX4_remove_29 : decode cX4_remove 29 = .ok (.aload_n 1, 1) := by decide +kernel
theorem dX4_remove_30 : decode cX4_remove 30 = .ok (.getfield 18, 3) := by decide +kernel
theorem dX4_remove_33 : decode cX4_remove 33 = .ok (.ifnull 14, 3) := by decide +kernel
theorem dX4_remove_36 : decode cX4_remove 36 = .ok (.aload_n 1, 1) := by decide +kernel
theorem dX4_remove_37 : decode cX4_remove 37 = .ok (.getfield 18, 3) := by decide +kernel
theorem dX4_remove_40 : decode cX4_remove 40 = .ok (.aload_n 1, 1) := by decide +kernel
theorem dX4_remove_41 : decode cX4_remove 41 = .ok (.getfield 7, 3) := by decide +kernel
theorem dX4_remove_44 : decode cX4_remove 44 = .ok (.putfield 7, 3) := by decide +kernel
theorem dX4_remove_47 : decode cX4_remove 47 = .ok (.aload_n 1, 1) := by decide +kernel
theorem dX4_remove_48 : decode cX4_remove 48 = .ok (.aconst_null, 1) := by decide +kernel
theorem dX4_remove_49 : decode cX4_remove 49 = .ok (.putfield 7, 3) := by decide +kernel
theorem dX4_remove_52 : decode cX4_remove 52 = .ok (.aload_n 1, 1) := by decide +kernel
theorem dX4_remove_53 : decode cX4_remove 53 = .ok (.aconst_null, 1) := by decide +kernel
theorem dX4_remove_54 : decode cX4_remove 54 = .ok (.putfield 18, 3) := by decide +kernel
theorem dX4_remove_57 : decode cX4_remove 57 = .ok (.return_, 1) := by decide +kernel
theorem dX4_slabAtPlace_0 : decode cX4_slabAtPlace 0 = .ok (.iload_n 1, 1) := by decide +kernel
theorem dX4_slabAtPlace_1 : decode cX4_slabAtPlace 1 = .ok (.ifCond .ge 5, 3) := by decide +kernel
theorem dX4_slabAtPlace_4 : decode cX4_slabAtPlace 4 = .ok (.aconst_null, 1) := by decide +kernel
theorem dX4_slabAtPlace_5 : decode cX4_slabAtPlace 5 = .ok (.areturn, 1) := by decide +kernel
theorem dX4_slabAtPlace_6 : decode cX4_slabAtPlace 6 = .ok (.iload_n 1, 1) := by decide +kernel
theorem dX4_slabAtPlace_7 : decode cX4_slabAtPlace 7 = .ok (.istore_n 2, 1) := by decide +kernel
theorem dX4_slabAtPlace_8 : decode cX4_slabAtPlace 8 = .ok (.aload_n 0, 1) := by decide +kernel
theorem dX4_slabAtPlace_9 : decode cX4_slabAtPlace 9 = .ok (.getfield 13, 3) := by decide +kernel
theorem dX4_slabAtPlace_12 : decode cX4_slabAtPlace 12 = .ok (.astore_n 3, 1) := by decide +kernel
theorem dX4_slabAtPlace_13 : decode cX4_slabAtPlace 13 = .ok (.aload_n 3, 1) := by decide +kernel
theorem dX4_slabAtPlace_14 : decode cX4_slabAtPlace 14 = .ok (.ifnull 18, 3) := by decide +kernel
theorem dX4_slabAtPlace_17 : decode cX4_slabAtPlace 17 = .ok (.iload_n 2, 1) := by decide +kernel
theorem dX4_slabAtPlace_18 : decode cX4_slabAtPlace 18 = .ok (.ifCond .le 14, 3) := by decide +kernel
theorem dX4_slabAtPlace_21 : decode cX4_slabAtPlace 21 = .ok (.aload_n 3, 1) := by decide +kernel
theorem dX4_slabAtPlace_22 : decode cX4_slabAtPlace 22 = .ok (.getfield 18, 3) := by decide +kernel
theorem dX4_slabAtPlace_25 : decode cX4_slabAtPlace 25 = .ok (.astore_n 3, 1) := by decide +kernel
theorem dX4_slabAtPlace_26 : decode cX4_slabAtPlace 26 = .ok (.iinc 2 (-1), 3) := by decide +kernel
theorem dX4_slabAtPlace_29 : decode cX4_slabAtPlace 29 = .ok (.goto (-16), 3) := by decide +kernel
theorem dX4_slabAtPlace_32 : decode cX4_slabAtPlace 32 = .ok (.aload_n 3, 1) := by decide +kernel
theorem dX4_slabAtPlace_33 : decode cX4_slabAtPlace 33 = .ok (.areturn, 1) := by decide +kernel
theorem dX5_init_0 : decode cX5_init 0 = .ok (.aload_n 0, 1) := by decide +kernel
theorem dX5_init_1 : decode cX5_init 1 = .ok (.invokespecial 3, 3) := by decide +kernel
theorem dX5_init_4 : decode cX5_init 4 = .ok (.aload_n 0, 1) := by decide +kernel
theorem dX5_init_5 : decode cX5_init 5 = .ok (.new 9, 3) := by decide +kernel
theorem dX5_init_8 : decode cX5_init 8 = .ok (.dup, 1) := by decide +kernel
theorem dX5_init_9 : decode cX5_init 9 = .ok (.invokespecial 11, 3) := by decide +kernel
theorem dX5_init_12 : decode cX5_init 12 = .ok (.putfield 12, 3) := by decide +kernel
theorem dX5_init_15 : decode cX5_init 15 = .ok (.aload_n 0, 1) := by decide +kernel
theorem dX5_init_16 : decode cX5_init 16 = .ok (.sipush 256, 3) := by decide +kernel
theorem dX5_init_19 : decode cX5_init 19 = .ok (.anewarray 16, 3) := by decide +kernel
theorem dX5_init_22 : decode cX5_init 22 = .ok (.putfield 18, 3) := by decide +kernel
theorem dX5_init_25 : decode cX5_init 25 = .ok (.aload_n 0, 1) := by decide +kernel
theorem dX5_init_26 : decode cX5_init 26 = .ok (.bipush 8, 2) := by decide +kernel
theorem dX5_init_28 : decode cX5_init 28 = .ok (.anewarray 22, 3) := by decide +kernel
theorem dX5_init_31 : decode cX5_init 31 = .ok (.putfield 24, 3) := by decide +kernel
theorem dX5_init_34 : decode cX5_init 34 = .ok (.return_, 1) := by decide +kernel
theorem dX5_cache_0 : decode cX5_cache 0 = .ok (.iload_n 1, 1) := by decide +kernel
theorem dX5_cache_1 : decode cX5_cache 1 = .ok (.bipush 8, 2) := by decide +kernel
theorem dX5_cache_3 : decode cX5_cache 3 = .ok (.if_icmp .lt 17, 3) := by decide +kernel
theorem dX5_cache_6 : decode cX5_cache 6 = .ok (.iload_n 1, 1) := by decide +kernel
theorem dX5_cache_7 : decode cX5_cache 7 = .ok (.sipush 4096, 3) := by decide +kernel
theorem dX5_cache_10 : decode cX5_cache 10 = .ok (.if_icmp .gt 10, 3) := by decide +kernel
theorem dX5_cache_13 : decode cX5_cache 13 = .ok (.iload_n 1, 1) := by decide +kernel
theorem dX5_cache_14 : decode cX5_cache 14 = .ok (.bipush 8, 2) := by decide +kernel
theorem dX5_cache_16 : decode cX5_cache 16 = .ok (.irem, 1) := by decide +kernel
theorem dX5_cache_17 : decode cX5_cache 17 = .ok (.ifCond .eq 13, 3) := by decide +kernel
theorem dX5_cache_20 : decode cX5_cache 20 = .ok (.new 28, 3) := by decide +kernel
theorem dX5_cache_23 : decode cX5_cache 23 = .ok (.dup, 1) := by decide +kernel
theorem dX5_cache_24 : decode cX5_cache 24 = .ok (.ldc 30, 2) := by decide +kernel
theorem dX5_cache_26 : decode cX5_cache 26 = .ok (.invokespecial 32, 3) := by decide +kernel
theorem dX5_cache_29 : decode cX5_cache 29 = .ok (.athrow, 1) := by decide +kernel
theorem dX5_cache_30 : decode cX5_cache 30 = .ok (.iload_n 2, 1) := by decide +kernel
theorem dX5_cache_31 : decode cX5_cache 31 = .ok (.bipush 8, 2) := by decide +kernel
theorem dX5_cache_33 : decode cX5_cache 33 = .ok (.if_icmp .eq 31, 3) := by decide +kernel
theorem dX5_cache_36 : decode cX5_cache 36 = .ok (.iload_n 2, 1) := by decide +kernel
theorem dX5_cache_37 : decode cX5_cache 37 = .ok (.bipush 16, 2) := by decide +kernel
theorem dX5_cache_39 : decode cX5_cache 39 = .ok (.if_icmp .eq 25, 3) := by decide +kernel
theorem dX5_cache_42 : decode cX5_cache 42 = .ok (.iload_n 2, 1) := by decide +kernel
theorem dX5_cache_43 : decode cX5_cache 43 = .ok (.bipush 32, 2) := by decide +kernel
theorem dX5_cache_45 : decode cX5_cache 45 = .ok (.if_icmp .eq 19, 3) := by decide +kernel
theorem dX5_cache_48 : decode cX5_cache 48 = .ok (.iload_n 2, 1) := by decide +kernel
theorem dX5_cache_49 : decode cX5_cache 49 = .ok (.bipush 64, 2) := by decide +kernel
theorem dX5_cache_51 : decode cX5_cache 51 = .ok (.if_icmp .eq 13, 3) := by decide +kernel
theorem dX5_cache_54 : decode cX5_cache 54 = .ok (.new 28, 3) := by decide +kernel
theorem dX5_cache_57 : decode cX5_cache 57 = .ok (.dup, 1) := by decide +kernel
theorem dX5_cache_58 : decode cX5_cache 58 = .ok (.ldc 35, 2) := by decide +kernel
theorem dX5_cache_60 : decode cX5_cache 60 = .ok (.invokespecial 32, 3) := by decide +kernel
theorem dX5_cache_63 : decode cX5_cache 63 = .ok (.athrow, 1) := by decide +kernel
theorem dX5_cache_64 : decode cX5_cache 64 = .ok (.iload_n 3, 1) := by decide +kernel
theorem dX5_cache_65 : decode cX5_cache 65 = .ok (.ifCond .lt 8, 3) := by decide +kernel
theorem dX5_cache_68 : decode cX5_cache 68 = .ok (.iload_n 3, 1) := by decide +kernel
theorem dX5_cache_69 : decode cX5_cache 69 = .ok (.iconst 3, 1) := by decide +kernel
theorem dX5_cache_70 : decode cX5_cache 70 = .ok (.if_icmp .le 13, 3) := by decide +kernel
theorem dX5_cache_73 : decode cX5_cache 73 = .ok (.new 28, 3) := by decide +kernel
theorem dX5_cache_76 : decode cX5_cache 76 = .ok (.dup, 1) := by decide +kernel
theorem dX5_cache_77 : decode cX5_cache 77 = .ok (.ldc 37, 2) := by decide +kernel
theorem dX5_cache_79 : decode cX5_cache 79 = .ok (.invokespecial 32, 3) := by decide +kernel
theorem dX5_cache_82 : decode cX5_cache 82 = .ok (.athrow, 1) := by decide +kernel
theorem dX5_cache_83 : decode cX5_cache 83 = .ok (.iload_n 1, 1) := by decide +kernel
theorem dX5_cache_84 : decode cX5_cache 84 = .ok (.iload_n 2, 1) := by decide +kernel
theorem dX5_cache_85 : decode cX5_cache 85 = .ok (.invokestatic 39, 3) := by decide +kernel
theorem dX5_cache_88 : decode cX5_cache 88 = .ok (.sipush 1024, 3) := by decide +kernel
theorem dX5_cache_91 : decode cX5_cache 91 = .ok (.iload_n 3, 1) := by decide +kernel
theorem dX5_cache_92 : decode cX5_cache 92 = .ok (.ishl, 1) := by decide +kernel
theorem dX5_cache_93 : decode cX5_cache 93 = .ok (.if_icmp .le 13, 3) := by decide +kernel
theorem dX5_cache_96 : decode cX5_cache 96 = .ok (.new 28, 3) := by decide +kernel
theorem dX5_cache_99 : decode cX5_cache 99 = .ok (.dup, 1) := by decide +kernel
theorem dX5_cache_100 : decode cX5_cache 100 = .ok (.ldc 43, 2) := by decide +kernel
theorem dX5_cache_102 : decode cX5_cache 102 = .ok (.invokespecial 32, 3) := by decide +kernel
theorem dX5_cache_105 : decode cX5_cache 105 = .ok (.athrow, 1) := by decide +kernel
theorem dX5_cache_106 : decode cX5_cache 106 = .ok (.aload_n 0, 1) := by decide +kernel
theorem dX5_cache_107 : decode cX5_cache 107 = .ok (.getfield 45, 3) := by decide +kernel
theorem dX5_cache_110 : decode cX5_cache 110 = .ok (.bipush 8, 2) := by decide +kernel
theorem dX5_cache_112 : decode cX5_cache 112 = .ok (.if_icmp .lt 5, 3) := by decide +kernel
theorem dX5_cache_115 : decode cX5_cache 115 = .ok (.iconst (-1), 1) := by decide +kernel
theorem dX5_cache_116 : decode cX5_cache 116 = .ok (.ireturn, 1) := by decide +kernel
theorem dX5_cache_117 : decode cX5_cache 117 = .ok (.aload_n 0, 1) := by decide +kernel
theorem dX5_cache_118 : decode cX5_cache 118 = .ok (.getfield 45, 3) := by decide +kernel
theorem dX5_cache_121 : decode cX5_cache 121 = .ok (.istore 5, 2) := by decide +kernel
theorem dX5_cache_123 : decode cX5_cache 123 = .ok (.aload_n 0, 1) := by decide +kernel
theorem dX5_cache_124 : decode cX5_cache 124 = .ok (.getfield 24, 3) := by decide +kernel
theorem dX5_cache_127 : decode cX5_cache 127 = .ok (.iload 5, 2) := by decide +kernel
theorem dX5_cache_129 : decode cX5_cache 129 = .ok (.new 22, 3) := by decide +kernel
theorem dX5_cache_132 : decode cX5_cache 132 = .ok (.dup, 1) := by decide +kernel
theorem dX5_cache_133 : decode cX5_cache 133 = .ok (.iload 5, 2) := by decide +kernel
theorem dX5_cache_135 : decode cX5_cache 135 = .ok (.iload_n 1, 1) := by decide +kernel
theorem dX5_cache_136 : decode cX5_cache 136 = .ok (.iload_n 2, 1) := by decide +kernel
theorem dX5_cache_137 : decode cX5_cache 137 = .ok (.iload_n 3, 1) := by decide +kernel
theorem dX5_cache_138 : decode cX5_cache 138 = .ok (.iload 4, 2) := by decide +kernel
theorem dX5_cache_140 : decode cX5_cache 140 = .ok (.invokespecial 49, 3) := by decide +kernel
theorem dX5_cache_143 : decode cX5_cache 143 = .ok (.aastore, 1) := by decide +kernel
theorem dX5_cache_144 : decode cX5_cache 144 = .ok (.aload_n 0, 1) := by decide +kernel
theorem dX5_cache_145 : decode cX5_cache 145 = .ok (.dup, 1) := by decide +kernel
theorem dX5_cache_146 : decode cX5_cache 146 = .ok (.getfield 45, 3) := by decide +kernel
theorem dX5_cache_149 : decode cX5_cache 149 = .ok (.iconst 1, 1) := by decide +kernel
theorem dX5_cache_150 : decode cX5_cache 150 = .ok (.iadd, 1) := by decide +kernel
theorem dX5_cache_151 : decode cX5_cache 151 = .ok (.putfield 45, 3) := by decide +kernel
theorem dX5_cache_154 : decode cX5_cache 154 = .ok (.iload 5, 2) := by decide +kernel
theorem dX5_cache_156 : decode cX5_cache 156 = .ok (.ireturn, 1) := by decide +kernel
theorem dX5_drop_0 : decode cX5_drop 0 = .ok (.aload_n 0, 1) := by decide +kernel
theorem dX5_drop_1 : decode cX5_drop 1 = .ok (.iload_n 1, 1) := by decide +kernel
theorem dX5_drop_2 : decode cX5_drop 2 = .ok (.invokevirtual 52, 3) := by decide +kernel
theorem dX5_drop_5 : decode cX5_drop 5 = .ok (.astore_n 2, 1) := by decide +kernel
theorem dX5_drop_6 : decode cX5_drop 6 = .ok (.aload_n 2, 1) := by decide +kernel
theorem dX5_drop_7 : decode cX5_drop 7 = .ok (.getfield 56, 3) := by decide +kernel
theorem dX5_drop_10 : decode cX5_drop 10 = .ok (.ifCond .le 13, 3) := by decide +kernel
theorem dX5_drop_13 : decode cX5_drop 13 = .ok (.new 59, 3) := by decide +kernel
theorem dX5_drop_16 : decode cX5_drop 16 = .ok (.dup, 1) := by decide +kernel
theorem dX5_drop_17 : decode cX5_drop 17 = .ok (.ldc 61, 2) := by decide +kernel
theorem dX5_drop_19 : decode cX5_drop 19 = .ok (.invokespecial 63, 3) := by decide +kernel
theorem dX5_drop_22 : decode cX5_drop 22 = .ok (.athrow, 1) := by decide +kernel
theorem dX5_drop_23 : decode cX5_drop 23 = .ok (.iconst 0, 1) := by decide +kernel
theorem dX5_drop_24 : decode cX5_drop 24 = .ok (.istore_n 3, 1) := by decide +kernel
theorem dX5_drop_25 : decode cX5_drop 25 = .ok (.iconst 0, 1) := by decide +kernel
theorem dX5_drop_26 : decode cX5_drop 26 = .ok (.istore 4, 2) := by decide +kernel
theorem dX5_drop_28 : decode cX5_drop 28 = .ok (.iload 4, 2) := by decide +kernel
theorem dX5_drop_30 : decode cX5_drop 30 = .ok (.sipush 256, 3) := by decide +kernel
theorem dX5_drop_33 : decode cX5_drop 33 = .ok (.if_icmp .ge 41, 3) := by decide +kernel
theorem dX5_drop_36 : decode cX5_drop 36 = .ok (.aload_n 0, 1) := by decide +kernel
theorem dX5_drop_37 : decode cX5_drop 37 = .ok (.getfield 18, 3) := by decide +kernel
theorem dX5_drop_40 : decode cX5_drop 40 = .ok (.iload 4, 2) := by decide +kernel
theorem dX5_drop_42 : decode cX5_drop 42 = .ok (.aaload, 1) := by decide +kernel
theorem dX5_drop_43 : decode cX5_drop 43 = .ok (.astore 5, 2) := by decide +kernel
theorem dX5_drop_45 : decode cX5_drop 45 = .ok (.aload 5, 2) := by decide +kernel
theorem dX5_drop_47 : decode cX5_drop 47 = .ok (.ifnull 21, 3) := by decide +kernel
theorem dX5_drop_50 : decode cX5_drop 50 = .ok (.aload 5, 2) := by decide +kernel
theorem dX5_drop_52 : decode cX5_drop 52 = .ok (.getfield 64, 3) := by decide +kernel
theorem dX5_drop_55 : decode cX5_drop 55 = .ok (.aload_n 2, 1) := by decide +kernel
theorem dX5_drop_56 : decode cX5_drop 56 = .ok (.if_acmp .ne 12, 3) := by decide +kernel
theorem dX5_drop_59 : decode cX5_drop 59 = .ok (.iload_n 3, 1) := by decide +kernel
theorem dX5_drop_60 : decode cX5_drop 60 = .ok (.aload_n 0, 1) := by decide +kernel
theorem dX5_drop_61 : decode cX5_drop 61 = .ok (.aload 5, 2) := by decide +kernel
theorem dX5_drop_63 : decode cX5_drop 63 = .ok (.invokevirtual 68, 3) := by decide +kernel
theorem dX5_drop_66 : decode cX5_drop 66 = .ok (.iadd, 1) := by decide +kernel
theorem dX5_drop_67 : decode cX5_drop 67 = .ok (.istore_n 3, 1) := by decide +kernel
theorem dX5_drop_68 : decode cX5_drop 68 = .ok (.iinc 4 1, 3) := by decide +kernel
theorem dX5_drop_71 : decode cX5_drop 71 = .ok (.goto (-43), 3) := by decide +kernel
theorem dX5_drop_74 : decode cX5_drop 74 = .ok (.aload_n 0, 1) := by decide +kernel
theorem dX5_drop_75 : decode cX5_drop 75 = .ok (.getfield 24, 3) := by decide +kernel
theorem dX5_drop_78 : decode cX5_drop 78 = .ok (.aload_n 2, 1) := by decide +kernel
theorem dX5_drop_79 : decode cX5_drop 79 = .ok (.getfield 72, 3) := by decide +kernel
theorem dX5_drop_82 : decode cX5_drop 82 = .ok (.aconst_null, 1) := by decide +kernel
theorem dX5_drop_83 : decode cX5_drop 83 = .ok (.aastore, 1) := by decide +kernel
theorem dX5_drop_84 : decode cX5_drop 84 = .ok (.iload_n 3, 1) := by decide +kernel
theorem dX5_drop_85 : decode cX5_drop 85 = .ok (.ireturn, 1) := by decide +kernel
theorem dX5_allocate_0 : decode cX5_allocate 0 = .ok (.aload_n 0, 1) := by decide +kernel
theorem dX5_allocate_1 : decode cX5_allocate 1 = .ok (.iload_n 1, 1) := by decide +kernel
theorem dX5_allocate_2 : decode cX5_allocate 2 = .ok (.invokevirtual 52, 3) := by decide +kernel
theorem dX5_allocate_5 : decode cX5_allocate 5 = .ok (.astore_n 3, 1) := by decide +kernel
theorem dX5_allocate_6 : decode cX5_allocate 6 = .ok (.iload_n 2, 1) := by decide +kernel
theorem dX5_allocate_7 : decode cX5_allocate 7 = .ok (.invokestatic 75, 3) := by decide +kernel
theorem dX5_allocate_10 : decode cX5_allocate 10 = .ok (.aload_n 3, 1) := by decide +kernel
theorem dX5_allocate_11 : decode cX5_allocate 11 = .ok (.iload_n 2, 1) := by decide +kernel
theorem dX5_allocate_12 : decode cX5_allocate 12 = .ok (.invokevirtual 79, 3) := by decide +kernel
theorem dX5_allocate_15 : decode cX5_allocate 15 = .ok (.istore 4, 2) := by decide +kernel
theorem dX5_allocate_17 : decode cX5_allocate 17 = .ok (.iload 4, 2) := by decide +kernel
theorem dX5_allocate_19 : decode cX5_allocate 19 = .ok (.iconst (-1), 1) := by decide +kernel
theorem dX5_allocate_20 : decode cX5_allocate 20 = .ok (.if_icmp .ne 10, 3) := by decide +kernel
theorem dX5_allocate_23 : decode cX5_allocate 23 = .ok (.aload_n 0, 1) := by decide +kernel
theorem dX5_allocate_24 : decode cX5_allocate 24 = .ok (.aload_n 3, 1) := by decide +kernel
theorem dX5_allocate_25 : decode cX5_allocate 25 = .ok (.invokevirtual 83, 3) := by decide +kernel
theorem dX5_allocate_28 : decode cX5_allocate 28 = .ok (.istore 4, 2) := by decide +kernel
theorem dX5_allocate_30 : decode cX5_allocate 30 = .ok (.aload_n 0, 1) := by decide +kernel
theorem dX5_allocate_31 : decode cX5_allocate 31 = .ok (.iload 4, 2) := by decide +kernel
theorem dX5_allocate_33 : decode cX5_allocate 33 = .ok (.invokevirtual 87, 3) := by decide +kernel
theorem dX5_allocate_36 : decode cX5_allocate 36 = .ok (.astore 5, 2) := by decide +kernel
theorem dX5_allocate_38 : decode cX5_allocate 38 = .ok (.aload 5, 2) := by decide +kernel
theorem dX5_allocate_40 : decode cX5_allocate 40 = .ok (.ifnonnull 15, 3) := by decide +kernel
theorem dX5_allocate_43 : decode cX5_allocate 43 = .ok (.aload_n 3, 1) := by decide +kernel
theorem dX5_allocate_44 : decode cX5_allocate 44 = .ok (.dup, 1) := by decide +kernel
theorem dX5_allocate_45 : decode cX5_allocate 45 = .ok (.getfield 91, 3) := by decide +kernel
theorem dX5_allocate_48 : decode cX5_allocate 48 = .ok (.iconst 1, 1) := by decide +kernel
theorem dX5_allocate_49 : decode cX5_allocate 49 = .ok (.iadd, 1) := by decide +kernel
theorem dX5_allocate_50 : decode cX5_allocate 50 = .ok (.putfield 91, 3) := by decide +kernel
theorem dX5_allocate_53 : decode cX5_allocate 53 = .ok (.iconst (-1), 1) := by decide +kernel
theorem dX5_allocate_54 : decode cX5_allocate 54 = .ok (.ireturn, 1) := by decide +kernel
theorem dX5_allocate_55 : decode cX5_allocate 55 = .ok (.aload 5, 2) := by decide +kernel
theorem dX5_allocate_57 : decode cX5_allocate 57 = .ok (.aload 5, 2) := by decide +kernel
theorem dX5_allocate_59 : decode cX5_allocate 59 = .ok (.iload 4, 2) := by decide +kernel
theorem dX5_allocate_61 : decode cX5_allocate 61 = .ok (.invokevirtual 94, 3) := by decide +kernel
theorem dX5_allocate_64 : decode cX5_allocate 64 = .ok (.bipush (-2), 2) := by decide +kernel
theorem dX5_allocate_66 : decode cX5_allocate 66 = .ok (.invokevirtual 97, 3) := by decide +kernel
theorem dX5_allocate_69 : decode cX5_allocate 69 = .ok (.aload_n 3, 1) := by decide +kernel
theorem dX5_allocate_70 : decode cX5_allocate 70 = .ok (.dup, 1) := by decide +kernel
theorem dX5_allocate_71 : decode cX5_allocate 71 = .ok (.getfield 56, 3) := by decide +kernel
theorem dX5_allocate_74 : decode cX5_allocate 74 = .ok (.iconst 1, 1) := by decide +kernel
theorem dX5_allocate_75 : decode cX5_allocate 75 = .ok (.iadd, 1) := by decide +kernel
theorem dX5_allocate_76 : decode cX5_allocate 76 = .ok (.putfield 56, 3) := by decide +kernel
theorem dX5_allocate_79 : decode cX5_allocate 79 = .ok (.iload 4, 2) := by decide +kernel
theorem dX5_allocate_81 : decode cX5_allocate 81 = .ok (.ireturn, 1) := by decide +kernel
theorem dX5_free_0 : decode cX5_free 0 = .ok (.aload_n 0, 1) := by decide +kernel
theorem dX5_free_1 : decode cX5_free 1 = .ok (.iload_n 1, 1) := by decide +kernel
theorem dX5_free_2 : decode cX5_free 2 = .ok (.invokevirtual 87, 3) := by decide +kernel
theorem dX5_free_5 : decode cX5_free 5 = .ok (.astore_n 3, 1) := by decide +kernel
theorem dX5_free_6 : decode cX5_free 6 = .ok (.aload_n 3, 1) := by decide +kernel
theorem dX5_free_7 : decode cX5_free 7 = .ok (.ifnull 11, 3) := by decide +kernel
theorem dX5_free_10 : decode cX5_free 10 = .ok (.aload_n 3, 1) := by decide +kernel
theorem dX5_free_11 : decode cX5_free 11 = .ok (.iload_n 1, 1) := by decide +kernel
theorem dX5_free_12 : decode cX5_free 12 = .ok (.invokevirtual 101, 3) := by decide +kernel
theorem dX5_free_15 : decode cX5_free 15 = .ok (.ifCond .ne 13, 3) := by decide +kernel
theorem dX5_free_18 : decode cX5_free 18 = .ok (.new 105, 3) := by decide +kernel
theorem dX5_free_21 : decode cX5_free 21 = .ok (.dup, 1) := by decide +kernel
theorem dX5_free_22 : decode cX5_free 22 = .ok (.ldc 107, 2) := by decide +kernel
theorem dX5_free_24 : decode cX5_free 24 = .ok (.invokespecial 109, 3) := by decide +kernel
theorem dX5_free_27 : decode cX5_free 27 = .ok (.athrow, 1) := by decide +kernel
theorem dX5_free_28 : decode cX5_free 28 = .ok (.iload_n 2, 1) := by decide +kernel
theorem dX5_free_29 : decode cX5_free 29 = .ok (.invokestatic 75, 3) := by decide +kernel
theorem dX5_free_32 : decode cX5_free 32 = .ok (.aload_n 3, 1) := by decide +kernel
theorem dX5_free_33 : decode cX5_free 33 = .ok (.getfield 64, 3) := by decide +kernel
theorem dX5_free_36 : decode cX5_free 36 = .ok (.astore 4, 2) := by decide +kernel
theorem dX5_free_38 : decode cX5_free 38 = .ok (.aload_n 3, 1) := by decide +kernel
theorem dX5_free_39 : decode cX5_free 39 = .ok (.iload_n 1, 1) := by decide +kernel
theorem dX5_free_40 : decode cX5_free 40 = .ok (.invokevirtual 94, 3) := by decide +kernel
theorem dX5_free_43 : decode cX5_free 43 = .ok (.istore 5, 2) := by decide +kernel
theorem dX5_free_45 : decode cX5_free 45 = .ok (.aload_n 3, 1) := by decide +kernel
theorem dX5_free_46 : decode cX5_free 46 = .ok (.iload 5, 2) := by decide +kernel
theorem dX5_free_48 : decode cX5_free 48 = .ok (.invokevirtual 110, 3) := by decide +kernel
theorem dX5_free_51 : decode cX5_free 51 = .ok (.aload 4, 2) := by decide +kernel
theorem dX5_free_53 : decode cX5_free 53 = .ok (.getfield 113, 3) := by decide +kernel
theorem dX5_free_56 : decode cX5_free 56 = .ok (.if_icmp .eq 13, 3) := by decide +kernel
theorem dX5_free_59 : decode cX5_free 59 = .ok (.new 59, 3) := by decide +kernel
theorem dX5_free_62 : decode cX5_free 62 = .ok (.dup, 1) := by decide +kernel
theorem dX5_free_63 : decode cX5_free 63 = .ok (.ldc 116, 2) := by decide +kernel
theorem dX5_free_65 : decode cX5_free 65 = .ok (.invokespecial 63, 3) := by decide +kernel
theorem dX5_free_68 : decode cX5_free 68 = .ok (.athrow, 1) := by decide +kernel
theorem dX5_free_69 : decode cX5_free 69 = .ok (.aload 4, 2) := by decide +kernel
theorem dX5_free_71 : decode cX5_free 71 = .ok (.dup, 1) := by decide +kernel
theorem dX5_free_72 : decode cX5_free 72 = .ok (.getfield 56, 3) := by decide +kernel
theorem dX5_free_75 : decode cX5_free 75 = .ok (.iconst 1, 1) := by decide +kernel
theorem dX5_free_76 : decode cX5_free 76 = .ok (.isub, 1) := by decide +kernel
theorem dX5_free_77 : decode cX5_free 77 = .ok (.putfield 56, 3) := by decide +kernel
theorem dX5_free_80 : decode cX5_free 80 = .ok (.aload 4, 2) := by decide +kernel
theorem dX5_free_82 : decode cX5_free 82 = .ok (.iload_n 2, 1) := by decide +kernel
theorem dX5_free_83 : decode cX5_free 83 = .ok (.iload_n 1, 1) := by decide +kernel
theorem dX5_free_84 : decode cX5_free 84 = .ok (.invokevirtual 118, 3) := by decide +kernel
theorem dX5_free_87 : decode cX5_free 87 = .ok (.ifCond .eq 14, 3) := by decide +kernel
theorem dX5_free_90 : decode cX5_free 90 = .ok (.aload_n 3, 1) := by decide +kernel
theorem dX5_free_91 : decode cX5_free 91 = .ok (.iload 5, 2) := by decide +kernel
theorem dX5_free_93 : decode cX5_free 93 = .ok (.bipush (-3), 2) := by decide +kernel
theorem dX5_free_95 : decode cX5_free 95 = .ok (.invokevirtual 97, 3) := by decide +kernel
theorem dX5_free_98 : decode cX5_free 98 = .ok (.goto 8, 3) := by decide +kernel
theorem dX5_free_101 : decode cX5_free 101 = .ok (.aload_n 0, 1) := by decide +kernel
theorem dX5_free_102 : decode cX5_free 102 = .ok (.iload_n 1, 1) := by decide +kernel
theorem dX5_free_103 : decode cX5_free 103 = .ok (.invokevirtual 122, 3) := by decide +kernel
theorem dX5_free_106 : decode cX5_free 106 = .ok (.aload 4, 2) := by decide +kernel
theorem dX5_free_108 : decode cX5_free 108 = .ok (.getfield 72, 3) := by decide +kernel
theorem dX5_free_111 : decode cX5_free 111 = .ok (.ireturn, 1) := by decide +kernel
theorem dX5_mark_0 : decode cX5_mark 0 = .ok (.aload_n 0, 1) := by decide +kernel
theorem dX5_mark_1 : decode cX5_mark 1 = .ok (.iload_n 1, 1) := by decide +kernel
theorem dX5_mark_2 : decode cX5_mark 2 = .ok (.invokevirtual 87, 3) := by decide +kernel
theorem dX5_mark_5 : decode cX5_mark 5 = .ok (.astore_n 3, 1) := by decide +kernel
theorem dX5_mark_6 : decode cX5_mark 6 = .ok (.aload_n 3, 1) := by decide +kernel
theorem dX5_mark_7 : decode cX5_mark 7 = .ok (.ifnull 11, 3) := by decide +kernel
theorem dX5_mark_10 : decode cX5_mark 10 = .ok (.aload_n 3, 1) := by decide +kernel
theorem dX5_mark_11 : decode cX5_mark 11 = .ok (.iload_n 1, 1) := by decide +kernel
theorem dX5_mark_12 : decode cX5_mark 12 = .ok (.invokevirtual 101, 3) := by decide +kernel
theorem dX5_mark_15 : decode cX5_mark 15 = .ok (.ifCond .ne 13, 3) := by decide +kernel
theorem dX5_mark_18 : decode cX5_mark 18 = .ok (.new 105, 3) := by decide +kernel
theorem dX5_mark_21 : decode cX5_mark 21 = .ok (.dup, 1) := by decide +kernel
theorem dX5_mark_22 : decode cX5_mark 22 = .ok (.ldc 107, 2) := by decide +kernel
theorem dX5_mark_24 : decode cX5_mark 24 = .ok (.invokespecial 109, 3) := by decide +kernel
theorem dX5_mark_27 : decode cX5_mark 27 = .ok (.athrow, 1) := by decide +kernel
theorem dX5_mark_28 : decode cX5_mark 28 = .ok (.aload_n 3, 1) := by decide +kernel
theorem dX5_mark_29 : decode cX5_mark 29 = .ok (.aload_n 3, 1) := by decide +kernel
theorem dX5_mark_30 : decode cX5_mark 30 = .ok (.iload_n 1, 1) := by decide +kernel
theorem dX5_mark_31 : decode cX5_mark 31 = .ok (.invokevirtual 94, 3) := by decide +kernel
theorem dX5_mark_34 : decode cX5_mark 34 = .ok (.iload_n 2, 1) := by decide +kernel
theorem dX5_mark_35 : decode cX5_mark 35 = .ok (.invokevirtual 125, 3) := by decide +kernel
theorem dX5_mark_38 : decode cX5_mark 38 = .ok (.ireturn, 1) := by decide +kernel
theorem dX5_flush_0 : decode cX5_flush 0 = .ok (.iload_n 1, 1) := by decide +kernel
theorem dX5_flush_1 : decode cX5_flush 1 = .ok (.invokestatic 75, 3) := by decide +kernel
theorem dX5_flush_4 : decode cX5_flush 4 = .ok (.iconst 0, 1) := by decide +kernel
theorem dX5_flush_5 : decode cX5_flush 5 = .ok (.istore_n 2, 1) := by decide +kernel
theorem dX5_flush_6 : decode cX5_flush 6 = .ok (.iconst 0, 1) := by decide +kernel
theorem dX5_flush_7 : decode cX5_flush 7 = .ok (.istore_n 3, 1) := by decide +kernel
theorem dX5_flush_8 : decode cX5_flush 8 = .ok (.iload_n 3, 1) := by decide +kernel
theorem dX5_flush_9 : decode cX5_flush 9 = .ok (.bipush 8, 2) := by decide +kernel
theorem dX5_flush_11 : decode cX5_flush 11 = .ok (.if_icmp .ge 50, 3) := by decide +kernel
theorem dX5_flush_14 : decode cX5_flush 14 = .ok (.aload_n 0, 1) := by decide +kernel
theorem dX5_flush_15 : decode cX5_flush 15 = .ok (.getfield 24, 3) := by decide +kernel
theorem dX5_flush_18 : decode cX5_flush 18 = .ok (.iload_n 3, 1) := by decide +kernel
theorem dX5_flush_19 : decode cX5_flush 19 = .ok (.aaload, 1) := by decide +kernel
theorem dX5_flush_20 : decode cX5_flush 20 = .ok (.astore 4, 2) := by decide +kernel
theorem dX5_flush_22 : decode cX5_flush 22 = .ok (.aload 4, 2) := by decide +kernel
theorem dX5_flush_24 : decode cX5_flush 24 = .ok (.ifnull 31, 3) := by decide +kernel
theorem dX5_flush_27 : decode cX5_flush 27 = .ok (.iload_n 2, 1) := by decide +kernel
theorem dX5_flush_28 : decode cX5_flush 28 = .ok (.aload_n 0, 1) := by decide +kernel
theorem dX5_flush_29 : decode cX5_flush 29 = .ok (.aload 4, 2) := by decide +kernel
theorem dX5_flush_31 : decode cX5_flush 31 = .ok (.getfield 128, 3) := by decide +kernel
theorem dX5_flush_34 : decode cX5_flush 34 = .ok (.iload_n 1, 1) := by decide +kernel
theorem dX5_flush_35 : decode cX5_flush 35 = .ok (.aaload, 1) := by decide +kernel
theorem dX5_flush_36 : decode cX5_flush 36 = .ok (.invokevirtual 132, 3) := by decide +kernel
theorem dX5_flush_39 : decode cX5_flush 39 = .ok (.iadd, 1) := by decide +kernel
theorem dX5_flush_40 : decode cX5_flush 40 = .ok (.istore_n 2, 1) := by decide +kernel
theorem dX5_flush_41 : decode cX5_flush 41 = .ok (.iload_n 2, 1) := by decide +kernel
theorem dX5_flush_42 : decode cX5_flush 42 = .ok (.aload_n 0, 1) := by decide +kernel
theorem dX5_flush_43 : decode cX5_flush 43 = .ok (.aload 4, 2) := by decide +kernel
theorem dX5_flush_45 : decode cX5_flush 45 = .ok (.getfield 136, 3) := by decide +kernel
theorem dX5_flush_48 : decode cX5_flush 48 = .ok (.iload_n 1, 1) := by decide +kernel
theorem dX5_flush_49 : decode cX5_flush 49 = .ok (.aaload, 1) := by decide +kernel
theorem dX5_flush_50 : decode cX5_flush 50 = .ok (.invokevirtual 132, 3) := by decide +kernel
theorem dX5_flush_53 : decode cX5_flush 53 = .ok (.iadd, 1) := by decide +kernel
theorem dX5_flush_54 : decode cX5_flush 54 = .ok (.istore_n 2, 1) := by decide +kernel
theorem dX5_flush_55 : decode cX5_flush 55 = .ok (.iinc 3 1, 3) := by decide +kernel
theorem dX5_flush_58 : decode cX5_flush 58 = .ok (.goto (-50), 3) := by decide +kernel
theorem dX5_flush_61 : decode cX5_flush 61 = .ok (.iload_n 2, 1) := by decide +kernel
theorem dX5_flush_62 : decode cX5_flush 62 = .ok (.ireturn, 1) := by decide +kernel
theorem dX5_empty_0 : decode cX5_empty 0 = .ok (.aload_n 0, 1) := by decide +kernel
theorem dX5_empty_1 : decode cX5_empty 1 = .ok (.iload_n 1, 1) := by decide +kernel
theorem dX5_empty_2 : decode cX5_empty 2 = .ok (.invokevirtual 52, 3) := by decide +kernel
theorem dX5_empty_5 : decode cX5_empty 5 = .ok (.astore_n 2, 1) := by decide +kernel
theorem dX5_empty_6 : decode cX5_empty 6 = .ok (.iconst 0, 1) := by decide +kernel
theorem dX5_empty_7 : decode cX5_empty 7 = .ok (.istore_n 3, 1) := by decide +kernel
theorem dX5_empty_8 : decode cX5_empty 8 = .ok (.iconst 0, 1) := by decide +kernel
theorem dX5_empty_9 : decode cX5_empty 9 = .ok (.istore 4, 2) := by decide +kernel
theorem dX5_empty_11 : decode cX5_empty 11 = .ok (.iload 4, 2) := by decide +kernel
theorem dX5_empty_13 : decode cX5_empty 13 = .ok (.iconst 3, 1) := by decide +kernel
theorem dX5_empty_14 : decode cX5_empty 14 = .ok (.if_icmp .ge 29, 3) := by decide +kernel
theorem dX5_empty_17 : decode cX5_empty 17 = .ok (.aload_n 2, 1) := by decide +kernel
theorem dX5_empty_18 : decode cX5_empty 18 = .ok (.invokevirtual 139, 3) := by decide +kernel
theorem dX5_empty_21 : decode cX5_empty 21 = .ok (.astore 5, 2) := by decide +kernel
theorem dX5_empty_23 : decode cX5_empty 23 = .ok (.aload 5, 2) := by decide +kernel
theorem dX5_empty_25 : decode cX5_empty 25 = .ok (.ifnull 12, 3) := by decide +kernel
theorem dX5_empty_28 : decode cX5_empty 28 = .ok (.iload_n 3, 1) := by decide +kernel
theorem dX5_empty_29 : decode cX5_empty 29 = .ok (.aload_n 0, 1) := by decide +kernel
theorem dX5_empty_30 : decode cX5_empty 30 = .ok (.aload 5, 2) := by decide +kernel
theorem dX5_empty_32 : decode cX5_empty 32 = .ok (.invokevirtual 132, 3) := by decide +kernel
theorem dX5_empty_35 : decode cX5_empty 35 = .ok (.iadd, 1) := by decide +kernel
theorem dX5_empty_36 : decode cX5_empty 36 = .ok (.istore_n 3, 1) := by decide +kernel
theorem dX5_empty_37 : decode cX5_empty 37 = .ok (.iinc 4 1, 3) := by decide +kernel
theorem dX5_empty_40 : decode cX5_empty 40 = .ok (.goto (-29), 3) := by decide +kernel
theorem dX5_empty_43 : decode cX5_empty 43 = .ok (.iload_n 3, 1) := by decide +kernel
theorem dX5_empty_44 : decode cX5_empty 44 = .ok (.ireturn, 1) := by decide +kernel
theorem dX5_reap_0 : decode cX5_reap 0 = .ok (.iconst 0, 1) := by decide +kernel
theorem dX5_reap_1 : decode cX5_reap 1 = .ok (.istore_n 1, 1) := by decide +kernel
theorem dX5_reap_2 : decode cX5_reap 2 = .ok (.iconst 0, 1) := by decide +kernel
theorem dX5_reap_3 : decode cX5_reap 3 = .ok (.istore_n 2, 1) := by decide +kernel
theorem dX5_reap_4 : decode cX5_reap 4 = .ok (.iload_n 2, 1) := by decide +kernel
theorem dX5_reap_5 : decode cX5_reap 5 = .ok (.bipush 8, 2) := by decide +kernel
theorem dX5_reap_7 : decode cX5_reap 7 = .ok (.if_icmp .ge 62, 3) := by decide +kernel
theorem dX5_reap_10 : decode cX5_reap 10 = .ok (.aload_n 0, 1) := by decide +kernel
theorem dX5_reap_11 : decode cX5_reap 11 = .ok (.getfield 24, 3) := by decide +kernel
theorem dX5_reap_14 : decode cX5_reap 14 = .ok (.iload_n 2, 1) := by decide +kernel
theorem dX5_reap_15 : decode cX5_reap 15 = .ok (.aaload, 1) := by decide +kernel
theorem dX5_reap_16 : decode cX5_reap 16 = .ok (.ifnonnull 7, 3) := by decide +kernel
theorem dX5_reap_19 : decode cX5_reap 19 = .ok (.aconst_null, 1) := by decide +kernel
theorem dX5_reap_20 : decode cX5_reap 20 = .ok (.goto 17, 3) := by decide +kernel
theorem dX5_reap_23 : decode cX5_reap 23 = .ok (.aload_n 0, 1) := by decide +kernel
theorem dX5_reap_24 : decode cX5_reap 24 = .ok (.getfield 24, 3) := by decide +kernel
theorem dX5_reap_27 : decode cX5_reap 27 = .ok (.iload_n 2, 1) := by decide +kernel
theorem dX5_reap_28 : decode cX5_reap 28 = .ok (.aaload, 1) := by decide +kernel
theorem dX5_reap_29 : decode cX5_reap 29 = .ok (.getfield 143, 3) := by decide +kernel
theorem dX5_reap_32 : decode cX5_reap 32 = .ok (.iconst 2, 1) := by decide +kernel
theorem dX5_reap_33 : decode cX5_reap 33 = .ok (.aaload, 1) := by decide +kernel
theorem dX5_reap_34 : decode cX5_reap 34 = .ok (.getfield 147, 3) := by decide +kernel
theorem dX5_reap_37 : decode cX5_reap 37 = .ok (.astore_n 3, 1) := by decide +kernel
theorem dX5_reap_38 : decode cX5_reap 38 = .ok (.aload_n 3, 1) := by decide +kernel
theorem dX5_reap_39 : decode cX5_reap 39 = .ok (.ifnull 24, 3) := by decide +kernel
theorem dX5_reap_42 : decode cX5_reap 42 = .ok (.aload_n 3, 1) := by decide +kernel
theorem dX5_reap_43 : decode cX5_reap 43 = .ok (.astore 4, 2) := by decide +kernel
theorem dX5_reap_45 : decode cX5_reap 45 = .ok (.aload 4, 2) := by decide +kernel
theorem dX5_reap_47 : decode cX5_reap 47 = .ok (.getfield 153, 3) := by decide +kernel
theorem dX5_reap_50 : decode cX5_reap 50 = .ok (.astore_n 3, 1) := by decide +kernel
theorem dX5_reap_51 : decode cX5_reap 51 = .ok (.iload_n 1, 1) := by decide +kernel
theorem dX5_reap_52 : decode cX5_reap 52 = .ok (.aload_n 0, 1) := by decide +kernel
theorem dX5_reap_53 : decode cX5_reap 53 = .ok (.aload 4, 2) := by decide +kernel
theorem dX5_reap_55 : decode cX5_reap 55 = .ok (.invokevirtual 68, 3) := by decide +kernel
theorem dX5_reap_58 : decode cX5_reap 58 = .ok (.iadd, 1) := by decide +kernel
theorem dX5_reap_59 : decode cX5_reap 59 = .ok (.istore_n 1, 1) := by decide +kernel
theorem dX5_reap_60 : decode cX5_reap 60 = .ok (.goto (-22), 3) := by decide +kernel
theorem dX5_reap_63 : decode cX5_reap 63 = .ok (.iinc 2 1, 3) := by decide +kernel
theorem dX5_reap_66 : decode cX5_reap 66 = .ok (.goto (-62), 3) := by decide +kernel
theorem dX5_reap_69 : decode cX5_reap 69 = .ok (.iload_n 1, 1) := by decide +kernel
theorem dX5_reap_70 : decode cX5_reap 70 = .ok (.ireturn, 1) := by decide +kernel
theorem dX5_cacheOf_0 : decode cX5_cacheOf 0 = .ok (.aload_n 0, 1) := by decide +kernel
theorem dX5_cacheOf_1 : decode cX5_cacheOf 1 = .ok (.iload_n 1, 1) := by decide +kernel
theorem dX5_cacheOf_2 : decode cX5_cacheOf 2 = .ok (.invokevirtual 87, 3) := by decide +kernel
theorem dX5_cacheOf_5 : decode cX5_cacheOf 5 = .ok (.astore_n 2, 1) := by decide +kernel
theorem dX5_cacheOf_6 : decode cX5_cacheOf 6 = .ok (.aload_n 2, 1) := by decide +kernel
theorem dX5_cacheOf_7 : decode cX5_cacheOf 7 = .ok (.ifnonnull 7, 3) := by decide +kernel
theorem dX5_cacheOf_10 : decode cX5_cacheOf 10 = .ok (.iconst (-1), 1) := by decide +kernel
theorem dX5_cacheOf_11 : decode cX5_cacheOf 11 = .ok (.goto 10, 3) := by decide +kernel
theorem dX5_cacheOf_14 : decode cX5_cacheOf 14 = .ok (.aload_n 2, 1) := by decide +kernel
theorem dX5_cacheOf_15 : decode cX5_cacheOf 15 = .ok (.getfield 64, 3) := by decide +kernel
theorem dX5_cacheOf_18 : decode cX5_cacheOf 18 = .ok (.getfield 72, 3) := by decide +kernel
theorem dX5_cacheOf_21 : decode cX5_cacheOf 21 = .ok (.ireturn, 1) := by decide +kernel
theorem dX5_objectOf_0 : decode cX5_objectOf 0 = .ok (.aload_n 0, 1) := by decide +kernel
theorem dX5_objectOf_1 : decode cX5_objectOf 1 = .ok (.iload_n 1, 1) := by decide +kernel
theorem dX5_objectOf_2 : decode cX5_objectOf 2 = .ok (.invokevirtual 87, 3) := by decide +kernel
theorem dX5_objectOf_5 : decode cX5_objectOf 5 = .ok (.astore_n 2, 1) := by decide +kernel
theorem dX5_objectOf_6 : decode cX5_objectOf 6 = .ok (.aload_n 2, 1) := by decide +kernel
theorem dX5_objectOf_7 : decode cX5_objectOf 7 = .ok (.ifnonnull 5, 3) := by decide +kernel
theorem dX5_objectOf_10 : decode cX5_objectOf 10 = .ok (.iconst (-1), 1) := by decide +kernel
theorem dX5_objectOf_11 : decode cX5_objectOf 11 = .ok (.ireturn, 1) := by decide +kernel
theorem dX5_objectOf_12 : decode cX5_objectOf 12 = .ok (.aload_n 2, 1) := by decide +kernel
theorem dX5_objectOf_13 : decode cX5_objectOf 13 = .ok (.iload_n 1, 1) := by decide +kernel
theorem dX5_objectOf_14 : decode cX5_objectOf 14 = .ok (.invokevirtual 94, 3) := by decide +kernel
theorem dX5_objectOf_17 : decode cX5_objectOf 17 = .ok (.istore_n 3, 1) := by decide +kernel
theorem dX5_objectOf_18 : decode cX5_objectOf 18 = .ok (.aload_n 2, 1) := by decide +kernel
theorem dX5_objectOf_19 : decode cX5_objectOf 19 = .ok (.iload_n 3, 1) := by decide +kernel
theorem dX5_objectOf_20 : decode cX5_objectOf 20 = .ok (.invokevirtual 156, 3) := by decide +kernel
theorem dX5_objectOf_23 : decode cX5_objectOf 23 = .ok (.ifCond .ne 5, 3) := by decide +kernel
theorem dX5_objectOf_26 : decode cX5_objectOf 26 = .ok (.iconst (-1), 1) := by decide +kernel
theorem dX5_objectOf_27 : decode cX5_objectOf 27 = .ok (.ireturn, 1) := by decide +kernel
theorem dX5_objectOf_28 : decode cX5_objectOf 28 = .ok (.aload_n 2, 1) := by decide +kernel
theorem dX5_objectOf_29 : decode cX5_objectOf 29 = .ok (.iload_n 3, 1) := by decide +kernel
theorem dX5_objectOf_30 : decode cX5_objectOf 30 = .ok (.invokevirtual 159, 3) := by decide +kernel
theorem dX5_objectOf_33 : decode cX5_objectOf 33 = .ok (.istore 4, 2) := by decide +kernel
theorem dX5_objectOf_35 : decode cX5_objectOf 35 = .ok (.iload_n 1, 1) := by decide +kernel
theorem dX5_objectOf_36 : decode cX5_objectOf 36 = .ok (.iload 4, 2) := by decide +kernel
theorem dX5_objectOf_38 : decode cX5_objectOf 38 = .ok (.isub, 1) := by decide +kernel
theorem dX5_objectOf_39 : decode cX5_objectOf 39 = .ok (.aload_n 2, 1) := by decide +kernel
theorem dX5_objectOf_40 : decode cX5_objectOf 40 = .ok (.getfield 64, 3) := by decide +kernel
theorem dX5_objectOf_43 : decode cX5_objectOf 43 = .ok (.getfield 162, 3) := by decide +kernel
theorem dX5_objectOf_46 : decode cX5_objectOf 46 = .ok (.if_icmp .ge 8, 3) := by decide +kernel
theorem dX5_objectOf_49 : decode cX5_objectOf 49 = .ok (.iload 4, 2) := by decide +kernel
theorem dX5_objectOf_51 : decode cX5_objectOf 51 = .ok (.goto 4, 3) := by decide +kernel
theorem dX5_objectOf_54 : decode cX5_objectOf 54 = .ok (.iconst (-1), 1) := by decide +kernel
theorem dX5_objectOf_55 : decode cX5_objectOf 55 = .ok (.ireturn, 1) := by decide +kernel
theorem dX5_about_0 : decode cX5_about 0 = .ok (.aload_n 0, 1) := by decide +kernel
theorem dX5_about_1 : decode cX5_about 1 = .ok (.iload_n 1, 1) := by decide +kernel
theorem dX5_about_2 : decode cX5_about 2 = .ok (.invokevirtual 52, 3) := by decide +kernel
theorem dX5_about_5 : decode cX5_about 5 = .ok (.astore_n 3, 1) := by decide +kernel
theorem dX5_about_6 : decode cX5_about 6 = .ok (.iload_n 2, 1) := by decide +kernel
theorem dX5_about_7 : decode cX5_about 7 = .ok (.tableswitch 85 0 7 #[45, 50, 55, 60, 65, 70, 75, 80], 45) := by decide +kernel
theorem dX5_about_52 : decode cX5_about 52 = .ok (.aload_n 3, 1) := by decide +kernel
theorem dX5_about_53 : decode cX5_about 53 = .ok (.getfield 165, 3) := by decide +kernel
theorem dX5_about_56 : decode cX5_about 56 = .ok (.ireturn, 1) := by decide +kernel
theorem dX5_about_57 : decode cX5_about 57 = .ok (.aload_n 3, 1) := by decide +kernel
theorem dX5_about_58 : decode cX5_about 58 = .ok (.getfield 168, 3) := by decide +kernel
theorem dX5_about_61 : decode cX5_about 61 = .ok (.ireturn, 1) := by decide +kernel
theorem dX5_about_62 : decode cX5_about 62 = .ok (.aload_n 3, 1) := by decide +kernel
theorem dX5_about_63 : decode cX5_about 63 = .ok (.getfield 171, 3) := by decide +kernel
theorem dX5_about_66 : decode cX5_about 66 = .ok (.ireturn, 1) := by decide +kernel
theorem dX5_about_67 : decode cX5_about 67 = .ok (.aload_n 3, 1) := by decide +kernel
theorem dX5_about_68 : decode cX5_about 68 = .ok (.getfield 174, 3) := by decide +kernel
theorem dX5_about_71 : decode cX5_about 71 = .ok (.ireturn, 1) := by decide +kernel
theorem dX5_about_72 : decode cX5_about 72 = .ok (.aload_n 3, 1) := by decide +kernel
theorem dX5_about_73 : decode cX5_about 73 = .ok (.getfield 177, 3) := by decide +kernel
theorem dX5_about_76 : decode cX5_about 76 = .ok (.ireturn, 1) := by decide +kernel
theorem dX5_about_77 : decode cX5_about 77 = .ok (.aload_n 3, 1) := by decide +kernel
theorem dX5_about_78 : decode cX5_about 78 = .ok (.getfield 56, 3) := by decide +kernel
theorem dX5_about_81 : decode cX5_about 81 = .ok (.ireturn, 1) := by decide +kernel
theorem dX5_about_82 : decode cX5_about 82 = .ok (.aload_n 3, 1) := by decide +kernel
theorem dX5_about_83 : decode cX5_about 83 = .ok (.invokevirtual 180, 3) := by decide +kernel
theorem dX5_about_86 : decode cX5_about 86 = .ok (.ireturn, 1) := by decide +kernel
theorem dX5_about_87 : decode cX5_about 87 = .ok (.aload_n 3, 1) := by decide +kernel
theorem dX5_about_88 : decode cX5_about 88 = .ok (.getfield 91, 3) := by decide +kernel
theorem dX5_about_91 : decode cX5_about 91 = .ok (.ireturn, 1) := by decide +kernel
theorem dX5_about_92 : decode cX5_about 92 = .ok (.new 28, 3) := by decide +kernel
theorem dX5_about_95 : decode cX5_about 95 = .ok (.dup, 1) := by decide +kernel
theorem dX5_about_96 : decode cX5_about 96 = .ok (.ldc 184, 2) := by decide +kernel
theorem dX5_about_98 : decode cX5_about 98 = .ok (.invokespecial 32, 3) := by decide +kernel
theorem dX5_about_101 : decode cX5_about 101 = .ok (.athrow, 1) := by decide +kernel
theorem dX5_list_0 : decode cX5_list 0 = .ok (.aload_n 0, 1) := by decide +kernel
theorem dX5_list_1 : decode cX5_list 1 = .ok (.iload_n 1, 1) := by decide +kernel
theorem dX5_list_2 : decode cX5_list 2 = .ok (.invokevirtual 52, 3) := by decide +kernel
theorem dX5_list_5 : decode cX5_list 5 = .ok (.astore 4, 2) := by decide +kernel
theorem dX5_list_7 : decode cX5_list 7 = .ok (.iload_n 2, 1) := by decide +kernel
theorem dX5_list_8 : decode cX5_list 8 = .ok (.ifCond .lt 8, 3) := by decide +kernel
theorem dX5_list_11 : decode cX5_list 11 = .ok (.iload_n 2, 1) := by decide +kernel
theorem dX5_list_12 : decode cX5_list 12 = .ok (.iconst 3, 1) := by decide +kernel
theorem dX5_list_13 : decode cX5_list 13 = .ok (.if_icmp .lt 13, 3) := by decide +kernel
theorem dX5_list_16 : decode cX5_list 16 = .ok (.new 28, 3) := by decide +kernel
theorem dX5_list_19 : decode cX5_list 19 = .ok (.dup, 1) := by decide +kernel
theorem dX5_list_20 : decode cX5_list 20 = .ok (.ldc 186, 2) := by decide +kernel
theorem dX5_list_22 : decode cX5_list 22 = .ok (.invokespecial 32, 3) := by decide +kernel
theorem dX5_list_25 : decode cX5_list 25 = .ok (.athrow, 1) := by decide +kernel
theorem dX5_list_26 : decode cX5_list 26 = .ok (.aload 4, 2) := by decide +kernel
theorem dX5_list_28 : decode cX5_list 28 = .ok (.getfield 143, 3) := by decide +kernel
theorem dX5_list_31 : decode cX5_list 31 = .ok (.iload_n 2, 1) := by decide +kernel
theorem dX5_list_32 : decode cX5_list 32 = .ok (.aaload, 1) := by decide +kernel
theorem dX5_list_33 : decode cX5_list 33 = .ok (.iload_n 3, 1) := by decide +kernel
theorem dX5_list_34 : decode cX5_list 34 = .ok (.invokevirtual 188, 3) := by decide +kernel
theorem dX5_list_37 : decode cX5_list 37 = .ok (.astore 5, 2) := by decide +kernel
theorem dX5_list_39 : decode cX5_list 39 = .ok (.aload 5, 2) := by decide +kernel
theorem dX5_list_41 : decode cX5_list 41 = .ok (.ifnonnull 7, 3) := by decide +kernel
theorem dX5_list_44 : decode cX5_list 44 = .ok (.iconst (-1), 1) := by decide +kernel
theorem dX5_list_45 : decode cX5_list 45 = .ok (.goto 8, 3) := by decide +kernel
theorem dX5_list_48 : decode cX5_list 48 = .ok (.aload 5, 2) := by decide +kernel
theorem dX5_list_50 : decode cX5_list 50 = .ok (.invokevirtual 191, 3) := by decide +kernel
theorem dX5_list_53 : decode cX5_list 53 = .ok (.ireturn, 1) := by decide +kernel
theorem dX5_slab_0 : decode cX5_slab 0 = .ok (.aload_n 0, 1) := by decide +kernel
theorem dX5_slab_1 : decode cX5_slab 1 = .ok (.iload_n 1, 1) := by decide +kernel
theorem dX5_slab_2 : decode cX5_slab 2 = .ok (.invokevirtual 87, 3) := by decide +kernel
theorem dX5_slab_5 : decode cX5_slab 5 = .ok (.astore_n 3, 1) := by decide +kernel
theorem dX5_slab_6 : decode cX5_slab 6 = .ok (.aload_n 3, 1) := by decide +kernel
theorem dX5_slab_7 : decode cX5_slab 7 = .ok (.ifnonnull 13, 3) := by decide +kernel
theorem dX5_slab_10 : decode cX5_slab 10 = .ok (.new 105, 3) := by decide +kernel
theorem dX5_slab_13 : decode cX5_slab 13 = .ok (.dup, 1) := by decide +kernel
theorem dX5_slab_14 : decode cX5_slab 14 = .ok (.ldc 194, 2) := by decide +kernel
theorem dX5_slab_16 : decode cX5_slab 16 = .ok (.invokespecial 109, 3) := by decide +kernel
theorem dX5_slab_19 : decode cX5_slab 19 = .ok (.athrow, 1) := by decide +kernel
theorem dX5_slab_20 : decode cX5_slab 20 = .ok (.iload_n 2, 1) := by decide +kernel
theorem dX5_slab_21 : decode cX5_slab 21 = .ok (.tableswitch 51 0 3 #[31, 36, 41, 46], 31) := by decide +kernel
theorem dX5_slab_52 : decode cX5_slab 52 = .ok (.aload_n 3, 1) := by decide +kernel
theorem dX5_slab_53 : decode cX5_slab 53 = .ok (.invokevirtual 191, 3) := by decide +kernel
theorem dX5_slab_56 : decode cX5_slab 56 = .ok (.ireturn, 1) := by decide +kernel
theorem dX5_slab_57 : decode cX5_slab 57 = .ok (.aload_n 3, 1) := by decide +kernel
theorem dX5_slab_58 : decode cX5_slab 58 = .ok (.getfield 196, 3) := by decide +kernel
theorem dX5_slab_61 : decode cX5_slab 61 = .ok (.ireturn, 1) := by decide +kernel
theorem dX5_slab_62 : decode cX5_slab 62 = .ok (.aload_n 3, 1) := by decide +kernel
theorem dX5_slab_63 : decode cX5_slab 63 = .ok (.getfield 199, 3) := by decide +kernel
theorem dX5_slab_66 : decode cX5_slab 66 = .ok (.ireturn, 1) := by decide +kernel
theorem dX5_slab_67 : decode cX5_slab 67 = .ok (.aload_n 3, 1) := by decide +kernel
theorem dX5_slab_68 : decode cX5_slab 68 = .ok (.invokevirtual 202, 3) := by decide +kernel
theorem dX5_slab_71 : decode cX5_slab 71 = .ok (.ireturn, 1) := by decide +kernel
theorem dX5_slab_72 : decode cX5_slab 72 = .ok (.new 28, 3) := by decide +kernel
theorem dX5_slab_75 : decode cX5_slab 75 = .ok (.dup, 1) := by decide +kernel
theorem dX5_slab_76 : decode cX5_slab 76 = .ok (.ldc 205, 2) := by decide +kernel
theorem dX5_slab_78 : decode cX5_slab 78 = .ok (.invokespecial 32, 3) := by decide +kernel
theorem dX5_slab_81 : decode cX5_slab 81 = .ok (.athrow, 1) := by decide +kernel
theorem dX5_magazine_0 : decode cX5_magazine 0 = .ok (.aload_n 0, 1) := by decide +kernel
theorem dX5_magazine_1 : decode cX5_magazine 1 = .ok (.iload_n 1, 1) := by decide +kernel
theorem dX5_magazine_2 : decode cX5_magazine 2 = .ok (.invokevirtual 52, 3) := by decide +kernel
theorem dX5_magazine_5 : decode cX5_magazine 5 = .ok (.astore 4, 2) := by decide +kernel
theorem dX5_magazine_7 : decode cX5_magazine 7 = .ok (.iload_n 2, 1) := by decide +kernel
theorem dX5_magazine_8 : decode cX5_magazine 8 = .ok (.invokestatic 75, 3) := by decide +kernel
theorem dX5_magazine_11 : decode cX5_magazine 11 = .ok (.iload_n 3, 1) := by decide +kernel
theorem dX5_magazine_12 : decode cX5_magazine 12 = .ok (.tableswitch 56 0 2 #[28, 39, 50], 28) := by decide +kernel
theorem dX5_magazine_40 : decode cX5_magazine 40 = .ok (.aload 4, 2) := by decide +kernel
theorem dX5_magazine_42 : decode cX5_magazine 42 = .ok (.getfield 128, 3) := by decide +kernel
theorem dX5_magazine_45 : decode cX5_magazine 45 = .ok (.iload_n 2, 1) := by decide +kernel
theorem dX5_magazine_46 : decode cX5_magazine 46 = .ok (.aaload, 1) := by decide +kernel
theorem dX5_magazine_47 : decode cX5_magazine 47 = .ok (.getfield 207, 3) := by decide +kernel
theorem dX5_magazine_50 : decode cX5_magazine 50 = .ok (.ireturn, 1) := by decide +kernel
theorem dX5_magazine_51 : decode cX5_magazine 51 = .ok (.aload 4, 2) := by decide +kernel
theorem dX5_magazine_53 : decode cX5_magazine 53 = .ok (.getfield 136, 3) := by decide +kernel
theorem dX5_magazine_56 : decode cX5_magazine 56 = .ok (.iload_n 2, 1) := by decide +kernel
theorem dX5_magazine_57 : decode cX5_magazine 57 = .ok (.aaload, 1) := by decide +kernel
theorem dX5_magazine_58 : decode cX5_magazine 58 = .ok (.getfield 207, 3) := by decide +kernel
theorem dX5_magazine_61 : decode cX5_magazine 61 = .ok (.ireturn, 1) := by decide +kernel
theorem dX5_magazine_62 : decode cX5_magazine 62 = .ok (.aload 4, 2) := by decide +kernel
theorem dX5_magazine_64 : decode cX5_magazine 64 = .ok (.getfield 212, 3) := by decide +kernel
theorem dX5_magazine_67 : decode cX5_magazine 67 = .ok (.ireturn, 1) := by decide +kernel
theorem dX5_magazine_68 : decode cX5_magazine 68 = .ok (.new 28, 3) := by decide +kernel
theorem dX5_magazine_71 : decode cX5_magazine 71 = .ok (.dup, 1) := by decide +kernel
theorem dX5_magazine_72 : decode cX5_magazine 72 = .ok (.ldc 215, 2) := by decide +kernel
theorem dX5_magazine_74 : decode cX5_magazine 74 = .ok (.invokespecial 32, 3) := by decide +kernel
theorem dX5_magazine_77 : decode cX5_magazine 77 = .ok (.athrow, 1) := by decide +kernel
theorem dX5_block_0 : decode cX5_block 0 = .ok (.iload_n 1, 1) := by decide +kernel
theorem dX5_block_1 : decode cX5_block 1 = .ok (.ifCond .lt 9, 3) := by decide +kernel
theorem dX5_block_4 : decode cX5_block 4 = .ok (.iload_n 1, 1) := by decide +kernel
theorem dX5_block_5 : decode cX5_block 5 = .ok (.bipush 6, 2) := by decide +kernel
theorem dX5_block_7 : decode cX5_block 7 = .ok (.if_icmp .le 13, 3) := by decide +kernel
theorem dX5_block_10 : decode cX5_block 10 = .ok (.new 28, 3) := by decide +kernel
theorem dX5_block_13 : decode cX5_block 13 = .ok (.dup, 1) := by decide +kernel
theorem dX5_block_14 : decode cX5_block 14 = .ok (.ldc 217, 2) := by decide +kernel
theorem dX5_block_16 : decode cX5_block 16 = .ok (.invokespecial 32, 3) := by decide +kernel
theorem dX5_block_19 : decode cX5_block 19 = .ok (.athrow, 1) := by decide +kernel
theorem dX5_block_20 : decode cX5_block 20 = .ok (.aload_n 0, 1) := by decide +kernel
theorem dX5_block_21 : decode cX5_block 21 = .ok (.getfield 12, 3) := by decide +kernel
theorem dX5_block_24 : decode cX5_block 24 = .ok (.iload_n 1, 1) := by decide +kernel
theorem dX5_block_25 : decode cX5_block 25 = .ok (.iload_n 2, 1) := by decide +kernel
theorem dX5_block_26 : decode cX5_block 26 = .ok (.invokevirtual 219, 3) := by decide +kernel
theorem dX5_block_29 : decode cX5_block 29 = .ok (.ireturn, 1) := by decide +kernel
theorem dX5_pages_0 : decode cX5_pages 0 = .ok (.iload_n 1, 1) := by decide +kernel
theorem dX5_pages_1 : decode cX5_pages 1 = .ok (.ifCond .ne 11, 3) := by decide +kernel
theorem dX5_pages_4 : decode cX5_pages 4 = .ok (.aload_n 0, 1) := by decide +kernel
theorem dX5_pages_5 : decode cX5_pages 5 = .ok (.getfield 12, 3) := by decide +kernel
theorem dX5_pages_8 : decode cX5_pages 8 = .ok (.getfield 222, 3) := by decide +kernel
theorem dX5_pages_11 : decode cX5_pages 11 = .ok (.ireturn, 1) := by decide +kernel
theorem dX5_pages_12 : decode cX5_pages 12 = .ok (.iload_n 1, 1) := by decide +kernel
theorem dX5_pages_13 : decode cX5_pages 13 = .ok (.iconst 1, 1) := by decide +kernel
theorem dX5_pages_14 : decode cX5_pages 14 = .ok (.if_icmp .ne 17, 3) := by decide +kernel
theorem dX5_pages_17 : decode cX5_pages 17 = .ok (.sipush 256, 3) := by decide +kernel
theorem dX5_pages_20 : decode cX5_pages 20 = .ok (.aload_n 0, 1) := by decide +kernel
theorem dX5_pages_21 : decode cX5_pages 21 = .ok (.getfield 12, 3) := by decide +kernel
theorem dX5_pages_24 : decode cX5_pages 24 = .ok (.getfield 222, 3) := by decide +kernel
theorem dX5_pages_27 : decode cX5_pages 27 = .ok (.isub, 1) := by decide +kernel
theorem dX5_pages_28 : decode cX5_pages 28 = .ok (.goto 4, 3) := by decide +kernel
theorem dX5_pages_31 : decode cX5_pages 31 = .ok (.iconst (-1), 1) := by decide +kernel
theorem dX5_pages_32 : decode cX5_pages 32 = .ok (.ireturn, 1) := by decide +kernel
theorem dX5_knownCache_0 : decode cX5_knownCache 0 = .ok (.iload_n 1, 1) := by decide +kernel
theorem dX5_knownCache_1 : decode cX5_knownCache 1 = .ok (.ifCond .lt 18, 3) := by decide +kernel
theorem dX5_knownCache_4 : decode cX5_knownCache 4 = .ok (.iload_n 1, 1) := by decide +kernel
theorem dX5_knownCache_5 : decode cX5_knownCache 5 = .ok (.bipush 8, 2) := by decide +kernel
theorem dX5_knownCache_7 : decode cX5_knownCache 7 = .ok (.if_icmp .ge 12, 3) := by decide +kernel
theorem dX5_knownCache_10 : decode cX5_knownCache 10 = .ok (.aload_n 0, 1) := by decide +kernel
theorem dX5_knownCache_11 : decode cX5_knownCache 11 = .ok (.getfield 24, 3) := by decide +kernel
theorem dX5_knownCache_14 : decode cX5_knownCache 14 = .ok (.iload_n 1, 1) := by decide +kernel
theorem dX5_knownCache_15 : decode cX5_knownCache 15 = .ok (.aaload, 1) := by decide +kernel
theorem dX5_knownCache_16 : decode cX5_knownCache 16 = .ok (.ifnonnull 13, 3) := by decide +kernel
theorem dX5_knownCache_19 : decode cX5_knownCache 19 = .ok (.new 105, 3) := by decide +kernel
theorem dX5_knownCache_22 : decode cX5_knownCache 22 = .ok (.dup, 1) := by decide +kernel
theorem dX5_knownCache_23 : decode cX5_knownCache 23 = .ok (.ldc 225, 2) := by decide +kernel
theorem dX5_knownCache_25 : decode cX5_knownCache 25 = .ok (.invokespecial 109, 3) := by decide +kernel
theorem dX5_knownCache_28 : decode cX5_knownCache 28 = .ok (.athrow, 1) := by decide +kernel
theorem dX5_knownCache_29 : decode cX5_knownCache 29 = .ok (.aload_n 0, 1) := by decide +kernel
theorem dX5_knownCache_30 : decode cX5_knownCache 30 = .ok (.getfield 24, 3) := by decide +kernel
theorem dX5_knownCache_33 : decode cX5_knownCache 33 = .ok (.iload_n 1, 1) := by decide +kernel
theorem dX5_knownCache_34 : decode cX5_knownCache 34 = .ok (.aaload, 1) := by decide +kernel
theorem dX5_knownCache_35 : decode cX5_knownCache 35 = .ok (.areturn, 1) := by decide +kernel
theorem dX5_requireProcessor_0 : decode cX5_requireProcessor 0 = .ok (.iload_n 0, 1) := by decide +kernel
theorem dX5_requireProcessor_1 : decode cX5_requireProcessor 1 = .ok (.ifCond .lt 8, 3) := by decide +kernel
theorem dX5_requireProcessor_4 : decode cX5_requireProcessor 4 = .ok (.iload_n 0, 1) := by decide +kernel
theorem dX5_requireProcessor_5 : decode cX5_requireProcessor 5 = .ok (.iconst 4, 1) := by decide +kernel
theorem dX5_requireProcessor_6 : decode cX5_requireProcessor 6 = .ok (.if_icmp .lt 13, 3) := by decide +kernel
theorem dX5_requireProcessor_9 : decode cX5_requireProcessor 9 = .ok (.new 28, 3) := by decide +kernel
theorem dX5_requireProcessor_12 : decode cX5_requireProcessor 12 = .ok (.dup, 1) := by decide +kernel
theorem dX5_requireProcessor_13 : decode cX5_requireProcessor 13 = .ok (.ldc 227, 2) := by decide +kernel
theorem dX5_requireProcessor_15 : decode cX5_requireProcessor 15 = .ok (.invokespecial 32, 3) := by decide +kernel
theorem dX5_requireProcessor_18 : decode cX5_requireProcessor 18 = .ok (.athrow, 1) := by decide +kernel
theorem dX5_requireProcessor_19 : decode cX5_requireProcessor 19 = .ok (.return_, 1) := by decide +kernel
theorem dX5_roundedUp_0 : decode cX5_roundedUp 0 = .ok (.iload_n 0, 1) := by decide +kernel
theorem dX5_roundedUp_1 : decode cX5_roundedUp 1 = .ok (.iload_n 1, 1) := by decide +kernel
theorem dX5_roundedUp_2 : decode cX5_roundedUp 2 = .ok (.iadd, 1) := by decide +kernel
theorem dX5_roundedUp_3 : decode cX5_roundedUp 3 = .ok (.iconst 1, 1) := by decide +kernel
theorem dX5_roundedUp_4 : decode cX5_roundedUp 4 = .ok (.isub, 1) := by decide +kernel
theorem dX5_roundedUp_5 : decode cX5_roundedUp 5 = .ok (.iload_n 1, 1) := by decide +kernel
theorem dX5_roundedUp_6 : decode cX5_roundedUp 6 = .ok (.ineg, 1) := by decide +kernel
theorem dX5_roundedUp_7 : decode cX5_roundedUp 7 = .ok (.iand, 1) := by decide +kernel
theorem dX5_roundedUp_8 : decode cX5_roundedUp 8 = .ok (.ireturn, 1) := by decide +kernel
theorem dX5_slabAt_0 : decode cX5_slabAt 0 = .ok (.iload_n 1, 1) := by decide +kernel
theorem dX5_slabAt_1 : decode cX5_slabAt 1 = .ok (.ifCond .lt 9, 3) := by decide +kernel
theorem dX5_slabAt_4 : decode cX5_slabAt 4 = .ok (.iload_n 1, 1) := by decide +kernel
theorem dX5_slabAt_5 : decode cX5_slabAt 5 = .ok (.ldc 229, 2) := by decide +kernel
theorem dX5_slabAt_7 : decode cX5_slabAt 7 = .ok (.if_icmp .lt 7, 3) := by decide +kernel
theorem dX5_slabAt_10 : decode cX5_slabAt 10 = .ok (.aconst_null, 1) := by decide +kernel
theorem dX5_slabAt_11 : decode cX5_slabAt 11 = .ok (.goto 13, 3) := by decide +kernel
theorem dX5_slabAt_14 : decode cX5_slabAt 14 = .ok (.aload_n 0, 1) := by decide +kernel
theorem dX5_slabAt_15 : decode cX5_slabAt 15 = .ok (.getfield 18, 3) := by decide +kernel
theorem dX5_slabAt_18 : decode cX5_slabAt 18 = .ok (.iload_n 1, 1) := by decide +kernel
theorem dX5_slabAt_19 : decode cX5_slabAt 19 = .ok (.sipush 1024, 3) := by decide +kernel
theorem dX5_slabAt_22 : decode cX5_slabAt 22 = .ok (.idiv, 1) := by decide +kernel
theorem dX5_slabAt_23 : decode cX5_slabAt 23 = .ok (.aaload, 1) := by decide +kernel
theorem dX5_slabAt_24 : decode cX5_slabAt 24 = .ok (.areturn, 1) := by decide +kernel
theorem dX5_takeFromSlabs_0 : decode cX5_takeFromSlabs 0 = .ok (.aload_n 1, 1) := by decide +kernel
theorem dX5_takeFromSlabs_1 : decode cX5_takeFromSlabs 1 = .ok (.getfield 143, 3) := by decide +kernel
theorem dX5_takeFromSlabs_4 : decode cX5_takeFromSlabs 4 = .ok (.iconst 1, 1) := by decide +kernel
theorem dX5_takeFromSlabs_5 : decode cX5_takeFromSlabs 5 = .ok (.aaload, 1) := by decide +kernel
theorem dX5_takeFromSlabs_6 : decode cX5_takeFromSlabs 6 = .ok (.getfield 147, 3) := by decide +kernel
theorem dX5_takeFromSlabs_9 : decode cX5_takeFromSlabs 9 = .ok (.astore_n 2, 1) := by decide +kernel
theorem dX5_takeFromSlabs_10 : decode cX5_takeFromSlabs 10 = .ok (.aload_n 2, 1) := by decide +kernel
theorem dX5_takeFromSlabs_11 : decode cX5_takeFromSlabs 11 = .ok (.ifnonnull 13, 3) := by decide +kernel
theorem dX5_takeFromSlabs_14 : decode cX5_takeFromSlabs 14 = .ok (.aload_n 1, 1) := by decide +kernel
theorem dX5_takeFromSlabs_15 : decode cX5_takeFromSlabs 15 = .ok (.getfield 143, 3) := by decide +kernel
theorem dX5_takeFromSlabs_18 : decode cX5_takeFromSlabs 18 = .ok (.iconst 2, 1) := by decide +kernel
theorem dX5_takeFromSlabs_19 : decode cX5_takeFromSlabs 19 = .ok (.aaload, 1) := by decide +kernel
theorem dX5_takeFromSlabs_20 : decode cX5_takeFromSlabs 20 = .ok (.getfield 147, 3) := by decide +kernel
theorem dX5_takeFromSlabs_23 : decode cX5_takeFromSlabs 23 = .ok (.astore_n 2, 1) := by decide +kernel
theorem dX5_takeFromSlabs_24 : decode cX5_takeFromSlabs 24 = .ok (.aload_n 2, 1) := by decide +kernel
theorem dX5_takeFromSlabs_25 : decode cX5_takeFromSlabs 25 = .ok (.ifnonnull 9, 3) := by decide +kernel
theorem dX5_takeFromSlabs_28 : decode cX5_takeFromSlabs 28 = .ok (.aload_n 0, 1) := by decide +kernel
theorem dX5_takeFromSlabs_29 : decode cX5_takeFromSlabs 29 = .ok (.aload_n 1, 1) := by decide +kernel
theorem dX5_takeFromSlabs_30 : decode cX5_takeFromSlabs 30 = .ok (.invokevirtual 230, 3) := by decide +kernel
theorem dX5_takeFromSlabs_33 : decode cX5_takeFromSlabs 33 = .ok (.astore_n 2, 1) := by decide +kernel
theorem dX5_takeFromSlabs_34 : decode cX5_takeFromSlabs 34 = .ok (.aload_n 2, 1) := by decide +kernel
theorem dX5_takeFromSlabs_35 : decode cX5_takeFromSlabs 35 = .ok (.ifnonnull 5, 3) := by decide +kernel
theorem dX5_takeFromSlabs_38 : decode cX5_takeFromSlabs 38 = .ok (.iconst (-1), 1) := by decide +kernel
theorem dX5_takeFromSlabs_39 : decode cX5_takeFromSlabs 39 = .ok (.ireturn, 1) := by decide +kernel
theorem dX5_takeFromSlabs_40 : decode cX5_takeFromSlabs 40 = .ok (.aload_n 2, 1) := by decide +kernel
theorem dX5_takeFromSlabs_41 : decode cX5_takeFromSlabs 41 = .ok (.invokevirtual 234, 3) := by decide +kernel
theorem dX5_takeFromSlabs_44 : decode cX5_takeFromSlabs 44 = .ok (.istore_n 3, 1) := by decide +kernel
theorem dX5_takeFromSlabs_45 : decode cX5_takeFromSlabs 45 = .ok (.aload_n 1, 1) := by decide +kernel
theorem dX5_takeFromSlabs_46 : decode cX5_takeFromSlabs 46 = .ok (.aload_n 2, 1) := by decide +kernel
theorem dX5_takeFromSlabs_47 : decode cX5_takeFromSlabs 47 = .ok (.invokevirtual 237, 3) := by decide +kernel
theorem dX5_takeFromSlabs_50 : decode cX5_takeFromSlabs 50 = .ok (.iload_n 3, 1) := by decide +kernel
theorem dX5_takeFromSlabs_51 : decode cX5_takeFromSlabs 51 = .ok (.iconst (-1), 1) := by decide +kernel
theorem dX5_takeFromSlabs_52 : decode cX5_takeFromSlabs 52 = .ok (.if_icmp .ne 7, 3) := by decide +kernel
theorem dX5_takeFromSlabs_55 : decode cX5_takeFromSlabs 55 = .ok (.iconst (-1), 1) := by decide +kernel
