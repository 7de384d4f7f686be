theorem dX5_takeFromSlabs_56 : decode cX5_takeFromSlabs 56 = .ok (.goto 8, 3) := by decide +kernel
theorem dX5_takeFromSlabs_59 : decode cX5_takeFromSlabs 59 = .ok (.aload_n 2, 1) := by decide +kernel
theorem dX5_takeFromSlabs_60 : decode cX5_takeFromSlabs 60 = .ok (.iload_n 3, 1) := by decide +kernel
theorem dX5_takeFromSlabs_61 : decode cX5_takeFromSlabs 61 = .ok (.invokevirtual 159, 3) := by decide +kernel
theorem dX5_takeFromSlabs_64 : decode cX5_takeFromSlabs 64 = .ok (.ireturn, 1) := by decide +kernel
theorem dX5_makeSlab_0 : decode cX5_makeSlab 0 = .ok (.aload_n 0, 1) := by decide +kernel
theorem dX5_makeSlab_1 : decode cX5_makeSlab 1 = .ok (.getfield 12, 3) := by decide +kernel
theorem dX5_makeSlab_4 : decode cX5_makeSlab 4 = .ok (.aload_n 1, 1) := by decide +kernel
theorem dX5_makeSlab_5 : decode cX5_makeSlab 5 = .ok (.getfield 241, 3) := by decide +kernel
theorem dX5_makeSlab_8 : decode cX5_makeSlab 8 = .ok (.invokevirtual 244, 3) := by decide +kernel
theorem dX5_makeSlab_11 : decode cX5_makeSlab 11 = .ok (.istore_n 2, 1) := by decide +kernel
theorem dX5_makeSlab_12 : decode cX5_makeSlab 12 = .ok (.iload_n 2, 1) := by decide +kernel
theorem dX5_makeSlab_13 : decode cX5_makeSlab 13 = .ok (.iconst (-1), 1) := by decide +kernel
theorem dX5_makeSlab_14 : decode cX5_makeSlab 14 = .ok (.if_icmp .ne 20, 3) := by decide +kernel
theorem dX5_makeSlab_17 : decode cX5_makeSlab 17 = .ok (.aload_n 0, 1) := by decide +kernel
theorem dX5_makeSlab_18 : decode cX5_makeSlab 18 = .ok (.invokevirtual 247, 3) := by decide +kernel
theorem dX5_makeSlab_21 : decode cX5_makeSlab 21 = .ok (.pop, 1) := by decide +kernel
theorem dX5_makeSlab_22 : decode cX5_makeSlab 22 = .ok (.aload_n 0, 1) := by decide +kernel
theorem dX5_makeSlab_23 : decode cX5_makeSlab 23 = .ok (.getfield 12, 3) := by decide +kernel
theorem dX5_makeSlab_26 : decode cX5_makeSlab 26 = .ok (.aload_n 1, 1) := by decide +kernel
theorem dX5_makeSlab_27 : decode cX5_makeSlab 27 = .ok (.getfield 241, 3) := by decide +kernel
theorem dX5_makeSlab_30 : decode cX5_makeSlab 30 = .ok (.invokevirtual 244, 3) := by decide +kernel
theorem dX5_makeSlab_33 : decode cX5_makeSlab 33 = .ok (.istore_n 2, 1) := by decide +kernel
theorem dX5_makeSlab_34 : decode cX5_makeSlab 34 = .ok (.iload_n 2, 1) := by decide +kernel
theorem dX5_makeSlab_35 : decode cX5_makeSlab 35 = .ok (.iconst (-1), 1) := by decide +kernel
theorem dX5_makeSlab_36 : decode cX5_makeSlab 36 = .ok (.if_icmp .ne 5, 3) := by decide +kernel
theorem dX5_makeSlab_39 : decode cX5_makeSlab 39 = .ok (.aconst_null, 1) := by decide +kernel
theorem dX5_makeSlab_40 : decode cX5_makeSlab 40 = .ok (.areturn, 1) := by decide +kernel
theorem dX5_makeSlab_41 : decode cX5_makeSlab 41 = .ok (.new 16, 3) := by decide +kernel
theorem dX5_makeSlab_44 : decode cX5_makeSlab 44 = .ok (.dup, 1) := by decide +kernel
theorem dX5_makeSlab_45 : decode cX5_makeSlab 45 = .ok (.aload_n 1, 1) := by decide +kernel
theorem dX5_makeSlab_46 : decode cX5_makeSlab 46 = .ok (.iload_n 2, 1) := by decide +kernel
theorem dX5_makeSlab_47 : decode cX5_makeSlab 47 = .ok (.aload_n 1, 1) := by decide +kernel
theorem dX5_makeSlab_48 : decode cX5_makeSlab 48 = .ok (.getfield 174, 3) := by decide +kernel
theorem dX5_makeSlab_51 : decode cX5_makeSlab 51 = .ok (.invokespecial 250, 3) := by decide +kernel
theorem dX5_makeSlab_54 : decode cX5_makeSlab 54 = .ok (.astore_n 3, 1) := by decide +kernel
theorem dX5_makeSlab_55 : decode cX5_makeSlab 55 = .ok (.aload_n 1, 1) := by decide +kernel
theorem dX5_makeSlab_56 : decode cX5_makeSlab 56 = .ok (.aload_n 1, 1) := by decide +kernel
theorem dX5_makeSlab_57 : decode cX5_makeSlab 57 = .ok (.getfield 174, 3) := by decide +kernel
theorem dX5_makeSlab_60 : decode cX5_makeSlab 60 = .ok (.iconst 1, 1) := by decide +kernel
theorem dX5_makeSlab_61 : decode cX5_makeSlab 61 = .ok (.iadd, 1) := by decide +kernel
theorem dX5_makeSlab_62 : decode cX5_makeSlab 62 = .ok (.aload_n 1, 1) := by decide +kernel
theorem dX5_makeSlab_63 : decode cX5_makeSlab 63 = .ok (.getfield 171, 3) := by decide +kernel
theorem dX5_makeSlab_66 : decode cX5_makeSlab 66 = .ok (.if_icmp .ge 12, 3) := by decide +kernel
theorem dX5_makeSlab_69 : decode cX5_makeSlab 69 = .ok (.aload_n 1, 1) := by decide +kernel
theorem dX5_makeSlab_70 : decode cX5_makeSlab 70 = .ok (.getfield 174, 3) := by decide +kernel
theorem dX5_makeSlab_73 : decode cX5_makeSlab 73 = .ok (.iconst 1, 1) := by decide +kernel
theorem dX5_makeSlab_74 : decode cX5_makeSlab 74 = .ok (.iadd, 1) := by decide +kernel
theorem dX5_makeSlab_75 : decode cX5_makeSlab 75 = .ok (.goto 4, 3) := by decide +kernel
theorem dX5_makeSlab_78 : decode cX5_makeSlab 78 = .ok (.iconst 0, 1) := by decide +kernel
theorem dX5_makeSlab_79 : decode cX5_makeSlab 79 = .ok (.putfield 174, 3) := by decide +kernel
theorem dX5_makeSlab_82 : decode cX5_makeSlab 82 = .ok (.aload_n 1, 1) := by decide +kernel
theorem dX5_makeSlab_83 : decode cX5_makeSlab 83 = .ok (.dup, 1) := by decide +kernel
theorem dX5_makeSlab_84 : decode cX5_makeSlab 84 = .ok (.getfield 177, 3) := by decide +kernel
theorem dX5_makeSlab_87 : decode cX5_makeSlab 87 = .ok (.iconst 1, 1) := by decide +kernel
theorem dX5_makeSlab_88 : decode cX5_makeSlab 88 = .ok (.iadd, 1) := by decide +kernel
theorem dX5_makeSlab_89 : decode cX5_makeSlab 89 = .ok (.putfield 177, 3) := by decide +kernel
theorem dX5_makeSlab_92 : decode cX5_makeSlab 92 = .ok (.aload_n 1, 1) := by decide +kernel
theorem dX5_makeSlab_93 : decode cX5_makeSlab 93 = .ok (.aload_n 3, 1) := by decide +kernel
theorem dX5_makeSlab_94 : decode cX5_makeSlab 94 = .ok (.invokevirtual 237, 3) := by decide +kernel
theorem dX5_makeSlab_97 : decode cX5_makeSlab 97 = .ok (.aload_n 0, 1) := by decide +kernel
theorem dX5_makeSlab_98 : decode cX5_makeSlab 98 = .ok (.aload_n 3, 1) := by decide +kernel
theorem dX5_makeSlab_99 : decode cX5_makeSlab 99 = .ok (.aload_n 3, 1) := by decide +kernel
theorem dX5_makeSlab_100 : decode cX5_makeSlab 100 = .ok (.invokevirtual 253, 3) := by decide +kernel
theorem dX5_makeSlab_103 : decode cX5_makeSlab 103 = .ok (.aload_n 3, 1) := by decide +kernel
theorem dX5_makeSlab_104 : decode cX5_makeSlab 104 = .ok (.areturn, 1) := by decide +kernel
theorem dX5_unload_0 : decode cX5_unload 0 = .ok (.aload_n 1, 1) := by decide +kernel
theorem dX5_unload_1 : decode cX5_unload 1 = .ok (.getfield 207, 3) := by decide +kernel
theorem dX5_unload_4 : decode cX5_unload 4 = .ok (.istore_n 2, 1) := by decide +kernel
theorem dX5_unload_5 : decode cX5_unload 5 = .ok (.iconst 0, 1) := by decide +kernel
theorem dX5_unload_6 : decode cX5_unload 6 = .ok (.istore_n 3, 1) := by decide +kernel
theorem dX5_unload_7 : decode cX5_unload 7 = .ok (.iload_n 3, 1) := by decide +kernel
theorem dX5_unload_8 : decode cX5_unload 8 = .ok (.iload_n 2, 1) := by decide +kernel
theorem dX5_unload_9 : decode cX5_unload 9 = .ok (.if_icmp .ge 17, 3) := by decide +kernel
theorem dX5_unload_12 : decode cX5_unload 12 = .ok (.aload_n 0, 1) := by decide +kernel
theorem dX5_unload_13 : decode cX5_unload 13 = .ok (.aload_n 1, 1) := by decide +kernel
theorem dX5_unload_14 : decode cX5_unload 14 = .ok (.invokevirtual 257, 3) := by decide +kernel
theorem dX5_unload_17 : decode cX5_unload 17 = .ok (.invokevirtual 122, 3) := by decide +kernel
theorem dX5_unload_20 : decode cX5_unload 20 = .ok (.iinc 3 1, 3) := by decide +kernel
theorem dX5_unload_23 : decode cX5_unload 23 = .ok (.goto (-16), 3) := by decide +kernel
theorem dX5_unload_26 : decode cX5_unload 26 = .ok (.iload_n 2, 1) := by decide +kernel
theorem dX5_unload_27 : decode cX5_unload 27 = .ok (.ireturn, 1) := by decide +kernel
theorem dX5_comeBack_0 : decode cX5_comeBack 0 = .ok (.aload_n 0, 1) := by decide +kernel
theorem dX5_comeBack_1 : decode cX5_comeBack 1 = .ok (.iload_n 1, 1) := by decide +kernel
theorem dX5_comeBack_2 : decode cX5_comeBack 2 = .ok (.invokevirtual 87, 3) := by decide +kernel
theorem dX5_comeBack_5 : decode cX5_comeBack 5 = .ok (.astore_n 2, 1) := by decide +kernel
theorem dX5_comeBack_6 : decode cX5_comeBack 6 = .ok (.aload_n 2, 1) := by decide +kernel
theorem dX5_comeBack_7 : decode cX5_comeBack 7 = .ok (.ifnull 20, 3) := by decide +kernel
theorem dX5_comeBack_10 : decode cX5_comeBack 10 = .ok (.aload_n 2, 1) := by decide +kernel
theorem dX5_comeBack_11 : decode cX5_comeBack 11 = .ok (.aload_n 2, 1) := by decide +kernel
theorem dX5_comeBack_12 : decode cX5_comeBack 12 = .ok (.iload_n 1, 1) := by decide +kernel
theorem dX5_comeBack_13 : decode cX5_comeBack 13 = .ok (.invokevirtual 94, 3) := by decide +kernel
theorem dX5_comeBack_16 : decode cX5_comeBack 16 = .ok (.invokevirtual 260, 3) := by decide +kernel
theorem dX5_comeBack_19 : decode cX5_comeBack 19 = .ok (.aload_n 2, 1) := by decide +kernel
theorem dX5_comeBack_20 : decode cX5_comeBack 20 = .ok (.getfield 64, 3) := by decide +kernel
theorem dX5_comeBack_23 : decode cX5_comeBack 23 = .ok (.aload_n 2, 1) := by decide +kernel
theorem dX5_comeBack_24 : decode cX5_comeBack 24 = .ok (.invokevirtual 237, 3) := by decide +kernel
theorem dX5_comeBack_27 : decode cX5_comeBack 27 = .ok (.return_, 1) := by decide +kernel
theorem dX5_giveBack_0 : decode cX5_giveBack 0 = .ok (.aload_n 1, 1) := by decide +kernel
theorem dX5_giveBack_1 : decode cX5_giveBack 1 = .ok (.getfield 64, 3) := by decide +kernel
theorem dX5_giveBack_4 : decode cX5_giveBack 4 = .ok (.aload_n 1, 1) := by decide +kernel
theorem dX5_giveBack_5 : decode cX5_giveBack 5 = .ok (.invokevirtual 263, 3) := by decide +kernel
theorem dX5_giveBack_8 : decode cX5_giveBack 8 = .ok (.aload_n 1, 1) := by decide +kernel
theorem dX5_giveBack_9 : decode cX5_giveBack 9 = .ok (.getfield 64, 3) := by decide +kernel
theorem dX5_giveBack_12 : decode cX5_giveBack 12 = .ok (.dup, 1) := by decide +kernel
theorem dX5_giveBack_13 : decode cX5_giveBack 13 = .ok (.getfield 177, 3) := by decide +kernel
theorem dX5_giveBack_16 : decode cX5_giveBack 16 = .ok (.iconst 1, 1) := by decide +kernel
theorem dX5_giveBack_17 : decode cX5_giveBack 17 = .ok (.isub, 1) := by decide +kernel
theorem dX5_giveBack_18 : decode cX5_giveBack 18 = .ok (.putfield 177, 3) := by decide +kernel
theorem dX5_giveBack_21 : decode cX5_giveBack 21 = .ok (.aload_n 0, 1) := by decide +kernel
theorem dX5_giveBack_22 : decode cX5_giveBack 22 = .ok (.aload_n 1, 1) := by decide +kernel
theorem dX5_giveBack_23 : decode cX5_giveBack 23 = .ok (.aconst_null, 1) := by decide +kernel
theorem dX5_giveBack_24 : decode cX5_giveBack 24 = .ok (.invokevirtual 253, 3) := by decide +kernel
theorem dX5_giveBack_27 : decode cX5_giveBack 27 = .ok (.aload_n 0, 1) := by decide +kernel
theorem dX5_giveBack_28 : decode cX5_giveBack 28 = .ok (.getfield 12, 3) := by decide +kernel
theorem dX5_giveBack_31 : decode cX5_giveBack 31 = .ok (.aload_n 1, 1) := by decide +kernel
theorem dX5_giveBack_32 : decode cX5_giveBack 32 = .ok (.getfield 266, 3) := by decide +kernel
theorem dX5_giveBack_35 : decode cX5_giveBack 35 = .ok (.aload_n 1, 1) := by decide +kernel
theorem dX5_giveBack_36 : decode cX5_giveBack 36 = .ok (.getfield 64, 3) := by decide +kernel
theorem dX5_giveBack_39 : decode cX5_giveBack 39 = .ok (.getfield 241, 3) := by decide +kernel
theorem dX5_giveBack_42 : decode cX5_giveBack 42 = .ok (.invokevirtual 269, 3) := by decide +kernel
theorem dX5_giveBack_45 : decode cX5_giveBack 45 = .ok (.iconst 1, 1) := by decide +kernel
theorem dX5_giveBack_46 : decode cX5_giveBack 46 = .ok (.aload_n 1, 1) := by decide +kernel
theorem dX5_giveBack_47 : decode cX5_giveBack 47 = .ok (.getfield 64, 3) := by decide +kernel
theorem dX5_giveBack_50 : decode cX5_giveBack 50 = .ok (.getfield 241, 3) := by decide +kernel
theorem dX5_giveBack_53 : decode cX5_giveBack 53 = .ok (.ishl, 1) := by decide +kernel
theorem dX5_giveBack_54 : decode cX5_giveBack 54 = .ok (.ireturn, 1) := by decide +kernel
theorem dX5_setPages_0 : decode cX5_setPages 0 = .ok (.aload_n 1, 1) := by decide +kernel
theorem dX5_setPages_1 : decode cX5_setPages 1 = .ok (.getfield 266, 3) := by decide +kernel
theorem dX5_setPages_4 : decode cX5_setPages 4 = .ok (.iconst 1, 1) := by decide +kernel
theorem dX5_setPages_5 : decode cX5_setPages 5 = .ok (.aload_n 1, 1) := by decide +kernel
theorem dX5_setPages_6 : decode cX5_setPages 6 = .ok (.getfield 64, 3) := by decide +kernel
theorem dX5_setPages_9 : decode cX5_setPages 9 = .ok (.getfield 241, 3) := by decide +kernel
theorem dX5_setPages_12 : decode cX5_setPages 12 = .ok (.ishl, 1) := by decide +kernel
theorem dX5_setPages_13 : decode cX5_setPages 13 = .ok (.iadd, 1) := by decide +kernel
theorem dX5_setPages_14 : decode cX5_setPages 14 = .ok (.sipush 256, 3) := by decide +kernel
theorem dX5_setPages_17 : decode cX5_setPages 17 = .ok (.invokestatic 271, 3) := by decide +kernel
theorem dX5_setPages_20 : decode cX5_setPages 20 = .ok (.istore_n 3, 1) := by decide +kernel
theorem dX5_setPages_21 : decode cX5_setPages 21 = .ok (.aload_n 1, 1) := by decide +kernel
theorem dX5_setPages_22 : decode cX5_setPages 22 = .ok (.getfield 266, 3) := by decide +kernel
theorem dX5_setPages_25 : decode cX5_setPages 25 = .ok (.istore 4, 2) := by decide +kernel
theorem dX5_setPages_27 : decode cX5_setPages 27 = .ok (.iload 4, 2) := by decide +kernel
theorem dX5_setPages_29 : decode cX5_setPages 29 = .ok (.iload_n 3, 1) := by decide +kernel
theorem dX5_setPages_30 : decode cX5_setPages 30 = .ok (.if_icmp .ge 17, 3) := by decide +kernel
theorem dX5_setPages_33 : decode cX5_setPages 33 = .ok (.aload_n 0, 1) := by decide +kernel
theorem dX5_setPages_34 : decode cX5_setPages 34 = .ok (.getfield 18, 3) := by decide +kernel
theorem dX5_setPages_37 : decode cX5_setPages 37 = .ok (.iload 4, 2) := by decide +kernel
theorem dX5_setPages_39 : decode cX5_setPages 39 = .ok (.aload_n 2, 1) := by decide +kernel
theorem dX5_setPages_40 : decode cX5_setPages 40 = .ok (.aastore, 1) := by decide +kernel
theorem dX5_setPages_41 : decode cX5_setPages 41 = .ok (.iinc 4 1, 3) := by decide +kernel
theorem dX5_setPages_44 : decode cX5_setPages 44 = .ok (.goto (-17), 3) := by decide +kernel
theorem dX5_setPages_47 : decode cX5_setPages 47 = .ok (.return_, 1) := by decide +kernel
theorem dX6_init_0 : decode cX6_init 0 = .ok (.aload_n 0, 1) := by decide +kernel
theorem dX6_init_1 : decode cX6_init 1 = .ok (.invokespecial 1, 3) := by decide +kernel
theorem dX6_init_4 : decode cX6_init 4 = .ok (.aload_n 0, 1) := by decide +kernel
theorem dX6_init_5 : decode cX6_init 5 = .ok (.sipush 256, 3) := by decide +kernel
theorem dX6_init_8 : decode cX6_init 8 = .ok (.newarray .int, 2) := by decide +kernel
theorem dX6_init_10 : decode cX6_init 10 = .ok (.putfield 7, 3) := by decide +kernel
theorem dX6_init_13 : decode cX6_init 13 = .ok (.aload_n 0, 1) := by decide +kernel
theorem dX6_init_14 : decode cX6_init 14 = .ok (.sipush 256, 3) := by decide +kernel
theorem dX6_init_17 : decode cX6_init 17 = .ok (.newarray .int, 2) := by decide +kernel
theorem dX6_init_19 : decode cX6_init 19 = .ok (.putfield 13, 3) := by decide +kernel
theorem dX6_init_22 : decode cX6_init 22 = .ok (.aload_n 0, 1) := by decide +kernel
theorem dX6_init_23 : decode cX6_init 23 = .ok (.bipush 8, 2) := by decide +kernel
theorem dX6_init_25 : decode cX6_init 25 = .ok (.newarray .boolean, 2) := by decide +kernel
theorem dX6_init_27 : decode cX6_init 27 = .ok (.putfield 16, 3) := by decide +kernel
theorem dX6_init_30 : decode cX6_init 30 = .ok (.aload_n 0, 1) := by decide +kernel
theorem dX6_init_31 : decode cX6_init 31 = .ok (.bipush 8, 2) := by decide +kernel
theorem dX6_init_33 : decode cX6_init 33 = .ok (.newarray .int, 2) := by decide +kernel
theorem dX6_init_35 : decode cX6_init 35 = .ok (.putfield 20, 3) := by decide +kernel
theorem dX6_init_38 : decode cX6_init 38 = .ok (.aload_n 0, 1) := by decide +kernel
theorem dX6_init_39 : decode cX6_init 39 = .ok (.bipush 8, 2) := by decide +kernel
theorem dX6_init_41 : decode cX6_init 41 = .ok (.newarray .int, 2) := by decide +kernel
theorem dX6_init_43 : decode cX6_init 43 = .ok (.putfield 23, 3) := by decide +kernel
theorem dX6_init_46 : decode cX6_init 46 = .ok (.aload_n 0, 1) := by decide +kernel
theorem dX6_init_47 : decode cX6_init 47 = .ok (.bipush 8, 2) := by decide +kernel
theorem dX6_init_49 : decode cX6_init 49 = .ok (.newarray .int, 2) := by decide +kernel
theorem dX6_init_51 : decode cX6_init 51 = .ok (.putfield 26, 3) := by decide +kernel
theorem dX6_init_54 : decode cX6_init 54 = .ok (.aload_n 0, 1) := by decide +kernel
theorem dX6_init_55 : decode cX6_init 55 = .ok (.bipush 8, 2) := by decide +kernel
theorem dX6_init_57 : decode cX6_init 57 = .ok (.newarray .int, 2) := by decide +kernel
theorem dX6_init_59 : decode cX6_init 59 = .ok (.putfield 29, 3) := by decide +kernel
theorem dX6_init_62 : decode cX6_init 62 = .ok (.aload_n 0, 1) := by decide +kernel
theorem dX6_init_63 : decode cX6_init 63 = .ok (.bipush 8, 2) := by decide +kernel
theorem dX6_init_65 : decode cX6_init 65 = .ok (.newarray .int, 2) := by decide +kernel
theorem dX6_init_67 : decode cX6_init 67 = .ok (.putfield 32, 3) := by decide +kernel
theorem dX6_init_70 : decode cX6_init 70 = .ok (.aload_n 0, 1) := by decide +kernel
theorem dX6_init_71 : decode cX6_init 71 = .ok (.bipush 8, 2) := by decide +kernel
theorem dX6_init_73 : decode cX6_init 73 = .ok (.newarray .int, 2) := by decide +kernel
theorem dX6_init_75 : decode cX6_init 75 = .ok (.putfield 35, 3) := by decide +kernel
theorem dX6_init_78 : decode cX6_init 78 = .ok (.aload_n 0, 1) := by decide +kernel
theorem dX6_init_79 : decode cX6_init 79 = .ok (.bipush 8, 2) := by decide +kernel
theorem dX6_init_81 : decode cX6_init 81 = .ok (.newarray .int, 2) := by decide +kernel
theorem dX6_init_83 : decode cX6_init 83 = .ok (.putfield 38, 3) := by decide +kernel
theorem dX6_init_86 : decode cX6_init 86 = .ok (.aload_n 0, 1) := by decide +kernel
theorem dX6_init_87 : decode cX6_init 87 = .ok (.bipush 8, 2) := by decide +kernel
theorem dX6_init_89 : decode cX6_init 89 = .ok (.newarray .int, 2) := by decide +kernel
theorem dX6_init_91 : decode cX6_init 91 = .ok (.putfield 41, 3) := by decide +kernel
theorem dX6_init_94 : decode cX6_init 94 = .ok (.aload_n 0, 1) := by decide +kernel
theorem dX6_init_95 : decode cX6_init 95 = .ok (.bipush 8, 2) := by decide +kernel
theorem dX6_init_97 : decode cX6_init 97 = .ok (.newarray .int, 2) := by decide +kernel
theorem dX6_init_99 : decode cX6_init 99 = .ok (.putfield 44, 3) := by decide +kernel
theorem dX6_init_102 : decode cX6_init 102 = .ok (.aload_n 0, 1) := by decide +kernel
theorem dX6_init_103 : decode cX6_init 103 = .ok (.sipush 256, 3) := by decide +kernel
theorem dX6_init_106 : decode cX6_init 106 = .ok (.newarray .int, 2) := by decide +kernel
theorem dX6_init_108 : decode cX6_init 108 = .ok (.putfield 47, 3) := by decide +kernel
theorem dX6_init_111 : decode cX6_init 111 = .ok (.aload_n 0, 1) := by decide +kernel
theorem dX6_init_112 : decode cX6_init 112 = .ok (.sipush 256, 3) := by decide +kernel
theorem dX6_init_115 : decode cX6_init 115 = .ok (.newarray .int, 2) := by decide +kernel
theorem dX6_init_117 : decode cX6_init 117 = .ok (.putfield 50, 3) := by decide +kernel
theorem dX6_init_120 : decode cX6_init 120 = .ok (.aload_n 0, 1) := by decide +kernel
theorem dX6_init_121 : decode cX6_init 121 = .ok (.sipush 256, 3) := by decide +kernel
theorem dX6_init_124 : decode cX6_init 124 = .ok (.newarray .int, 2) := by decide +kernel
theorem dX6_init_126 : decode cX6_init 126 = .ok (.putfield 53, 3) := by decide +kernel
theorem dX6_init_129 : decode cX6_init 129 = .ok (.aload_n 0, 1) := by decide +kernel
theorem dX6_init_130 : decode cX6_init 130 = .ok (.sipush 256, 3) := by decide +kernel
theorem dX6_init_133 : decode cX6_init 133 = .ok (.newarray .int, 2) := by decide +kernel
theorem dX6_init_135 : decode cX6_init 135 = .ok (.putfield 56, 3) := by decide +kernel
theorem dX6_init_138 : decode cX6_init 138 = .ok (.aload_n 0, 1) := by decide +kernel
theorem dX6_init_139 : decode cX6_init 139 = .ok (.ldc 59, 2) := by decide +kernel
theorem dX6_init_141 : decode cX6_init 141 = .ok (.newarray .int, 2) := by decide +kernel
theorem dX6_init_143 : decode cX6_init 143 = .ok (.putfield 60, 3) := by decide +kernel
theorem dX6_init_146 : decode cX6_init 146 = .ok (.aload_n 0, 1) := by decide +kernel
theorem dX6_init_147 : decode cX6_init 147 = .ok (.ldc 59, 2) := by decide +kernel
theorem dX6_init_149 : decode cX6_init 149 = .ok (.newarray .int, 2) := by decide +kernel
theorem dX6_init_151 : decode cX6_init 151 = .ok (.putfield 63, 3) := by decide +kernel
theorem dX6_init_154 : decode cX6_init 154 = .ok (.aload_n 0, 1) := by decide +kernel
theorem dX6_init_155 : decode cX6_init 155 = .ok (.ldc 59, 2) := by decide +kernel
theorem dX6_init_157 : decode cX6_init 157 = .ok (.newarray .int, 2) := by decide +kernel
theorem dX6_init_159 : decode cX6_init 159 = .ok (.putfield 66, 3) := by decide +kernel
theorem dX6_init_162 : decode cX6_init 162 = .ok (.aload_n 0, 1) := by decide +kernel
theorem dX6_init_163 : decode cX6_init 163 = .ok (.bipush 24, 2) := by decide +kernel
theorem dX6_init_165 : decode cX6_init 165 = .ok (.newarray .int, 2) := by decide +kernel
theorem dX6_init_167 : decode cX6_init 167 = .ok (.putfield 69, 3) := by decide +kernel
theorem dX6_init_170 : decode cX6_init 170 = .ok (.aload_n 0, 1) := by decide +kernel
theorem dX6_init_171 : decode cX6_init 171 = .ok (.sipush 6144, 3) := by decide +kernel
theorem dX6_init_174 : decode cX6_init 174 = .ok (.newarray .int, 2) := by decide +kernel
theorem dX6_init_176 : decode cX6_init 176 = .ok (.putfield 72, 3) := by decide +kernel
theorem dX6_init_179 : decode cX6_init 179 = .ok (.aload_n 0, 1) := by decide +kernel
theorem dX6_init_180 : decode cX6_init 180 = .ok (.bipush 64, 2) := by decide +kernel
theorem dX6_init_182 : decode cX6_init 182 = .ok (.newarray .int, 2) := by decide +kernel
theorem dX6_init_184 : decode cX6_init 184 = .ok (.putfield 75, 3) := by decide +kernel
theorem dX6_init_187 : decode cX6_init 187 = .ok (.aload_n 0, 1) := by decide +kernel
theorem dX6_init_188 : decode cX6_init 188 = .ok (.sipush 256, 3) := by decide +kernel
theorem dX6_init_191 : decode cX6_init 191 = .ok (.newarray .int, 2) := by decide +kernel
theorem dX6_init_193 : decode cX6_init 193 = .ok (.putfield 78, 3) := by decide +kernel
theorem dX6_init_196 : decode cX6_init 196 = .ok (.aload_n 0, 1) := by decide +kernel
theorem dX6_init_197 : decode cX6_init 197 = .ok (.bipush 8, 2) := by decide +kernel
theorem dX6_init_199 : decode cX6_init 199 = .ok (.newarray .int, 2) := by decide +kernel
theorem dX6_init_201 : decode cX6_init 201 = .ok (.putfield 81, 3) := by decide +kernel
theorem dX6_init_204 : decode cX6_init 204 = .ok (.aload_n 0, 1) := by decide +kernel
theorem dX6_init_205 : decode cX6_init 205 = .ok (.bipush 96, 2) := by decide +kernel
theorem dX6_init_207 : decode cX6_init 207 = .ok (.newarray .int, 2) := by decide +kernel
theorem dX6_init_209 : decode cX6_init 209 = .ok (.putfield 84, 3) := by decide +kernel
theorem dX6_init_212 : decode cX6_init 212 = .ok (.iconst 0, 1) := by decide +kernel
theorem dX6_init_213 : decode cX6_init 213 = .ok (.istore_n 1, 1) := by decide +kernel
theorem dX6_init_214 : decode cX6_init 214 = .ok (.iload_n 1, 1) := by decide +kernel
theorem dX6_init_215 : decode cX6_init 215 = .ok (.sipush 256, 3) := by decide +kernel
theorem dX6_init_218 : decode cX6_init 218 = .ok (.if_icmp .ge 35, 3) := by decide +kernel
theorem dX6_init_221 : decode cX6_init 221 = .ok (.aload_n 0, 1) := by decide +kernel
theorem dX6_init_222 : decode cX6_init 222 = .ok (.getfield 7, 3) := by decide +kernel
theorem dX6_init_225 : decode cX6_init 225 = .ok (.iload_n 1, 1) := by decide +kernel
theorem dX6_init_226 : decode cX6_init 226 = .ok (.iload_n 1, 1) := by decide +kernel
theorem dX6_init_227 : decode cX6_init 227 = .ok (.bipush 64, 2) := by decide +kernel
theorem dX6_init_229 : decode cX6_init 229 = .ok (.irem, 1) := by decide +kernel
theorem dX6_init_230 : decode cX6_init 230 = .ok (.ifCond .ne 8, 3) := by decide +kernel
theorem dX6_init_233 : decode cX6_init 233 = .ok (.bipush 6, 2) := by decide +kernel
theorem dX6_init_235 : decode cX6_init 235 = .ok (.goto 4, 3) := by decide +kernel
theorem dX6_init_238 : decode cX6_init 238 = .ok (.iconst (-1), 1) := by decide +kernel
theorem dX6_init_239 : decode cX6_init 239 = .ok (.iastore, 1) := by decide +kernel
theorem dX6_init_240 : decode cX6_init 240 = .ok (.aload_n 0, 1) := by decide +kernel
theorem dX6_init_241 : decode cX6_init 241 = .ok (.getfield 13, 3) := by decide +kernel
theorem dX6_init_244 : decode cX6_init 244 = .ok (.iload_n 1, 1) := by decide +kernel
theorem dX6_init_245 : decode cX6_init 245 = .ok (.iconst (-1), 1) := by decide +kernel
theorem dX6_init_246 : decode cX6_init 246 = .ok (.iastore, 1) := by decide +kernel
theorem dX6_init_247 : decode cX6_init 247 = .ok (.iinc 1 1, 3) := by decide +kernel
theorem dX6_init_250 : decode cX6_init 250 = .ok (.goto (-36), 3) := by decide +kernel
theorem dX6_init_253 : decode cX6_init 253 = .ok (.return_, 1) := by decide +kernel
theorem dX6_thrown_0 : decode cX6_thrown 0 = .ok (.aload_n 0, 1) := by decide +kernel
theorem dX6_thrown_1 : decode cX6_thrown 1 = .ok (.getfield 87, 3) := by decide +kernel
theorem dX6_thrown_4 : decode cX6_thrown 4 = .ok (.ireturn, 1) := by decide +kernel
theorem dX6_refused_0 : decode cX6_refused 0 = .ok (.aload_n 0, 1) := by decide +kernel
theorem dX6_refused_1 : decode cX6_refused 1 = .ok (.iload_n 1, 1) := by decide +kernel
theorem dX6_refused_2 : decode cX6_refused 2 = .ok (.putfield 87, 3) := by decide +kernel
theorem dX6_refused_5 : decode cX6_refused 5 = .ok (.iload_n 1, 1) := by decide +kernel
theorem dX6_refused_6 : decode cX6_refused 6 = .ok (.ifCond .le 7, 3) := by decide +kernel
theorem dX6_refused_9 : decode cX6_refused 9 = .ok (.iconst 1, 1) := by decide +kernel
theorem dX6_refused_10 : decode cX6_refused 10 = .ok (.goto 4, 3) := by decide +kernel
theorem dX6_refused_13 : decode cX6_refused 13 = .ok (.iconst 0, 1) := by decide +kernel
theorem dX6_refused_14 : decode cX6_refused 14 = .ok (.ireturn, 1) := by decide +kernel
theorem dX6_isIn_0 : decode cX6_isIn 0 = .ok (.iload_n 0, 1) := by decide +kernel
theorem dX6_isIn_1 : decode cX6_isIn 1 = .ok (.iload_n 1, 1) := by decide +kernel
theorem dX6_isIn_2 : decode cX6_isIn 2 = .ok (.if_icmp .lt 12, 3) := by decide +kernel
theorem dX6_isIn_5 : decode cX6_isIn 5 = .ok (.iload_n 0, 1) := by decide +kernel
theorem dX6_isIn_6 : decode cX6_isIn 6 = .ok (.iload_n 2, 1) := by decide +kernel
theorem dX6_isIn_7 : decode cX6_isIn 7 = .ok (.if_icmp .gt 7, 3) := by decide +kernel
theorem dX6_isIn_10 : decode cX6_isIn 10 = .ok (.iconst 1, 1) := by decide +kernel
theorem dX6_isIn_11 : decode cX6_isIn 11 = .ok (.goto 4, 3) := by decide +kernel
theorem dX6_isIn_14 : decode cX6_isIn 14 = .ok (.iconst 0, 1) := by decide +kernel
theorem dX6_isIn_15 : decode cX6_isIn 15 = .ok (.ireturn, 1) := by decide +kernel
theorem dX6_isCache_0 : decode cX6_isCache 0 = .ok (.iload_n 1, 1) := by decide +kernel
theorem dX6_isCache_1 : decode cX6_isCache 1 = .ok (.iconst 0, 1) := by decide +kernel
theorem dX6_isCache_2 : decode cX6_isCache 2 = .ok (.aload_n 0, 1) := by decide +kernel
theorem dX6_isCache_3 : decode cX6_isCache 3 = .ok (.getfield 91, 3) := by decide +kernel
theorem dX6_isCache_6 : decode cX6_isCache 6 = .ok (.iconst 1, 1) := by decide +kernel
theorem dX6_isCache_7 : decode cX6_isCache 7 = .ok (.isub, 1) := by decide +kernel
theorem dX6_isCache_8 : decode cX6_isCache 8 = .ok (.invokestatic 94, 3) := by decide +kernel
theorem dX6_isCache_11 : decode cX6_isCache 11 = .ok (.ifCond .eq 16, 3) := by decide +kernel
theorem dX6_isCache_14 : decode cX6_isCache 14 = .ok (.aload_n 0, 1) := by decide +kernel
theorem dX6_isCache_15 : decode cX6_isCache 15 = .ok (.getfield 16, 3) := by decide +kernel
theorem dX6_isCache_18 : decode cX6_isCache 18 = .ok (.iload_n 1, 1) := by decide +kernel
theorem dX6_isCache_19 : decode cX6_isCache 19 = .ok (.baload, 1) := by decide +kernel
theorem dX6_isCache_20 : decode cX6_isCache 20 = .ok (.ifCond .ne 7, 3) := by decide +kernel
theorem dX6_isCache_23 : decode cX6_isCache 23 = .ok (.iconst 1, 1) := by decide +kernel
theorem dX6_isCache_24 : decode cX6_isCache 24 = .ok (.goto 4, 3) := by decide +kernel
theorem dX6_isCache_27 : decode cX6_isCache 27 = .ok (.iconst 0, 1) := by decide +kernel
theorem dX6_isCache_28 : decode cX6_isCache 28 = .ok (.ireturn, 1) := by decide +kernel
theorem dX6_takeBlock_0 : decode cX6_takeBlock 0 = .ok (.iload_n 1, 1) := by decide +kernel
theorem dX6_takeBlock_1 : decode cX6_takeBlock 1 = .ok (.istore_n 2, 1) := by decide +kernel
theorem dX6_takeBlock_2 : decode cX6_takeBlock 2 = .ok (.iload_n 2, 1) := by decide +kernel
theorem dX6_takeBlock_3 : decode cX6_takeBlock 3 = .ok (.bipush 6, 2) := by decide +kernel
theorem dX6_takeBlock_5 : decode cX6_takeBlock 5 = .ok (.if_icmp .gt 75, 3) := by decide +kernel
theorem dX6_takeBlock_8 : decode cX6_takeBlock 8 = .ok (.iconst 0, 1) := by decide +kernel
theorem dX6_takeBlock_9 : decode cX6_takeBlock 9 = .ok (.istore_n 3, 1) := by decide +kernel
theorem dX6_takeBlock_10 : decode cX6_takeBlock 10 = .ok (.iload_n 3, 1) := by decide +kernel
theorem dX6_takeBlock_11 : decode cX6_takeBlock 11 = .ok (.sipush 256, 3) := by decide +kernel
theorem dX6_takeBlock_14 : decode cX6_takeBlock 14 = .ok (.if_icmp .ge 60, 3) := by decide +kernel
theorem dX6_takeBlock_17 : decode cX6_takeBlock 17 = .ok (.aload_n 0, 1) := by decide +kernel
theorem dX6_takeBlock_18 : decode cX6_takeBlock 18 = .ok (.getfield 7, 3) := by decide +kernel
theorem dX6_takeBlock_21 : decode cX6_takeBlock 21 = .ok (.iload_n 3, 1) := by decide +kernel
theorem dX6_takeBlock_22 : decode cX6_takeBlock 22 = .ok (.iaload, 1) := by decide +kernel
theorem dX6_takeBlock_23 : decode cX6_takeBlock 23 = .ok (.iload_n 2, 1) := by decide +kernel
theorem dX6_takeBlock_24 : decode cX6_takeBlock 24 = .ok (.if_icmp .ne 44, 3) := by decide +kernel
theorem dX6_takeBlock_27 : decode cX6_takeBlock 27 = .ok (.aload_n 0, 1) := by decide +kernel
theorem dX6_takeBlock_28 : decode cX6_takeBlock 28 = .ok (.getfield 7, 3) := by decide +kernel
theorem dX6_takeBlock_31 : decode cX6_takeBlock 31 = .ok (.iload_n 3, 1) := by decide +kernel
theorem dX6_takeBlock_32 : decode cX6_takeBlock 32 = .ok (.iconst (-1), 1) := by decide +kernel
theorem dX6_takeBlock_33 : decode cX6_takeBlock 33 = .ok (.iastore, 1) := by decide +kernel
theorem dX6_takeBlock_34 : decode cX6_takeBlock 34 = .ok (.iload_n 2, 1) := by decide +kernel
theorem dX6_takeBlock_35 : decode cX6_takeBlock 35 = .ok (.istore 4, 2) := by decide +kernel
theorem dX6_takeBlock_37 : decode cX6_takeBlock 37 = .ok (.iload 4, 2) := by decide +kernel
theorem dX6_takeBlock_39 : decode cX6_takeBlock 39 = .ok (.iload_n 1, 1) := by decide +kernel
theorem dX6_takeBlock_40 : decode cX6_takeBlock 40 = .ok (.if_icmp .le 26, 3) := by decide +kernel
theorem dX6_takeBlock_43 : decode cX6_takeBlock 43 = .ok (.aload_n 0, 1) := by decide +kernel
theorem dX6_takeBlock_44 : decode cX6_takeBlock 44 = .ok (.getfield 7, 3) := by decide +kernel
theorem dX6_takeBlock_47 : decode cX6_takeBlock 47 = .ok (.iload_n 3, 1) := by decide +kernel
theorem dX6_takeBlock_48 : decode cX6_takeBlock 48 = .ok (.iconst 1, 1) := by decide +kernel
theorem dX6_takeBlock_49 : decode cX6_takeBlock 49 = .ok (.iload 4, 2) := by decide +kernel
theorem dX6_takeBlock_51 : decode cX6_takeBlock 51 = .ok (.iconst 1, 1) := by decide +kernel
theorem dX6_takeBlock_52 : decode cX6_takeBlock 52 = .ok (.isub, 1) := by decide +kernel
theorem dX6_takeBlock_53 : decode cX6_takeBlock 53 = .ok (.ishl, 1) := by decide +kernel
theorem dX6_takeBlock_54 : decode cX6_takeBlock 54 = .ok (.iadd, 1) := by decide +kernel
theorem dX6_takeBlock_55 : decode cX6_takeBlock 55 = .ok (.iload 4, 2) := by decide +kernel
theorem dX6_takeBlock_57 : decode cX6_takeBlock 57 = .ok (.iconst 1, 1) := by decide +kernel
theorem dX6_takeBlock_58 : decode cX6_takeBlock 58 = .ok (.isub, 1) := by decide +kernel
theorem dX6_takeBlock_59 : decode cX6_takeBlock 59 = .ok (.iastore, 1) := by decide +kernel
theorem dX6_takeBlock_60 : decode cX6_takeBlock 60 = .ok (.iinc 4 (-1), 3) := by decide +kernel
theorem dX6_takeBlock_63 : decode cX6_takeBlock 63 = .ok (.goto (-26), 3) := by decide +kernel
theorem dX6_takeBlock_66 : decode cX6_takeBlock 66 = .ok (.iload_n 3, 1) := by decide +kernel
theorem dX6_takeBlock_67 : decode cX6_takeBlock 67 = .ok (.ireturn, 1) := by decide +kernel
theorem dX6_takeBlock_68 : decode cX6_takeBlock 68 = .ok (.iinc 3 1, 3) := by decide +kernel
theorem dX6_takeBlock_71 : decode cX6_takeBlock 71 = .ok (.goto (-61), 3) := by decide +kernel
theorem dX6_takeBlock_74 : decode cX6_takeBlock 74 = .ok (.iinc 2 1, 3) := by decide +kernel
theorem dX6_takeBlock_77 : decode cX6_takeBlock 77 = .ok (.goto (-75), 3) := by decide +kernel
theorem dX6_takeBlock_80 : decode cX6_takeBlock 80 = .ok (.iconst (-1), 1) := by decide +kernel
theorem dX6_takeBlock_81 : decode cX6_takeBlock 81 = .ok (.ireturn, 1) := by decide +kernel
theorem dX6_giveBlock_0 : decode cX6_giveBlock 0 = .ok (.iload_n 1, 1) := by decide +kernel
theorem dX6_giveBlock_1 : decode cX6_giveBlock 1 = .ok (.istore_n 3, 1) := by decide +kernel
theorem dX6_giveBlock_2 : decode cX6_giveBlock 2 = .ok (.iload_n 2, 1) := by decide +kernel
theorem dX6_giveBlock_3 : decode cX6_giveBlock 3 = .ok (.istore 4, 2) := by decide +kernel
theorem dX6_giveBlock_5 : decode cX6_giveBlock 5 = .ok (.iload 4, 2) := by decide +kernel
theorem dX6_giveBlock_7 : decode cX6_giveBlock 7 = .ok (.bipush 6, 2) := by decide +kernel
theorem dX6_giveBlock_9 : decode cX6_giveBlock 9 = .ok (.if_icmp .ge 46, 3) := by decide +kernel
theorem dX6_giveBlock_12 : decode cX6_giveBlock 12 = .ok (.aload_n 0, 1) := by decide +kernel
theorem dX6_giveBlock_13 : decode cX6_giveBlock 13 = .ok (.getfield 7, 3) := by decide +kernel
theorem dX6_giveBlock_16 : decode cX6_giveBlock 16 = .ok (.iload_n 3, 1) := by decide +kernel
theorem dX6_giveBlock_17 : decode cX6_giveBlock 17 = .ok (.iconst 1, 1) := by decide +kernel
theorem dX6_giveBlock_18 : decode cX6_giveBlock 18 = .ok (.iload 4, 2) := by decide +kernel
theorem dX6_giveBlock_20 : decode cX6_giveBlock 20 = .ok (.ishl, 1) := by decide +kernel
theorem dX6_giveBlock_21 : decode cX6_giveBlock 21 = .ok (.ixor, 1) := by decide +kernel
theorem dX6_giveBlock_22 : decode cX6_giveBlock 22 = .ok (.iaload, 1) := by decide +kernel
theorem dX6_giveBlock_23 : decode cX6_giveBlock 23 = .ok (.iload 4, 2) := by decide +kernel
theorem dX6_giveBlock_25 : decode cX6_giveBlock 25 = .ok (.if_icmp .ne 30, 3) := by decide +kernel
theorem dX6_giveBlock_28 : decode cX6_giveBlock 28 = .ok (.aload_n 0, 1) := by decide +kernel
theorem dX6_giveBlock_29 : decode cX6_giveBlock 29 = .ok (.getfield 7, 3) := by decide +kernel
theorem dX6_giveBlock_32 : decode cX6_giveBlock 32 = .ok (.iload_n 3, 1) := by decide +kernel
theorem dX6_giveBlock_33 : decode cX6_giveBlock 33 = .ok (.iconst 1, 1) := by decide +kernel
theorem dX6_giveBlock_34 : decode cX6_giveBlock 34 = .ok (.iload 4, 2) := by decide +kernel
theorem dX6_giveBlock_36 : decode cX6_giveBlock 36 = .ok (.ishl, 1) := by decide +kernel
theorem dX6_giveBlock_37 : decode cX6_giveBlock 37 = .ok (.ixor, 1) := by decide +kernel
theorem dX6_giveBlock_38 : decode cX6_giveBlock 38 = .ok (.iconst (-1), 1) := by decide +kernel
theorem dX6_giveBlock_39 : decode cX6_giveBlock 39 = .ok (.iastore, 1) := by decide +kernel
theorem dX6_giveBlock_40 : decode cX6_giveBlock 40 = .ok (.iload_n 3, 1) := by decide +kernel
theorem dX6_giveBlock_41 : decode cX6_giveBlock 41 = .ok (.iconst 1, 1) := by decide +kernel
theorem dX6_giveBlock_42 : decode cX6_giveBlock 42 = .ok (.iload 4, 2) := by decide +kernel
theorem dX6_giveBlock_44 : decode cX6_giveBlock 44 = .ok (.ishl, 1) := by decide +kernel
theorem dX6_giveBlock_45 : decode cX6_giveBlock 45 = .ok (.iconst (-1), 1) := by decide +kernel
theorem dX6_giveBlock_46 : decode cX6_giveBlock 46 = .ok (.ixor, 1) := by decide +kernel
theorem dX6_giveBlock_47 : decode cX6_giveBlock 47 = .ok (.iand, 1) := by decide +kernel
theorem dX6_giveBlock_48 : decode cX6_giveBlock 48 = .ok (.istore_n 3, 1) := by decide +kernel
theorem dX6_giveBlock_49 : decode cX6_giveBlock 49 = .ok (.iinc 4 1, 3) := by decide +kernel
theorem dX6_giveBlock_52 : decode cX6_giveBlock 52 = .ok (.goto (-47), 3) := by decide +kernel
theorem dX6_giveBlock_55 : decode cX6_giveBlock 55 = .ok (.aload_n 0, 1) := by decide +kernel
theorem dX6_giveBlock_56 : decode cX6_giveBlock 56 = .ok (.getfield 7, 3) := by decide +kernel
theorem dX6_giveBlock_59 : decode cX6_giveBlock 59 = .ok (.iload_n 3, 1) := by decide +kernel
theorem dX6_giveBlock_60 : decode cX6_giveBlock 60 = .ok (.iload 4, 2) := by decide +kernel
theorem dX6_giveBlock_62 : decode cX6_giveBlock 62 = .ok (.iastore, 1) := by decide +kernel
theorem dX6_giveBlock_63 : decode cX6_giveBlock 63 = .ok (.return_, 1) := by decide +kernel
theorem dX6_enter_0 : decode cX6_enter 0 = .ok (.iconst 3, 1) := by decide +kernel
theorem dX6_enter_1 : decode cX6_enter 1 = .ok (.iload_n 1, 1) := by decide +kernel
theorem dX6_enter_2 : decode cX6_enter 2 = .ok (.imul, 1) := by decide +kernel
theorem dX6_enter_3 : decode cX6_enter 3 = .ok (.iload_n 2, 1) := by decide +kernel
theorem dX6_enter_4 : decode cX6_enter 4 = .ok (.iadd, 1) := by decide +kernel
theorem dX6_enter_5 : decode cX6_enter 5 = .ok (.istore 4, 2) := by decide +kernel
theorem dX6_enter_7 : decode cX6_enter 7 = .ok (.aload_n 0, 1) := by decide +kernel
theorem dX6_enter_8 : decode cX6_enter 8 = .ok (.getfield 69, 3) := by decide +kernel
theorem dX6_enter_11 : decode cX6_enter 11 = .ok (.iload 4, 2) := by decide +kernel
theorem dX6_enter_13 : decode cX6_enter 13 = .ok (.iaload, 1) := by decide +kernel
theorem dX6_enter_14 : decode cX6_enter 14 = .ok (.istore 5, 2) := by decide +kernel
theorem dX6_enter_16 : decode cX6_enter 16 = .ok (.iload 5, 2) := by decide +kernel
theorem dX6_enter_18 : decode cX6_enter 18 = .ok (.ifCond .le 39, 3) := by decide +kernel
theorem dX6_enter_21 : decode cX6_enter 21 = .ok (.aload_n 0, 1) := by decide +kernel
theorem dX6_enter_22 : decode cX6_enter 22 = .ok (.getfield 72, 3) := by decide +kernel
theorem dX6_enter_25 : decode cX6_enter 25 = .ok (.sipush 256, 3) := by decide +kernel
theorem dX6_enter_28 : decode cX6_enter 28 = .ok (.iload 4, 2) := by decide +kernel
theorem dX6_enter_30 : decode cX6_enter 30 = .ok (.imul, 1) := by decide +kernel
theorem dX6_enter_31 : decode cX6_enter 31 = .ok (.iload 5, 2) := by decide +kernel
theorem dX6_enter_33 : decode cX6_enter 33 = .ok (.iadd, 1) := by decide +kernel
theorem dX6_enter_34 : decode cX6_enter 34 = .ok (.aload_n 0, 1) := by decide +kernel
theorem dX6_enter_35 : decode cX6_enter 35 = .ok (.getfield 72, 3) := by decide +kernel
theorem dX6_enter_38 : decode cX6_enter 38 = .ok (.sipush 256, 3) := by decide +kernel
theorem dX6_enter_41 : decode cX6_enter 41 = .ok (.iload 4, 2) := by decide +kernel
theorem dX6_enter_43 : decode cX6_enter 43 = .ok (.imul, 1) := by decide +kernel
theorem dX6_enter_44 : decode cX6_enter 44 = .ok (.iload 5, 2) := by decide +kernel
theorem dX6_enter_46 : decode cX6_enter 46 = .ok (.iadd, 1) := by decide +kernel
theorem dX6_enter_47 : decode cX6_enter 47 = .ok (.iconst 1, 1) := by decide +kernel
theorem dX6_enter_48 : decode cX6_enter 48 = .ok (.isub, 1) := by decide +kernel
theorem dX6_enter_49 : decode cX6_enter 49 = .ok (.iaload, 1) := by decide +kernel
theorem dX6_enter_50 : decode cX6_enter 50 = .ok (.iastore, 1) := by decide +kernel
theorem dX6_enter_51 : decode cX6_enter 51 = .ok (.iinc 5 (-1), 3) := by decide +kernel
theorem dX6_enter_54 : decode cX6_enter 54 = .ok (.goto (-38), 3) := by decide +kernel
theorem dX6_enter_57 : decode cX6_enter 57 = .ok (.aload_n 0, 1) := by decide +kernel
theorem dX6_enter_58 : decode cX6_enter 58 = .ok (.getfield 72, 3) := by decide +kernel
theorem dX6_enter_61 : decode cX6_enter 61 = .ok (.sipush 256, 3) := by decide +kernel
theorem dX6_enter_64 : decode cX6_enter 64 = .ok (.iload 4, 2) := by decide +kernel
theorem dX6_enter_66 : decode cX6_enter 66 = .ok (.imul, 1) := by decide +kernel
theorem dX6_enter_67 : decode cX6_enter 67 = .ok (.iload_n 3, 1) := by decide +kernel
theorem dX6_enter_68 : decode cX6_enter 68 = .ok (.iastore, 1) := by decide +kernel
theorem dX6_enter_69 : decode cX6_enter 69 = .ok (.aload_n 0, 1) := by decide +kernel
theorem dX6_enter_70 : decode cX6_enter 70 = .ok (.getfield 69, 3) := by decide +kernel
theorem dX6_enter_73 : decode cX6_enter 73 = .ok (.iload 4, 2) := by decide +kernel
theorem dX6_enter_75 : decode cX6_enter 75 = .ok (.dup2, 1) := by decide +kernel
theorem dX6_enter_76 : decode cX6_enter 76 = .ok (.iaload, 1) := by decide +kernel
theorem dX6_enter_77 : decode cX6_enter 77 = .ok (.iconst 1, 1) := by decide +kernel
theorem dX6_enter_78 : decode cX6_enter 78 = .ok (.iadd, 1) := by decide +kernel
theorem dX6_enter_79 : decode cX6_enter 79 = .ok (.iastore, 1) := by decide +kernel
theorem dX6_enter_80 : decode cX6_enter 80 = .ok (.return_, 1) := by decide +kernel
theorem dX6_leave_0 : decode cX6_leave 0 = .ok (.iconst 3, 1) := by decide +kernel
theorem dX6_leave_1 : decode cX6_leave 1 = .ok (.iload_n 1, 1) := by decide +kernel
theorem dX6_leave_2 : decode cX6_leave 2 = .ok (.imul, 1) := by decide +kernel
theorem dX6_leave_3 : decode cX6_leave 3 = .ok (.iload_n 2, 1) := by decide +kernel
theorem dX6_leave_4 : decode cX6_leave 4 = .ok (.iadd, 1) := by decide +kernel
theorem dX6_leave_5 : decode cX6_leave 5 = .ok (.istore 4, 2) := by decide +kernel
theorem dX6_leave_7 : decode cX6_leave 7 = .ok (.iconst 0, 1) := by decide +kernel
theorem dX6_leave_8 : decode cX6_leave 8 = .ok (.istore 5, 2) := by decide +kernel
theorem dX6_leave_10 : decode cX6_leave 10 = .ok (.aload_n 0, 1) := by decide +kernel
theorem dX6_leave_11 : decode cX6_leave 11 = .ok (.getfield 72, 3) := by decide +kernel
theorem dX6_leave_14 : decode cX6_leave 14 = .ok (.sipush 256, 3) := by decide +kernel
theorem dX6_leave_17 : decode cX6_leave 17 = .ok (.iload 4, 2) := by decide +kernel
theorem dX6_leave_19 : decode cX6_leave 19 = .ok (.imul, 1) := by decide +kernel
theorem dX6_leave_20 : decode cX6_leave 20 = .ok (.iload 5, 2) := by decide +kernel
theorem dX6_leave_22 : decode cX6_leave 22 = .ok (.iadd, 1) := by decide +kernel
theorem dX6_leave_23 : decode cX6_leave 23 = .ok (.iaload, 1) := by decide +kernel
theorem dX6_leave_24 : decode cX6_leave 24 = .ok (.iload_n 3, 1) := by decide +kernel
theorem dX6_leave_25 : decode cX6_leave 25 = .ok (.if_icmp .eq 9, 3) := by decide +kernel
theorem dX6_leave_28 : decode cX6_leave 28 = .ok (.iinc 5 1, 3) := by decide +kernel
theorem dX6_leave_31 : decode cX6_leave 31 = .ok (.goto (-21), 3) := by decide +kernel
theorem dX6_leave_34 : decode cX6_leave 34 = .ok (.aload_n 0, 1) := by decide +kernel
theorem dX6_leave_35 : decode cX6_leave 35 = .ok (.getfield 69, 3) := by decide +kernel
theorem dX6_leave_38 : decode cX6_leave 38 = .ok (.iload 4, 2) := by decide +kernel
theorem dX6_leave_40 : decode cX6_leave 40 = .ok (.dup2, 1) := by decide +kernel
theorem dX6_leave_41 : decode cX6_leave 41 = .ok (.iaload, 1) := by decide +kernel
theorem dX6_leave_42 : decode cX6_leave 42 = .ok (.iconst 1, 1) := by decide +kernel
theorem dX6_leave_43 : decode cX6_leave 43 = .ok (.isub, 1) := by decide +kernel
theorem dX6_leave_44 : decode cX6_leave 44 = .ok (.iastore, 1) := by decide +kernel
theorem dX6_leave_45 : decode cX6_leave 45 = .ok (.iload 5, 2) := by decide +kernel
theorem dX6_leave_47 : decode cX6_leave 47 = .ok (.istore 6, 2) := by decide +kernel
theorem dX6_leave_49 : decode cX6_leave 49 = .ok (.iload 6, 2) := by decide +kernel
theorem dX6_leave_51 : decode cX6_leave 51 = .ok (.aload_n 0, 1) := by decide +kernel
theorem dX6_leave_52 : decode cX6_leave 52 = .ok (.getfield 69, 3) := by decide +kernel
theorem dX6_leave_55 : decode cX6_leave 55 = .ok (.iload 4, 2) := by decide +kernel
theorem dX6_leave_57 : decode cX6_leave 57 = .ok (.iaload, 1) := by decide +kernel
theorem dX6_leave_58 : decode cX6_leave 58 = .ok (.if_icmp .ge 39, 3) := by decide +kernel
theorem dX6_leave_61 : decode cX6_leave 61 = .ok (.aload_n 0, 1) := by decide +kernel
theorem dX6_leave_62 : decode cX6_leave 62 = .ok (.getfield 72, 3) := by decide +kernel
theorem dX6_leave_65 : decode cX6_leave 65 = .ok (.sipush 256, 3) := by decide +kernel
theorem dX6_leave_68 : decode cX6_leave 68 = .ok (.iload 4, 2) := by decide +kernel
theorem dX6_leave_70 : decode cX6_leave 70 = .ok (.imul, 1) := by decide +kernel
theorem dX6_leave_71 : decode cX6_leave 71 = .ok (.iload 6, 2) := by decide +kernel
theorem dX6_leave_73 : decode cX6_leave 73 = .ok (.iadd, 1) := by decide +kernel
theorem dX6_leave_74 : decode cX6_leave 74 = .ok (.aload_n 0, 1) := by decide +kernel
theorem dX6_leave_75 : decode cX6_leave 75 = .ok (.getfield 72, 3) := by decide +kernel
theorem dX6_leave_78 : decode cX6_leave 78 = .ok (.sipush 256, 3) := by decide +kernel
theorem dX6_leave_81 : decode cX6_leave 81 = .ok (.iload 4, 2) := by decide +kernel
theorem dX6_leave_83 : decode cX6_leave 83 = .ok (.imul, 1) := by decide +kernel
theorem dX6_leave_84 : decode cX6_leave 84 = .ok (.iload 6, 2) := by decide +kernel
theorem dX6_leave_86 : decode cX6_leave 86 = .ok (.iadd, 1) := by decide +kernel
theorem dX6_leave_87 : decode cX6_leave 87 = .ok (.iconst 1, 1) := by decide +kernel
theorem dX6_leave_88 : decode cX6_leave 88 = .ok (.iadd, 1) := by decide +kernel
theorem dX6_leave_89 : decode cX6_leave 89 = .ok (.iaload, 1) := by decide +kernel
theorem dX6_leave_90 : decode cX6_leave 90 = .ok (.iastore, 1) := by decide +kernel
theorem dX6_leave_91 : decode cX6_leave 91 = .ok (.iinc 6 1, 3) := by decide +kernel
theorem dX6_leave_94 : decode cX6_leave 94 = .ok (.goto (-45), 3) := by decide +kernel
theorem dX6_leave_97 : decode cX6_leave 97 = .ok (.return_, 1) := by decide +kernel
theorem dX6_whichOf_0 : decode cX6_whichOf 0 = .ok (.aload_n 0, 1) := by decide +kernel
theorem dX6_whichOf_1 : decode cX6_whichOf 1 = .ok (.getfield 53, 3) := by decide +kernel
theorem dX6_whichOf_4 : decode cX6_whichOf 4 = .ok (.iload_n 1, 1) := by decide +kernel
theorem dX6_whichOf_5 : decode cX6_whichOf 5 = .ok (.iaload, 1) := by decide +kernel
theorem dX6_whichOf_6 : decode cX6_whichOf 6 = .ok (.ifCond .ne 7, 3) := by decide +kernel
theorem dX6_whichOf_9 : decode cX6_whichOf 9 = .ok (.iconst 2, 1) := by decide +kernel
theorem dX6_whichOf_10 : decode cX6_whichOf 10 = .ok (.goto 28, 3) := by decide +kernel
theorem dX6_whichOf_13 : decode cX6_whichOf 13 = .ok (.aload_n 0, 1) := by decide +kernel
theorem dX6_whichOf_14 : decode cX6_whichOf 14 = .ok (.getfield 53, 3) := by decide +kernel
theorem dX6_whichOf_17 : decode cX6_whichOf 17 = .ok (.iload_n 1, 1) := by decide +kernel
theorem dX6_whichOf_18 : decode cX6_whichOf 18 = .ok (.iaload, 1) := by decide +kernel
theorem dX6_whichOf_19 : decode cX6_whichOf 19 = .ok (.aload_n 0, 1) := by decide +kernel
theorem dX6_whichOf_20 : decode cX6_whichOf 20 = .ok (.getfield 35, 3) := by decide +kernel
theorem dX6_whichOf_23 : decode cX6_whichOf 23 = .ok (.aload_n 0, 1) := by decide +kernel
theorem dX6_whichOf_24 : decode cX6_whichOf 24 = .ok (.getfield 47, 3) := by decide +kernel
theorem dX6_whichOf_27 : decode cX6_whichOf 27 = .ok (.iload_n 1, 1) := by decide +kernel
theorem dX6_whichOf_28 : decode cX6_whichOf 28 = .ok (.iaload, 1) := by decide +kernel
theorem dX6_whichOf_29 : decode cX6_whichOf 29 = .ok (.iaload, 1) := by decide +kernel
theorem dX6_whichOf_30 : decode cX6_whichOf 30 = .ok (.if_icmp .ne 7, 3) := by decide +kernel
theorem dX6_whichOf_33 : decode cX6_whichOf 33 = .ok (.iconst 0, 1) := by decide +kernel
theorem dX6_whichOf_34 : decode cX6_whichOf 34 = .ok (.goto 4, 3) := by decide +kernel
theorem dX6_whichOf_37 : decode cX6_whichOf 37 = .ok (.iconst 1, 1) := by decide +kernel
theorem dX6_whichOf_38 : decode cX6_whichOf 38 = .ok (.ireturn, 1) := by decide +kernel
theorem dX6_change_0 : decode cX6_change 0 = .ok (.aload_n 0, 1) := by decide +kernel
theorem dX6_change_1 : decode cX6_change 1 = .ok (.iload_n 1, 1) := by decide +kernel
theorem dX6_change_2 : decode cX6_change 2 = .ok (.invokevirtual 98, 3) := by decide +kernel
theorem dX6_change_5 : decode cX6_change 5 = .ok (.istore_n 3, 1) := by decide +kernel
theorem dX6_change_6 : decode cX6_change 6 = .ok (.aload_n 0, 1) := by decide +kernel
theorem dX6_change_7 : decode cX6_change 7 = .ok (.getfield 53, 3) := by decide +kernel
theorem dX6_change_10 : decode cX6_change 10 = .ok (.iload_n 1, 1) := by decide +kernel
theorem dX6_change_11 : decode cX6_change 11 = .ok (.aload_n 0, 1) := by decide +kernel
theorem dX6_change_12 : decode cX6_change 12 = .ok (.getfield 53, 3) := by decide +kernel
theorem dX6_change_15 : decode cX6_change 15 = .ok (.iload_n 1, 1) := by decide +kernel
theorem dX6_change_16 : decode cX6_change 16 = .ok (.iaload, 1) := by decide +kernel
theorem dX6_change_17 : decode cX6_change 17 = .ok (.iload_n 2, 1) := by decide +kernel
theorem dX6_change_18 : decode cX6_change 18 = .ok (.iadd, 1) := by decide +kernel
theorem dX6_change_19 : decode cX6_change 19 = .ok (.iastore, 1) := by decide +kernel
theorem dX6_change_20 : decode cX6_change 20 = .ok (.aload_n 0, 1) := by decide +kernel
theorem dX6_change_21 : decode cX6_change 21 = .ok (.iload_n 1, 1) := by decide +kernel
theorem dX6_change_22 : decode cX6_change 22 = .ok (.invokevirtual 98, 3) := by decide +kernel
theorem dX6_change_25 : decode cX6_change 25 = .ok (.istore 4, 2) := by decide +kernel
theorem dX6_change_27 : decode cX6_change 27 = .ok (.iload 4, 2) := by decide +kernel
theorem dX6_change_29 : decode cX6_change 29 = .ok (.iload_n 3, 1) := by decide +kernel
theorem dX6_change_30 : decode cX6_change 30 = .ok (.if_icmp .eq 28, 3) := by decide +kernel
theorem dX6_change_33 : decode cX6_change 33 = .ok (.aload_n 0, 1) := by decide +kernel
theorem dX6_change_34 : decode cX6_change 34 = .ok (.aload_n 0, 1) := by decide +kernel
theorem dX6_change_35 : decode cX6_change 35 = .ok (.getfield 47, 3) := by decide +kernel
theorem dX6_change_38 : decode cX6_change 38 = .ok (.iload_n 1, 1) := by decide +kernel
theorem dX6_change_39 : decode cX6_change 39 = .ok (.iaload, 1) := by decide +kernel
theorem dX6_change_40 : decode cX6_change 40 = .ok (.iload_n 3, 1) := by decide +kernel
theorem dX6_change_41 : decode cX6_change 41 = .ok (.iload_n 1, 1) := by decide +kernel
theorem dX6_change_42 : decode cX6_change 42 = .ok (.invokevirtual 102, 3) := by decide +kernel
theorem dX6_change_45 : decode cX6_change 45 = .ok (.aload_n 0, 1) := by decide +kernel
theorem dX6_change_46 : decode cX6_change 46 = .ok (.aload_n 0, 1) := by decide +kernel
theorem dX6_change_47 : decode cX6_change 47 = .ok (.getfield 47, 3) := by decide +kernel
theorem dX6_change_50 : decode cX6_change 50 = .ok (.iload_n 1, 1) := by decide +kernel
theorem dX6_change_51 : decode cX6_change 51 = .ok (.iaload, 1) := by decide +kernel
theorem dX6_change_52 : decode cX6_change 52 = .ok (.iload 4, 2) := by decide +kernel
theorem dX6_change_54 : decode cX6_change 54 = .ok (.iload_n 1, 1) := by decide +kernel
theorem dX6_change_55 : decode cX6_change 55 = .ok (.invokevirtual 106, 3) := by decide +kernel
theorem dX6_change_58 : decode cX6_change 58 = .ok (.return_, 1) := by decide +kernel
theorem dX6_unitOf_0 : decode cX6_unitOf 0 = .ok (.aload_n 0, 1) := by decide +kernel
theorem dX6_unitOf_1 : decode cX6_unitOf 1 = .ok (.getfield 47, 3) := by decide +kernel
theorem dX6_unitOf_4 : decode cX6_unitOf 4 = .ok (.iload_n 1, 1) := by decide +kernel
theorem dX6_unitOf_5 : decode cX6_unitOf 5 = .ok (.iaload, 1) := by decide +kernel
theorem dX6_unitOf_6 : decode cX6_unitOf 6 = .ok (.istore_n 3, 1) := by decide +kernel
theorem dX6_unitOf_7 : decode cX6_unitOf 7 = .ok (.sipush 1024, 3) := by decide +kernel
theorem dX6_unitOf_10 : decode cX6_unitOf 10 = .ok (.iload_n 1, 1) := by decide +kernel
theorem dX6_unitOf_11 : decode cX6_unitOf 11 = .ok (.imul, 1) := by decide +kernel
theorem dX6_unitOf_12 : decode cX6_unitOf 12 = .ok (.aload_n 0, 1) := by decide +kernel
theorem dX6_unitOf_13 : decode cX6_unitOf 13 = .ok (.getfield 50, 3) := by decide +kernel
theorem dX6_unitOf_16 : decode cX6_unitOf 16 = .ok (.iload_n 1, 1) := by decide +kernel
theorem dX6_unitOf_17 : decode cX6_unitOf 17 = .ok (.iaload, 1) := by decide +kernel
theorem dX6_unitOf_18 : decode cX6_unitOf 18 = .ok (.aload_n 0, 1) := by decide +kernel
theorem dX6_unitOf_19 : decode cX6_unitOf 19 = .ok (.getfield 23, 3) := by decide +kernel
theorem dX6_unitOf_22 : decode cX6_unitOf 22 = .ok (.iload_n 3, 1) := by decide +kernel
theorem dX6_unitOf_23 : decode cX6_unitOf 23 = .ok (.iaload, 1) := by decide +kernel
theorem dX6_unitOf_24 : decode cX6_unitOf 24 = .ok (.imul, 1) := by decide +kernel
theorem dX6_unitOf_25 : decode cX6_unitOf 25 = .ok (.iadd, 1) := by decide +kernel
theorem dX6_unitOf_26 : decode cX6_unitOf 26 = .ok (.iload_n 2, 1) := by decide +kernel
theorem dX6_unitOf_27 : decode cX6_unitOf 27 = .ok (.aload_n 0, 1) := by decide +kernel
theorem dX6_unitOf_28 : decode cX6_unitOf 28 = .ok (.getfield 32, 3) := by decide +kernel
theorem dX6_unitOf_31 : decode cX6_unitOf 31 = .ok (.iload_n 3, 1) := by decide +kernel
theorem dX6_unitOf_32 : decode cX6_unitOf 32 = .ok (.iaload, 1) := by decide +kernel
theorem dX6_unitOf_33 : decode cX6_unitOf 33 = .ok (.imul, 1) := by decide +kernel
theorem dX6_unitOf_34 : decode cX6_unitOf 34 = .ok (.iadd, 1) := by decide +kernel
theorem dX6_unitOf_35 : decode cX6_unitOf 35 = .ok (.bipush 8, 2) := by decide +kernel
theorem dX6_unitOf_37 : decode cX6_unitOf 37 = .ok (.idiv, 1) := by decide +kernel
theorem dX6_unitOf_38 : decode cX6_unitOf 38 = .ok (.ireturn, 1) := by decide +kernel
theorem dX6_makeSlab_0 : decode cX6_makeSlab 0 = .ok (.aload_n 0, 1) := by decide +kernel
theorem dX6_makeSlab_1 : decode cX6_makeSlab 1 = .ok (.aload_n 0, 1) := by decide +kernel
theorem dX6_makeSlab_2 : decode cX6_makeSlab 2 = .ok (.getfield 26, 3) := by decide +kernel
theorem dX6_makeSlab_5 : decode cX6_makeSlab 5 = .ok (.iload_n 1, 1) := by decide +kernel
theorem dX6_makeSlab_6 : decode cX6_makeSlab 6 = .ok (.iaload, 1) := by decide +kernel
theorem dX6_makeSlab_7 : decode cX6_makeSlab 7 = .ok (.invokevirtual 109, 3) := by decide +kernel
theorem dX6_makeSlab_10 : decode cX6_makeSlab 10 = .ok (.istore_n 2, 1) := by decide +kernel
theorem dX6_makeSlab_11 : decode cX6_makeSlab 11 = .ok (.iload_n 2, 1) := by decide +kernel
theorem dX6_makeSlab_12 : decode cX6_makeSlab 12 = .ok (.ifCond .ge 19, 3) := by decide +kernel
theorem dX6_makeSlab_15 : decode cX6_makeSlab 15 = .ok (.aload_n 0, 1) := by decide +kernel
theorem dX6_makeSlab_16 : decode cX6_makeSlab 16 = .ok (.invokevirtual 112, 3) := by decide +kernel
theorem dX6_makeSlab_19 : decode cX6_makeSlab 19 = .ok (.pop, 1) := by decide +kernel
theorem dX6_makeSlab_20 : decode cX6_makeSlab 20 = .ok (.aload_n 0, 1) := by decide +kernel
theorem dX6_makeSlab_21 : decode cX6_makeSlab 21 = .ok (.aload_n 0, 1) := by decide +kernel
theorem dX6_makeSlab_22 : decode cX6_makeSlab 22 = .ok (.getfield 26, 3) := by decide +kernel
theorem dX6_makeSlab_25 : decode cX6_makeSlab 25 = .ok (.iload_n 1, 1) := by decide +kernel
theorem dX6_makeSlab_26 : decode cX6_makeSlab 26 = .ok (.iaload, 1) := by decide +kernel
theorem dX6_makeSlab_27 : decode cX6_makeSlab 27 = .ok (.invokevirtual 109, 3) := by decide +kernel
theorem dX6_makeSlab_30 : decode cX6_makeSlab 30 = .ok (.istore_n 2, 1) := by decide +kernel
theorem dX6_makeSlab_31 : decode cX6_makeSlab 31 = .ok (.iload_n 2, 1) := by decide +kernel
theorem dX6_makeSlab_32 : decode cX6_makeSlab 32 = .ok (.ifCond .ge 5, 3) := by decide +kernel
theorem dX6_makeSlab_35 : decode cX6_makeSlab 35 = .ok (.iconst 0, 1) := by decide +kernel
theorem dX6_makeSlab_36 : decode cX6_makeSlab 36 = .ok (.ireturn, 1) := by decide +kernel
theorem dX6_makeSlab_37 : decode cX6_makeSlab 37 = .ok (.iload_n 2, 1) := by decide +kernel
theorem dX6_makeSlab_38 : decode cX6_makeSlab 38 = .ok (.istore_n 3, 1) := by decide +kernel
theorem dX6_makeSlab_39 : decode cX6_makeSlab 39 = .ok (.iload_n 3, 1) := by decide +kernel
theorem dX6_makeSlab_40 : decode cX6_makeSlab 40 = .ok (.iload_n 2, 1) := by decide +kernel
theorem dX6_makeSlab_41 : decode cX6_makeSlab 41 = .ok (.iconst 1, 1) := by decide +kernel
theorem dX6_makeSlab_42 : decode cX6_makeSlab 42 = .ok (.aload_n 0, 1) := by decide +kernel
theorem dX6_makeSlab_43 : decode cX6_makeSlab 43 = .ok (.getfield 26, 3) := by decide +kernel
theorem dX6_makeSlab_46 : decode cX6_makeSlab 46 = .ok (.iload_n 1, 1) := by decide +kernel
theorem dX6_makeSlab_47 : decode cX6_makeSlab 47 = .ok (.iaload, 1) := by decide +kernel
theorem dX6_makeSlab_48 : decode cX6_makeSlab 48 = .ok (.ishl, 1) := by decide +kernel
theorem dX6_makeSlab_49 : decode cX6_makeSlab 49 = .ok (.iadd, 1) := by decide +kernel
theorem dX6_makeSlab_50 : decode cX6_makeSlab 50 = .ok (.if_icmp .ge 16, 3) := by decide +kernel
theorem dX6_makeSlab_53 : decode cX6_makeSlab 53 = .ok (.aload_n 0, 1) := by decide +kernel
theorem dX6_makeSlab_54 : decode cX6_makeSlab 54 = .ok (.getfield 13, 3) := by decide +kernel
theorem dX6_makeSlab_57 : decode cX6_makeSlab 57 = .ok (.iload_n 3, 1) := by decide +kernel
theorem dX6_makeSlab_58 : decode cX6_makeSlab 58 = .ok (.iload_n 2, 1) := by decide +kernel
theorem dX6_makeSlab_59 : decode cX6_makeSlab 59 = .ok (.iastore, 1) := by decide +kernel
theorem dX6_makeSlab_60 : decode cX6_makeSlab 60 = .ok (.iinc 3 1, 3) := by decide +kernel
theorem dX6_makeSlab_63 : decode cX6_makeSlab 63 = .ok (.goto (-24), 3) := by decide +kernel
theorem dX6_makeSlab_66 : decode cX6_makeSlab 66 = .ok (.aload_n 0, 1) := by decide +kernel
theorem dX6_makeSlab_67 : decode cX6_makeSlab 67 = .ok (.getfield 47, 3) := by decide +kernel
theorem dX6_makeSlab_70 : decode cX6_makeSlab 70 = .ok (.iload_n 2, 1) := by decide +kernel
theorem dX6_makeSlab_71 : decode cX6_makeSlab 71 = .ok (.iload_n 1, 1) := by decide +kernel
theorem dX6_makeSlab_72 : decode cX6_makeSlab 72 = .ok (.iastore, 1) := by decide +kernel
theorem dX6_makeSlab_73 : decode cX6_makeSlab 73 = .ok (.aload_n 0, 1) := by decide +kernel
theorem dX6_makeSlab_74 : decode cX6_makeSlab 74 = .ok (.getfield 50, 3) := by decide +kernel
theorem dX6_makeSlab_77 : decode cX6_makeSlab 77 = .ok (.iload_n 2, 1) := by decide +kernel
theorem dX6_makeSlab_78 : decode cX6_makeSlab 78 = .ok (.aload_n 0, 1) := by decide +kernel
theorem dX6_makeSlab_79 : decode cX6_makeSlab 79 = .ok (.getfield 41, 3) := by decide +kernel
theorem dX6_makeSlab_82 : decode cX6_makeSlab 82 = .ok (.iload_n 1, 1) := by decide +kernel
theorem dX6_makeSlab_83 : decode cX6_makeSlab 83 = .ok (.iaload, 1) := by decide +kernel
theorem dX6_makeSlab_84 : decode cX6_makeSlab 84 = .ok (.iastore, 1) := by decide +kernel
theorem dX6_makeSlab_85 : decode cX6_makeSlab 85 = .ok (.aload_n 0, 1) := by decide +kernel
theorem dX6_makeSlab_86 : decode cX6_makeSlab 86 = .ok (.getfield 41, 3) := by decide +kernel
theorem dX6_makeSlab_89 : decode cX6_makeSlab 89 = .ok (.iload_n 1, 1) := by decide +kernel
theorem dX6_makeSlab_90 : decode cX6_makeSlab 90 = .ok (.aload_n 0, 1) := by decide +kernel
theorem dX6_makeSlab_91 : decode cX6_makeSlab 91 = .ok (.getfield 41, 3) := by decide +kernel
theorem dX6_makeSlab_94 : decode cX6_makeSlab 94 = .ok (.iload_n 1, 1) := by decide +kernel
theorem dX6_makeSlab_95 : decode cX6_makeSlab 95 = .ok (.iaload, 1) := by decide +kernel
theorem dX6_makeSlab_96 : decode cX6_makeSlab 96 = .ok (.iconst 1, 1) := by decide +kernel
theorem dX6_makeSlab_97 : decode cX6_makeSlab 97 = .ok (.iadd, 1) := by decide +kernel
theorem dX6_makeSlab_98 : decode cX6_makeSlab 98 = .ok (.aload_n 0, 1) := by decide +kernel
theorem dX6_makeSlab_99 : decode cX6_makeSlab 99 = .ok (.getfield 38, 3) := by decide +kernel
theorem dX6_makeSlab_102 : decode cX6_makeSlab 102 = .ok (.iload_n 1, 1) := by decide +kernel
theorem dX6_makeSlab_103 : decode cX6_makeSlab 103 = .ok (.iaload, 1) := by decide +kernel
theorem dX6_makeSlab_104 : decode cX6_makeSlab 104 = .ok (.if_icmp .ne 7, 3) := by decide +kernel
theorem dX6_makeSlab_107 : decode cX6_makeSlab 107 = .ok (.iconst 0, 1) := by decide +kernel
theorem dX6_makeSlab_108 : decode cX6_makeSlab 108 = .ok (.goto 11, 3) := by decide +kernel
theorem dX6_makeSlab_111 : decode cX6_makeSlab 111 = .ok (.aload_n 0, 1) := by decide +kernel
theorem dX6_makeSlab_112 : decode cX6_makeSlab 112 = .ok (.getfield 41, 3) := by decide +kernel
theorem dX6_makeSlab_115 : decode cX6_makeSlab 115 = .ok (.iload_n 1, 1) := by decide +kernel
theorem dX6_makeSlab_116 : decode cX6_makeSlab 116 = .ok (.iaload, 1) := by decide +kernel
theorem dX6_makeSlab_117 : decode cX6_makeSlab 117 = .ok (.iconst 1, 1) := by decide +kernel
theorem dX6_makeSlab_118 : decode cX6_makeSlab 118 = .ok (.iadd, 1) := by decide +kernel
theorem dX6_makeSlab_119 : decode cX6_makeSlab 119 = .ok (.iastore, 1) := by decide +kernel
theorem dX6_makeSlab_120 : decode cX6_makeSlab 120 = .ok (.aload_n 0, 1) := by decide +kernel
theorem dX6_makeSlab_121 : decode cX6_makeSlab 121 = .ok (.getfield 53, 3) := by decide +kernel
theorem dX6_makeSlab_124 : decode cX6_makeSlab 124 = .ok (.iload_n 2, 1) := by decide +kernel
theorem dX6_makeSlab_125 : decode cX6_makeSlab 125 = .ok (.iconst 0, 1) := by decide +kernel
theorem dX6_makeSlab_126 : decode cX6_makeSlab 126 = .ok (.iastore, 1) := by decide +kernel
theorem dX6_makeSlab_127 : decode cX6_makeSlab 127 = .ok (.aload_n 0, 1) := by decide +kernel
theorem dX6_makeSlab_128 : decode cX6_makeSlab 128 = .ok (.getfield 56, 3) := by decide +kernel
theorem dX6_makeSlab_131 : decode cX6_makeSlab 131 = .ok (.iload_n 2, 1) := by decide +kernel
theorem dX6_makeSlab_132 : decode cX6_makeSlab 132 = .ok (.aload_n 0, 1) := by decide +kernel
theorem dX6_makeSlab_133 : decode cX6_makeSlab 133 = .ok (.iload_n 2, 1) := by decide +kernel
theorem dX6_makeSlab_134 : decode cX6_makeSlab 134 = .ok (.iconst 0, 1) := by decide +kernel
theorem dX6_makeSlab_135 : decode cX6_makeSlab 135 = .ok (.invokevirtual 116, 3) := by decide +kernel
theorem dX6_makeSlab_138 : decode cX6_makeSlab 138 = .ok (.iastore, 1) := by decide +kernel
theorem dX6_makeSlab_139 : decode cX6_makeSlab 139 = .ok (.iconst 0, 1) := by decide +kernel
theorem dX6_makeSlab_140 : decode cX6_makeSlab 140 = .ok (.istore_n 3, 1) := by decide +kernel
theorem dX6_makeSlab_141 : decode cX6_makeSlab 141 = .ok (.iload_n 3, 1) := by decide +kernel
theorem dX6_makeSlab_142 : decode cX6_makeSlab 142 = .ok (.aload_n 0, 1) := by decide +kernel
theorem dX6_makeSlab_143 : decode cX6_makeSlab 143 = .ok (.getfield 35, 3) := by decide +kernel
theorem dX6_makeSlab_146 : decode cX6_makeSlab 146 = .ok (.iload_n 1, 1) := by decide +kernel
theorem dX6_makeSlab_147 : decode cX6_makeSlab 147 = .ok (.iaload, 1) := by decide +kernel
theorem dX6_makeSlab_148 : decode cX6_makeSlab 148 = .ok (.if_icmp .ge 69, 3) := by decide +kernel
theorem dX6_makeSlab_151 : decode cX6_makeSlab 151 = .ok (.aload_n 0, 1) := by decide +kernel
theorem dX6_makeSlab_152 : decode cX6_makeSlab 152 = .ok (.iload_n 2, 1) := by decide +kernel
theorem dX6_makeSlab_153 : decode cX6_makeSlab 153 = .ok (.iload_n 3, 1) := by decide +kernel
theorem dX6_makeSlab_154 : decode cX6_makeSlab 154 = .ok (.invokevirtual 116, 3) := by decide +kernel
theorem dX6_makeSlab_157 : decode cX6_makeSlab 157 = .ok (.istore 4, 2) := by decide +kernel
theorem dX6_makeSlab_159 : decode cX6_makeSlab 159 = .ok (.aload_n 0, 1) := by decide +kernel
theorem dX6_makeSlab_160 : decode cX6_makeSlab 160 = .ok (.getfield 60, 3) := by decide +kernel
theorem dX6_makeSlab_163 : decode cX6_makeSlab 163 = .ok (.iload 4, 2) := by decide +kernel
theorem dX6_makeSlab_165 : decode cX6_makeSlab 165 = .ok (.iconst 1, 1) := by decide +kernel
theorem dX6_makeSlab_166 : decode cX6_makeSlab 166 = .ok (.iastore, 1) := by decide +kernel
theorem dX6_makeSlab_167 : decode cX6_makeSlab 167 = .ok (.aload_n 0, 1) := by decide +kernel
theorem dX6_makeSlab_168 : decode cX6_makeSlab 168 = .ok (.getfield 66, 3) := by decide +kernel
theorem dX6_makeSlab_171 : decode cX6_makeSlab 171 = .ok (.iload 4, 2) := by decide +kernel
theorem dX6_makeSlab_173 : decode cX6_makeSlab 173 = .ok (.aload_n 0, 1) := by decide +kernel
theorem dX6_makeSlab_174 : decode cX6_makeSlab 174 = .ok (.getfield 29, 3) := by decide +kernel
theorem dX6_makeSlab_177 : decode cX6_makeSlab 177 = .ok (.iload_n 1, 1) := by decide +kernel
theorem dX6_makeSlab_178 : decode cX6_makeSlab 178 = .ok (.iaload, 1) := by decide +kernel
theorem dX6_makeSlab_179 : decode cX6_makeSlab 179 = .ok (.iastore, 1) := by decide +kernel
theorem dX6_makeSlab_180 : decode cX6_makeSlab 180 = .ok (.aload_n 0, 1) := by decide +kernel
theorem dX6_makeSlab_181 : decode cX6_makeSlab 181 = .ok (.getfield 63, 3) := by decide +kernel
theorem dX6_makeSlab_184 : decode cX6_makeSlab 184 = .ok (.iload 4, 2) := by decide +kernel
theorem dX6_makeSlab_186 : decode cX6_makeSlab 186 = .ok (.iload_n 3, 1) := by decide +kernel
theorem dX6_makeSlab_187 : decode cX6_makeSlab 187 = .ok (.iconst 1, 1) := by decide +kernel
theorem dX6_makeSlab_188 : decode cX6_makeSlab 188 = .ok (.iadd, 1) := by decide +kernel
theorem dX6_makeSlab_189 : decode cX6_makeSlab 189 = .ok (.aload_n 0, 1) := by decide +kernel
theorem dX6_makeSlab_190 : decode cX6_makeSlab 190 = .ok (.getfield 35, 3) := by decide +kernel
theorem dX6_makeSlab_193 : decode cX6_makeSlab 193 = .ok (.iload_n 1, 1) := by decide +kernel
theorem dX6_makeSlab_194 : decode cX6_makeSlab 194 = .ok (.iaload, 1) := by decide +kernel
theorem dX6_makeSlab_195 : decode cX6_makeSlab 195 = .ok (.if_icmp .ge 14, 3) := by decide +kernel
theorem dX6_makeSlab_198 : decode cX6_makeSlab 198 = .ok (.aload_n 0, 1) := by decide +kernel
theorem dX6_makeSlab_199 : decode cX6_makeSlab 199 = .ok (.iload_n 2, 1) := by decide +kernel
theorem dX6_makeSlab_200 : decode cX6_makeSlab 200 = .ok (.iload_n 3, 1) := by decide +kernel
theorem dX6_makeSlab_201 : decode cX6_makeSlab 201 = .ok (.iconst 1, 1) := by decide +kernel
theorem dX6_makeSlab_202 : decode cX6_makeSlab 202 = .ok (.iadd, 1) := by decide +kernel
theorem dX6_makeSlab_203 : decode cX6_makeSlab 203 = .ok (.invokevirtual 116, 3) := by decide +kernel
theorem dX6_makeSlab_206 : decode cX6_makeSlab 206 = .ok (.goto 4, 3) := by decide +kernel
theorem dX6_makeSlab_209 : decode cX6_makeSlab 209 = .ok (.iconst (-1), 1) := by decide +kernel
theorem dX6_makeSlab_210 : decode cX6_makeSlab 210 = .ok (.iastore, 1) := by decide +kernel
theorem dX6_makeSlab_211 : decode cX6_makeSlab 211 = .ok (.iinc 3 1, 3) := by decide +kernel
theorem dX6_makeSlab_214 : decode cX6_makeSlab 214 = .ok (.goto (-73), 3) := by decide +kernel
theorem dX6_makeSlab_217 : decode cX6_makeSlab 217 = .ok (.aload_n 0, 1) := by decide +kernel
theorem dX6_makeSlab_218 : decode cX6_makeSlab 218 = .ok (.iload_n 1, 1) := by decide +kernel
theorem dX6_makeSlab_219 : decode cX6_makeSlab 219 = .ok (.iconst 2, 1) := by decide +kernel
theorem dX6_makeSlab_220 : decode cX6_makeSlab 220 = .ok (.iload_n 2, 1) := by decide +kernel
theorem dX6_makeSlab_221 : decode cX6_makeSlab 221 = .ok (.invokevirtual 106, 3) := by decide +kernel
theorem dX6_makeSlab_224 : decode cX6_makeSlab 224 = .ok (.iconst 1, 1) := by decide +kernel
theorem dX6_makeSlab_225 : decode cX6_makeSlab 225 = .ok (.ireturn, 1) := by decide +kernel
theorem dX6_giveSlab_0 : decode cX6_giveSlab 0 = .ok (.aload_n 0, 1) := by decide +kernel
theorem dX6_giveSlab_1 : decode cX6_giveSlab 1 = .ok (.getfield 47, 3) := by decide +kernel
theorem dX6_giveSlab_4 : decode cX6_giveSlab 4 = .ok (.iload_n 1, 1) := by decide +kernel
theorem dX6_giveSlab_5 : decode cX6_giveSlab 5 = .ok (.iaload, 1) := by decide +kernel
theorem dX6_giveSlab_6 : decode cX6_giveSlab 6 = .ok (.istore_n 2, 1) := by decide +kernel
theorem dX6_giveSlab_7 : decode cX6_giveSlab 7 = .ok (.aload_n 0, 1) := by decide +kernel
theorem dX6_giveSlab_8 : decode cX6_giveSlab 8 = .ok (.iload_n 2, 1) := by decide +kernel
theorem dX6_giveSlab_9 : decode cX6_giveSlab 9 = .ok (.aload_n 0, 1) := by decide +kernel
theorem dX6_giveSlab_10 : decode cX6_giveSlab 10 = .ok (.iload_n 1, 1) := by decide +kernel
theorem dX6_giveSlab_11 : decode cX6_giveSlab 11 = .ok (.invokevirtual 98, 3) := by decide +kernel
theorem dX6_giveSlab_14 : decode cX6_giveSlab 14 = .ok (.iload_n 1, 1) := by decide +kernel
theorem dX6_giveSlab_15 : decode cX6_giveSlab 15 = .ok (.invokevirtual 102, 3) := by decide +kernel
theorem dX6_giveSlab_18 : decode cX6_giveSlab 18 = .ok (.iconst 0, 1) := by decide +kernel
theorem dX6_giveSlab_19 : decode cX6_giveSlab 19 = .ok (.istore_n 3, 1) := by decide +kernel
theorem dX6_giveSlab_20 : decode cX6_giveSlab 20 = .ok (.iload_n 3, 1) := by decide +kernel
theorem dX6_giveSlab_21 : decode cX6_giveSlab 21 = .ok (.aload_n 0, 1) := by decide +kernel
theorem dX6_giveSlab_22 : decode cX6_giveSlab 22 = .ok (.getfield 35, 3) := by decide +kernel
theorem dX6_giveSlab_25 : decode cX6_giveSlab 25 = .ok (.iload_n 2, 1) := by decide +kernel
theorem dX6_giveSlab_26 : decode cX6_giveSlab 26 = .ok (.iaload, 1) := by decide +kernel
theorem dX6_giveSlab_27 : decode cX6_giveSlab 27 = .ok (.if_icmp .ge 21, 3) := by decide +kernel
theorem dX6_giveSlab_30 : decode cX6_giveSlab 30 = .ok (.aload_n 0, 1) := by decide +kernel
theorem dX6_giveSlab_31 : decode cX6_giveSlab 31 = .ok (.getfield 60, 3) := by decide +kernel
theorem dX6_giveSlab_34 : decode cX6_giveSlab 34 = .ok (.aload_n 0, 1) := by decide +kernel
theorem dX6_giveSlab_35 : decode cX6_giveSlab 35 = .ok (.iload_n 1, 1) := by decide +kernel
theorem dX6_giveSlab_36 : decode cX6_giveSlab 36 = .ok (.iload_n 3, 1) := by decide +kernel
theorem dX6_giveSlab_37 : decode cX6_giveSlab 37 = .ok (.invokevirtual 116, 3) := by decide +kernel
theorem dX6_giveSlab_40 : decode cX6_giveSlab 40 = .ok (.iconst 0, 1) := by decide +kernel
theorem dX6_giveSlab_41 : decode cX6_giveSlab 41 = .ok (.iastore, 1) := by decide +kernel
theorem dX6_giveSlab_42 : decode cX6_giveSlab 42 = .ok (.iinc 3 1, 3) := by decide +kernel
theorem dX6_giveSlab_45 : decode cX6_giveSlab 45 = .ok (.goto (-25), 3) := by decide +kernel
theorem dX6_giveSlab_48 : decode cX6_giveSlab 48 = .ok (.iload_n 1, 1) := by decide +kernel
theorem dX6_giveSlab_49 : decode cX6_giveSlab 49 = .ok (.istore_n 3, 1) := by decide +kernel
theorem dX6_giveSlab_50 : decode cX6_giveSlab 50 = .ok (.iload_n 3, 1) := by decide +kernel
theorem dX6_giveSlab_51 : decode cX6_giveSlab 51 = .ok (.iload_n 1, 1) := by decide +kernel
theorem dX6_giveSlab_52 : decode cX6_giveSlab 52 = .ok (.iconst 1, 1) := by decide +kernel
theorem dX6_giveSlab_53 : decode cX6_giveSlab 53 = .ok (.aload_n 0, 1) := by decide +kernel
theorem dX6_giveSlab_54 : decode cX6_giveSlab 54 = .ok (.getfield 26, 3) := by decide +kernel
theorem dX6_giveSlab_57 : decode cX6_giveSlab 57 = .ok (.iload_n 2, 1) := by decide +kernel
theorem dX6_giveSlab_58 : decode cX6_giveSlab 58 = .ok (.iaload, 1) := by decide +kernel
theorem dX6_giveSlab_59 : decode cX6_giveSlab 59 = .ok (.ishl, 1) := by decide +kernel
theorem dX6_giveSlab_60 : decode cX6_giveSlab 60 = .ok (.iadd, 1) := by decide +kernel
theorem dX6_giveSlab_61 : decode cX6_giveSlab 61 = .ok (.if_icmp .ge 16, 3) := by decide +kernel
theorem dX6_giveSlab_64 : decode cX6_giveSlab 64 = .ok (.aload_n 0, 1) := by decide +kernel
theorem dX6_giveSlab_65 : decode cX6_giveSlab 65 = .ok (.getfield 13, 3) := by decide +kernel
theorem dX6_giveSlab_68 : decode cX6_giveSlab 68 = .ok (.iload_n 3, 1) := by decide +kernel
theorem dX6_giveSlab_69 : decode cX6_giveSlab 69 = .ok (.iconst (-1), 1) := by decide +kernel
theorem dX6_giveSlab_70 : decode cX6_giveSlab 70 = .ok (.iastore, 1) := by decide +kernel
theorem dX6_giveSlab_71 : decode cX6_giveSlab 71 = .ok (.iinc 3 1, 3) := by decide +kernel
theorem dX6_giveSlab_74 : decode cX6_giveSlab 74 = .ok (.goto (-24), 3) := by decide +kernel
theorem dX6_giveSlab_77 : decode cX6_giveSlab 77 = .ok (.aload_n 0, 1) := by decide +kernel
theorem dX6_giveSlab_78 : decode cX6_giveSlab 78 = .ok (.iload_n 1, 1) := by decide +kernel
theorem dX6_giveSlab_79 : decode cX6_giveSlab 79 = .ok (.aload_n 0, 1) := by decide +kernel
theorem dX6_giveSlab_80 : decode cX6_giveSlab 80 = .ok (.getfield 26, 3) := by decide +kernel
theorem dX6_giveSlab_83 : decode cX6_giveSlab 83 = .ok (.iload_n 2, 1) := by decide +kernel
theorem dX6_giveSlab_84 : decode cX6_giveSlab 84 = .ok (.iaload, 1) := by decide +kernel
theorem dX6_giveSlab_85 : decode cX6_giveSlab 85 = .ok (.invokevirtual 120, 3) := by decide +kernel
theorem dX6_giveSlab_88 : decode cX6_giveSlab 88 = .ok (.iconst 1, 1) := by decide +kernel
theorem dX6_giveSlab_89 : decode cX6_giveSlab 89 = .ok (.aload_n 0, 1) := by decide +kernel
theorem dX6_giveSlab_90 : decode cX6_giveSlab 90 = .ok (.getfield 26, 3) := by decide +kernel
theorem dX6_giveSlab_93 : decode cX6_giveSlab 93 = .ok (.iload_n 2, 1) := by decide +kernel
theorem dX6_giveSlab_94 : decode cX6_giveSlab 94 = .ok (.iaload, 1) := by decide +kernel
theorem dX6_giveSlab_95 : decode cX6_giveSlab 95 = .ok (.ishl, 1) := by decide +kernel
theorem dX6_giveSlab_96 : decode cX6_giveSlab 96 = .ok (.ireturn, 1) := by decide +kernel
theorem dX6_reapAll_0 : decode cX6_reapAll 0 = .ok (.iconst 0, 1) := by decide +kernel
theorem dX6_reapAll_1 : decode cX6_reapAll 1 = .ok (.istore_n 1, 1) := by decide +kernel
theorem dX6_reapAll_2 : decode cX6_reapAll 2 = .ok (.iconst 0, 1) := by decide +kernel
theorem dX6_reapAll_3 : decode cX6_reapAll 3 = .ok (.istore_n 2, 1) := by decide +kernel
theorem dX6_reapAll_4 : decode cX6_reapAll 4 = .ok (.iload_n 2, 1) := by decide +kernel
theorem dX6_reapAll_5 : decode cX6_reapAll 5 = .ok (.aload_n 0, 1) := by decide +kernel
theorem dX6_reapAll_6 : decode cX6_reapAll 6 = .ok (.getfield 91, 3) := by decide +kernel
theorem dX6_reapAll_9 : decode cX6_reapAll 9 = .ok (.if_icmp .ge 46, 3) := by decide +kernel
theorem dX6_reapAll_12 : decode cX6_reapAll 12 = .ok (.aload_n 0, 1) := by decide +kernel
theorem dX6_reapAll_13 : decode cX6_reapAll 13 = .ok (.getfield 69, 3) := by decide +kernel
theorem dX6_reapAll_16 : decode cX6_reapAll 16 = .ok (.iconst 3, 1) := by decide +kernel
theorem dX6_reapAll_17 : decode cX6_reapAll 17 = .ok (.iload_n 2, 1) := by decide +kernel
theorem dX6_reapAll_18 : decode cX6_reapAll 18 = .ok (.imul, 1) := by decide +kernel
theorem dX6_reapAll_19 : decode cX6_reapAll 19 = .ok (.iconst 2, 1) := by decide +kernel
theorem dX6_reapAll_20 : decode cX6_reapAll 20 = .ok (.iadd, 1) := by decide +kernel
theorem dX6_reapAll_21 : decode cX6_reapAll 21 = .ok (.iaload, 1) := by decide +kernel
theorem dX6_reapAll_22 : decode cX6_reapAll 22 = .ok (.ifCond .le 27, 3) := by decide +kernel
theorem dX6_reapAll_25 : decode cX6_reapAll 25 = .ok (.iload_n 1, 1) := by decide +kernel
theorem dX6_reapAll_26 : decode cX6_reapAll 26 = .ok (.aload_n 0, 1) := by decide +kernel
theorem dX6_reapAll_27 : decode cX6_reapAll 27 = .ok (.aload_n 0, 1) := by decide +kernel
theorem dX6_reapAll_28 : decode cX6_reapAll 28 = .ok (.getfield 72, 3) := by decide +kernel
theorem dX6_reapAll_31 : decode cX6_reapAll 31 = .ok (.sipush 256, 3) := by decide +kernel
theorem dX6_reapAll_34 : decode cX6_reapAll 34 = .ok (.iconst 3, 1) := by decide +kernel
theorem dX6_reapAll_35 : decode cX6_reapAll 35 = .ok (.iload_n 2, 1) := by decide +kernel
theorem dX6_reapAll_36 : decode cX6_reapAll 36 = .ok (.imul, 1) := by decide +kernel
theorem dX6_reapAll_37 : decode cX6_reapAll 37 = .ok (.iconst 2, 1) := by decide +kernel
theorem dX6_reapAll_38 : decode cX6_reapAll 38 = .ok (.iadd, 1) := by decide +kernel
theorem dX6_reapAll_39 : decode cX6_reapAll 39 = .ok (.imul, 1) := by decide +kernel
theorem dX6_reapAll_40 : decode cX6_reapAll 40 = .ok (.iaload, 1) := by decide +kernel
theorem dX6_reapAll_41 : decode cX6_reapAll 41 = .ok (.invokevirtual 124, 3) := by decide +kernel
theorem dX6_reapAll_44 : decode cX6_reapAll 44 = .ok (.iadd, 1) := by decide +kernel
theorem dX6_reapAll_45 : decode cX6_reapAll 45 = .ok (.istore_n 1, 1) := by decide +kernel
theorem dX6_reapAll_46 : decode cX6_reapAll 46 = .ok (.goto (-34), 3) := by decide +kernel
theorem dX6_reapAll_49 : decode cX6_reapAll 49 = .ok (.iinc 2 1, 3) := by decide +kernel
theorem dX6_reapAll_52 : decode cX6_reapAll 52 = .ok (.goto (-48), 3) := by decide +kernel
theorem dX6_reapAll_55 : decode cX6_reapAll 55 = .ok (.iload_n 1, 1) := by decide +kernel
theorem dX6_reapAll_56 : decode cX6_reapAll 56 = .ok (.ireturn, 1) := by decide +kernel
theorem dX6_fromSlabs_0 : decode cX6_fromSlabs 0 = .ok (.aload_n 0, 1) := by decide +kernel
theorem dX6_fromSlabs_1 : decode cX6_fromSlabs 1 = .ok (.getfield 69, 3) := by decide +kernel
theorem dX6_fromSlabs_4 : decode cX6_fromSlabs 4 = .ok (.iconst 3, 1) := by decide +kernel
theorem dX6_fromSlabs_5 : decode cX6_fromSlabs 5 = .ok (.iload_n 1, 1) := by decide +kernel
theorem dX6_fromSlabs_6 : decode cX6_fromSlabs 6 = .ok (.imul, 1) := by decide +kernel
theorem dX6_fromSlabs_7 : decode cX6_fromSlabs 7 = .ok (.iconst 1, 1) := by decide +kernel
theorem dX6_fromSlabs_8 : decode cX6_fromSlabs 8 = .ok (.iadd, 1) := by decide +kernel
theorem dX6_fromSlabs_9 : decode cX6_fromSlabs 9 = .ok (.iaload, 1) := by decide +kernel
theorem dX6_fromSlabs_10 : decode cX6_fromSlabs 10 = .ok (.ifCond .ne 26, 3) := by decide +kernel
theorem dX6_fromSlabs_13 : decode cX6_fromSlabs 13 = .ok (.aload_n 0, 1) := by decide +kernel
theorem dX6_fromSlabs_14 : decode cX6_fromSlabs 14 = .ok (.getfield 69, 3) := by decide +kernel
theorem dX6_fromSlabs_17 : decode cX6_fromSlabs 17 = .ok (.iconst 3, 1) := by decide +kernel
theorem dX6_fromSlabs_18 : decode cX6_fromSlabs 18 = .ok (.iload_n 1, 1) := by decide +kernel
theorem dX6_fromSlabs_19 : decode cX6_fromSlabs 19 = .ok (.imul, 1) := by decide +kernel
theorem dX6_fromSlabs_20 : decode cX6_fromSlabs 20 = .ok (.iconst 2, 1) := by decide +kernel
theorem dX6_fromSlabs_21 : decode cX6_fromSlabs 21 = .ok (.iadd, 1) := by decide +kernel
theorem dX6_fromSlabs_22 : decode cX6_fromSlabs 22 = .ok (.iaload, 1) := by decide +kernel
theorem dX6_fromSlabs_23 : decode cX6_fromSlabs 23 = .ok (.ifCond .ne 13, 3) := by decide +kernel
theorem dX6_fromSlabs_26 : decode cX6_fromSlabs 26 = .ok (.aload_n 0, 1) := by decide +kernel
theorem dX6_fromSlabs_27 : decode cX6_fromSlabs 27 = .ok (.iload_n 1, 1) := by decide +kernel
theorem dX6_fromSlabs_28 : decode cX6_fromSlabs 28 = .ok (.invokevirtual 127, 3) := by decide +kernel
theorem dX6_fromSlabs_31 : decode cX6_fromSlabs 31 = .ok (.ifCond .ne 5, 3) := by decide +kernel
theorem dX6_fromSlabs_34 : decode cX6_fromSlabs 34 = .ok (.iconst (-1), 1) := by decide +kernel
theorem dX6_fromSlabs_35 : decode cX6_fromSlabs 35 = .ok (.ireturn, 1) := by decide +kernel
theorem dX6_fromSlabs_36 : decode cX6_fromSlabs 36 = .ok (.aload_n 0, 1) := by decide +kernel
theorem dX6_fromSlabs_37 : decode cX6_fromSlabs 37 = .ok (.getfield 69, 3) := by decide +kernel
theorem dX6_fromSlabs_40 : decode cX6_fromSlabs 40 = .ok (.iconst 3, 1) := by decide +kernel
theorem dX6_fromSlabs_41 : decode cX6_fromSlabs 41 = .ok (.iload_n 1, 1) := by decide +kernel
theorem dX6_fromSlabs_42 : decode cX6_fromSlabs 42 = .ok (.imul, 1) := by decide +kernel
theorem dX6_fromSlabs_43 : decode cX6_fromSlabs 43 = .ok (.iconst 1, 1) := by decide +kernel
theorem dX6_fromSlabs_44 : decode cX6_fromSlabs 44 = .ok (.iadd, 1) := by decide +kernel
theorem dX6_fromSlabs_45 : decode cX6_fromSlabs 45 = .ok (.iaload, 1) := by decide +kernel
theorem dX6_fromSlabs_46 : decode cX6_fromSlabs 46 = .ok (.ifCond .le 11, 3) := by decide +kernel
theorem dX6_fromSlabs_49 : decode cX6_fromSlabs 49 = .ok (.iconst 3, 1) := by decide +kernel
theorem dX6_fromSlabs_50 : decode cX6_fromSlabs 50 = .ok (.iload_n 1, 1) := by decide +kernel
theorem dX6_fromSlabs_51 : decode cX6_fromSlabs 51 = .ok (.imul, 1) := by decide +kernel
theorem dX6_fromSlabs_52 : decode cX6_fromSlabs 52 = .ok (.iconst 1, 1) := by decide +kernel
theorem dX6_fromSlabs_53 : decode cX6_fromSlabs 53 = .ok (.iadd, 1) := by decide +kernel
theorem dX6_fromSlabs_54 : decode cX6_fromSlabs 54 = .ok (.goto 8, 3) := by decide +kernel
theorem dX6_fromSlabs_57 : decode cX6_fromSlabs 57 = .ok (.iconst 3, 1) := by decide +kernel
theorem dX6_fromSlabs_58 : decode cX6_fromSlabs 58 = .ok (.iload_n 1, 1) := by decide +kernel
theorem dX6_fromSlabs_59 : decode cX6_fromSlabs 59 = .ok (.imul, 1) := by decide +kernel
theorem dX6_fromSlabs_60 : decode cX6_fromSlabs 60 = .ok (.iconst 2, 1) := by decide +kernel
theorem dX6_fromSlabs_61 : decode cX6_fromSlabs 61 = .ok (.iadd, 1) := by decide +kernel
theorem dX6_fromSlabs_62 : decode cX6_fromSlabs 62 = .ok (.istore_n 2, 1) := by decide +kernel
theorem dX6_fromSlabs_63 : decode cX6_fromSlabs 63 = .ok (.aload_n 0, 1) := by decide +kernel
theorem dX6_fromSlabs_64 : decode cX6_fromSlabs 64 = .ok (.getfield 72, 3) := by decide +kernel
theorem dX6_fromSlabs_67 : decode cX6_fromSlabs 67 = .ok (.sipush 256, 3) := by decide +kernel
theorem dX6_fromSlabs_70 : decode cX6_fromSlabs 70 = .ok (.iload_n 2, 1) := by decide +kernel
theorem dX6_fromSlabs_71 : decode cX6_fromSlabs 71 = .ok (.imul, 1) := by decide +kernel
theorem dX6_fromSlabs_72 : decode cX6_fromSlabs 72 = .ok (.iaload, 1) := by decide +kernel
theorem dX6_fromSlabs_73 : decode cX6_fromSlabs 73 = .ok (.istore_n 3, 1) := by decide +kernel
theorem dX6_fromSlabs_74 : decode cX6_fromSlabs 74 = .ok (.aload_n 0, 1) := by decide +kernel
theorem dX6_fromSlabs_75 : decode cX6_fromSlabs 75 = .ok (.getfield 56, 3) := by decide +kernel
theorem dX6_fromSlabs_78 : decode cX6_fromSlabs 78 = .ok (.iload_n 3, 1) := by decide +kernel
theorem dX6_fromSlabs_79 : decode cX6_fromSlabs 79 = .ok (.iaload, 1) := by decide +kernel
theorem dX6_fromSlabs_80 : decode cX6_fromSlabs 80 = .ok (.istore 4, 2) := by decide +kernel
theorem dX6_fromSlabs_82 : decode cX6_fromSlabs 82 = .ok (.aload_n 0, 1) := by decide +kernel
theorem dX6_fromSlabs_83 : decode cX6_fromSlabs 83 = .ok (.getfield 56, 3) := by decide +kernel
theorem dX6_fromSlabs_86 : decode cX6_fromSlabs 86 = .ok (.iload_n 3, 1) := by decide +kernel
theorem dX6_fromSlabs_87 : decode cX6_fromSlabs 87 = .ok (.aload_n 0, 1) := by decide +kernel
theorem dX6_fromSlabs_88 : decode cX6_fromSlabs 88 = .ok (.getfield 63, 3) := by decide +kernel
theorem dX6_fromSlabs_91 : decode cX6_fromSlabs 91 = .ok (.iload 4, 2) := by decide +kernel
theorem dX6_fromSlabs_93 : decode cX6_fromSlabs 93 = .ok (.iaload, 1) := by decide +kernel
theorem dX6_fromSlabs_94 : decode cX6_fromSlabs 94 = .ok (.iastore, 1) := by decide +kernel
theorem dX6_fromSlabs_95 : decode cX6_fromSlabs 95 = .ok (.aload_n 0, 1) := by decide +kernel
theorem dX6_fromSlabs_96 : decode cX6_fromSlabs 96 = .ok (.iload_n 3, 1) := by decide +kernel
theorem dX6_fromSlabs_97 : decode cX6_fromSlabs 97 = .ok (.iconst 1, 1) := by decide +kernel
theorem dX6_fromSlabs_98 : decode cX6_fromSlabs 98 = .ok (.invokevirtual 131, 3) := by decide +kernel
theorem dX6_fromSlabs_101 : decode cX6_fromSlabs 101 = .ok (.iload 4, 2) := by decide +kernel
theorem dX6_fromSlabs_103 : decode cX6_fromSlabs 103 = .ok (.ireturn, 1) := by decide +kernel
theorem dX6_toSlab_0 : decode cX6_toSlab 0 = .ok (.aload_n 0, 1) := by decide +kernel
theorem dX6_toSlab_1 : decode cX6_toSlab 1 = .ok (.getfield 13, 3) := by decide +kernel
theorem dX6_toSlab_4 : decode cX6_toSlab 4 = .ok (.iload_n 1, 1) := by decide +kernel
theorem dX6_toSlab_5 : decode cX6_toSlab 5 = .ok (.sipush 128, 3) := by decide +kernel
theorem dX6_toSlab_8 : decode cX6_toSlab 8 = .ok (.idiv, 1) := by decide +kernel
theorem dX6_toSlab_9 : decode cX6_toSlab 9 = .ok (.iaload, 1) := by decide +kernel
theorem dX6_toSlab_10 : decode cX6_toSlab 10 = .ok (.istore_n 2, 1) := by decide +kernel
theorem dX6_toSlab_11 : decode cX6_toSlab 11 = .ok (.aload_n 0, 1) := by decide +kernel
theorem dX6_toSlab_12 : decode cX6_toSlab 12 = .ok (.getfield 60, 3) := by decide +kernel
theorem dX6_toSlab_15 : decode cX6_toSlab 15 = .ok (.iload_n 1, 1) := by decide +kernel
theorem dX6_toSlab_16 : decode cX6_toSlab 16 = .ok (.iconst 1, 1) := by decide +kernel
theorem dX6_toSlab_17 : decode cX6_toSlab 17 = .ok (.iastore, 1) := by decide +kernel
theorem dX6_toSlab_18 : decode cX6_toSlab 18 = .ok (.aload_n 0, 1) := by decide +kernel
theorem dX6_toSlab_19 : decode cX6_toSlab 19 = .ok (.getfield 63, 3) := by decide +kernel
theorem dX6_toSlab_22 : decode cX6_toSlab 22 = .ok (.iload_n 1, 1) := by decide +kernel
theorem dX6_toSlab_23 : decode cX6_toSlab 23 = .ok (.aload_n 0, 1) := by decide +kernel
theorem dX6_toSlab_24 : decode cX6_toSlab 24 = .ok (.getfield 56, 3) := by decide +kernel
theorem dX6_toSlab_27 : decode cX6_toSlab 27 = .ok (.iload_n 2, 1) := by decide +kernel
theorem dX6_toSlab_28 : decode cX6_toSlab 28 = .ok (.iaload, 1) := by decide +kernel
theorem dX6_toSlab_29 : decode cX6_toSlab 29 = .ok (.iastore, 1) := by decide +kernel
theorem dX6_toSlab_30 : decode cX6_toSlab 30 = .ok (.aload_n 0, 1) := by decide +kernel
theorem dX6_toSlab_31 : decode cX6_toSlab 31 = .ok (.getfield 56, 3) := by decide +kernel
theorem dX6_toSlab_34 : decode cX6_toSlab 34 = .ok (.iload_n 2, 1) := by decide +kernel
theorem dX6_toSlab_35 : decode cX6_toSlab 35 = .ok (.iload_n 1, 1) := by decide +kernel
theorem dX6_toSlab_36 : decode cX6_toSlab 36 = .ok (.iastore, 1) := by decide +kernel
theorem dX6_toSlab_37 : decode cX6_toSlab 37 = .ok (.aload_n 0, 1) := by decide +kernel
theorem dX6_toSlab_38 : decode cX6_toSlab 38 = .ok (.iload_n 2, 1) := by decide +kernel
theorem dX6_toSlab_39 : decode cX6_toSlab 39 = .ok (.iconst (-1), 1) := by decide +kernel
theorem dX6_toSlab_40 : decode cX6_toSlab 40 = .ok (.invokevirtual 131, 3) := by decide +kernel
theorem dX6_toSlab_43 : decode cX6_toSlab 43 = .ok (.return_, 1) := by decide +kernel
theorem dX6_cache_0 : decode cX6_cache 0 = .ok (.iload_n 1, 1) := by decide +kernel
theorem dX6_cache_1 : decode cX6_cache 1 = .ok (.bipush 8, 2) := by decide +kernel
theorem dX6_cache_3 : decode cX6_cache 3 = .ok (.sipush 4096, 3) := by decide +kernel
theorem dX6_cache_6 : decode cX6_cache 6 = .ok (.invokestatic 94, 3) := by decide +kernel
theorem dX6_cache_9 : decode cX6_cache 9 = .ok (.ifCond .eq 47, 3) := by decide +kernel
theorem dX6_cache_12 : decode cX6_cache 12 = .ok (.iload_n 1, 1) := by decide +kernel
theorem dX6_cache_13 : decode cX6_cache 13 = .ok (.bipush 8, 2) := by decide +kernel
theorem dX6_cache_15 : decode cX6_cache 15 = .ok (.irem, 1) := by decide +kernel
theorem dX6_cache_16 : decode cX6_cache 16 = .ok (.ifCond .ne 40, 3) := by decide +kernel
theorem dX6_cache_19 : decode cX6_cache 19 = .ok (.iload_n 2, 1) := by decide +kernel
theorem dX6_cache_20 : decode cX6_cache 20 = .ok (.bipush 8, 2) := by decide +kernel
theorem dX6_cache_22 : decode cX6_cache 22 = .ok (.if_icmp .eq 21, 3) := by decide +kernel
theorem dX6_cache_25 : decode cX6_cache 25 = .ok (.iload_n 2, 1) := by decide +kernel
theorem dX6_cache_26 : decode cX6_cache 26 = .ok (.bipush 16, 2) := by decide +kernel
theorem dX6_cache_28 : decode cX6_cache 28 = .ok (.if_icmp .eq 15, 3) := by decide +kernel
theorem dX6_cache_31 : decode cX6_cache 31 = .ok (.iload_n 2, 1) := by decide +kernel
theorem dX6_cache_32 : decode cX6_cache 32 = .ok (.bipush 32, 2) := by decide +kernel
theorem dX6_cache_34 : decode cX6_cache 34 = .ok (.if_icmp .eq 9, 3) := by decide +kernel
theorem dX6_cache_37 : decode cX6_cache 37 = .ok (.iload_n 2, 1) := by decide +kernel
theorem dX6_cache_38 : decode cX6_cache 38 = .ok (.bipush 64, 2) := by decide +kernel
theorem dX6_cache_40 : decode cX6_cache 40 = .ok (.if_icmp .ne 16, 3) := by decide +kernel
theorem dX6_cache_43 : decode cX6_cache 43 = .ok (.iload_n 3, 1) := by decide +kernel
theorem dX6_cache_44 : decode cX6_cache 44 = .ok (.iconst 0, 1) := by decide +kernel
theorem dX6_cache_45 : decode cX6_cache 45 = .ok (.iconst 3, 1) := by decide +kernel
theorem dX6_cache_46 : decode cX6_cache 46 = .ok (.invokestatic 94, 3) := by decide +kernel
theorem dX6_cache_49 : decode cX6_cache 49 = .ok (.ifCond .eq 7, 3) := by decide +kernel
theorem dX6_cache_52 : decode cX6_cache 52 = .ok (.iconst 1, 1) := by decide +kernel
theorem dX6_cache_53 : decode cX6_cache 53 = .ok (.goto 4, 3) := by decide +kernel
theorem dX6_cache_56 : decode cX6_cache 56 = .ok (.iconst 0, 1) := by decide +kernel
theorem dX6_cache_57 : decode cX6_cache 57 = .ok (.istore 5, 2) := by decide +kernel
theorem dX6_cache_59 : decode cX6_cache 59 = .ok (.iload 5, 2) := by decide +kernel
theorem dX6_cache_61 : decode cX6_cache 61 = .ok (.ifCond .eq 15, 3) := by decide +kernel
theorem dX6_cache_64 : decode cX6_cache 64 = .ok (.iload_n 1, 1) := by decide +kernel
theorem dX6_cache_65 : decode cX6_cache 65 = .ok (.iload_n 2, 1) := by decide +kernel
theorem dX6_cache_66 : decode cX6_cache 66 = .ok (.iadd, 1) := by decide +kernel
theorem dX6_cache_67 : decode cX6_cache 67 = .ok (.iconst 1, 1) := by decide +kernel
theorem dX6_cache_68 : decode cX6_cache 68 = .ok (.isub, 1) := by decide +kernel
theorem dX6_cache_69 : decode cX6_cache 69 = .ok (.iload_n 2, 1) := by decide +kernel
theorem dX6_cache_70 : decode cX6_cache 70 = .ok (.idiv, 1) := by decide +kernel
theorem dX6_cache_71 : decode cX6_cache 71 = .ok (.iload_n 2, 1) := by decide +kernel
theorem dX6_cache_72 : decode cX6_cache 72 = .ok (.imul, 1) := by decide +kernel
theorem dX6_cache_73 : decode cX6_cache 73 = .ok (.goto 4, 3) := by decide +kernel
theorem dX6_cache_76 : decode cX6_cache 76 = .ok (.iconst 1, 1) := by decide +kernel
theorem dX6_cache_77 : decode cX6_cache 77 = .ok (.istore 6, 2) := by decide +kernel
theorem dX6_cache_79 : decode cX6_cache 79 = .ok (.iload 5, 2) := by decide +kernel
theorem dX6_cache_81 : decode cX6_cache 81 = .ok (.ifCond .eq 11, 3) := by decide +kernel
theorem dX6_cache_84 : decode cX6_cache 84 = .ok (.sipush 1024, 3) := by decide +kernel
theorem dX6_cache_87 : decode cX6_cache 87 = .ok (.iload_n 3, 1) := by decide +kernel
theorem dX6_cache_88 : decode cX6_cache 88 = .ok (.ishl, 1) := by decide +kernel
theorem dX6_cache_89 : decode cX6_cache 89 = .ok (.goto 4, 3) := by decide +kernel
theorem dX6_cache_92 : decode cX6_cache 92 = .ok (.iconst 0, 1) := by decide +kernel
theorem dX6_cache_93 : decode cX6_cache 93 = .ok (.istore 7, 2) := by decide +kernel
theorem dX6_cache_95 : decode cX6_cache 95 = .ok (.aload_n 0, 1) := by decide +kernel
theorem dX6_cache_96 : decode cX6_cache 96 = .ok (.iload 5, 2) := by decide +kernel
theorem dX6_cache_98 : decode cX6_cache 98 = .ok (.ifCond .eq 10, 3) := by decide +kernel
theorem dX6_cache_101 : decode cX6_cache 101 = .ok (.iload 7, 2) := by decide +kernel
theorem dX6_cache_103 : decode cX6_cache 103 = .ok (.iload 6, 2) := by decide +kernel
theorem dX6_cache_105 : decode cX6_cache 105 = .ok (.if_icmp .ge 7, 3) := by decide +kernel
theorem dX6_cache_108 : decode cX6_cache 108 = .ok (.iconst 1, 1) := by decide +kernel
theorem dX6_cache_109 : decode cX6_cache 109 = .ok (.goto 4, 3) := by decide +kernel
theorem dX6_cache_112 : decode cX6_cache 112 = .ok (.iconst 0, 1) := by decide +kernel
theorem dX6_cache_113 : decode cX6_cache 113 = .ok (.invokevirtual 134, 3) := by decide +kernel
theorem dX6_cache_116 : decode cX6_cache 116 = .ok (.ifCond .eq 5, 3) := by decide +kernel
theorem dX6_cache_119 : decode cX6_cache 119 = .ok (.iconst 0, 1) := by decide +kernel
theorem dX6_cache_120 : decode cX6_cache 120 = .ok (.ireturn, 1) := by decide +kernel
theorem dX6_cache_121 : decode cX6_cache 121 = .ok (.aload_n 0, 1) := by decide +kernel
theorem dX6_cache_122 : decode cX6_cache 122 = .ok (.getfield 91, 3) := by decide +kernel
theorem dX6_cache_125 : decode cX6_cache 125 = .ok (.bipush 8, 2) := by decide +kernel
theorem dX6_cache_127 : decode cX6_cache 127 = .ok (.if_icmp .ne 5, 3) := by decide +kernel
theorem dX6_cache_130 : decode cX6_cache 130 = .ok (.iconst (-1), 1) := by decide +kernel
theorem dX6_cache_131 : decode cX6_cache 131 = .ok (.ireturn, 1) := by decide +kernel
theorem dX6_cache_132 : decode cX6_cache 132 = .ok (.aload_n 0, 1) := by decide +kernel
theorem dX6_cache_133 : decode cX6_cache 133 = .ok (.getfield 20, 3) := by decide +kernel
theorem dX6_cache_136 : decode cX6_cache 136 = .ok (.aload_n 0, 1) := by decide +kernel
theorem dX6_cache_137 : decode cX6_cache 137 = .ok (.getfield 91, 3) := by decide +kernel
theorem dX6_cache_140 : decode cX6_cache 140 = .ok (.iload_n 1, 1) := by decide +kernel
theorem dX6_cache_141 : decode cX6_cache 141 = .ok (.iastore, 1) := by decide +kernel
theorem dX6_cache_142 : decode cX6_cache 142 = .ok (.aload_n 0, 1) := by decide +kernel
theorem dX6_cache_143 : decode cX6_cache 143 = .ok (.getfield 23, 3) := by decide +kernel
theorem dX6_cache_146 : decode cX6_cache 146 = .ok (.aload_n 0, 1) := by decide +kernel
theorem dX6_cache_147 : decode cX6_cache 147 = .ok (.getfield 91, 3) := by decide +kernel
theorem dX6_cache_150 : decode cX6_cache 150 = .ok (.iload_n 2, 1) := by decide +kernel
theorem dX6_cache_151 : decode cX6_cache 151 = .ok (.iastore, 1) := by decide +kernel
theorem dX6_cache_152 : decode cX6_cache 152 = .ok (.aload_n 0, 1) := by decide +kernel
theorem dX6_cache_153 : decode cX6_cache 153 = .ok (.getfield 26, 3) := by decide +kernel
theorem dX6_cache_156 : decode cX6_cache 156 = .ok (.aload_n 0, 1) := by decide +kernel
theorem dX6_cache_157 : decode cX6_cache 157 = .ok (.getfield 91, 3) := by decide +kernel
theorem dX6_cache_160 : decode cX6_cache 160 = .ok (.iload_n 3, 1) := by decide +kernel
theorem dX6_cache_161 : decode cX6_cache 161 = .ok (.iastore, 1) := by decide +kernel
theorem dX6_cache_162 : decode cX6_cache 162 = .ok (.aload_n 0, 1) := by decide +kernel
theorem dX6_cache_163 : decode cX6_cache 163 = .ok (.getfield 29, 3) := by decide +kernel
theorem dX6_cache_166 : decode cX6_cache 166 = .ok (.aload_n 0, 1) := by decide +kernel
theorem dX6_cache_167 : decode cX6_cache 167 = .ok (.getfield 91, 3) := by decide +kernel
theorem dX6_cache_170 : decode cX6_cache 170 = .ok (.iload 4, 2) := by decide +kernel
theorem dX6_cache_172 : decode cX6_cache 172 = .ok (.iastore, 1) := by decide +kernel
theorem dX6_cache_173 : decode cX6_cache 173 = .ok (.aload_n 0, 1) := by decide +kernel
theorem dX6_cache_174 : decode cX6_cache 174 = .ok (.getfield 32, 3) := by decide +kernel
theorem dX6_cache_177 : decode cX6_cache 177 = .ok (.aload_n 0, 1) := by decide +kernel
theorem dX6_cache_178 : decode cX6_cache 178 = .ok (.getfield 91, 3) := by decide +kernel
theorem dX6_cache_181 : decode cX6_cache 181 = .ok (.iload 6, 2) := by decide +kernel
theorem dX6_cache_183 : decode cX6_cache 183 = .ok (.iastore, 1) := by decide +kernel
theorem dX6_cache_184 : decode cX6_cache 184 = .ok (.aload_n 0, 1) := by decide +kernel
theorem dX6_cache_185 : decode cX6_cache 185 = .ok (.getfield 35, 3) := by decide +kernel
theorem dX6_cache_188 : decode cX6_cache 188 = .ok (.aload_n 0, 1) := by decide +kernel
theorem dX6_cache_189 : decode cX6_cache 189 = .ok (.getfield 91, 3) := by decide +kernel
theorem dX6_cache_192 : decode cX6_cache 192 = .ok (.iload 7, 2) := by decide +kernel
theorem dX6_cache_194 : decode cX6_cache 194 = .ok (.iload 6, 2) := by decide +kernel
theorem dX6_cache_196 : decode cX6_cache 196 = .ok (.idiv, 1) := by decide +kernel
theorem dX6_cache_197 : decode cX6_cache 197 = .ok (.iastore, 1) := by decide +kernel
theorem dX6_cache_198 : decode cX6_cache 198 = .ok (.aload_n 0, 1) := by decide +kernel
theorem dX6_cache_199 : decode cX6_cache 199 = .ok (.getfield 38, 3) := by decide +kernel
theorem dX6_cache_202 : decode cX6_cache 202 = .ok (.aload_n 0, 1) := by decide +kernel
theorem dX6_cache_203 : decode cX6_cache 203 = .ok (.getfield 91, 3) := by decide +kernel
theorem dX6_cache_206 : decode cX6_cache 206 = .ok (.iload 7, 2) := by decide +kernel
theorem dX6_cache_208 : decode cX6_cache 208 = .ok (.iload 6, 2) := by decide +kernel
theorem dX6_cache_210 : decode cX6_cache 210 = .ok (.irem, 1) := by decide +kernel
theorem dX6_cache_211 : decode cX6_cache 211 = .ok (.iload_n 2, 1) := by decide +kernel
theorem dX6_cache_212 : decode cX6_cache 212 = .ok (.idiv, 1) := by decide +kernel
theorem dX6_cache_213 : decode cX6_cache 213 = .ok (.iconst 1, 1) := by decide +kernel
theorem dX6_cache_214 : decode cX6_cache 214 = .ok (.iadd, 1) := by decide +kernel
theorem dX6_cache_215 : decode cX6_cache 215 = .ok (.iastore, 1) := by decide +kernel
theorem dX6_cache_216 : decode cX6_cache 216 = .ok (.aload_n 0, 1) := by decide +kernel
theorem dX6_cache_217 : decode cX6_cache 217 = .ok (.dup, 1) := by decide +kernel
theorem dX6_cache_218 : decode cX6_cache 218 = .ok (.getfield 91, 3) := by decide +kernel
theorem dX6_cache_221 : decode cX6_cache 221 = .ok (.iconst 1, 1) := by decide +kernel
theorem dX6_cache_222 : decode cX6_cache 222 = .ok (.iadd, 1) := by decide +kernel
theorem dX6_cache_223 : decode cX6_cache 223 = .ok (.putfield 91, 3) := by decide +kernel
theorem dX6_cache_226 : decode cX6_cache 226 = .ok (.aload_n 0, 1) := by decide +kernel
theorem dX6_cache_227 : decode cX6_cache 227 = .ok (.getfield 91, 3) := by decide +kernel
theorem dX6_cache_230 : decode cX6_cache 230 = .ok (.iconst 1, 1) := by decide +kernel
theorem dX6_cache_231 : decode cX6_cache 231 = .ok (.isub, 1) := by decide +kernel
theorem dX6_cache_232 : decode cX6_cache 232 = .ok (.ireturn, 1) := by decide +kernel
theorem dX6_liveOf_0 : decode cX6_liveOf 0 = .ok (.iconst 0, 1) := by decide +kernel
theorem dX6_liveOf_1 : decode cX6_liveOf 1 = .ok (.istore_n 2, 1) := by decide +kernel
theorem dX6_liveOf_2 : decode cX6_liveOf 2 = .ok (.iconst 0, 1) := by decide +kernel
theorem dX6_liveOf_3 : decode cX6_liveOf 3 = .ok (.istore_n 3, 1) := by decide +kernel
theorem dX6_liveOf_4 : decode cX6_liveOf 4 = .ok (.iload_n 3, 1) := by decide +kernel
theorem dX6_liveOf_5 : decode cX6_liveOf 5 = .ok (.ldc 59, 2) := by decide +kernel
theorem dX6_liveOf_7 : decode cX6_liveOf 7 = .ok (.if_icmp .ge 46, 3) := by decide +kernel
theorem dX6_liveOf_10 : decode cX6_liveOf 10 = .ok (.aload_n 0, 1) := by decide +kernel
theorem dX6_liveOf_11 : decode cX6_liveOf 11 = .ok (.getfield 60, 3) := by decide +kernel
theorem dX6_liveOf_14 : decode cX6_liveOf 14 = .ok (.iload_n 3, 1) := by decide +kernel
theorem dX6_liveOf_15 : decode cX6_liveOf 15 = .ok (.iaload, 1) := by decide +kernel
theorem dX6_liveOf_16 : decode cX6_liveOf 16 = .ok (.iconst 2, 1) := by decide +kernel
theorem dX6_liveOf_17 : decode cX6_liveOf 17 = .ok (.if_icmp .ne 28, 3) := by decide +kernel
theorem dX6_liveOf_20 : decode cX6_liveOf 20 = .ok (.aload_n 0, 1) := by decide +kernel
theorem dX6_liveOf_21 : decode cX6_liveOf 21 = .ok (.getfield 47, 3) := by decide +kernel
theorem dX6_liveOf_24 : decode cX6_liveOf 24 = .ok (.aload_n 0, 1) := by decide +kernel
theorem dX6_liveOf_25 : decode cX6_liveOf 25 = .ok (.getfield 13, 3) := by decide +kernel
theorem dX6_liveOf_28 : decode cX6_liveOf 28 = .ok (.iload_n 3, 1) := by decide +kernel
theorem dX6_liveOf_29 : decode cX6_liveOf 29 = .ok (.sipush 128, 3) := by decide +kernel
theorem dX6_liveOf_32 : decode cX6_liveOf 32 = .ok (.idiv, 1) := by decide +kernel
theorem dX6_liveOf_33 : decode cX6_liveOf 33 = .ok (.iaload, 1) := by decide +kernel
theorem dX6_liveOf_34 : decode cX6_liveOf 34 = .ok (.iaload, 1) := by decide +kernel
theorem dX6_liveOf_35 : decode cX6_liveOf 35 = .ok (.iload_n 1, 1) := by decide +kernel
theorem dX6_liveOf_36 : decode cX6_liveOf 36 = .ok (.if_icmp .ne 9, 3) := by decide +kernel
theorem dX6_liveOf_39 : decode cX6_liveOf 39 = .ok (.iload_n 2, 1) := by decide +kernel
theorem dX6_liveOf_40 : decode cX6_liveOf 40 = .ok (.iconst 1, 1) := by decide +kernel
theorem dX6_liveOf_41 : decode cX6_liveOf 41 = .ok (.iadd, 1) := by decide +kernel
theorem dX6_liveOf_42 : decode cX6_liveOf 42 = .ok (.goto 4, 3) := by decide +kernel
theorem dX6_liveOf_45 : decode cX6_liveOf 45 = .ok (.iload_n 2, 1) := by decide +kernel
theorem dX6_liveOf_46 : decode cX6_liveOf 46 = .ok (.istore_n 2, 1) := by decide +kernel
theorem dX6_liveOf_47 : decode cX6_liveOf 47 = .ok (.iinc 3 1, 3) := by decide +kernel
theorem dX6_liveOf_50 : decode cX6_liveOf 50 = .ok (.goto (-46), 3) := by decide +kernel
theorem dX6_liveOf_53 : decode cX6_liveOf 53 = .ok (.iload_n 2, 1) := by decide +kernel
theorem dX6_liveOf_54 : decode cX6_liveOf 54 = .ok (.ireturn, 1) := by decide +kernel
theorem dX6_emptyHeld_0 : decode cX6_emptyHeld 0 = .ok (.aload_n 0, 1) := by decide +kernel
theorem dX6_emptyHeld_1 : decode cX6_emptyHeld 1 = .ok (.getfield 75, 3) := by decide +kernel
theorem dX6_emptyHeld_4 : decode cX6_emptyHeld 4 = .ok (.iload_n 1, 1) := by decide +kernel
theorem dX6_emptyHeld_5 : decode cX6_emptyHeld 5 = .ok (.iaload, 1) := by decide +kernel
theorem dX6_emptyHeld_6 : decode cX6_emptyHeld 6 = .ok (.istore_n 2, 1) := by decide +kernel
theorem dX6_emptyHeld_7 : decode cX6_emptyHeld 7 = .ok (.iload_n 2, 1) := by decide +kernel
theorem dX6_emptyHeld_8 : decode cX6_emptyHeld 8 = .ok (.iconst 1, 1) := by decide +kernel
theorem dX6_emptyHeld_9 : decode cX6_emptyHeld 9 = .ok (.isub, 1) := by decide +kernel
theorem dX6_emptyHeld_10 : decode cX6_emptyHeld 10 = .ok (.istore_n 3, 1) := by decide +kernel
theorem dX6_emptyHeld_11 : decode cX6_emptyHeld 11 = .ok (.iload_n 3, 1) := by decide +kernel
theorem dX6_emptyHeld_12 : decode cX6_emptyHeld 12 = .ok (.ifCond .lt 23, 3) := by decide +kernel
theorem dX6_emptyHeld_15 : decode cX6_emptyHeld 15 = .ok (.aload_n 0, 1) := by decide +kernel
theorem dX6_emptyHeld_16 : decode cX6_emptyHeld 16 = .ok (.aload_n 0, 1) := by decide +kernel
theorem dX6_emptyHeld_17 : decode cX6_emptyHeld 17 = .ok (.getfield 78, 3) := by decide +kernel
theorem dX6_emptyHeld_20 : decode cX6_emptyHeld 20 = .ok (.iconst 4, 1) := by decide +kernel
theorem dX6_emptyHeld_21 : decode cX6_emptyHeld 21 = .ok (.iload_n 1, 1) := by decide +kernel
theorem dX6_emptyHeld_22 : decode cX6_emptyHeld 22 = .ok (.imul, 1) := by decide +kernel
theorem dX6_emptyHeld_23 : decode cX6_emptyHeld 23 = .ok (.iload_n 3, 1) := by decide +kernel
theorem dX6_emptyHeld_24 : decode cX6_emptyHeld 24 = .ok (.iadd, 1) := by decide +kernel
theorem dX6_emptyHeld_25 : decode cX6_emptyHeld 25 = .ok (.iaload, 1) := by decide +kernel
theorem dX6_emptyHeld_26 : decode cX6_emptyHeld 26 = .ok (.invokevirtual 137, 3) := by decide +kernel
theorem dX6_emptyHeld_29 : decode cX6_emptyHeld 29 = .ok (.iinc 3 (-1), 3) := by decide +kernel
theorem dX6_emptyHeld_32 : decode cX6_emptyHeld 32 = .ok (.goto (-21), 3) := by decide +kernel
theorem dX6_emptyHeld_35 : decode cX6_emptyHeld 35 = .ok (.aload_n 0, 1) := by decide +kernel
theorem dX6_emptyHeld_36 : decode cX6_emptyHeld 36 = .ok (.getfield 75, 3) := by decide +kernel
theorem dX6_emptyHeld_39 : decode cX6_emptyHeld 39 = .ok (.iload_n 1, 1) := by decide +kernel
theorem dX6_emptyHeld_40 : decode cX6_emptyHeld 40 = .ok (.iconst 0, 1) := by decide +kernel
theorem dX6_emptyHeld_41 : decode cX6_emptyHeld 41 = .ok (.iastore, 1) := by decide +kernel
theorem dX6_emptyHeld_42 : decode cX6_emptyHeld 42 = .ok (.iload_n 2, 1) := by decide +kernel
theorem dX6_emptyHeld_43 : decode cX6_emptyHeld 43 = .ok (.ireturn, 1) := by decide +kernel
theorem dX6_emptyDepot_0 : decode cX6_emptyDepot 0 = .ok (.iconst 4, 1) := by decide +kernel
theorem dX6_emptyDepot_1 : decode cX6_emptyDepot 1 = .ok (.aload_n 0, 1) := by decide +kernel
theorem dX6_emptyDepot_2 : decode cX6_emptyDepot 2 = .ok (.getfield 81, 3) := by decide +kernel
theorem dX6_emptyDepot_5 : decode cX6_emptyDepot 5 = .ok (.iload_n 1, 1) := by decide +kernel
theorem dX6_emptyDepot_6 : decode cX6_emptyDepot 6 = .ok (.iaload, 1) := by decide +kernel
theorem dX6_emptyDepot_7 : decode cX6_emptyDepot 7 = .ok (.imul, 1) := by decide +kernel
theorem dX6_emptyDepot_8 : decode cX6_emptyDepot 8 = .ok (.istore_n 2, 1) := by decide +kernel
theorem dX6_emptyDepot_9 : decode cX6_emptyDepot 9 = .ok (.iload_n 2, 1) := by decide +kernel
theorem dX6_emptyDepot_10 : decode cX6_emptyDepot 10 = .ok (.iconst 1, 1) := by decide +kernel
theorem dX6_emptyDepot_11 : decode cX6_emptyDepot 11 = .ok (.isub, 1) := by decide +kernel
theorem dX6_emptyDepot_12 : decode cX6_emptyDepot 12 = .ok (.istore_n 3, 1) := by decide +kernel
theorem dX6_emptyDepot_13 : decode cX6_emptyDepot 13 = .ok (.iload_n 3, 1) := by decide +kernel
theorem dX6_emptyDepot_14 : decode cX6_emptyDepot 14 = .ok (.ifCond .lt 24, 3) := by decide +kernel
theorem dX6_emptyDepot_17 : decode cX6_emptyDepot 17 = .ok (.aload_n 0, 1) := by decide +kernel
theorem dX6_emptyDepot_18 : decode cX6_emptyDepot 18 = .ok (.aload_n 0, 1) := by decide +kernel
theorem dX6_emptyDepot_19 : decode cX6_emptyDepot 19 = .ok (.getfield 84, 3) := by decide +kernel
theorem dX6_emptyDepot_22 : decode cX6_emptyDepot 22 = .ok (.bipush 12, 2) := by decide +kernel
theorem dX6_emptyDepot_24 : decode cX6_emptyDepot 24 = .ok (.iload_n 1, 1) := by decide +kernel
theorem dX6_emptyDepot_25 : decode cX6_emptyDepot 25 = .ok (.imul, 1) := by decide +kernel
theorem dX6_emptyDepot_26 : decode cX6_emptyDepot 26 = .ok (.iload_n 3, 1) := by decide +kernel
theorem dX6_emptyDepot_27 : decode cX6_emptyDepot 27 = .ok (.iadd, 1) := by decide +kernel
theorem dX6_emptyDepot_28 : decode cX6_emptyDepot 28 = .ok (.iaload, 1) := by decide +kernel
theorem dX6_emptyDepot_29 : decode cX6_emptyDepot 29 = .ok (.invokevirtual 137, 3) := by decide +kernel
theorem dX6_emptyDepot_32 : decode cX6_emptyDepot 32 = .ok (.iinc 3 (-1), 3) := by decide +kernel
theorem dX6_emptyDepot_35 : decode cX6_emptyDepot 35 = .ok (.goto (-22), 3) := by decide +kernel
theorem dX6_emptyDepot_38 : decode cX6_emptyDepot 38 = .ok (.aload_n 0, 1) := by decide +kernel
theorem dX6_emptyDepot_39 : decode cX6_emptyDepot 39 = .ok (.getfield 81, 3) := by decide +kernel
theorem dX6_emptyDepot_42 : decode cX6_emptyDepot 42 = .ok (.iload_n 1, 1) := by decide +kernel
theorem dX6_emptyDepot_43 : decode cX6_emptyDepot 43 = .ok (.iconst 0, 1) := by decide +kernel
theorem dX6_emptyDepot_44 : decode cX6_emptyDepot 44 = .ok (.iastore, 1) := by decide +kernel
theorem dX6_emptyDepot_45 : decode cX6_emptyDepot 45 = .ok (.iload_n 2, 1) := by decide +kernel
theorem dX6_emptyDepot_46 : decode cX6_emptyDepot 46 = .ok (.ireturn, 1) := by decide +kernel
theorem dX6_drop_0 : decode cX6_drop 0 = .ok (.aload_n 0, 1) := by decide +kernel
theorem dX6_drop_1 : decode cX6_drop 1 = .ok (.aload_n 0, 1) := by decide +kernel
theorem dX6_drop_2 : decode cX6_drop 2 = .ok (.iload_n 1, 1) := by decide +kernel
theorem dX6_drop_3 : decode cX6_drop 3 = .ok (.invokevirtual 141, 3) := by decide +kernel
theorem dX6_drop_6 : decode cX6_drop 6 = .ok (.ifCond .ne 7, 3) := by decide +kernel
theorem dX6_drop_9 : decode cX6_drop 9 = .ok (.iconst 1, 1) := by decide +kernel
theorem dX6_drop_10 : decode cX6_drop 10 = .ok (.goto 16, 3) := by decide +kernel
theorem dX6_drop_13 : decode cX6_drop 13 = .ok (.aload_n 0, 1) := by decide +kernel
theorem dX6_drop_14 : decode cX6_drop 14 = .ok (.iload_n 1, 1) := by decide +kernel
theorem dX6_drop_15 : decode cX6_drop 15 = .ok (.invokevirtual 144, 3) := by decide +kernel
theorem dX6_drop_18 : decode cX6_drop 18 = .ok (.ifCond .le 7, 3) := by decide +kernel
theorem dX6_drop_21 : decode cX6_drop 21 = .ok (.iconst 2, 1) := by decide +kernel
theorem dX6_drop_22 : decode cX6_drop 22 = .ok (.goto 4, 3) := by decide +kernel
theorem dX6_drop_25 : decode cX6_drop 25 = .ok (.iconst 0, 1) := by decide +kernel
theorem dX6_drop_26 : decode cX6_drop 26 = .ok (.invokevirtual 134, 3) := by decide +kernel
theorem dX6_drop_29 : decode cX6_drop 29 = .ok (.ifCond .eq 5, 3) := by decide +kernel
theorem dX6_drop_32 : decode cX6_drop 32 = .ok (.iconst 0, 1) := by decide +kernel
theorem dX6_drop_33 : decode cX6_drop 33 = .ok (.ireturn, 1) := by decide +kernel
theorem dX6_drop_34 : decode cX6_drop 34 = .ok (.iconst 0, 1) := by decide +kernel
theorem dX6_drop_35 : decode cX6_drop 35 = .ok (.istore_n 2, 1) := by decide +kernel
theorem dX6_drop_36 : decode cX6_drop 36 = .ok (.iload_n 2, 1) := by decide +kernel
theorem dX6_drop_37 : decode cX6_drop 37 = .ok (.iconst 4, 1) := by decide +kernel
theorem dX6_drop_38 : decode cX6_drop 38 = .ok (.if_icmp .ge 37, 3) := by decide +kernel
theorem dX6_drop_41 : decode cX6_drop 41 = .ok (.aload_n 0, 1) := by decide +kernel
theorem dX6_drop_42 : decode cX6_drop 42 = .ok (.iconst 2, 1) := by decide +kernel
theorem dX6_drop_43 : decode cX6_drop 43 = .ok (.bipush 8, 2) := by decide +kernel
theorem dX6_drop_45 : decode cX6_drop 45 = .ok (.iload_n 2, 1) := by decide +kernel
theorem dX6_drop_46 : decode cX6_drop 46 = .ok (.imul, 1) := by decide +kernel
theorem dX6_drop_47 : decode cX6_drop 47 = .ok (.iload_n 1, 1) := by decide +kernel
theorem dX6_drop_48 : decode cX6_drop 48 = .ok (.iadd, 1) := by decide +kernel
theorem dX6_drop_49 : decode cX6_drop 49 = .ok (.imul, 1) := by decide +kernel
theorem dX6_drop_50 : decode cX6_drop 50 = .ok (.invokevirtual 147, 3) := by decide +kernel
theorem dX6_drop_53 : decode cX6_drop 53 = .ok (.pop, 1) := by decide +kernel
theorem dX6_drop_54 : decode cX6_drop 54 = .ok (.aload_n 0, 1) := by decide +kernel
theorem dX6_drop_55 : decode cX6_drop 55 = .ok (.iconst 2, 1) := by decide +kernel
theorem dX6_drop_56 : decode cX6_drop 56 = .ok (.bipush 8, 2) := by decide +kernel
theorem dX6_drop_58 : decode cX6_drop 58 = .ok (.iload_n 2, 1) := by decide +kernel
theorem dX6_drop_59 : decode cX6_drop 59 = .ok (.imul, 1) := by decide +kernel
theorem dX6_drop_60 : decode cX6_drop 60 = .ok (.iload_n 1, 1) := by decide +kernel
theorem dX6_drop_61 : decode cX6_drop 61 = .ok (.iadd, 1) := by decide +kernel
theorem dX6_drop_62 : decode cX6_drop 62 = .ok (.imul, 1) := by decide +kernel
theorem dX6_drop_63 : decode cX6_drop 63 = .ok (.iconst 1, 1) := by decide +kernel
theorem dX6_drop_64 : decode cX6_drop 64 = .ok (.iadd, 1) := by decide +kernel
theorem dX6_drop_65 : decode cX6_drop 65 = .ok (.invokevirtual 147, 3) := by decide +kernel
theorem dX6_drop_68 : decode cX6_drop 68 = .ok (.pop, 1) := by decide +kernel
theorem dX6_drop_69 : decode cX6_drop 69 = .ok (.iinc 2 1, 3) := by decide +kernel
theorem dX6_drop_72 : decode cX6_drop 72 = .ok (.goto (-36), 3) := by decide +kernel
theorem dX6_drop_75 : decode cX6_drop 75 = .ok (.aload_n 0, 1) := by decide +kernel
theorem dX6_drop_76 : decode cX6_drop 76 = .ok (.iload_n 1, 1) := by decide +kernel
theorem dX6_drop_77 : decode cX6_drop 77 = .ok (.invokevirtual 150, 3) := by decide +kernel
theorem dX6_drop_80 : decode cX6_drop 80 = .ok (.pop, 1) := by decide +kernel
theorem dX6_drop_81 : decode cX6_drop 81 = .ok (.iconst 0, 1) := by decide +kernel
theorem dX6_drop_82 : decode cX6_drop 82 = .ok (.istore_n 2, 1) := by decide +kernel
theorem dX6_drop_83 : decode cX6_drop 83 = .ok (.iconst 0, 1) := by decide +kernel
theorem dX6_drop_84 : decode cX6_drop 84 = .ok (.istore_n 3, 1) := by decide +kernel
theorem dX6_drop_85 : decode cX6_drop 85 = .ok (.iload_n 3, 1) := by decide +kernel
theorem dX6_drop_86 : decode cX6_drop 86 = .ok (.sipush 256, 3) := by decide +kernel
theorem dX6_drop_89 : decode cX6_drop 89 = .ok (.if_icmp .ge 41, 3) := by decide +kernel
theorem dX6_drop_92 : decode cX6_drop 92 = .ok (.aload_n 0, 1) := by decide +kernel
theorem dX6_drop_93 : decode cX6_drop 93 = .ok (.getfield 13, 3) := by decide +kernel
theorem dX6_drop_96 : decode cX6_drop 96 = .ok (.iload_n 3, 1) := by decide +kernel
theorem dX6_drop_97 : decode cX6_drop 97 = .ok (.iaload, 1) := by decide +kernel
theorem dX6_drop_98 : decode cX6_drop 98 = .ok (.iload_n 3, 1) := by decide +kernel
theorem dX6_drop_99 : decode cX6_drop 99 = .ok (.if_icmp .ne 23, 3) := by decide +kernel
theorem dX6_drop_102 : decode cX6_drop 102 = .ok (.aload_n 0, 1) := by decide +kernel
theorem dX6_drop_103 : decode cX6_drop 103 = .ok (.getfield 47, 3) := by decide +kernel
theorem dX6_drop_106 : decode cX6_drop 106 = .ok (.iload_n 3, 1) := by decide +kernel
theorem dX6_drop_107 : decode cX6_drop 107 = .ok (.iaload, 1) := by decide +kernel
theorem dX6_drop_108 : decode cX6_drop 108 = .ok (.iload_n 1, 1) := by decide +kernel
theorem dX6_drop_109 : decode cX6_drop 109 = .ok (.if_icmp .ne 13, 3) := by decide +kernel
theorem dX6_drop_112 : decode cX6_drop 112 = .ok (.iload_n 2, 1) := by decide +kernel
theorem dX6_drop_113 : decode cX6_drop 113 = .ok (.aload_n 0, 1) := by decide +kernel
theorem dX6_drop_114 : decode cX6_drop 114 = .ok (.iload_n 3, 1) := by decide +kernel
theorem dX6_drop_115 : decode cX6_drop 115 = .ok (.invokevirtual 124, 3) := by decide +kernel
theorem dX6_drop_118 : decode cX6_drop 118 = .ok (.iadd, 1) := by decide +kernel
theorem dX6_drop_119 : decode cX6_drop 119 = .ok (.goto 4, 3) := by decide +kernel
theorem dX6_drop_122 : decode cX6_drop 122 = .ok (.iload_n 2, 1) := by decide +kernel
theorem dX6_drop_123 : decode cX6_drop 123 = .ok (.istore_n 2, 1) := by decide +kernel
theorem dX6_drop_124 : decode cX6_drop 124 = .ok (.iinc 3 1, 3) := by decide +kernel
theorem dX6_drop_127 : decode cX6_drop 127 = .ok (.goto (-42), 3) := by decide +kernel
theorem dX6_drop_130 : decode cX6_drop 130 = .ok (.aload_n 0, 1) := by decide +kernel
theorem dX6_drop_131 : decode cX6_drop 131 = .ok (.getfield 16, 3) := by decide +kernel
theorem dX6_drop_134 : decode cX6_drop 134 = .ok (.iload_n 1, 1) := by decide +kernel
theorem dX6_drop_135 : decode cX6_drop 135 = .ok (.iconst 1, 1) := by decide +kernel
theorem dX6_drop_136 : decode cX6_drop 136 = .ok (.bastore, 1) := by decide +kernel
theorem dX6_drop_137 : decode cX6_drop 137 = .ok (.iload_n 2, 1) := by decide +kernel
theorem dX6_drop_138 : decode cX6_drop 138 = .ok (.ireturn, 1) := by decide +kernel
theorem dX6_swap_0 : decode cX6_swap 0 = .ok (.iconst 0, 1) := by decide +kernel
theorem dX6_swap_1 : decode cX6_swap 1 = .ok (.istore_n 2, 1) := by decide +kernel
theorem dX6_swap_2 : decode cX6_swap 2 = .ok (.iload_n 2, 1) := by decide +kernel
theorem dX6_swap_3 : decode cX6_swap 3 = .ok (.iconst 4, 1) := by decide +kernel
theorem dX6_swap_4 : decode cX6_swap 4 = .ok (.if_icmp .ge 55, 3) := by decide +kernel
theorem dX6_swap_7 : decode cX6_swap 7 = .ok (.aload_n 0, 1) := by decide +kernel
theorem dX6_swap_8 : decode cX6_swap 8 = .ok (.getfield 78, 3) := by decide +kernel
theorem dX6_swap_11 : decode cX6_swap 11 = .ok (.iconst 4, 1) := by decide +kernel
theorem dX6_swap_12 : decode cX6_swap 12 = .ok (.iload_n 1, 1) := by decide +kernel
theorem dX6_swap_13 : decode cX6_swap 13 = .ok (.imul, 1) := by decide +kernel
theorem dX6_swap_14 : decode cX6_swap 14 = .ok (.iload_n 2, 1) := by decide +kernel
theorem dX6_swap_15 : decode cX6_swap 15 = .ok (.iadd, 1) := by decide +kernel
theorem dX6_swap_16 : decode cX6_swap 16 = .ok (.iaload, 1) := by decide +kernel
theorem dX6_swap_17 : decode cX6_swap 17 = .ok (.istore_n 3, 1) := by decide +kernel
theorem dX6_swap_18 : decode cX6_swap 18 = .ok (.aload_n 0, 1) := by decide +kernel
theorem dX6_swap_19 : decode cX6_swap 19 = .ok (.getfield 78, 3) := by decide +kernel
theorem dX6_swap_22 : decode cX6_swap 22 = .ok (.iconst 4, 1) := by decide +kernel
theorem dX6_swap_23 : decode cX6_swap 23 = .ok (.iload_n 1, 1) := by decide +kernel
theorem dX6_swap_24 : decode cX6_swap 24 = .ok (.imul, 1) := by decide +kernel
theorem dX6_swap_25 : decode cX6_swap 25 = .ok (.iload_n 2, 1) := by decide +kernel
theorem dX6_swap_26 : decode cX6_swap 26 = .ok (.iadd, 1) := by decide +kernel
theorem dX6_swap_27 : decode cX6_swap 27 = .ok (.aload_n 0, 1) := by decide +kernel
theorem dX6_swap_28 : decode cX6_swap 28 = .ok (.getfield 78, 3) := by decide +kernel
theorem dX6_swap_31 : decode cX6_swap 31 = .ok (.iconst 4, 1) := by decide +kernel
theorem dX6_swap_32 : decode cX6_swap 32 = .ok (.iload_n 1, 1) := by decide +kernel
theorem dX6_swap_33 : decode cX6_swap 33 = .ok (.imul, 1) := by decide +kernel
theorem dX6_swap_34 : decode cX6_swap 34 = .ok (.iconst 4, 1) := by decide +kernel
theorem dX6_swap_35 : decode cX6_swap 35 = .ok (.iadd, 1) := by decide +kernel
theorem dX6_swap_36 : decode cX6_swap 36 = .ok (.iload_n 2, 1) := by decide +kernel
theorem dX6_swap_37 : decode cX6_swap 37 = .ok (.iadd, 1) := by decide +kernel
theorem dX6_swap_38 : decode cX6_swap 38 = .ok (.iaload, 1) := by decide +kernel
theorem dX6_swap_39 : decode cX6_swap 39 = .ok (.iastore, 1) := by decide +kernel
theorem dX6_swap_40 : decode cX6_swap 40 = .ok (.aload_n 0, 1) := by decide +kernel
theorem dX6_swap_41 : decode cX6_swap 41 = .ok (.getfield 78, 3) := by decide +kernel
theorem dX6_swap_44 : decode cX6_swap 44 = .ok (.iconst 4, 1) := by decide +kernel
theorem dX6_swap_45 : decode cX6_swap 45 = .ok (.iload_n 1, 1) := by decide +kernel
theorem dX6_swap_46 : decode cX6_swap 46 = .ok (.imul, 1) := by decide +kernel
theorem dX6_swap_47 : decode cX6_swap 47 = .ok (.iconst 4, 1) := by decide +kernel
theorem dX6_swap_48 : decode cX6_swap 48 = .ok (.iadd, 1) := by decide +kernel
theorem dX6_swap_49 : decode cX6_swap 49 = .ok (.iload_n 2, 1) := by decide +kernel
theorem dX6_swap_50 : decode cX6_swap 50 = .ok (.iadd, 1) := by decide +kernel
theorem dX6_swap_51 : decode cX6_swap 51 = .ok (.iload_n 3, 1) := by decide +kernel
theorem dX6_swap_52 : decode cX6_swap 52 = .ok (.iastore, 1) := by decide +kernel
theorem dX6_swap_53 : decode cX6_swap 53 = .ok (.iinc 2 1, 3) := by decide +kernel
theorem dX6_swap_56 : decode cX6_swap 56 = .ok (.goto (-54), 3) := by decide +kernel
theorem dX6_swap_59 : decode cX6_swap 59 = .ok (.aload_n 0, 1) := by decide +kernel
theorem dX6_swap_60 : decode cX6_swap 60 = .ok (.getfield 75, 3) := by decide +kernel
theorem dX6_swap_63 : decode cX6_swap 63 = .ok (.iload_n 1, 1) := by decide +kernel
theorem dX6_swap_64 : decode cX6_swap 64 = .ok (.iaload, 1) := by decide +kernel
theorem dX6_swap_65 : decode cX6_swap 65 = .ok (.istore_n 2, 1) := by decide +kernel
theorem dX6_swap_66 : decode cX6_swap 66 = .ok (.aload_n 0, 1) := by decide +kernel
theorem dX6_swap_67 : decode cX6_swap 67 = .ok (.getfield 75, 3) := by decide +kernel
theorem dX6_swap_70 : decode cX6_swap 70 = .ok (.iload_n 1, 1) := by decide +kernel
theorem dX6_swap_71 : decode cX6_swap 71 = .ok (.aload_n 0, 1) := by decide +kernel
theorem dX6_swap_72 : decode cX6_swap 72 = .ok (.getfield 75, 3) := by decide +kernel
theorem dX6_swap_75 : decode cX6_swap 75 = .ok (.iload_n 1, 1) := by decide +kernel
theorem dX6_swap_76 : decode cX6_swap 76 = .ok (.iconst 1, 1) := by decide +kernel
theorem dX6_swap_77 : decode cX6_swap 77 = .ok (.iadd, 1) := by decide +kernel
theorem dX6_swap_78 : decode cX6_swap 78 = .ok (.iaload, 1) := by decide +kernel
theorem dX6_swap_79 : decode cX6_swap 79 = .ok (.iastore, 1) := by decide +kernel
theorem dX6_swap_80 : decode cX6_swap 80 = .ok (.aload_n 0, 1) := by decide +kernel
theorem dX6_swap_81 : decode cX6_swap 81 = .ok (.getfield 75, 3) := by decide +kernel
theorem dX6_swap_84 : decode cX6_swap 84 = .ok (.iload_n 1, 1) := by decide +kernel
theorem dX6_swap_85 : decode cX6_swap 85 = .ok (.iconst 1, 1) := by decide +kernel
theorem dX6_swap_86 : decode cX6_swap 86 = .ok (.iadd, 1) := by decide +kernel
theorem dX6_swap_87 : decode cX6_swap 87 = .ok (.iload_n 2, 1) := by decide +kernel
theorem dX6_swap_88 : decode cX6_swap 88 = .ok (.iastore, 1) := by decide +kernel
theorem dX6_swap_89 : decode cX6_swap 89 = .ok (.return_, 1) := by decide +kernel
theorem dX6_allocate_0 : decode cX6_allocate 0 = .ok (.aload_n 0, 1) := by decide +kernel
theorem dX6_allocate_1 : decode cX6_allocate 1 = .ok (.aload_n 0, 1) := by decide +kernel
theorem dX6_allocate_2 : decode cX6_allocate 2 = .ok (.iload_n 1, 1) := by decide +kernel
theorem dX6_allocate_3 : decode cX6_allocate 3 = .ok (.invokevirtual 141, 3) := by decide +kernel
theorem dX6_allocate_6 : decode cX6_allocate 6 = .ok (.ifCond .ne 7, 3) := by decide +kernel
theorem dX6_allocate_9 : decode cX6_allocate 9 = .ok (.iconst 1, 1) := by decide +kernel
theorem dX6_allocate_10 : decode cX6_allocate 10 = .ok (.goto 17, 3) := by decide +kernel
theorem dX6_allocate_13 : decode cX6_allocate 13 = .ok (.iload_n 2, 1) := by decide +kernel
theorem dX6_allocate_14 : decode cX6_allocate 14 = .ok (.iconst 0, 1) := by decide +kernel
theorem dX6_allocate_15 : decode cX6_allocate 15 = .ok (.iconst 3, 1) := by decide +kernel
theorem dX6_allocate_16 : decode cX6_allocate 16 = .ok (.invokestatic 94, 3) := by decide +kernel
theorem dX6_allocate_19 : decode cX6_allocate 19 = .ok (.ifCond .ne 7, 3) := by decide +kernel
theorem dX6_allocate_22 : decode cX6_allocate 22 = .ok (.iconst 2, 1) := by decide +kernel
theorem dX6_allocate_23 : decode cX6_allocate 23 = .ok (.goto 4, 3) := by decide +kernel
theorem dX6_allocate_26 : decode cX6_allocate 26 = .ok (.iconst 0, 1) := by decide +kernel
theorem dX6_allocate_27 : decode cX6_allocate 27 = .ok (.invokevirtual 134, 3) := by decide +kernel
theorem dX6_allocate_30 : decode cX6_allocate 30 = .ok (.ifCond .eq 5, 3) := by decide +kernel
theorem dX6_allocate_33 : decode cX6_allocate 33 = .ok (.iconst 0, 1) := by decide +kernel
theorem dX6_allocate_34 : decode cX6_allocate 34 = .ok (.ireturn, 1) := by decide +kernel
theorem dX6_allocate_35 : decode cX6_allocate 35 = .ok (.iconst 2, 1) := by decide +kernel
theorem dX6_allocate_36 : decode cX6_allocate 36 = .ok (.bipush 8, 2) := by decide +kernel
theorem dX6_allocate_38 : decode cX6_allocate 38 = .ok (.iload_n 2, 1) := by decide +kernel
theorem dX6_allocate_39 : decode cX6_allocate 39 = .ok (.imul, 1) := by decide +kernel
theorem dX6_allocate_40 : decode cX6_allocate 40 = .ok (.iload_n 1, 1) := by decide +kernel
theorem dX6_allocate_41 : decode cX6_allocate 41 = .ok (.iadd, 1) := by decide +kernel
theorem dX6_allocate_42 : decode cX6_allocate 42 = .ok (.imul, 1) := by decide +kernel
theorem dX6_allocate_43 : decode cX6_allocate 43 = .ok (.istore_n 3, 1) := by decide +kernel
theorem dX6_allocate_44 : decode cX6_allocate 44 = .ok (.aload_n 0, 1) := by decide +kernel
theorem dX6_allocate_45 : decode cX6_allocate 45 = .ok (.getfield 75, 3) := by decide +kernel
theorem dX6_allocate_48 : decode cX6_allocate 48 = .ok (.iload_n 3, 1) := by decide +kernel
theorem dX6_allocate_49 : decode cX6_allocate 49 = .ok (.iaload, 1) := by decide +kernel
theorem dX6_allocate_50 : decode cX6_allocate 50 = .ok (.ifCond .ne 19, 3) := by decide +kernel
theorem dX6_allocate_53 : decode cX6_allocate 53 = .ok (.aload_n 0, 1) := by decide +kernel
theorem dX6_allocate_54 : decode cX6_allocate 54 = .ok (.getfield 75, 3) := by decide +kernel
theorem dX6_allocate_57 : decode cX6_allocate 57 = .ok (.iload_n 3, 1) := by decide +kernel
theorem dX6_allocate_58 : decode cX6_allocate 58 = .ok (.iconst 1, 1) := by decide +kernel
theorem dX6_allocate_59 : decode cX6_allocate 59 = .ok (.iadd, 1) := by decide +kernel
theorem dX6_allocate_60 : decode cX6_allocate 60 = .ok (.iaload, 1) := by decide +kernel
theorem dX6_allocate_61 : decode cX6_allocate 61 = .ok (.ifCond .le 8, 3) := by decide +kernel
theorem dX6_allocate_64 : decode cX6_allocate 64 = .ok (.aload_n 0, 1) := by decide +kernel
theorem dX6_allocate_65 : decode cX6_allocate 65 = .ok (.iload_n 3, 1) := by decide +kernel
theorem dX6_allocate_66 : decode cX6_allocate 66 = .ok (.invokevirtual 153, 3) := by decide +kernel
theorem dX6_allocate_69 : decode cX6_allocate 69 = .ok (.aload_n 0, 1) := by decide +kernel
theorem dX6_allocate_70 : decode cX6_allocate 70 = .ok (.getfield 75, 3) := by decide +kernel
theorem dX6_allocate_73 : decode cX6_allocate 73 = .ok (.iload_n 3, 1) := by decide +kernel
theorem dX6_allocate_74 : decode cX6_allocate 74 = .ok (.iaload, 1) := by decide +kernel
theorem dX6_allocate_75 : decode cX6_allocate 75 = .ok (.ifCond .ne 76, 3) := by decide +kernel
theorem dX6_allocate_78 : decode cX6_allocate 78 = .ok (.aload_n 0, 1) := by decide +kernel
theorem dX6_allocate_79 : decode cX6_allocate 79 = .ok (.getfield 81, 3) := by decide +kernel
theorem dX6_allocate_82 : decode cX6_allocate 82 = .ok (.iload_n 1, 1) := by decide +kernel
theorem dX6_allocate_83 : decode cX6_allocate 83 = .ok (.iaload, 1) := by decide +kernel
theorem dX6_allocate_84 : decode cX6_allocate 84 = .ok (.ifCond .le 67, 3) := by decide +kernel
theorem dX6_allocate_87 : decode cX6_allocate 87 = .ok (.aload_n 0, 1) := by decide +kernel
theorem dX6_allocate_88 : decode cX6_allocate 88 = .ok (.getfield 81, 3) := by decide +kernel
theorem dX6_allocate_91 : decode cX6_allocate 91 = .ok (.iload_n 1, 1) := by decide +kernel
theorem dX6_allocate_92 : decode cX6_allocate 92 = .ok (.dup2, 1) := by decide +kernel
theorem dX6_allocate_93 : decode cX6_allocate 93 = .ok (.iaload, 1) := by decide +kernel
theorem dX6_allocate_94 : decode cX6_allocate 94 = .ok (.iconst 1, 1) := by decide +kernel
theorem dX6_allocate_95 : decode cX6_allocate 95 = .ok (.isub, 1) := by decide +kernel
theorem dX6_allocate_96 : decode cX6_allocate 96 = .ok (.iastore, 1) := by decide +kernel
theorem dX6_allocate_97 : decode cX6_allocate 97 = .ok (.iconst 0, 1) := by decide +kernel
theorem dX6_allocate_98 : decode cX6_allocate 98 = .ok (.istore 4, 2) := by decide +kernel
theorem dX6_allocate_100 : decode cX6_allocate 100 = .ok (.iload 4, 2) := by decide +kernel
theorem dX6_allocate_102 : decode cX6_allocate 102 = .ok (.iconst 4, 1) := by decide +kernel
theorem dX6_allocate_103 : decode cX6_allocate 103 = .ok (.if_icmp .ge 41, 3) := by decide +kernel
theorem dX6_allocate_106 : decode cX6_allocate 106 = .ok (.aload_n 0, 1) := by decide +kernel
theorem dX6_allocate_107 : decode cX6_allocate 107 = .ok (.getfield 78, 3) := by decide +kernel
theorem dX6_allocate_110 : decode cX6_allocate 110 = .ok (.iconst 4, 1) := by decide +kernel
theorem dX6_allocate_111 : decode cX6_allocate 111 = .ok (.iload_n 3, 1) := by decide +kernel
theorem dX6_allocate_112 : decode cX6_allocate 112 = .ok (.imul, 1) := by decide +kernel
theorem dX6_allocate_113 : decode cX6_allocate 113 = .ok (.iload 4, 2) := by decide +kernel
theorem dX6_allocate_115 : decode cX6_allocate 115 = .ok (.iadd, 1) := by decide +kernel
theorem dX6_allocate_116 : decode cX6_allocate 116 = .ok (.aload_n 0, 1) := by decide +kernel
theorem dX6_allocate_117 : decode cX6_allocate 117 = .ok (.getfield 84, 3) := by decide +kernel
theorem dX6_allocate_120 : decode cX6_allocate 120 = .ok (.bipush 12, 2) := by decide +kernel
theorem dX6_allocate_122 : decode cX6_allocate 122 = .ok (.iload_n 1, 1) := by decide +kernel
theorem dX6_allocate_123 : decode cX6_allocate 123 = .ok (.imul, 1) := by decide +kernel
theorem dX6_allocate_124 : decode cX6_allocate 124 = .ok (.iconst 4, 1) := by decide +kernel
theorem dX6_allocate_125 : decode cX6_allocate 125 = .ok (.aload_n 0, 1) := by decide +kernel
theorem dX6_allocate_126 : decode cX6_allocate 126 = .ok (.getfield 81, 3) := by decide +kernel
theorem dX6_allocate_129 : decode cX6_allocate 129 = .ok (.iload_n 1, 1) := by decide +kernel
theorem dX6_allocate_130 : decode cX6_allocate 130 = .ok (.iaload, 1) := by decide +kernel
theorem dX6_allocate_131 : decode cX6_allocate 131 = .ok (.imul, 1) := by decide +kernel
theorem dX6_allocate_132 : decode cX6_allocate 132 = .ok (.iadd, 1) := by decide +kernel
theorem dX6_allocate_133 : decode cX6_allocate 133 = .ok (.iload 4, 2) := by decide +kernel
theorem dX6_allocate_135 : decode cX6_allocate 135 = .ok (.iadd, 1) := by decide +kernel
theorem dX6_allocate_136 : decode cX6_allocate 136 = .ok (.iaload, 1) := by decide +kernel
theorem dX6_allocate_137 : decode cX6_allocate 137 = .ok (.iastore, 1) := by decide +kernel
theorem dX6_allocate_138 : decode cX6_allocate 138 = .ok (.iinc 4 1, 3) := by decide +kernel
theorem dX6_allocate_141 : decode cX6_allocate 141 = .ok (.goto (-41), 3) := by decide +kernel
theorem dX6_allocate_144 : decode cX6_allocate 144 = .ok (.aload_n 0, 1) := by decide +kernel
theorem dX6_allocate_145 : decode cX6_allocate 145 = .ok (.getfield 75, 3) := by decide +kernel
theorem dX6_allocate_148 : decode cX6_allocate 148 = .ok (.iload_n 3, 1) := by decide +kernel
theorem dX6_allocate_149 : decode cX6_allocate 149 = .ok (.iconst 4, 1) := by decide +kernel
theorem dX6_allocate_150 : decode cX6_allocate 150 = .ok (.iastore, 1) := by decide +kernel
theorem dX6_allocate_151 : decode cX6_allocate 151 = .ok (.iconst (-1), 1) := by decide +kernel
theorem dX6_allocate_152 : decode cX6_allocate 152 = .ok (.istore 4, 2) := by decide +kernel
theorem dX6_allocate_154 : decode cX6_allocate 154 = .ok (.aload_n 0, 1) := by decide +kernel
theorem dX6_allocate_155 : decode cX6_allocate 155 = .ok (.getfield 75, 3) := by decide +kernel
theorem dX6_allocate_158 : decode cX6_allocate 158 = .ok (.iload_n 3, 1) := by decide +kernel
theorem dX6_allocate_159 : decode cX6_allocate 159 = .ok (.iaload, 1) := by decide +kernel
theorem dX6_allocate_160 : decode cX6_allocate 160 = .ok (.ifCond .le 33, 3) := by decide +kernel
theorem dX6_allocate_163 : decode cX6_allocate 163 = .ok (.aload_n 0, 1) := by decide +kernel
theorem dX6_allocate_164 : decode cX6_allocate 164 = .ok (.getfield 75, 3) := by decide +kernel
theorem dX6_allocate_167 : decode cX6_allocate 167 = .ok (.iload_n 3, 1) := by decide +kernel
theorem dX6_allocate_168 : decode cX6_allocate 168 = .ok (.dup2, 1) := by decide +kernel
theorem dX6_allocate_169 : decode cX6_allocate 169 = .ok (.iaload, 1) := by decide +kernel
theorem dX6_allocate_170 : decode cX6_allocate 170 = .ok (.iconst 1, 1) := by decide +kernel
theorem dX6_allocate_171 : decode cX6_allocate 171 = .ok (.isub, 1) := by decide +kernel
theorem dX6_allocate_172 : decode cX6_allocate 172 = .ok (.iastore, 1) := by decide +kernel
theorem dX6_allocate_173 : decode cX6_allocate 173 = .ok (.aload_n 0, 1) := by decide +kernel
theorem dX6_allocate_174 : decode cX6_allocate 174 = .ok (.getfield 78, 3) := by decide +kernel
theorem dX6_allocate_177 : decode cX6_allocate 177 = .ok (.iconst 4, 1) := by decide +kernel
theorem dX6_allocate_178 : decode cX6_allocate 178 = .ok (.iload_n 3, 1) := by decide +kernel
theorem dX6_allocate_179 : decode cX6_allocate 179 = .ok (.imul, 1) := by decide +kernel
theorem dX6_allocate_180 : decode cX6_allocate 180 = .ok (.aload_n 0, 1) := by decide +kernel
theorem dX6_allocate_181 : decode cX6_allocate 181 = .ok (.getfield 75, 3) := by decide +kernel
theorem dX6_allocate_184 : decode cX6_allocate 184 = .ok (.iload_n 3, 1) := by decide +kernel
theorem dX6_allocate_185 : decode cX6_allocate 185 = .ok (.iaload, 1) := by decide +kernel
theorem dX6_allocate_186 : decode cX6_allocate 186 = .ok (.iadd, 1) := by decide +kernel
theorem dX6_allocate_187 : decode cX6_allocate 187 = .ok (.iaload, 1) := by decide +kernel
theorem dX6_allocate_188 : decode cX6_allocate 188 = .ok (.istore 4, 2) := by decide +kernel
theorem dX6_allocate_190 : decode cX6_allocate 190 = .ok (.goto 10, 3) := by decide +kernel
theorem dX6_allocate_193 : decode cX6_allocate 193 = .ok (.aload_n 0, 1) := by decide +kernel
theorem dX6_allocate_194 : decode cX6_allocate 194 = .ok (.iload_n 1, 1) := by decide +kernel
theorem dX6_allocate_195 : decode cX6_allocate 195 = .ok (.invokevirtual 156, 3) := by decide +kernel
theorem dX6_allocate_198 : decode cX6_allocate 198 = .ok (.istore 4, 2) := by decide +kernel
theorem dX6_allocate_200 : decode cX6_allocate 200 = .ok (.iload 4, 2) := by decide +kernel
theorem dX6_allocate_202 : decode cX6_allocate 202 = .ok (.ifCond .ge 15, 3) := by decide +kernel
theorem dX6_allocate_205 : decode cX6_allocate 205 = .ok (.aload_n 0, 1) := by decide +kernel
theorem dX6_allocate_206 : decode cX6_allocate 206 = .ok (.getfield 44, 3) := by decide +kernel
theorem dX6_allocate_209 : decode cX6_allocate 209 = .ok (.iload_n 1, 1) := by decide +kernel
theorem dX6_allocate_210 : decode cX6_allocate 210 = .ok (.dup2, 1) := by decide +kernel
theorem dX6_allocate_211 : decode cX6_allocate 211 = .ok (.iaload, 1) := by decide +kernel
theorem dX6_allocate_212 : decode cX6_allocate 212 = .ok (.iconst 1, 1) := by decide +kernel
theorem dX6_allocate_213 : decode cX6_allocate 213 = .ok (.iadd, 1) := by decide +kernel
theorem dX6_allocate_214 : decode cX6_allocate 214 = .ok (.iastore, 1) := by decide +kernel
theorem dX6_allocate_215 : decode cX6_allocate 215 = .ok (.iconst (-1), 1) := by decide +kernel
theorem dX6_allocate_216 : decode cX6_allocate 216 = .ok (.ireturn, 1) := by decide +kernel
theorem dX6_allocate_217 : decode cX6_allocate 217 = .ok (.aload_n 0, 1) := by decide +kernel
theorem dX6_allocate_218 : decode cX6_allocate 218 = .ok (.getfield 60, 3) := by decide +kernel
theorem dX6_allocate_221 : decode cX6_allocate 221 = .ok (.iload 4, 2) := by decide +kernel
theorem dX6_allocate_223 : decode cX6_allocate 223 = .ok (.iconst 2, 1) := by decide +kernel
theorem dX6_allocate_224 : decode cX6_allocate 224 = .ok (.iastore, 1) := by decide +kernel
theorem dX6_allocate_225 : decode cX6_allocate 225 = .ok (.bipush 8, 2) := by decide +kernel
theorem dX6_allocate_227 : decode cX6_allocate 227 = .ok (.iload 4, 2) := by decide +kernel
theorem dX6_allocate_229 : decode cX6_allocate 229 = .ok (.imul, 1) := by decide +kernel
theorem dX6_allocate_230 : decode cX6_allocate 230 = .ok (.ireturn, 1) := by decide +kernel
theorem dX6_isLive_0 : decode cX6_isLive 0 = .ok (.iload_n 1, 1) := by decide +kernel
theorem dX6_isLive_1 : decode cX6_isLive 1 = .ok (.iconst 0, 1) := by decide +kernel
theorem dX6_isLive_2 : decode cX6_isLive 2 = .ok (.ldc 159, 2) := by decide +kernel
theorem dX6_isLive_4 : decode cX6_isLive 4 = .ok (.invokestatic 94, 3) := by decide +kernel
theorem dX6_isLive_7 : decode cX6_isLive 7 = .ok (.ifCond .eq 27, 3) := by decide +kernel
theorem dX6_isLive_10 : decode cX6_isLive 10 = .ok (.iload_n 1, 1) := by decide +kernel
theorem dX6_isLive_11 : decode cX6_isLive 11 = .ok (.bipush 8, 2) := by decide +kernel
theorem dX6_isLive_13 : decode cX6_isLive 13 = .ok (.irem, 1) := by decide +kernel
theorem dX6_isLive_14 : decode cX6_isLive 14 = .ok (.ifCond .ne 20, 3) := by decide +kernel
theorem dX6_isLive_17 : decode cX6_isLive 17 = .ok (.aload_n 0, 1) := by decide +kernel
theorem dX6_isLive_18 : decode cX6_isLive 18 = .ok (.getfield 60, 3) := by decide +kernel
theorem dX6_isLive_21 : decode cX6_isLive 21 = .ok (.iload_n 1, 1) := by decide +kernel
theorem dX6_isLive_22 : decode cX6_isLive 22 = .ok (.bipush 8, 2) := by decide +kernel
theorem dX6_isLive_24 : decode cX6_isLive 24 = .ok (.idiv, 1) := by decide +kernel
theorem dX6_isLive_25 : decode cX6_isLive 25 = .ok (.iaload, 1) := by decide +kernel
theorem dX6_isLive_26 : decode cX6_isLive 26 = .ok (.iconst 2, 1) := by decide +kernel
theorem dX6_isLive_27 : decode cX6_isLive 27 = .ok (.if_icmp .ne 7, 3) := by decide +kernel
theorem dX6_isLive_30 : decode cX6_isLive 30 = .ok (.iconst 1, 1) := by decide +kernel
theorem dX6_isLive_31 : decode cX6_isLive 31 = .ok (.goto 4, 3) := by decide +kernel
theorem dX6_isLive_34 : decode cX6_isLive 34 = .ok (.iconst 0, 1) := by decide +kernel
theorem dX6_isLive_35 : decode cX6_isLive 35 = .ok (.ireturn, 1) := by decide +kernel
theorem dX6_cacheAt_0 : decode cX6_cacheAt 0 = .ok (.aload_n 0, 1) := by decide +kernel
theorem dX6_cacheAt_1 : decode cX6_cacheAt 1 = .ok (.getfield 47, 3) := by decide +kernel
theorem dX6_cacheAt_4 : decode cX6_cacheAt 4 = .ok (.aload_n 0, 1) := by decide +kernel
theorem dX6_cacheAt_5 : decode cX6_cacheAt 5 = .ok (.getfield 13, 3) := by decide +kernel
theorem dX6_cacheAt_8 : decode cX6_cacheAt 8 = .ok (.iload_n 1, 1) := by decide +kernel
theorem dX6_cacheAt_9 : decode cX6_cacheAt 9 = .ok (.sipush 1024, 3) := by decide +kernel
theorem dX6_cacheAt_12 : decode cX6_cacheAt 12 = .ok (.idiv, 1) := by decide +kernel
theorem dX6_cacheAt_13 : decode cX6_cacheAt 13 = .ok (.iaload, 1) := by decide +kernel
theorem dX6_cacheAt_14 : decode cX6_cacheAt 14 = .ok (.iaload, 1) := by decide +kernel
theorem dX6_cacheAt_15 : decode cX6_cacheAt 15 = .ok (.ireturn, 1) := by decide +kernel
theorem dX6_free_0 : decode cX6_free 0 = .ok (.aload_n 0, 1) := by decide +kernel
theorem dX6_free_1 : decode cX6_free 1 = .ok (.iload_n 1, 1) := by decide +kernel
theorem dX6_free_2 : decode cX6_free 2 = .ok (.invokevirtual 160, 3) := by decide +kernel
theorem dX6_free_5 : decode cX6_free 5 = .ok (.ifCond .ne 7, 3) := by decide +kernel
theorem dX6_free_8 : decode cX6_free 8 = .ok (.iconst 1, 1) := by decide +kernel
theorem dX6_free_9 : decode cX6_free 9 = .ok (.goto 43, 3) := by decide +kernel
theorem dX6_free_12 : decode cX6_free 12 = .ok (.iload_n 2, 1) := by decide +kernel
theorem dX6_free_13 : decode cX6_free 13 = .ok (.iconst 0, 1) := by decide +kernel
theorem dX6_free_14 : decode cX6_free 14 = .ok (.iconst 3, 1) := by decide +kernel
theorem dX6_free_15 : decode cX6_free 15 = .ok (.invokestatic 94, 3) := by decide +kernel
theorem dX6_free_18 : decode cX6_free 18 = .ok (.ifCond .ne 7, 3) := by decide +kernel
theorem dX6_free_21 : decode cX6_free 21 = .ok (.iconst 2, 1) := by decide +kernel
theorem dX6_free_22 : decode cX6_free 22 = .ok (.goto 30, 3) := by decide +kernel
theorem dX6_free_25 : decode cX6_free 25 = .ok (.aload_n 0, 1) := by decide +kernel
theorem dX6_free_26 : decode cX6_free 26 = .ok (.getfield 66, 3) := by decide +kernel
theorem dX6_free_29 : decode cX6_free 29 = .ok (.iload_n 1, 1) := by decide +kernel
theorem dX6_free_30 : decode cX6_free 30 = .ok (.bipush 8, 2) := by decide +kernel
theorem dX6_free_32 : decode cX6_free 32 = .ok (.idiv, 1) := by decide +kernel
theorem dX6_free_33 : decode cX6_free 33 = .ok (.iaload, 1) := by decide +kernel
theorem dX6_free_34 : decode cX6_free 34 = .ok (.aload_n 0, 1) := by decide +kernel
theorem dX6_free_35 : decode cX6_free 35 = .ok (.getfield 29, 3) := by decide +kernel
theorem dX6_free_38 : decode cX6_free 38 = .ok (.aload_n 0, 1) := by decide +kernel
theorem dX6_free_39 : decode cX6_free 39 = .ok (.iload_n 1, 1) := by decide +kernel
theorem dX6_free_40 : decode cX6_free 40 = .ok (.invokevirtual 163, 3) := by decide +kernel
theorem dX6_free_43 : decode cX6_free 43 = .ok (.iaload, 1) := by decide +kernel
theorem dX6_free_44 : decode cX6_free 44 = .ok (.if_icmp .eq 7, 3) := by decide +kernel
theorem dX6_free_47 : decode cX6_free 47 = .ok (.iconst 3, 1) := by decide +kernel
theorem dX6_free_48 : decode cX6_free 48 = .ok (.goto 4, 3) := by decide +kernel
theorem dX6_free_51 : decode cX6_free 51 = .ok (.iconst 0, 1) := by decide +kernel
theorem dX6_free_52 : decode cX6_free 52 = .ok (.istore_n 3, 1) := by decide +kernel
theorem dX6_free_53 : decode cX6_free 53 = .ok (.aload_n 0, 1) := by decide +kernel
theorem dX6_free_54 : decode cX6_free 54 = .ok (.iload_n 3, 1) := by decide +kernel
theorem dX6_free_55 : decode cX6_free 55 = .ok (.invokevirtual 134, 3) := by decide +kernel
theorem dX6_free_58 : decode cX6_free 58 = .ok (.ifCond .eq 5, 3) := by decide +kernel
theorem dX6_free_61 : decode cX6_free 61 = .ok (.iconst 0, 1) := by decide +kernel
theorem dX6_free_62 : decode cX6_free 62 = .ok (.ireturn, 1) := by decide +kernel
theorem dX6_free_63 : decode cX6_free 63 = .ok (.iload_n 1, 1) := by decide +kernel
theorem dX6_free_64 : decode cX6_free 64 = .ok (.bipush 8, 2) := by decide +kernel
theorem dX6_free_66 : decode cX6_free 66 = .ok (.idiv, 1) := by decide +kernel
theorem dX6_free_67 : decode cX6_free 67 = .ok (.istore 4, 2) := by decide +kernel
theorem dX6_free_69 : decode cX6_free 69 = .ok (.aload_n 0, 1) := by decide +kernel
theorem dX6_free_70 : decode cX6_free 70 = .ok (.iload_n 1, 1) := by decide +kernel
theorem dX6_free_71 : decode cX6_free 71 = .ok (.invokevirtual 163, 3) := by decide +kernel
theorem dX6_free_74 : decode cX6_free 74 = .ok (.istore 5, 2) := by decide +kernel
theorem dX6_free_76 : decode cX6_free 76 = .ok (.iconst 2, 1) := by decide +kernel
theorem dX6_free_77 : decode cX6_free 77 = .ok (.bipush 8, 2) := by decide +kernel
theorem dX6_free_79 : decode cX6_free 79 = .ok (.iload_n 2, 1) := by decide +kernel
theorem dX6_free_80 : decode cX6_free 80 = .ok (.imul, 1) := by decide +kernel
theorem dX6_free_81 : decode cX6_free 81 = .ok (.iload 5, 2) := by decide +kernel
theorem dX6_free_83 : decode cX6_free 83 = .ok (.iadd, 1) := by decide +kernel
theorem dX6_free_84 : decode cX6_free 84 = .ok (.imul, 1) := by decide +kernel
theorem dX6_free_85 : decode cX6_free 85 = .ok (.istore 6, 2) := by decide +kernel
