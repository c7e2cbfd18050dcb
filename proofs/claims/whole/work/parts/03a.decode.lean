theorem dX0_init_0 : decode cX0_init 0 = .ok (.aload_n 0, 1) := by decide +kernel
theorem dX0_init_1 : decode cX0_init 1 = .ok (.invokespecial 3, 3) := by decide +kernel
theorem dX0_init_4 : decode cX0_init 4 = .ok (.aload_n 0, 1) := by decide +kernel
theorem dX0_init_5 : decode cX0_init 5 = .ok (.bipush 10, 2) := by decide +kernel
theorem dX0_init_7 : decode cX0_init 7 = .ok (.anewarray 9, 3) := by decide +kernel
theorem dX0_init_10 : decode cX0_init 10 = .ok (.putfield 11, 3) := by decide +kernel
theorem dX0_init_13 : decode cX0_init 13 = .ok (.aload_n 0, 1) := by decide +kernel
theorem dX0_init_14 : decode cX0_init 14 = .ok (.iconst 0, 1) := by decide +kernel
theorem dX0_init_15 : decode cX0_init 15 = .ok (.putfield 17, 3) := by decide +kernel
theorem dX0_init_18 : decode cX0_init 18 = .ok (.aload_n 0, 1) := by decide +kernel
theorem dX0_init_19 : decode cX0_init 19 = .ok (.iconst 0, 1) := by decide +kernel
theorem dX0_init_20 : decode cX0_init 20 = .ok (.putfield 21, 3) := by decide +kernel
theorem dX0_init_23 : decode cX0_init 23 = .ok (.iconst 0, 1) := by decide +kernel
theorem dX0_init_24 : decode cX0_init 24 = .ok (.istore_n 1, 1) := by decide +kernel
theorem dX0_init_25 : decode cX0_init 25 = .ok (.iload_n 1, 1) := by decide +kernel
theorem dX0_init_26 : decode cX0_init 26 = .ok (.bipush 10, 2) := by decide +kernel
theorem dX0_init_28 : decode cX0_init 28 = .ok (.if_icmp .ge 22, 3) := by decide +kernel
theorem dX0_init_31 : decode cX0_init 31 = .ok (.aload_n 0, 1) := by decide +kernel
theorem dX0_init_32 : decode cX0_init 32 = .ok (.getfield 11, 3) := by decide +kernel
theorem dX0_init_35 : decode cX0_init 35 = .ok (.iload_n 1, 1) := by decide +kernel
theorem dX0_init_36 : decode cX0_init 36 = .ok (.new 9, 3) := by decide +kernel
theorem dX0_init_39 : decode cX0_init 39 = .ok (.dup, 1) := by decide +kernel
theorem dX0_init_40 : decode cX0_init 40 = .ok (.invokespecial 24, 3) := by decide +kernel
theorem dX0_init_43 : decode cX0_init 43 = .ok (.aastore, 1) := by decide +kernel
theorem dX0_init_44 : decode cX0_init 44 = .ok (.iinc 1 1, 3) := by decide +kernel
theorem dX0_init_47 : decode cX0_init 47 = .ok (.goto (-22), 3) := by decide +kernel
theorem dX0_init_50 : decode cX0_init 50 = .ok (.return_, 1) := by decide +kernel
theorem dX0_keep_0 : decode cX0_keep 0 = .ok (.aload_n 0, 1) := by decide +kernel
theorem dX0_keep_1 : decode cX0_keep 1 = .ok (.getfield 11, 3) := by decide +kernel
theorem dX0_keep_4 : decode cX0_keep 4 = .ok (.aload_n 0, 1) := by decide +kernel
theorem dX0_keep_5 : decode cX0_keep 5 = .ok (.getfield 17, 3) := by decide +kernel
theorem dX0_keep_8 : decode cX0_keep 8 = .ok (.aaload, 1) := by decide +kernel
theorem dX0_keep_9 : decode cX0_keep 9 = .ok (.astore_n 2, 1) := by decide +kernel
theorem dX0_keep_10 : decode cX0_keep 10 = .ok (.aload_n 2, 1) := by decide +kernel
theorem dX0_keep_11 : decode cX0_keep 11 = .ok (.ifnull 8, 3) := by decide +kernel
theorem dX0_keep_14 : decode cX0_keep 14 = .ok (.aload_n 2, 1) := by decide +kernel
theorem dX0_keep_15 : decode cX0_keep 15 = .ok (.aload_n 1, 1) := by decide +kernel
theorem dX0_keep_16 : decode cX0_keep 16 = .ok (.invokevirtual 25, 3) := by decide +kernel
theorem dX0_keep_19 : decode cX0_keep 19 = .ok (.aload_n 0, 1) := by decide +kernel
theorem dX0_keep_20 : decode cX0_keep 20 = .ok (.aload_n 0, 1) := by decide +kernel
theorem dX0_keep_21 : decode cX0_keep 21 = .ok (.getfield 17, 3) := by decide +kernel
theorem dX0_keep_24 : decode cX0_keep 24 = .ok (.iconst 1, 1) := by decide +kernel
theorem dX0_keep_25 : decode cX0_keep 25 = .ok (.iadd, 1) := by decide +kernel
theorem dX0_keep_26 : decode cX0_keep 26 = .ok (.bipush 10, 2) := by decide +kernel
theorem dX0_keep_28 : decode cX0_keep 28 = .ok (.if_icmp .ge 12, 3) := by decide +kernel
theorem dX0_keep_31 : decode cX0_keep 31 = .ok (.aload_n 0, 1) := by decide +kernel
theorem dX0_keep_32 : decode cX0_keep 32 = .ok (.getfield 17, 3) := by decide +kernel
theorem dX0_keep_35 : decode cX0_keep 35 = .ok (.iconst 1, 1) := by decide +kernel
theorem dX0_keep_36 : decode cX0_keep 36 = .ok (.iadd, 1) := by decide +kernel
theorem dX0_keep_37 : decode cX0_keep 37 = .ok (.goto 4, 3) := by decide +kernel
theorem dX0_keep_40 : decode cX0_keep 40 = .ok (.iconst 0, 1) := by decide +kernel
theorem dX0_keep_41 : decode cX0_keep 41 = .ok (.putfield 17, 3) := by decide +kernel
theorem dX0_keep_44 : decode cX0_keep 44 = .ok (.aload_n 0, 1) := by decide +kernel
theorem dX0_keep_45 : decode cX0_keep 45 = .ok (.aload_n 0, 1) := by decide +kernel
theorem dX0_keep_46 : decode cX0_keep 46 = .ok (.getfield 21, 3) := by decide +kernel
theorem dX0_keep_49 : decode cX0_keep 49 = .ok (.iconst 1, 1) := by decide +kernel
theorem dX0_keep_50 : decode cX0_keep 50 = .ok (.iadd, 1) := by decide +kernel
theorem dX0_keep_51 : decode cX0_keep 51 = .ok (.bipush 10, 2) := by decide +kernel
theorem dX0_keep_53 : decode cX0_keep 53 = .ok (.invokestatic 29, 3) := by decide +kernel
theorem dX0_keep_56 : decode cX0_keep 56 = .ok (.putfield 21, 3) := by decide +kernel
theorem dX0_keep_59 : decode cX0_keep 59 = .ok (.return_, 1) := by decide +kernel
theorem dX0_takeBack_0 : decode cX0_takeBack 0 = .ok (.aload_n 0, 1) := by decide +kernel
theorem dX0_takeBack_1 : decode cX0_takeBack 1 = .ok (.getfield 21, 3) := by decide +kernel
theorem dX0_takeBack_4 : decode cX0_takeBack 4 = .ok (.ifCond .ne 4, 3) := by decide +kernel
theorem dX0_takeBack_7 : decode cX0_takeBack 7 = .ok (.return_, 1) := by decide +kernel
theorem dX0_takeBack_8 : decode cX0_takeBack 8 = .ok (.aload_n 0, 1) := by decide +kernel
theorem dX0_takeBack_9 : decode cX0_takeBack 9 = .ok (.aload_n 0, 1) := by decide +kernel
theorem dX0_takeBack_10 : decode cX0_takeBack 10 = .ok (.getfield 17, 3) := by decide +kernel
theorem dX0_takeBack_13 : decode cX0_takeBack 13 = .ok (.ifCond .le 12, 3) := by decide +kernel
theorem dX0_takeBack_16 : decode cX0_takeBack 16 = .ok (.aload_n 0, 1) := by decide +kernel
theorem dX0_takeBack_17 : decode cX0_takeBack 17 = .ok (.getfield 17, 3) := by decide +kernel
theorem dX0_takeBack_20 : decode cX0_takeBack 20 = .ok (.iconst 1, 1) := by decide +kernel
theorem dX0_takeBack_21 : decode cX0_takeBack 21 = .ok (.isub, 1) := by decide +kernel
theorem dX0_takeBack_22 : decode cX0_takeBack 22 = .ok (.goto 5, 3) := by decide +kernel
theorem dX0_takeBack_25 : decode cX0_takeBack 25 = .ok (.bipush 9, 2) := by decide +kernel
theorem dX0_takeBack_27 : decode cX0_takeBack 27 = .ok (.putfield 17, 3) := by decide +kernel
theorem dX0_takeBack_30 : decode cX0_takeBack 30 = .ok (.aload_n 0, 1) := by decide +kernel
theorem dX0_takeBack_31 : decode cX0_takeBack 31 = .ok (.dup, 1) := by decide +kernel
theorem dX0_takeBack_32 : decode cX0_takeBack 32 = .ok (.getfield 21, 3) := by decide +kernel
theorem dX0_takeBack_35 : decode cX0_takeBack 35 = .ok (.iconst 1, 1) := by decide +kernel
theorem dX0_takeBack_36 : decode cX0_takeBack 36 = .ok (.isub, 1) := by decide +kernel
theorem dX0_takeBack_37 : decode cX0_takeBack 37 = .ok (.putfield 21, 3) := by decide +kernel
theorem dX0_takeBack_40 : decode cX0_takeBack 40 = .ok (.aload_n 0, 1) := by decide +kernel
theorem dX0_takeBack_41 : decode cX0_takeBack 41 = .ok (.getfield 11, 3) := by decide +kernel
theorem dX0_takeBack_44 : decode cX0_takeBack 44 = .ok (.aload_n 0, 1) := by decide +kernel
theorem dX0_takeBack_45 : decode cX0_takeBack 45 = .ok (.getfield 17, 3) := by decide +kernel
theorem dX0_takeBack_48 : decode cX0_takeBack 48 = .ok (.aaload, 1) := by decide +kernel
theorem dX0_takeBack_49 : decode cX0_takeBack 49 = .ok (.astore_n 2, 1) := by decide +kernel
theorem dX0_takeBack_50 : decode cX0_takeBack 50 = .ok (.aload_n 2, 1) := by decide +kernel
theorem dX0_takeBack_51 : decode cX0_takeBack 51 = .ok (.ifnull 8, 3) := by decide +kernel
theorem dX0_takeBack_54 : decode cX0_takeBack 54 = .ok (.aload_n 1, 1) := by decide +kernel
theorem dX0_takeBack_55 : decode cX0_takeBack 55 = .ok (.aload_n 2, 1) := by decide +kernel
theorem dX0_takeBack_56 : decode cX0_takeBack 56 = .ok (.invokevirtual 25, 3) := by decide +kernel
theorem dX0_takeBack_59 : decode cX0_takeBack 59 = .ok (.return_, 1) := by decide +kernel
theorem dX1_init_0 : decode cX1_init 0 = .ok (.aload_n 0, 1) := by decide +kernel
theorem dX1_init_1 : decode cX1_init 1 = .ok (.invokespecial 3, 3) := by decide +kernel
theorem dX1_init_4 : decode cX1_init 4 = .ok (.aload_n 0, 1) := by decide +kernel
theorem dX1_init_5 : decode cX1_init 5 = .ok (.sipush 600, 3) := by decide +kernel
theorem dX1_init_8 : decode cX1_init 8 = .ok (.newarray .int, 2) := by decide +kernel
theorem dX1_init_10 : decode cX1_init 10 = .ok (.putfield 9, 3) := by decide +kernel
theorem dX1_init_13 : decode cX1_init 13 = .ok (.aload_n 0, 1) := by decide +kernel
theorem dX1_init_14 : decode cX1_init 14 = .ok (.iconst 0, 1) := by decide +kernel
theorem dX1_init_15 : decode cX1_init 15 = .ok (.putfield 15, 3) := by decide +kernel
theorem dX1_init_18 : decode cX1_init 18 = .ok (.return_, 1) := by decide +kernel
theorem dX1_addFour_0 : decode cX1_addFour 0 = .ok (.bipush 24, 2) := by decide +kernel
theorem dX1_addFour_2 : decode cX1_addFour 2 = .ok (.istore_n 2, 1) := by decide +kernel
theorem dX1_addFour_3 : decode cX1_addFour 3 = .ok (.iload_n 2, 1) := by decide +kernel
theorem dX1_addFour_4 : decode cX1_addFour 4 = .ok (.ifCond .lt 45, 3) := by decide +kernel
theorem dX1_addFour_7 : decode cX1_addFour 7 = .ok (.aload_n 0, 1) := by decide +kernel
theorem dX1_addFour_8 : decode cX1_addFour 8 = .ok (.getfield 15, 3) := by decide +kernel
theorem dX1_addFour_11 : decode cX1_addFour 11 = .ok (.sipush 600, 3) := by decide +kernel
theorem dX1_addFour_14 : decode cX1_addFour 14 = .ok (.if_icmp .ge 29, 3) := by decide +kernel
theorem dX1_addFour_17 : decode cX1_addFour 17 = .ok (.aload_n 0, 1) := by decide +kernel
theorem dX1_addFour_18 : decode cX1_addFour 18 = .ok (.getfield 9, 3) := by decide +kernel
theorem dX1_addFour_21 : decode cX1_addFour 21 = .ok (.aload_n 0, 1) := by decide +kernel
theorem dX1_addFour_22 : decode cX1_addFour 22 = .ok (.getfield 15, 3) := by decide +kernel
theorem dX1_addFour_25 : decode cX1_addFour 25 = .ok (.iload_n 1, 1) := by decide +kernel
theorem dX1_addFour_26 : decode cX1_addFour 26 = .ok (.iload_n 2, 1) := by decide +kernel
theorem dX1_addFour_27 : decode cX1_addFour 27 = .ok (.iushr, 1) := by decide +kernel
theorem dX1_addFour_28 : decode cX1_addFour 28 = .ok (.sipush 255, 3) := by decide +kernel
theorem dX1_addFour_31 : decode cX1_addFour 31 = .ok (.iand, 1) := by decide +kernel
theorem dX1_addFour_32 : decode cX1_addFour 32 = .ok (.iastore, 1) := by decide +kernel
theorem dX1_addFour_33 : decode cX1_addFour 33 = .ok (.aload_n 0, 1) := by decide +kernel
theorem dX1_addFour_34 : decode cX1_addFour 34 = .ok (.dup, 1) := by decide +kernel
theorem dX1_addFour_35 : decode cX1_addFour 35 = .ok (.getfield 15, 3) := by decide +kernel
theorem dX1_addFour_38 : decode cX1_addFour 38 = .ok (.iconst 1, 1) := by decide +kernel
theorem dX1_addFour_39 : decode cX1_addFour 39 = .ok (.iadd, 1) := by decide +kernel
theorem dX1_addFour_40 : decode cX1_addFour 40 = .ok (.putfield 15, 3) := by decide +kernel
theorem dX1_addFour_43 : decode cX1_addFour 43 = .ok (.iinc 2 (-8), 3) := by decide +kernel
theorem dX1_addFour_46 : decode cX1_addFour 46 = .ok (.goto (-43), 3) := by decide +kernel
theorem dX1_addFour_49 : decode cX1_addFour 49 = .ok (.return_, 1) := by decide +kernel
theorem dX1_byteAt_0 : decode cX1_byteAt 0 = .ok (.iload_n 1, 1) := by decide +kernel
theorem dX1_byteAt_1 : decode cX1_byteAt 1 = .ok (.ifCond .lt 19, 3) := by decide +kernel
theorem dX1_byteAt_4 : decode cX1_byteAt 4 = .ok (.iload_n 1, 1) := by decide +kernel
theorem dX1_byteAt_5 : decode cX1_byteAt 5 = .ok (.sipush 600, 3) := by decide +kernel
theorem dX1_byteAt_8 : decode cX1_byteAt 8 = .ok (.if_icmp .ge 12, 3) := by decide +kernel
theorem dX1_byteAt_11 : decode cX1_byteAt 11 = .ok (.aload_n 0, 1) := by decide +kernel
theorem dX1_byteAt_12 : decode cX1_byteAt 12 = .ok (.getfield 9, 3) := by decide +kernel
theorem dX1_byteAt_15 : decode cX1_byteAt 15 = .ok (.iload_n 1, 1) := by decide +kernel
theorem dX1_byteAt_16 : decode cX1_byteAt 16 = .ok (.iaload, 1) := by decide +kernel
theorem dX1_byteAt_17 : decode cX1_byteAt 17 = .ok (.goto 4, 3) := by decide +kernel
theorem dX1_byteAt_20 : decode cX1_byteAt 20 = .ok (.iconst (-1), 1) := by decide +kernel
theorem dX1_byteAt_21 : decode cX1_byteAt 21 = .ok (.ireturn, 1) := by decide +kernel
theorem dX1_isText_0 : decode cX1_isText 0 = .ok (.iconst 0, 1) := by decide +kernel
theorem dX1_isText_1 : decode cX1_isText 1 = .ok (.istore_n 2, 1) := by decide +kernel
theorem dX1_isText_2 : decode cX1_isText 2 = .ok (.iload_n 2, 1) := by decide +kernel
theorem dX1_isText_3 : decode cX1_isText 3 = .ok (.iload_n 1, 1) := by decide +kernel
theorem dX1_isText_4 : decode cX1_isText 4 = .ok (.if_icmp .ge 22, 3) := by decide +kernel
theorem dX1_isText_7 : decode cX1_isText 7 = .ok (.aload_n 0, 1) := by decide +kernel
theorem dX1_isText_8 : decode cX1_isText 8 = .ok (.iload_n 2, 1) := by decide +kernel
theorem dX1_isText_9 : decode cX1_isText 9 = .ok (.invokevirtual 19, 3) := by decide +kernel
theorem dX1_isText_12 : decode cX1_isText 12 = .ok (.invokestatic 23, 3) := by decide +kernel
theorem dX1_isText_15 : decode cX1_isText 15 = .ok (.ifCond .ne 5, 3) := by decide +kernel
theorem dX1_isText_18 : decode cX1_isText 18 = .ok (.iconst 0, 1) := by decide +kernel
theorem dX1_isText_19 : decode cX1_isText 19 = .ok (.ireturn, 1) := by decide +kernel
theorem dX1_isText_20 : decode cX1_isText 20 = .ok (.iinc 2 1, 3) := by decide +kernel
theorem dX1_isText_23 : decode cX1_isText 23 = .ok (.goto (-21), 3) := by decide +kernel
theorem dX1_isText_26 : decode cX1_isText 26 = .ok (.iconst 1, 1) := by decide +kernel
theorem dX1_isText_27 : decode cX1_isText 27 = .ok (.ireturn, 1) := by decide +kernel
theorem dX2_init_0 : decode cX2_init 0 = .ok (.aload_n 0, 1) := by decide +kernel
theorem dX2_init_1 : decode cX2_init 1 = .ok (.invokespecial 3, 3) := by decide +kernel
theorem dX2_init_4 : decode cX2_init 4 = .ok (.aload_n 0, 1) := by decide +kernel
theorem dX2_init_5 : decode cX2_init 5 = .ok (.sipush 240, 3) := by decide +kernel
theorem dX2_init_8 : decode cX2_init 8 = .ok (.newarray .int, 2) := by decide +kernel
theorem dX2_init_10 : decode cX2_init 10 = .ok (.putfield 9, 3) := by decide +kernel
theorem dX2_init_13 : decode cX2_init 13 = .ok (.aload_n 0, 1) := by decide +kernel
theorem dX2_init_14 : decode cX2_init 14 = .ok (.sipush 240, 3) := by decide +kernel
theorem dX2_init_17 : decode cX2_init 17 = .ok (.newarray .int, 2) := by decide +kernel
theorem dX2_init_19 : decode cX2_init 19 = .ok (.putfield 15, 3) := by decide +kernel
theorem dX2_init_22 : decode cX2_init 22 = .ok (.aload_n 0, 1) := by decide +kernel
theorem dX2_init_23 : decode cX2_init 23 = .ok (.sipush 240, 3) := by decide +kernel
theorem dX2_init_26 : decode cX2_init 26 = .ok (.newarray .boolean, 2) := by decide +kernel
theorem dX2_init_28 : decode cX2_init 28 = .ok (.putfield 18, 3) := by decide +kernel
theorem dX2_init_31 : decode cX2_init 31 = .ok (.aload_n 0, 1) := by decide +kernel
theorem dX2_init_32 : decode cX2_init 32 = .ok (.sipush 29161, 3) := by decide +kernel
theorem dX2_init_35 : decode cX2_init 35 = .ok (.newarray .int, 2) := by decide +kernel
theorem dX2_init_37 : decode cX2_init 37 = .ok (.putfield 22, 3) := by decide +kernel
theorem dX2_init_40 : decode cX2_init 40 = .ok (.aload_n 0, 1) := by decide +kernel
theorem dX2_init_41 : decode cX2_init 41 = .ok (.sipush 29161, 3) := by decide +kernel
theorem dX2_init_44 : decode cX2_init 44 = .ok (.newarray .int, 2) := by decide +kernel
theorem dX2_init_46 : decode cX2_init 46 = .ok (.putfield 25, 3) := by decide +kernel
theorem dX2_init_49 : decode cX2_init 49 = .ok (.aload_n 0, 1) := by decide +kernel
theorem dX2_init_50 : decode cX2_init 50 = .ok (.sipush 242, 3) := by decide +kernel
theorem dX2_init_53 : decode cX2_init 53 = .ok (.newarray .int, 2) := by decide +kernel
theorem dX2_init_55 : decode cX2_init 55 = .ok (.putfield 28, 3) := by decide +kernel
theorem dX2_init_58 : decode cX2_init 58 = .ok (.aload_n 0, 1) := by decide +kernel
theorem dX2_init_59 : decode cX2_init 59 = .ok (.sipush 240, 3) := by decide +kernel
theorem dX2_init_62 : decode cX2_init 62 = .ok (.newarray .int, 2) := by decide +kernel
theorem dX2_init_64 : decode cX2_init 64 = .ok (.putfield 31, 3) := by decide +kernel
theorem dX2_init_67 : decode cX2_init 67 = .ok (.aload_n 0, 1) := by decide +kernel
theorem dX2_init_68 : decode cX2_init 68 = .ok (.sipush 240, 3) := by decide +kernel
theorem dX2_init_71 : decode cX2_init 71 = .ok (.newarray .int, 2) := by decide +kernel
theorem dX2_init_73 : decode cX2_init 73 = .ok (.putfield 34, 3) := by decide +kernel
theorem dX2_init_76 : decode cX2_init 76 = .ok (.aload_n 0, 1) := by decide +kernel
theorem dX2_init_77 : decode cX2_init 77 = .ok (.sipush 240, 3) := by decide +kernel
theorem dX2_init_80 : decode cX2_init 80 = .ok (.newarray .int, 2) := by decide +kernel
theorem dX2_init_82 : decode cX2_init 82 = .ok (.putfield 37, 3) := by decide +kernel
theorem dX2_init_85 : decode cX2_init 85 = .ok (.aload_n 0, 1) := by decide +kernel
theorem dX2_init_86 : decode cX2_init 86 = .ok (.sipush 240, 3) := by decide +kernel
theorem dX2_init_89 : decode cX2_init 89 = .ok (.newarray .int, 2) := by decide +kernel
theorem dX2_init_91 : decode cX2_init 91 = .ok (.putfield 40, 3) := by decide +kernel
theorem dX2_init_94 : decode cX2_init 94 = .ok (.aload_n 0, 1) := by decide +kernel
theorem dX2_init_95 : decode cX2_init 95 = .ok (.iconst 0, 1) := by decide +kernel
theorem dX2_init_96 : decode cX2_init 96 = .ok (.putfield 43, 3) := by decide +kernel
theorem dX2_init_99 : decode cX2_init 99 = .ok (.aload_n 0, 1) := by decide +kernel
theorem dX2_init_100 : decode cX2_init 100 = .ok (.iconst 0, 1) := by decide +kernel
theorem dX2_init_101 : decode cX2_init 101 = .ok (.putfield 47, 3) := by decide +kernel
theorem dX2_init_104 : decode cX2_init 104 = .ok (.aload_n 0, 1) := by decide +kernel
theorem dX2_init_105 : decode cX2_init 105 = .ok (.iconst 0, 1) := by decide +kernel
theorem dX2_init_106 : decode cX2_init 106 = .ok (.putfield 50, 3) := by decide +kernel
theorem dX2_init_109 : decode cX2_init 109 = .ok (.aload_n 0, 1) := by decide +kernel
theorem dX2_init_110 : decode cX2_init 110 = .ok (.iconst 0, 1) := by decide +kernel
theorem dX2_init_111 : decode cX2_init 111 = .ok (.putfield 53, 3) := by decide +kernel
theorem dX2_init_114 : decode cX2_init 114 = .ok (.aload_n 0, 1) := by decide +kernel
theorem dX2_init_115 : decode cX2_init 115 = .ok (.iconst 0, 1) := by decide +kernel
theorem dX2_init_116 : decode cX2_init 116 = .ok (.putfield 56, 3) := by decide +kernel
theorem dX2_init_119 : decode cX2_init 119 = .ok (.aload_n 0, 1) := by decide +kernel
theorem dX2_init_120 : decode cX2_init 120 = .ok (.iconst 0, 1) := by decide +kernel
theorem dX2_init_121 : decode cX2_init 121 = .ok (.putfield 59, 3) := by decide +kernel
theorem dX2_init_124 : decode cX2_init 124 = .ok (.return_, 1) := by decide +kernel
theorem dX2_placed_0 : decode cX2_placed 0 = .ok (.iload_n 0, 1) := by decide +kernel
theorem dX2_placed_1 : decode cX2_placed 1 = .ok (.sipush 256, 3) := by decide +kernel
theorem dX2_placed_4 : decode cX2_placed 4 = .ok (.imul, 1) := by decide +kernel
theorem dX2_placed_5 : decode cX2_placed 5 = .ok (.iload_n 1, 1) := by decide +kernel
theorem dX2_placed_6 : decode cX2_placed 6 = .ok (.iadd, 1) := by decide +kernel
theorem dX2_placed_7 : decode cX2_placed 7 = .ok (.ireturn, 1) := by decide +kernel
theorem dX2_costIn_0 : decode cX2_costIn 0 = .ok (.iload_n 0, 1) := by decide +kernel
theorem dX2_costIn_1 : decode cX2_costIn 1 = .ok (.sipush 256, 3) := by decide +kernel
theorem dX2_costIn_4 : decode cX2_costIn 4 = .ok (.idiv, 1) := by decide +kernel
theorem dX2_costIn_5 : decode cX2_costIn 5 = .ok (.ireturn, 1) := by decide +kernel
theorem dX2_placeIn_0 : decode cX2_placeIn 0 = .ok (.iload_n 0, 1) := by decide +kernel
theorem dX2_placeIn_1 : decode cX2_placeIn 1 = .ok (.sipush 256, 3) := by decide +kernel
theorem dX2_placeIn_4 : decode cX2_placeIn 4 = .ok (.irem, 1) := by decide +kernel
theorem dX2_placeIn_5 : decode cX2_placeIn 5 = .ok (.ireturn, 1) := by decide +kernel
theorem dX2_setPrices_0 : decode cX2_setPrices 0 = .ok (.aload_n 0, 1) := by decide +kernel
theorem dX2_setPrices_1 : decode cX2_setPrices 1 = .ok (.aload_n 1, 1) := by decide +kernel
theorem dX2_setPrices_2 : decode cX2_setPrices 2 = .ok (.getfield 62, 3) := by decide +kernel
theorem dX2_setPrices_5 : decode cX2_setPrices 5 = .ok (.aload_n 1, 1) := by decide +kernel
theorem dX2_setPrices_6 : decode cX2_setPrices 6 = .ok (.getfield 67, 3) := by decide +kernel
theorem dX2_setPrices_9 : decode cX2_setPrices 9 = .ok (.if_icmp .gt 7, 3) := by decide +kernel
theorem dX2_setPrices_12 : decode cX2_setPrices 12 = .ok (.iconst 0, 1) := by decide +kernel
theorem dX2_setPrices_13 : decode cX2_setPrices 13 = .ok (.goto 4, 3) := by decide +kernel
theorem dX2_setPrices_16 : decode cX2_setPrices 16 = .ok (.iconst 1, 1) := by decide +kernel
theorem dX2_setPrices_17 : decode cX2_setPrices 17 = .ok (.putfield 56, 3) := by decide +kernel
theorem dX2_setPrices_20 : decode cX2_setPrices 20 = .ok (.aload_n 0, 1) := by decide +kernel
theorem dX2_setPrices_21 : decode cX2_setPrices 21 = .ok (.aload_n 1, 1) := by decide +kernel
theorem dX2_setPrices_22 : decode cX2_setPrices 22 = .ok (.getfield 62, 3) := by decide +kernel
theorem dX2_setPrices_25 : decode cX2_setPrices 25 = .ok (.aload_n 1, 1) := by decide +kernel
theorem dX2_setPrices_26 : decode cX2_setPrices 26 = .ok (.getfield 67, 3) := by decide +kernel
theorem dX2_setPrices_29 : decode cX2_setPrices 29 = .ok (.invokestatic 70, 3) := by decide +kernel
theorem dX2_setPrices_32 : decode cX2_setPrices 32 = .ok (.putfield 53, 3) := by decide +kernel
theorem dX2_setPrices_35 : decode cX2_setPrices 35 = .ok (.aload_n 0, 1) := by decide +kernel
theorem dX2_setPrices_36 : decode cX2_setPrices 36 = .ok (.aload_n 1, 1) := by decide +kernel
theorem dX2_setPrices_37 : decode cX2_setPrices 37 = .ok (.getfield 76, 3) := by decide +kernel
theorem dX2_setPrices_40 : decode cX2_setPrices 40 = .ok (.putfield 59, 3) := by decide +kernel
theorem dX2_setPrices_43 : decode cX2_setPrices 43 = .ok (.return_, 1) := by decide +kernel
theorem dX2_costOf_0 : decode cX2_costOf 0 = .ok (.aload_n 0, 1) := by decide +kernel
theorem dX2_costOf_1 : decode cX2_costOf 1 = .ok (.aload_n 1, 1) := by decide +kernel
theorem dX2_costOf_2 : decode cX2_costOf 2 = .ok (.invokevirtual 77, 3) := by decide +kernel
theorem dX2_costOf_5 : decode cX2_costOf 5 = .ok (.iconst 0, 1) := by decide +kernel
theorem dX2_costOf_6 : decode cX2_costOf 6 = .ok (.istore_n 2, 1) := by decide +kernel
theorem dX2_costOf_7 : decode cX2_costOf 7 = .ok (.iload_n 2, 1) := by decide +kernel
theorem dX2_costOf_8 : decode cX2_costOf 8 = .ok (.aload_n 0, 1) := by decide +kernel
theorem dX2_costOf_9 : decode cX2_costOf 9 = .ok (.getfield 43, 3) := by decide +kernel
theorem dX2_costOf_12 : decode cX2_costOf 12 = .ok (.if_icmp .gt 49, 3) := by decide +kernel
theorem dX2_costOf_15 : decode cX2_costOf 15 = .ok (.aload_n 0, 1) := by decide +kernel
theorem dX2_costOf_16 : decode cX2_costOf 16 = .ok (.iload_n 2, 1) := by decide +kernel
theorem dX2_costOf_17 : decode cX2_costOf 17 = .ok (.invokevirtual 81, 3) := by decide +kernel
theorem dX2_costOf_20 : decode cX2_costOf 20 = .ok (.ifCond .eq 35, 3) := by decide +kernel
theorem dX2_costOf_23 : decode cX2_costOf 23 = .ok (.aload_n 0, 1) := by decide +kernel
theorem dX2_costOf_24 : decode cX2_costOf 24 = .ok (.getfield 22, 3) := by decide +kernel
theorem dX2_costOf_27 : decode cX2_costOf 27 = .ok (.iload_n 2, 1) := by decide +kernel
theorem dX2_costOf_28 : decode cX2_costOf 28 = .ok (.iload_n 2, 1) := by decide +kernel
theorem dX2_costOf_29 : decode cX2_costOf 29 = .ok (.invokestatic 85, 3) := by decide +kernel
theorem dX2_costOf_32 : decode cX2_costOf 32 = .ok (.iconst 0, 1) := by decide +kernel
theorem dX2_costOf_33 : decode cX2_costOf 33 = .ok (.iastore, 1) := by decide +kernel
theorem dX2_costOf_34 : decode cX2_costOf 34 = .ok (.iload_n 2, 1) := by decide +kernel
theorem dX2_costOf_35 : decode cX2_costOf 35 = .ok (.iconst 1, 1) := by decide +kernel
theorem dX2_costOf_36 : decode cX2_costOf 36 = .ok (.isub, 1) := by decide +kernel
theorem dX2_costOf_37 : decode cX2_costOf 37 = .ok (.istore_n 3, 1) := by decide +kernel
theorem dX2_costOf_38 : decode cX2_costOf 38 = .ok (.iload_n 3, 1) := by decide +kernel
theorem dX2_costOf_39 : decode cX2_costOf 39 = .ok (.ifCond .lt 16, 3) := by decide +kernel
theorem dX2_costOf_42 : decode cX2_costOf 42 = .ok (.aload_n 0, 1) := by decide +kernel
theorem dX2_costOf_43 : decode cX2_costOf 43 = .ok (.iload_n 3, 1) := by decide +kernel
theorem dX2_costOf_44 : decode cX2_costOf 44 = .ok (.iload_n 2, 1) := by decide +kernel
theorem dX2_costOf_45 : decode cX2_costOf 45 = .ok (.invokevirtual 88, 3) := by decide +kernel
theorem dX2_costOf_48 : decode cX2_costOf 48 = .ok (.pop, 1) := by decide +kernel
theorem dX2_costOf_49 : decode cX2_costOf 49 = .ok (.iinc 3 (-1), 3) := by decide +kernel
theorem dX2_costOf_52 : decode cX2_costOf 52 = .ok (.goto (-14), 3) := by decide +kernel
theorem dX2_costOf_55 : decode cX2_costOf 55 = .ok (.iinc 2 1, 3) := by decide +kernel
theorem dX2_costOf_58 : decode cX2_costOf 58 = .ok (.goto (-51), 3) := by decide +kernel
theorem dX2_costOf_61 : decode cX2_costOf 61 = .ok (.aload_n 0, 1) := by decide +kernel
theorem dX2_costOf_62 : decode cX2_costOf 62 = .ok (.getfield 22, 3) := by decide +kernel
theorem dX2_costOf_65 : decode cX2_costOf 65 = .ok (.iconst 0, 1) := by decide +kernel
theorem dX2_costOf_66 : decode cX2_costOf 66 = .ok (.aload_n 0, 1) := by decide +kernel
theorem dX2_costOf_67 : decode cX2_costOf 67 = .ok (.getfield 43, 3) := by decide +kernel
theorem dX2_costOf_70 : decode cX2_costOf 70 = .ok (.invokestatic 85, 3) := by decide +kernel
theorem dX2_costOf_73 : decode cX2_costOf 73 = .ok (.iaload, 1) := by decide +kernel
theorem dX2_costOf_74 : decode cX2_costOf 74 = .ok (.ireturn, 1) := by decide +kernel
theorem dX2_leastSpared_0 : decode cX2_leastSpared 0 = .ok (.aload_n 0, 1) := by decide +kernel
theorem dX2_leastSpared_1 : decode cX2_leastSpared 1 = .ok (.aload_n 1, 1) := by decide +kernel
theorem dX2_leastSpared_2 : decode cX2_leastSpared 2 = .ok (.invokevirtual 91, 3) := by decide +kernel
theorem dX2_leastSpared_5 : decode cX2_leastSpared 5 = .ok (.pop, 1) := by decide +kernel
theorem dX2_leastSpared_6 : decode cX2_leastSpared 6 = .ok (.iconst 0, 1) := by decide +kernel
theorem dX2_leastSpared_7 : decode cX2_leastSpared 7 = .ok (.istore_n 2, 1) := by decide +kernel
theorem dX2_leastSpared_8 : decode cX2_leastSpared 8 = .ok (.iload_n 2, 1) := by decide +kernel
theorem dX2_leastSpared_9 : decode cX2_leastSpared 9 = .ok (.aload_n 0, 1) := by decide +kernel
theorem dX2_leastSpared_10 : decode cX2_leastSpared 10 = .ok (.getfield 43, 3) := by decide +kernel
theorem dX2_leastSpared_13 : decode cX2_leastSpared 13 = .ok (.if_icmp .gt 49, 3) := by decide +kernel
theorem dX2_leastSpared_16 : decode cX2_leastSpared 16 = .ok (.aload_n 0, 1) := by decide +kernel
theorem dX2_leastSpared_17 : decode cX2_leastSpared 17 = .ok (.iload_n 2, 1) := by decide +kernel
theorem dX2_leastSpared_18 : decode cX2_leastSpared 18 = .ok (.invokevirtual 81, 3) := by decide +kernel
theorem dX2_leastSpared_21 : decode cX2_leastSpared 21 = .ok (.ifCond .eq 35, 3) := by decide +kernel
theorem dX2_leastSpared_24 : decode cX2_leastSpared 24 = .ok (.aload_n 0, 1) := by decide +kernel
theorem dX2_leastSpared_25 : decode cX2_leastSpared 25 = .ok (.getfield 25, 3) := by decide +kernel
theorem dX2_leastSpared_28 : decode cX2_leastSpared 28 = .ok (.iload_n 2, 1) := by decide +kernel
theorem dX2_leastSpared_29 : decode cX2_leastSpared 29 = .ok (.iload_n 2, 1) := by decide +kernel
theorem dX2_leastSpared_30 : decode cX2_leastSpared 30 = .ok (.invokestatic 85, 3) := by decide +kernel
theorem dX2_leastSpared_33 : decode cX2_leastSpared 33 = .ok (.ldc 95, 2) := by decide +kernel
theorem dX2_leastSpared_35 : decode cX2_leastSpared 35 = .ok (.iastore, 1) := by decide +kernel
theorem dX2_leastSpared_36 : decode cX2_leastSpared 36 = .ok (.iload_n 2, 1) := by decide +kernel
theorem dX2_leastSpared_37 : decode cX2_leastSpared 37 = .ok (.iconst 1, 1) := by decide +kernel
theorem dX2_leastSpared_38 : decode cX2_leastSpared 38 = .ok (.isub, 1) := by decide +kernel
theorem dX2_leastSpared_39 : decode cX2_leastSpared 39 = .ok (.istore_n 3, 1) := by decide +kernel
theorem dX2_leastSpared_40 : decode cX2_leastSpared 40 = .ok (.iload_n 3, 1) := by decide +kernel
theorem dX2_leastSpared_41 : decode cX2_leastSpared 41 = .ok (.ifCond .lt 15, 3) := by decide +kernel
theorem dX2_leastSpared_44 : decode cX2_leastSpared 44 = .ok (.aload_n 0, 1) := by decide +kernel
theorem dX2_leastSpared_45 : decode cX2_leastSpared 45 = .ok (.iload_n 3, 1) := by decide +kernel
theorem dX2_leastSpared_46 : decode cX2_leastSpared 46 = .ok (.iload_n 2, 1) := by decide +kernel
theorem dX2_leastSpared_47 : decode cX2_leastSpared 47 = .ok (.invokevirtual 96, 3) := by decide +kernel
theorem dX2_leastSpared_50 : decode cX2_leastSpared 50 = .ok (.iinc 3 (-1), 3) := by decide +kernel
theorem dX2_leastSpared_53 : decode cX2_leastSpared 53 = .ok (.goto (-13), 3) := by decide +kernel
theorem dX2_leastSpared_56 : decode cX2_leastSpared 56 = .ok (.iinc 2 1, 3) := by decide +kernel
theorem dX2_leastSpared_59 : decode cX2_leastSpared 59 = .ok (.goto (-51), 3) := by decide +kernel
theorem dX2_leastSpared_62 : decode cX2_leastSpared 62 = .ok (.aload_n 0, 1) := by decide +kernel
theorem dX2_leastSpared_63 : decode cX2_leastSpared 63 = .ok (.getfield 25, 3) := by decide +kernel
theorem dX2_leastSpared_66 : decode cX2_leastSpared 66 = .ok (.iconst 0, 1) := by decide +kernel
theorem dX2_leastSpared_67 : decode cX2_leastSpared 67 = .ok (.aload_n 0, 1) := by decide +kernel
theorem dX2_leastSpared_68 : decode cX2_leastSpared 68 = .ok (.getfield 43, 3) := by decide +kernel
theorem dX2_leastSpared_71 : decode cX2_leastSpared 71 = .ok (.invokestatic 85, 3) := by decide +kernel
theorem dX2_leastSpared_74 : decode cX2_leastSpared 74 = .ok (.iaload, 1) := by decide +kernel
theorem dX2_leastSpared_75 : decode cX2_leastSpared 75 = .ok (.ireturn, 1) := by decide +kernel
theorem dX2_gather_0 : decode cX2_gather 0 = .ok (.aload_n 0, 1) := by decide +kernel
theorem dX2_gather_1 : decode cX2_gather 1 = .ok (.iconst 0, 1) := by decide +kernel
theorem dX2_gather_2 : decode cX2_gather 2 = .ok (.putfield 43, 3) := by decide +kernel
theorem dX2_gather_5 : decode cX2_gather 5 = .ok (.iconst 0, 1) := by decide +kernel
theorem dX2_gather_6 : decode cX2_gather 6 = .ok (.istore_n 2, 1) := by decide +kernel
theorem dX2_gather_7 : decode cX2_gather 7 = .ok (.iload_n 2, 1) := by decide +kernel
theorem dX2_gather_8 : decode cX2_gather 8 = .ok (.aload_n 1, 1) := by decide +kernel
theorem dX2_gather_9 : decode cX2_gather 9 = .ok (.getfield 100, 3) := by decide +kernel
theorem dX2_gather_12 : decode cX2_gather 12 = .ok (.if_icmp .ge 81, 3) := by decide +kernel
theorem dX2_gather_15 : decode cX2_gather 15 = .ok (.aload_n 0, 1) := by decide +kernel
theorem dX2_gather_16 : decode cX2_gather 16 = .ok (.getfield 43, 3) := by decide +kernel
theorem dX2_gather_19 : decode cX2_gather 19 = .ok (.sipush 240, 3) := by decide +kernel
theorem dX2_gather_22 : decode cX2_gather 22 = .ok (.if_icmp .ge 71, 3) := by decide +kernel
theorem dX2_gather_25 : decode cX2_gather 25 = .ok (.aload_n 1, 1) := by decide +kernel
theorem dX2_gather_26 : decode cX2_gather 26 = .ok (.iload_n 2, 1) := by decide +kernel
theorem dX2_gather_27 : decode cX2_gather 27 = .ok (.invokevirtual 105, 3) := by decide +kernel
theorem dX2_gather_30 : decode cX2_gather 30 = .ok (.istore_n 3, 1) := by decide +kernel
theorem dX2_gather_31 : decode cX2_gather 31 = .ok (.iload_n 3, 1) := by decide +kernel
theorem dX2_gather_32 : decode cX2_gather 32 = .ok (.iconst (-1), 1) := by decide +kernel
theorem dX2_gather_33 : decode cX2_gather 33 = .ok (.if_icmp .eq 54, 3) := by decide +kernel
theorem dX2_gather_36 : decode cX2_gather 36 = .ok (.aload_n 0, 1) := by decide +kernel
theorem dX2_gather_37 : decode cX2_gather 37 = .ok (.getfield 9, 3) := by decide +kernel
theorem dX2_gather_40 : decode cX2_gather 40 = .ok (.aload_n 0, 1) := by decide +kernel
theorem dX2_gather_41 : decode cX2_gather 41 = .ok (.getfield 43, 3) := by decide +kernel
theorem dX2_gather_44 : decode cX2_gather 44 = .ok (.iload_n 2, 1) := by decide +kernel
theorem dX2_gather_45 : decode cX2_gather 45 = .ok (.iastore, 1) := by decide +kernel
theorem dX2_gather_46 : decode cX2_gather 46 = .ok (.aload_n 0, 1) := by decide +kernel
theorem dX2_gather_47 : decode cX2_gather 47 = .ok (.getfield 15, 3) := by decide +kernel
theorem dX2_gather_50 : decode cX2_gather 50 = .ok (.aload_n 0, 1) := by decide +kernel
theorem dX2_gather_51 : decode cX2_gather 51 = .ok (.getfield 43, 3) := by decide +kernel
theorem dX2_gather_54 : decode cX2_gather 54 = .ok (.iload_n 3, 1) := by decide +kernel
theorem dX2_gather_55 : decode cX2_gather 55 = .ok (.iastore, 1) := by decide +kernel
theorem dX2_gather_56 : decode cX2_gather 56 = .ok (.aload_n 0, 1) := by decide +kernel
theorem dX2_gather_57 : decode cX2_gather 57 = .ok (.getfield 18, 3) := by decide +kernel
theorem dX2_gather_60 : decode cX2_gather 60 = .ok (.aload_n 0, 1) := by decide +kernel
theorem dX2_gather_61 : decode cX2_gather 61 = .ok (.getfield 43, 3) := by decide +kernel
theorem dX2_gather_64 : decode cX2_gather 64 = .ok (.iload_n 3, 1) := by decide +kernel
theorem dX2_gather_65 : decode cX2_gather 65 = .ok (.iconst 2, 1) := by decide +kernel
theorem dX2_gather_66 : decode cX2_gather 66 = .ok (.irem, 1) := by decide +kernel
theorem dX2_gather_67 : decode cX2_gather 67 = .ok (.iconst 1, 1) := by decide +kernel
theorem dX2_gather_68 : decode cX2_gather 68 = .ok (.if_icmp .ne 7, 3) := by decide +kernel
theorem dX2_gather_71 : decode cX2_gather 71 = .ok (.iconst 1, 1) := by decide +kernel
theorem dX2_gather_72 : decode cX2_gather 72 = .ok (.goto 4, 3) := by decide +kernel
theorem dX2_gather_75 : decode cX2_gather 75 = .ok (.iconst 0, 1) := by decide +kernel
theorem dX2_gather_76 : decode cX2_gather 76 = .ok (.bastore, 1) := by decide +kernel
theorem dX2_gather_77 : decode cX2_gather 77 = .ok (.aload_n 0, 1) := by decide +kernel
theorem dX2_gather_78 : decode cX2_gather 78 = .ok (.dup, 1) := by decide +kernel
theorem dX2_gather_79 : decode cX2_gather 79 = .ok (.getfield 43, 3) := by decide +kernel
theorem dX2_gather_82 : decode cX2_gather 82 = .ok (.iconst 1, 1) := by decide +kernel
theorem dX2_gather_83 : decode cX2_gather 83 = .ok (.iadd, 1) := by decide +kernel
theorem dX2_gather_84 : decode cX2_gather 84 = .ok (.putfield 43, 3) := by decide +kernel
theorem dX2_gather_87 : decode cX2_gather 87 = .ok (.iinc 2 1, 3) := by decide +kernel
theorem dX2_gather_90 : decode cX2_gather 90 = .ok (.goto (-83), 3) := by decide +kernel
theorem dX2_gather_93 : decode cX2_gather 93 = .ok (.return_, 1) := by decide +kernel
theorem dX2_spot_0 : decode cX2_spot 0 = .ok (.iload_n 1, 1) := by decide +kernel
theorem dX2_spot_1 : decode cX2_spot 1 = .ok (.iload_n 1, 1) := by decide +kernel
theorem dX2_spot_2 : decode cX2_spot 2 = .ok (.iconst 1, 1) := by decide +kernel
theorem dX2_spot_3 : decode cX2_spot 3 = .ok (.iadd, 1) := by decide +kernel
theorem dX2_spot_4 : decode cX2_spot 4 = .ok (.imul, 1) := by decide +kernel
theorem dX2_spot_5 : decode cX2_spot 5 = .ok (.iconst 2, 1) := by decide +kernel
theorem dX2_spot_6 : decode cX2_spot 6 = .ok (.idiv, 1) := by decide +kernel
theorem dX2_spot_7 : decode cX2_spot 7 = .ok (.iload_n 0, 1) := by decide +kernel
theorem dX2_spot_8 : decode cX2_spot 8 = .ok (.iadd, 1) := by decide +kernel
theorem dX2_spot_9 : decode cX2_spot 9 = .ok (.ireturn, 1) := by decide +kernel
theorem dX2_isEnd_0 : decode cX2_isEnd 0 = .ok (.iload_n 1, 1) := by decide +kernel
theorem dX2_isEnd_1 : decode cX2_isEnd 1 = .ok (.aload_n 0, 1) := by decide +kernel
theorem dX2_isEnd_2 : decode cX2_isEnd 2 = .ok (.getfield 43, 3) := by decide +kernel
theorem dX2_isEnd_5 : decode cX2_isEnd 5 = .ok (.if_icmp .eq 24, 3) := by decide +kernel
theorem dX2_isEnd_8 : decode cX2_isEnd 8 = .ok (.iload_n 1, 1) := by decide +kernel
theorem dX2_isEnd_9 : decode cX2_isEnd 9 = .ok (.ifCond .lt 24, 3) := by decide +kernel
theorem dX2_isEnd_12 : decode cX2_isEnd 12 = .ok (.iload_n 1, 1) := by decide +kernel
theorem dX2_isEnd_13 : decode cX2_isEnd 13 = .ok (.aload_n 0, 1) := by decide +kernel
theorem dX2_isEnd_14 : decode cX2_isEnd 14 = .ok (.getfield 43, 3) := by decide +kernel
theorem dX2_isEnd_17 : decode cX2_isEnd 17 = .ok (.if_icmp .ge 16, 3) := by decide +kernel
theorem dX2_isEnd_20 : decode cX2_isEnd 20 = .ok (.aload_n 0, 1) := by decide +kernel
theorem dX2_isEnd_21 : decode cX2_isEnd 21 = .ok (.getfield 18, 3) := by decide +kernel
theorem dX2_isEnd_24 : decode cX2_isEnd 24 = .ok (.iload_n 1, 1) := by decide +kernel
theorem dX2_isEnd_25 : decode cX2_isEnd 25 = .ok (.baload, 1) := by decide +kernel
theorem dX2_isEnd_26 : decode cX2_isEnd 26 = .ok (.ifCond .eq 7, 3) := by decide +kernel
theorem dX2_isEnd_29 : decode cX2_isEnd 29 = .ok (.iconst 1, 1) := by decide +kernel
theorem dX2_isEnd_30 : decode cX2_isEnd 30 = .ok (.goto 4, 3) := by decide +kernel
theorem dX2_isEnd_33 : decode cX2_isEnd 33 = .ok (.iconst 0, 1) := by decide +kernel
theorem dX2_isEnd_34 : decode cX2_isEnd 34 = .ok (.ireturn, 1) := by decide +kernel
theorem dX2_pairPrice_0 : decode cX2_pairPrice 0 = .ok (.aload_n 0, 1) := by decide +kernel
theorem dX2_pairPrice_1 : decode cX2_pairPrice 1 = .ok (.getfield 15, 3) := by decide +kernel
theorem dX2_pairPrice_4 : decode cX2_pairPrice 4 = .ok (.iload_n 1, 1) := by decide +kernel
theorem dX2_pairPrice_5 : decode cX2_pairPrice 5 = .ok (.iaload, 1) := by decide +kernel
theorem dX2_pairPrice_6 : decode cX2_pairPrice 6 = .ok (.iconst 1, 1) := by decide +kernel
theorem dX2_pairPrice_7 : decode cX2_pairPrice 7 = .ok (.iadd, 1) := by decide +kernel
theorem dX2_pairPrice_8 : decode cX2_pairPrice 8 = .ok (.aload_n 0, 1) := by decide +kernel
theorem dX2_pairPrice_9 : decode cX2_pairPrice 9 = .ok (.getfield 15, 3) := by decide +kernel
theorem dX2_pairPrice_12 : decode cX2_pairPrice 12 = .ok (.iload_n 2, 1) := by decide +kernel
theorem dX2_pairPrice_13 : decode cX2_pairPrice 13 = .ok (.iaload, 1) := by decide +kernel
theorem dX2_pairPrice_14 : decode cX2_pairPrice 14 = .ok (.if_icmp .ne 7, 3) := by decide +kernel
theorem dX2_pairPrice_17 : decode cX2_pairPrice 17 = .ok (.iconst 0, 1) := by decide +kernel
theorem dX2_pairPrice_18 : decode cX2_pairPrice 18 = .ok (.goto 7, 3) := by decide +kernel
theorem dX2_pairPrice_21 : decode cX2_pairPrice 21 = .ok (.aload_n 0, 1) := by decide +kernel
theorem dX2_pairPrice_22 : decode cX2_pairPrice 22 = .ok (.getfield 59, 3) := by decide +kernel
theorem dX2_pairPrice_25 : decode cX2_pairPrice 25 = .ok (.ireturn, 1) := by decide +kernel
theorem dX2_settle_0 : decode cX2_settle 0 = .ok (.iconst 0, 1) := by decide +kernel
theorem dX2_settle_1 : decode cX2_settle 1 = .ok (.iload_n 2, 1) := by decide +kernel
theorem dX2_settle_2 : decode cX2_settle 2 = .ok (.invokestatic 85, 3) := by decide +kernel
theorem dX2_settle_5 : decode cX2_settle 5 = .ok (.istore_n 3, 1) := by decide +kernel
theorem dX2_settle_6 : decode cX2_settle 6 = .ok (.aload_n 0, 1) := by decide +kernel
theorem dX2_settle_7 : decode cX2_settle 7 = .ok (.getfield 53, 3) := by decide +kernel
theorem dX2_settle_10 : decode cX2_settle 10 = .ok (.aload_n 0, 1) := by decide +kernel
theorem dX2_settle_11 : decode cX2_settle 11 = .ok (.getfield 22, 3) := by decide +kernel
theorem dX2_settle_14 : decode cX2_settle 14 = .ok (.iload_n 3, 1) := by decide +kernel
theorem dX2_settle_15 : decode cX2_settle 15 = .ok (.iload_n 1, 1) := by decide +kernel
theorem dX2_settle_16 : decode cX2_settle 16 = .ok (.iadd, 1) := by decide +kernel
theorem dX2_settle_17 : decode cX2_settle 17 = .ok (.iconst 1, 1) := by decide +kernel
theorem dX2_settle_18 : decode cX2_settle 18 = .ok (.iadd, 1) := by decide +kernel
theorem dX2_settle_19 : decode cX2_settle 19 = .ok (.iaload, 1) := by decide +kernel
theorem dX2_settle_20 : decode cX2_settle 20 = .ok (.iadd, 1) := by decide +kernel
theorem dX2_settle_21 : decode cX2_settle 21 = .ok (.istore 4, 2) := by decide +kernel
theorem dX2_settle_23 : decode cX2_settle 23 = .ok (.iconst (-1), 1) := by decide +kernel
theorem dX2_settle_24 : decode cX2_settle 24 = .ok (.istore 5, 2) := by decide +kernel
theorem dX2_settle_26 : decode cX2_settle 26 = .ok (.aload_n 0, 1) := by decide +kernel
theorem dX2_settle_27 : decode cX2_settle 27 = .ok (.getfield 18, 3) := by decide +kernel
theorem dX2_settle_30 : decode cX2_settle 30 = .ok (.iload_n 1, 1) := by decide +kernel
theorem dX2_settle_31 : decode cX2_settle 31 = .ok (.baload, 1) := by decide +kernel
theorem dX2_settle_32 : decode cX2_settle 32 = .ok (.ifCond .ne 7, 3) := by decide +kernel
theorem dX2_settle_35 : decode cX2_settle 35 = .ok (.iconst 1, 1) := by decide +kernel
theorem dX2_settle_36 : decode cX2_settle 36 = .ok (.goto 4, 3) := by decide +kernel
theorem dX2_settle_39 : decode cX2_settle 39 = .ok (.iconst 0, 1) := by decide +kernel
theorem dX2_settle_40 : decode cX2_settle 40 = .ok (.istore 6, 2) := by decide +kernel
theorem dX2_settle_42 : decode cX2_settle 42 = .ok (.iload_n 1, 1) := by decide +kernel
theorem dX2_settle_43 : decode cX2_settle 43 = .ok (.iconst 1, 1) := by decide +kernel
theorem dX2_settle_44 : decode cX2_settle 44 = .ok (.iadd, 1) := by decide +kernel
theorem dX2_settle_45 : decode cX2_settle 45 = .ok (.istore 7, 2) := by decide +kernel
theorem dX2_settle_47 : decode cX2_settle 47 = .ok (.iload 6, 2) := by decide +kernel
theorem dX2_settle_49 : decode cX2_settle 49 = .ok (.ifCond .eq 75, 3) := by decide +kernel
theorem dX2_settle_52 : decode cX2_settle 52 = .ok (.iload 7, 2) := by decide +kernel
theorem dX2_settle_54 : decode cX2_settle 54 = .ok (.iload_n 2, 1) := by decide +kernel
theorem dX2_settle_55 : decode cX2_settle 55 = .ok (.if_icmp .ge 69, 3) := by decide +kernel
theorem dX2_settle_58 : decode cX2_settle 58 = .ok (.aload_n 0, 1) := by decide +kernel
theorem dX2_settle_59 : decode cX2_settle 59 = .ok (.getfield 18, 3) := by decide +kernel
theorem dX2_settle_62 : decode cX2_settle 62 = .ok (.iload 7, 2) := by decide +kernel
theorem dX2_settle_64 : decode cX2_settle 64 = .ok (.baload, 1) := by decide +kernel
theorem dX2_settle_65 : decode cX2_settle 65 = .ok (.ifCond .eq 53, 3) := by decide +kernel
theorem dX2_settle_68 : decode cX2_settle 68 = .ok (.aload_n 0, 1) := by decide +kernel
theorem dX2_settle_69 : decode cX2_settle 69 = .ok (.iload_n 1, 1) := by decide +kernel
theorem dX2_settle_70 : decode cX2_settle 70 = .ok (.iload 7, 2) := by decide +kernel
theorem dX2_settle_72 : decode cX2_settle 72 = .ok (.invokevirtual 109, 3) := by decide +kernel
theorem dX2_settle_75 : decode cX2_settle 75 = .ok (.aload_n 0, 1) := by decide +kernel
theorem dX2_settle_76 : decode cX2_settle 76 = .ok (.getfield 22, 3) := by decide +kernel
theorem dX2_settle_79 : decode cX2_settle 79 = .ok (.iload_n 1, 1) := by decide +kernel
theorem dX2_settle_80 : decode cX2_settle 80 = .ok (.iconst 1, 1) := by decide +kernel
theorem dX2_settle_81 : decode cX2_settle 81 = .ok (.iadd, 1) := by decide +kernel
theorem dX2_settle_82 : decode cX2_settle 82 = .ok (.iload 7, 2) := by decide +kernel
theorem dX2_settle_84 : decode cX2_settle 84 = .ok (.invokestatic 85, 3) := by decide +kernel
theorem dX2_settle_87 : decode cX2_settle 87 = .ok (.iaload, 1) := by decide +kernel
theorem dX2_settle_88 : decode cX2_settle 88 = .ok (.iadd, 1) := by decide +kernel
theorem dX2_settle_89 : decode cX2_settle 89 = .ok (.aload_n 0, 1) := by decide +kernel
theorem dX2_settle_90 : decode cX2_settle 90 = .ok (.getfield 22, 3) := by decide +kernel
theorem dX2_settle_93 : decode cX2_settle 93 = .ok (.iload_n 3, 1) := by decide +kernel
theorem dX2_settle_94 : decode cX2_settle 94 = .ok (.iload 7, 2) := by decide +kernel
theorem dX2_settle_96 : decode cX2_settle 96 = .ok (.iadd, 1) := by decide +kernel
theorem dX2_settle_97 : decode cX2_settle 97 = .ok (.iconst 1, 1) := by decide +kernel
theorem dX2_settle_98 : decode cX2_settle 98 = .ok (.iadd, 1) := by decide +kernel
theorem dX2_settle_99 : decode cX2_settle 99 = .ok (.iaload, 1) := by decide +kernel
theorem dX2_settle_100 : decode cX2_settle 100 = .ok (.iadd, 1) := by decide +kernel
theorem dX2_settle_101 : decode cX2_settle 101 = .ok (.istore 8, 2) := by decide +kernel
theorem dX2_settle_103 : decode cX2_settle 103 = .ok (.iload 8, 2) := by decide +kernel
theorem dX2_settle_105 : decode cX2_settle 105 = .ok (.iload 4, 2) := by decide +kernel
theorem dX2_settle_107 : decode cX2_settle 107 = .ok (.if_icmp .ge 11, 3) := by decide +kernel
theorem dX2_settle_110 : decode cX2_settle 110 = .ok (.iload 8, 2) := by decide +kernel
theorem dX2_settle_112 : decode cX2_settle 112 = .ok (.istore 4, 2) := by decide +kernel
theorem dX2_settle_114 : decode cX2_settle 114 = .ok (.iload 7, 2) := by decide +kernel
theorem dX2_settle_116 : decode cX2_settle 116 = .ok (.istore 5, 2) := by decide +kernel
theorem dX2_settle_118 : decode cX2_settle 118 = .ok (.iinc 7 1, 3) := by decide +kernel
theorem dX2_settle_121 : decode cX2_settle 121 = .ok (.goto (-74), 3) := by decide +kernel
theorem dX2_settle_124 : decode cX2_settle 124 = .ok (.aload_n 0, 1) := by decide +kernel
theorem dX2_settle_125 : decode cX2_settle 125 = .ok (.getfield 22, 3) := by decide +kernel
theorem dX2_settle_128 : decode cX2_settle 128 = .ok (.iload_n 3, 1) := by decide +kernel
theorem dX2_settle_129 : decode cX2_settle 129 = .ok (.iload_n 1, 1) := by decide +kernel
theorem dX2_settle_130 : decode cX2_settle 130 = .ok (.iadd, 1) := by decide +kernel
theorem dX2_settle_131 : decode cX2_settle 131 = .ok (.iload 4, 2) := by decide +kernel
theorem dX2_settle_133 : decode cX2_settle 133 = .ok (.iastore, 1) := by decide +kernel
theorem dX2_settle_134 : decode cX2_settle 134 = .ok (.iload 5, 2) := by decide +kernel
theorem dX2_settle_136 : decode cX2_settle 136 = .ok (.ireturn, 1) := by decide +kernel
theorem dX2_settleSpared_0 : decode cX2_settleSpared 0 = .ok (.iconst 0, 1) := by decide +kernel
theorem dX2_settleSpared_1 : decode cX2_settleSpared 1 = .ok (.iload_n 2, 1) := by decide +kernel
theorem dX2_settleSpared_2 : decode cX2_settleSpared 2 = .ok (.invokestatic 85, 3) := by decide +kernel
theorem dX2_settleSpared_5 : decode cX2_settleSpared 5 = .ok (.istore_n 3, 1) := by decide +kernel
theorem dX2_settleSpared_6 : decode cX2_settleSpared 6 = .ok (.aload_n 0, 1) := by decide +kernel
theorem dX2_settleSpared_7 : decode cX2_settleSpared 7 = .ok (.getfield 22, 3) := by decide +kernel
theorem dX2_settleSpared_10 : decode cX2_settleSpared 10 = .ok (.iload_n 3, 1) := by decide +kernel
theorem dX2_settleSpared_11 : decode cX2_settleSpared 11 = .ok (.iload_n 1, 1) := by decide +kernel
theorem dX2_settleSpared_12 : decode cX2_settleSpared 12 = .ok (.iadd, 1) := by decide +kernel
theorem dX2_settleSpared_13 : decode cX2_settleSpared 13 = .ok (.iconst 1, 1) := by decide +kernel
theorem dX2_settleSpared_14 : decode cX2_settleSpared 14 = .ok (.iadd, 1) := by decide +kernel
theorem dX2_settleSpared_15 : decode cX2_settleSpared 15 = .ok (.iaload, 1) := by decide +kernel
theorem dX2_settleSpared_16 : decode cX2_settleSpared 16 = .ok (.aload_n 0, 1) := by decide +kernel
theorem dX2_settleSpared_17 : decode cX2_settleSpared 17 = .ok (.getfield 9, 3) := by decide +kernel
theorem dX2_settleSpared_20 : decode cX2_settleSpared 20 = .ok (.iload_n 1, 1) := by decide +kernel
theorem dX2_settleSpared_21 : decode cX2_settleSpared 21 = .ok (.iaload, 1) := by decide +kernel
theorem dX2_settleSpared_22 : decode cX2_settleSpared 22 = .ok (.invokestatic 112, 3) := by decide +kernel
theorem dX2_settleSpared_25 : decode cX2_settleSpared 25 = .ok (.istore 4, 2) := by decide +kernel
theorem dX2_settleSpared_27 : decode cX2_settleSpared 27 = .ok (.iload 4, 2) := by decide +kernel
theorem dX2_settleSpared_29 : decode cX2_settleSpared 29 = .ok (.aload_n 0, 1) := by decide +kernel
theorem dX2_settleSpared_30 : decode cX2_settleSpared 30 = .ok (.getfield 53, 3) := by decide +kernel
theorem dX2_settleSpared_33 : decode cX2_settleSpared 33 = .ok (.iconst 0, 1) := by decide +kernel
theorem dX2_settleSpared_34 : decode cX2_settleSpared 34 = .ok (.invokestatic 112, 3) := by decide +kernel
theorem dX2_settleSpared_37 : decode cX2_settleSpared 37 = .ok (.aload_n 0, 1) := by decide +kernel
theorem dX2_settleSpared_38 : decode cX2_settleSpared 38 = .ok (.getfield 25, 3) := by decide +kernel
theorem dX2_settleSpared_41 : decode cX2_settleSpared 41 = .ok (.iload_n 3, 1) := by decide +kernel
theorem dX2_settleSpared_42 : decode cX2_settleSpared 42 = .ok (.iload_n 1, 1) := by decide +kernel
theorem dX2_settleSpared_43 : decode cX2_settleSpared 43 = .ok (.iadd, 1) := by decide +kernel
theorem dX2_settleSpared_44 : decode cX2_settleSpared 44 = .ok (.iconst 1, 1) := by decide +kernel
theorem dX2_settleSpared_45 : decode cX2_settleSpared 45 = .ok (.iadd, 1) := by decide +kernel
theorem dX2_settleSpared_46 : decode cX2_settleSpared 46 = .ok (.iaload, 1) := by decide +kernel
theorem dX2_settleSpared_47 : decode cX2_settleSpared 47 = .ok (.iadd, 1) := by decide +kernel
theorem dX2_settleSpared_48 : decode cX2_settleSpared 48 = .ok (.invokestatic 70, 3) := by decide +kernel
theorem dX2_settleSpared_51 : decode cX2_settleSpared 51 = .ok (.istore 4, 2) := by decide +kernel
theorem dX2_settleSpared_53 : decode cX2_settleSpared 53 = .ok (.aload_n 0, 1) := by decide +kernel
theorem dX2_settleSpared_54 : decode cX2_settleSpared 54 = .ok (.getfield 18, 3) := by decide +kernel
theorem dX2_settleSpared_57 : decode cX2_settleSpared 57 = .ok (.iload_n 1, 1) := by decide +kernel
theorem dX2_settleSpared_58 : decode cX2_settleSpared 58 = .ok (.baload, 1) := by decide +kernel
theorem dX2_settleSpared_59 : decode cX2_settleSpared 59 = .ok (.ifCond .ne 7, 3) := by decide +kernel
theorem dX2_settleSpared_62 : decode cX2_settleSpared 62 = .ok (.iconst 1, 1) := by decide +kernel
theorem dX2_settleSpared_63 : decode cX2_settleSpared 63 = .ok (.goto 4, 3) := by decide +kernel
theorem dX2_settleSpared_66 : decode cX2_settleSpared 66 = .ok (.iconst 0, 1) := by decide +kernel
theorem dX2_settleSpared_67 : decode cX2_settleSpared 67 = .ok (.istore 5, 2) := by decide +kernel
theorem dX2_settleSpared_69 : decode cX2_settleSpared 69 = .ok (.iload_n 1, 1) := by decide +kernel
theorem dX2_settleSpared_70 : decode cX2_settleSpared 70 = .ok (.iconst 1, 1) := by decide +kernel
theorem dX2_settleSpared_71 : decode cX2_settleSpared 71 = .ok (.iadd, 1) := by decide +kernel
theorem dX2_settleSpared_72 : decode cX2_settleSpared 72 = .ok (.istore 6, 2) := by decide +kernel
theorem dX2_settleSpared_74 : decode cX2_settleSpared 74 = .ok (.iload 5, 2) := by decide +kernel
theorem dX2_settleSpared_76 : decode cX2_settleSpared 76 = .ok (.ifCond .eq 115, 3) := by decide +kernel
theorem dX2_settleSpared_79 : decode cX2_settleSpared 79 = .ok (.iload 6, 2) := by decide +kernel
theorem dX2_settleSpared_81 : decode cX2_settleSpared 81 = .ok (.iload_n 2, 1) := by decide +kernel
theorem dX2_settleSpared_82 : decode cX2_settleSpared 82 = .ok (.if_icmp .ge 109, 3) := by decide +kernel
theorem dX2_settleSpared_85 : decode cX2_settleSpared 85 = .ok (.aload_n 0, 1) := by decide +kernel
theorem dX2_settleSpared_86 : decode cX2_settleSpared 86 = .ok (.getfield 18, 3) := by decide +kernel
theorem dX2_settleSpared_89 : decode cX2_settleSpared 89 = .ok (.iload 6, 2) := by decide +kernel
theorem dX2_settleSpared_91 : decode cX2_settleSpared 91 = .ok (.baload, 1) := by decide +kernel
theorem dX2_settleSpared_92 : decode cX2_settleSpared 92 = .ok (.ifCond .eq 93, 3) := by decide +kernel
theorem dX2_settleSpared_95 : decode cX2_settleSpared 95 = .ok (.iload_n 1, 1) := by decide +kernel
theorem dX2_settleSpared_96 : decode cX2_settleSpared 96 = .ok (.iconst 1, 1) := by decide +kernel
theorem dX2_settleSpared_97 : decode cX2_settleSpared 97 = .ok (.iadd, 1) := by decide +kernel
theorem dX2_settleSpared_98 : decode cX2_settleSpared 98 = .ok (.iload 6, 2) := by decide +kernel
theorem dX2_settleSpared_100 : decode cX2_settleSpared 100 = .ok (.invokestatic 85, 3) := by decide +kernel
theorem dX2_settleSpared_103 : decode cX2_settleSpared 103 = .ok (.istore 7, 2) := by decide +kernel
theorem dX2_settleSpared_105 : decode cX2_settleSpared 105 = .ok (.aload_n 0, 1) := by decide +kernel
theorem dX2_settleSpared_106 : decode cX2_settleSpared 106 = .ok (.iload_n 1, 1) := by decide +kernel
theorem dX2_settleSpared_107 : decode cX2_settleSpared 107 = .ok (.iload 6, 2) := by decide +kernel
theorem dX2_settleSpared_109 : decode cX2_settleSpared 109 = .ok (.invokevirtual 109, 3) := by decide +kernel
theorem dX2_settleSpared_112 : decode cX2_settleSpared 112 = .ok (.iconst 0, 1) := by decide +kernel
theorem dX2_settleSpared_113 : decode cX2_settleSpared 113 = .ok (.invokestatic 112, 3) := by decide +kernel
theorem dX2_settleSpared_116 : decode cX2_settleSpared 116 = .ok (.istore 8, 2) := by decide +kernel
theorem dX2_settleSpared_118 : decode cX2_settleSpared 118 = .ok (.aload_n 0, 1) := by decide +kernel
theorem dX2_settleSpared_119 : decode cX2_settleSpared 119 = .ok (.getfield 25, 3) := by decide +kernel
theorem dX2_settleSpared_122 : decode cX2_settleSpared 122 = .ok (.iload 7, 2) := by decide +kernel
theorem dX2_settleSpared_124 : decode cX2_settleSpared 124 = .ok (.iaload, 1) := by decide +kernel
theorem dX2_settleSpared_125 : decode cX2_settleSpared 125 = .ok (.aload_n 0, 1) := by decide +kernel
theorem dX2_settleSpared_126 : decode cX2_settleSpared 126 = .ok (.getfield 22, 3) := by decide +kernel
theorem dX2_settleSpared_129 : decode cX2_settleSpared 129 = .ok (.iload_n 3, 1) := by decide +kernel
theorem dX2_settleSpared_130 : decode cX2_settleSpared 130 = .ok (.iload 6, 2) := by decide +kernel
theorem dX2_settleSpared_132 : decode cX2_settleSpared 132 = .ok (.iadd, 1) := by decide +kernel
theorem dX2_settleSpared_133 : decode cX2_settleSpared 133 = .ok (.iconst 1, 1) := by decide +kernel
theorem dX2_settleSpared_134 : decode cX2_settleSpared 134 = .ok (.iadd, 1) := by decide +kernel
theorem dX2_settleSpared_135 : decode cX2_settleSpared 135 = .ok (.iaload, 1) := by decide +kernel
theorem dX2_settleSpared_136 : decode cX2_settleSpared 136 = .ok (.iconst 0, 1) := by decide +kernel
theorem dX2_settleSpared_137 : decode cX2_settleSpared 137 = .ok (.invokestatic 112, 3) := by decide +kernel
theorem dX2_settleSpared_140 : decode cX2_settleSpared 140 = .ok (.iadd, 1) := by decide +kernel
theorem dX2_settleSpared_141 : decode cX2_settleSpared 141 = .ok (.istore 9, 2) := by decide +kernel
theorem dX2_settleSpared_143 : decode cX2_settleSpared 143 = .ok (.aload_n 0, 1) := by decide +kernel
theorem dX2_settleSpared_144 : decode cX2_settleSpared 144 = .ok (.getfield 22, 3) := by decide +kernel
theorem dX2_settleSpared_147 : decode cX2_settleSpared 147 = .ok (.iload 7, 2) := by decide +kernel
theorem dX2_settleSpared_149 : decode cX2_settleSpared 149 = .ok (.iaload, 1) := by decide +kernel
theorem dX2_settleSpared_150 : decode cX2_settleSpared 150 = .ok (.iconst 0, 1) := by decide +kernel
theorem dX2_settleSpared_151 : decode cX2_settleSpared 151 = .ok (.invokestatic 112, 3) := by decide +kernel
theorem dX2_settleSpared_154 : decode cX2_settleSpared 154 = .ok (.aload_n 0, 1) := by decide +kernel
theorem dX2_settleSpared_155 : decode cX2_settleSpared 155 = .ok (.getfield 25, 3) := by decide +kernel
theorem dX2_settleSpared_158 : decode cX2_settleSpared 158 = .ok (.iload_n 3, 1) := by decide +kernel
theorem dX2_settleSpared_159 : decode cX2_settleSpared 159 = .ok (.iload 6, 2) := by decide +kernel
theorem dX2_settleSpared_161 : decode cX2_settleSpared 161 = .ok (.iadd, 1) := by decide +kernel
theorem dX2_settleSpared_162 : decode cX2_settleSpared 162 = .ok (.iconst 1, 1) := by decide +kernel
theorem dX2_settleSpared_163 : decode cX2_settleSpared 163 = .ok (.iadd, 1) := by decide +kernel
theorem dX2_settleSpared_164 : decode cX2_settleSpared 164 = .ok (.iaload, 1) := by decide +kernel
theorem dX2_settleSpared_165 : decode cX2_settleSpared 165 = .ok (.iadd, 1) := by decide +kernel
theorem dX2_settleSpared_166 : decode cX2_settleSpared 166 = .ok (.istore 10, 2) := by decide +kernel
theorem dX2_settleSpared_168 : decode cX2_settleSpared 168 = .ok (.iload 4, 2) := by decide +kernel
theorem dX2_settleSpared_170 : decode cX2_settleSpared 170 = .ok (.iload 8, 2) := by decide +kernel
theorem dX2_settleSpared_172 : decode cX2_settleSpared 172 = .ok (.iload 9, 2) := by decide +kernel
theorem dX2_settleSpared_174 : decode cX2_settleSpared 174 = .ok (.iload 10, 2) := by decide +kernel
theorem dX2_settleSpared_176 : decode cX2_settleSpared 176 = .ok (.invokestatic 70, 3) := by decide +kernel
theorem dX2_settleSpared_179 : decode cX2_settleSpared 179 = .ok (.iadd, 1) := by decide +kernel
theorem dX2_settleSpared_180 : decode cX2_settleSpared 180 = .ok (.invokestatic 70, 3) := by decide +kernel
theorem dX2_settleSpared_183 : decode cX2_settleSpared 183 = .ok (.istore 4, 2) := by decide +kernel
theorem dX2_settleSpared_185 : decode cX2_settleSpared 185 = .ok (.iinc 6 1, 3) := by decide +kernel
theorem dX2_settleSpared_188 : decode cX2_settleSpared 188 = .ok (.goto (-114), 3) := by decide +kernel
theorem dX2_settleSpared_191 : decode cX2_settleSpared 191 = .ok (.aload_n 0, 1) := by decide +kernel
theorem dX2_settleSpared_192 : decode cX2_settleSpared 192 = .ok (.getfield 25, 3) := by decide +kernel
theorem dX2_settleSpared_195 : decode cX2_settleSpared 195 = .ok (.iload_n 3, 1) := by decide +kernel
theorem dX2_settleSpared_196 : decode cX2_settleSpared 196 = .ok (.iload_n 1, 1) := by decide +kernel
theorem dX2_settleSpared_197 : decode cX2_settleSpared 197 = .ok (.iadd, 1) := by decide +kernel
theorem dX2_settleSpared_198 : decode cX2_settleSpared 198 = .ok (.iload 4, 2) := by decide +kernel
theorem dX2_settleSpared_200 : decode cX2_settleSpared 200 = .ok (.iastore, 1) := by decide +kernel
theorem dX2_settleSpared_201 : decode cX2_settleSpared 201 = .ok (.return_, 1) := by decide +kernel
theorem dX2_chooseSteps_0 : decode cX2_chooseSteps 0 = .ok (.aload_n 0, 1) := by decide +kernel
theorem dX2_chooseSteps_1 : decode cX2_chooseSteps 1 = .ok (.iconst 0, 1) := by decide +kernel
theorem dX2_chooseSteps_2 : decode cX2_chooseSteps 2 = .ok (.putfield 47, 3) := by decide +kernel
theorem dX2_chooseSteps_5 : decode cX2_chooseSteps 5 = .ok (.iconst 0, 1) := by decide +kernel
theorem dX2_chooseSteps_6 : decode cX2_chooseSteps 6 = .ok (.istore_n 1, 1) := by decide +kernel
theorem dX2_chooseSteps_7 : decode cX2_chooseSteps 7 = .ok (.iload_n 1, 1) := by decide +kernel
theorem dX2_chooseSteps_8 : decode cX2_chooseSteps 8 = .ok (.aload_n 0, 1) := by decide +kernel
theorem dX2_chooseSteps_9 : decode cX2_chooseSteps 9 = .ok (.getfield 43, 3) := by decide +kernel
theorem dX2_chooseSteps_12 : decode cX2_chooseSteps 12 = .ok (.if_icmp .ge 26, 3) := by decide +kernel
theorem dX2_chooseSteps_15 : decode cX2_chooseSteps 15 = .ok (.aload_n 0, 1) := by decide +kernel
theorem dX2_chooseSteps_16 : decode cX2_chooseSteps 16 = .ok (.getfield 31, 3) := by decide +kernel
theorem dX2_chooseSteps_19 : decode cX2_chooseSteps 19 = .ok (.iload_n 1, 1) := by decide +kernel
theorem dX2_chooseSteps_20 : decode cX2_chooseSteps 20 = .ok (.iconst (-1), 1) := by decide +kernel
theorem dX2_chooseSteps_21 : decode cX2_chooseSteps 21 = .ok (.iastore, 1) := by decide +kernel
theorem dX2_chooseSteps_22 : decode cX2_chooseSteps 22 = .ok (.aload_n 0, 1) := by decide +kernel
theorem dX2_chooseSteps_23 : decode cX2_chooseSteps 23 = .ok (.getfield 28, 3) := by decide +kernel
theorem dX2_chooseSteps_26 : decode cX2_chooseSteps 26 = .ok (.iload_n 1, 1) := by decide +kernel
theorem dX2_chooseSteps_27 : decode cX2_chooseSteps 27 = .ok (.aload_n 0, 1) := by decide +kernel
theorem dX2_chooseSteps_28 : decode cX2_chooseSteps 28 = .ok (.getfield 43, 3) := by decide +kernel
theorem dX2_chooseSteps_31 : decode cX2_chooseSteps 31 = .ok (.iastore, 1) := by decide +kernel
theorem dX2_chooseSteps_32 : decode cX2_chooseSteps 32 = .ok (.iinc 1 1, 3) := by decide +kernel
theorem dX2_chooseSteps_35 : decode cX2_chooseSteps 35 = .ok (.goto (-28), 3) := by decide +kernel
theorem dX2_chooseSteps_38 : decode cX2_chooseSteps 38 = .ok (.iconst 0, 1) := by decide +kernel
theorem dX2_chooseSteps_39 : decode cX2_chooseSteps 39 = .ok (.istore_n 1, 1) := by decide +kernel
theorem dX2_chooseSteps_40 : decode cX2_chooseSteps 40 = .ok (.iload_n 1, 1) := by decide +kernel
theorem dX2_chooseSteps_41 : decode cX2_chooseSteps 41 = .ok (.aload_n 0, 1) := by decide +kernel
theorem dX2_chooseSteps_42 : decode cX2_chooseSteps 42 = .ok (.getfield 43, 3) := by decide +kernel
theorem dX2_chooseSteps_45 : decode cX2_chooseSteps 45 = .ok (.if_icmp .ge 149, 3) := by decide +kernel
theorem dX2_chooseSteps_48 : decode cX2_chooseSteps 48 = .ok (.aload_n 0, 1) := by decide +kernel
theorem dX2_chooseSteps_49 : decode cX2_chooseSteps 49 = .ok (.getfield 31, 3) := by decide +kernel
theorem dX2_chooseSteps_52 : decode cX2_chooseSteps 52 = .ok (.iload_n 1, 1) := by decide +kernel
theorem dX2_chooseSteps_53 : decode cX2_chooseSteps 53 = .ok (.iaload, 1) := by decide +kernel
theorem dX2_chooseSteps_54 : decode cX2_chooseSteps 54 = .ok (.iconst (-1), 1) := by decide +kernel
theorem dX2_chooseSteps_55 : decode cX2_chooseSteps 55 = .ok (.if_icmp .ne 17, 3) := by decide +kernel
theorem dX2_chooseSteps_58 : decode cX2_chooseSteps 58 = .ok (.aload_n 0, 1) := by decide +kernel
theorem dX2_chooseSteps_59 : decode cX2_chooseSteps 59 = .ok (.iload_n 1, 1) := by decide +kernel
theorem dX2_chooseSteps_60 : decode cX2_chooseSteps 60 = .ok (.aload_n 0, 1) := by decide +kernel
theorem dX2_chooseSteps_61 : decode cX2_chooseSteps 61 = .ok (.getfield 28, 3) := by decide +kernel
theorem dX2_chooseSteps_64 : decode cX2_chooseSteps 64 = .ok (.iload_n 1, 1) := by decide +kernel
theorem dX2_chooseSteps_65 : decode cX2_chooseSteps 65 = .ok (.iaload, 1) := by decide +kernel
theorem dX2_chooseSteps_66 : decode cX2_chooseSteps 66 = .ok (.invokevirtual 88, 3) := by decide +kernel
theorem dX2_chooseSteps_69 : decode cX2_chooseSteps 69 = .ok (.goto 4, 3) := by decide +kernel
theorem dX2_chooseSteps_72 : decode cX2_chooseSteps 72 = .ok (.iconst (-1), 1) := by decide +kernel
theorem dX2_chooseSteps_73 : decode cX2_chooseSteps 73 = .ok (.istore_n 2, 1) := by decide +kernel
theorem dX2_chooseSteps_74 : decode cX2_chooseSteps 74 = .ok (.iload_n 2, 1) := by decide +kernel
theorem dX2_chooseSteps_75 : decode cX2_chooseSteps 75 = .ok (.iconst (-1), 1) := by decide +kernel
theorem dX2_chooseSteps_76 : decode cX2_chooseSteps 76 = .ok (.if_icmp .eq 43, 3) := by decide +kernel
theorem dX2_chooseSteps_79 : decode cX2_chooseSteps 79 = .ok (.aload_n 0, 1) := by decide +kernel
theorem dX2_chooseSteps_80 : decode cX2_chooseSteps 80 = .ok (.getfield 31, 3) := by decide +kernel
theorem dX2_chooseSteps_83 : decode cX2_chooseSteps 83 = .ok (.iload_n 2, 1) := by decide +kernel
theorem dX2_chooseSteps_84 : decode cX2_chooseSteps 84 = .ok (.aload_n 0, 1) := by decide +kernel
theorem dX2_chooseSteps_85 : decode cX2_chooseSteps 85 = .ok (.getfield 15, 3) := by decide +kernel
theorem dX2_chooseSteps_88 : decode cX2_chooseSteps 88 = .ok (.iload_n 1, 1) := by decide +kernel
theorem dX2_chooseSteps_89 : decode cX2_chooseSteps 89 = .ok (.iaload, 1) := by decide +kernel
theorem dX2_chooseSteps_90 : decode cX2_chooseSteps 90 = .ok (.iconst 1, 1) := by decide +kernel
theorem dX2_chooseSteps_91 : decode cX2_chooseSteps 91 = .ok (.iadd, 1) := by decide +kernel
theorem dX2_chooseSteps_92 : decode cX2_chooseSteps 92 = .ok (.iastore, 1) := by decide +kernel
theorem dX2_chooseSteps_93 : decode cX2_chooseSteps 93 = .ok (.aload_n 0, 1) := by decide +kernel
theorem dX2_chooseSteps_94 : decode cX2_chooseSteps 94 = .ok (.getfield 28, 3) := by decide +kernel
theorem dX2_chooseSteps_97 : decode cX2_chooseSteps 97 = .ok (.iload_n 1, 1) := by decide +kernel
theorem dX2_chooseSteps_98 : decode cX2_chooseSteps 98 = .ok (.iconst 1, 1) := by decide +kernel
theorem dX2_chooseSteps_99 : decode cX2_chooseSteps 99 = .ok (.iadd, 1) := by decide +kernel
theorem dX2_chooseSteps_100 : decode cX2_chooseSteps 100 = .ok (.iload_n 2, 1) := by decide +kernel
theorem dX2_chooseSteps_101 : decode cX2_chooseSteps 101 = .ok (.iastore, 1) := by decide +kernel
theorem dX2_chooseSteps_102 : decode cX2_chooseSteps 102 = .ok (.aload_n 0, 1) := by decide +kernel
theorem dX2_chooseSteps_103 : decode cX2_chooseSteps 103 = .ok (.getfield 28, 3) := by decide +kernel
theorem dX2_chooseSteps_106 : decode cX2_chooseSteps 106 = .ok (.iload_n 2, 1) := by decide +kernel
theorem dX2_chooseSteps_107 : decode cX2_chooseSteps 107 = .ok (.iconst 1, 1) := by decide +kernel
theorem dX2_chooseSteps_108 : decode cX2_chooseSteps 108 = .ok (.iadd, 1) := by decide +kernel
theorem dX2_chooseSteps_109 : decode cX2_chooseSteps 109 = .ok (.aload_n 0, 1) := by decide +kernel
theorem dX2_chooseSteps_110 : decode cX2_chooseSteps 110 = .ok (.getfield 28, 3) := by decide +kernel
theorem dX2_chooseSteps_113 : decode cX2_chooseSteps 113 = .ok (.iload_n 1, 1) := by decide +kernel
theorem dX2_chooseSteps_114 : decode cX2_chooseSteps 114 = .ok (.iaload, 1) := by decide +kernel
theorem dX2_chooseSteps_115 : decode cX2_chooseSteps 115 = .ok (.iastore, 1) := by decide +kernel
theorem dX2_chooseSteps_116 : decode cX2_chooseSteps 116 = .ok (.goto 72, 3) := by decide +kernel
theorem dX2_chooseSteps_119 : decode cX2_chooseSteps 119 = .ok (.aload_n 0, 1) := by decide +kernel
theorem dX2_chooseSteps_120 : decode cX2_chooseSteps 120 = .ok (.getfield 31, 3) := by decide +kernel
theorem dX2_chooseSteps_123 : decode cX2_chooseSteps 123 = .ok (.iload_n 1, 1) := by decide +kernel
theorem dX2_chooseSteps_124 : decode cX2_chooseSteps 124 = .ok (.iaload, 1) := by decide +kernel
theorem dX2_chooseSteps_125 : decode cX2_chooseSteps 125 = .ok (.iconst (-1), 1) := by decide +kernel
theorem dX2_chooseSteps_126 : decode cX2_chooseSteps 126 = .ok (.if_icmp .ne 35, 3) := by decide +kernel
theorem dX2_chooseSteps_129 : decode cX2_chooseSteps 129 = .ok (.aload_n 0, 1) := by decide +kernel
theorem dX2_chooseSteps_130 : decode cX2_chooseSteps 130 = .ok (.aload_n 0, 1) := by decide +kernel
theorem dX2_chooseSteps_131 : decode cX2_chooseSteps 131 = .ok (.getfield 56, 3) := by decide +kernel
theorem dX2_chooseSteps_134 : decode cX2_chooseSteps 134 = .ok (.iload_n 1, 1) := by decide +kernel
theorem dX2_chooseSteps_135 : decode cX2_chooseSteps 135 = .ok (.aload_n 0, 1) := by decide +kernel
theorem dX2_chooseSteps_136 : decode cX2_chooseSteps 136 = .ok (.getfield 15, 3) := by decide +kernel
theorem dX2_chooseSteps_139 : decode cX2_chooseSteps 139 = .ok (.iload_n 1, 1) := by decide +kernel
theorem dX2_chooseSteps_140 : decode cX2_chooseSteps 140 = .ok (.iaload, 1) := by decide +kernel
theorem dX2_chooseSteps_141 : decode cX2_chooseSteps 141 = .ok (.invokevirtual 115, 3) := by decide +kernel
theorem dX2_chooseSteps_144 : decode cX2_chooseSteps 144 = .ok (.aload_n 0, 1) := by decide +kernel
theorem dX2_chooseSteps_145 : decode cX2_chooseSteps 145 = .ok (.getfield 28, 3) := by decide +kernel
theorem dX2_chooseSteps_148 : decode cX2_chooseSteps 148 = .ok (.iload_n 1, 1) := by decide +kernel
theorem dX2_chooseSteps_149 : decode cX2_chooseSteps 149 = .ok (.iconst 1, 1) := by decide +kernel
theorem dX2_chooseSteps_150 : decode cX2_chooseSteps 150 = .ok (.iadd, 1) := by decide +kernel
theorem dX2_chooseSteps_151 : decode cX2_chooseSteps 151 = .ok (.aload_n 0, 1) := by decide +kernel
theorem dX2_chooseSteps_152 : decode cX2_chooseSteps 152 = .ok (.getfield 28, 3) := by decide +kernel
theorem dX2_chooseSteps_155 : decode cX2_chooseSteps 155 = .ok (.iload_n 1, 1) := by decide +kernel
theorem dX2_chooseSteps_156 : decode cX2_chooseSteps 156 = .ok (.iaload, 1) := by decide +kernel
theorem dX2_chooseSteps_157 : decode cX2_chooseSteps 157 = .ok (.iastore, 1) := by decide +kernel
theorem dX2_chooseSteps_158 : decode cX2_chooseSteps 158 = .ok (.goto 30, 3) := by decide +kernel
theorem dX2_chooseSteps_161 : decode cX2_chooseSteps 161 = .ok (.aload_n 0, 1) := by decide +kernel
theorem dX2_chooseSteps_162 : decode cX2_chooseSteps 162 = .ok (.getfield 31, 3) := by decide +kernel
theorem dX2_chooseSteps_165 : decode cX2_chooseSteps 165 = .ok (.iload_n 1, 1) := by decide +kernel
theorem dX2_chooseSteps_166 : decode cX2_chooseSteps 166 = .ok (.iaload, 1) := by decide +kernel
theorem dX2_chooseSteps_167 : decode cX2_chooseSteps 167 = .ok (.aload_n 0, 1) := by decide +kernel
theorem dX2_chooseSteps_168 : decode cX2_chooseSteps 168 = .ok (.getfield 15, 3) := by decide +kernel
theorem dX2_chooseSteps_171 : decode cX2_chooseSteps 171 = .ok (.iload_n 1, 1) := by decide +kernel
theorem dX2_chooseSteps_172 : decode cX2_chooseSteps 172 = .ok (.iaload, 1) := by decide +kernel
theorem dX2_chooseSteps_173 : decode cX2_chooseSteps 173 = .ok (.if_icmp .eq 15, 3) := by decide +kernel
theorem dX2_chooseSteps_176 : decode cX2_chooseSteps 176 = .ok (.aload_n 0, 1) := by decide +kernel
theorem dX2_chooseSteps_177 : decode cX2_chooseSteps 177 = .ok (.iconst 2, 1) := by decide +kernel
theorem dX2_chooseSteps_178 : decode cX2_chooseSteps 178 = .ok (.iload_n 1, 1) := by decide +kernel
theorem dX2_chooseSteps_179 : decode cX2_chooseSteps 179 = .ok (.aload_n 0, 1) := by decide +kernel
theorem dX2_chooseSteps_180 : decode cX2_chooseSteps 180 = .ok (.getfield 31, 3) := by decide +kernel
theorem dX2_chooseSteps_183 : decode cX2_chooseSteps 183 = .ok (.iload_n 1, 1) := by decide +kernel
theorem dX2_chooseSteps_184 : decode cX2_chooseSteps 184 = .ok (.iaload, 1) := by decide +kernel
theorem dX2_chooseSteps_185 : decode cX2_chooseSteps 185 = .ok (.invokevirtual 115, 3) := by decide +kernel
theorem dX2_chooseSteps_188 : decode cX2_chooseSteps 188 = .ok (.iinc 1 1, 3) := by decide +kernel
theorem dX2_chooseSteps_191 : decode cX2_chooseSteps 191 = .ok (.goto (-151), 3) := by decide +kernel
theorem dX2_chooseSteps_194 : decode cX2_chooseSteps 194 = .ok (.return_, 1) := by decide +kernel
theorem dX2_addStep_0 : decode cX2_addStep 0 = .ok (.aload_n 0, 1) := by decide +kernel
theorem dX2_addStep_1 : decode cX2_addStep 1 = .ok (.getfield 47, 3) := by decide +kernel
theorem dX2_addStep_4 : decode cX2_addStep 4 = .ok (.sipush 240, 3) := by decide +kernel
theorem dX2_addStep_7 : decode cX2_addStep 7 = .ok (.if_icmp .ge 48, 3) := by decide +kernel
theorem dX2_addStep_10 : decode cX2_addStep 10 = .ok (.aload_n 0, 1) := by decide +kernel
theorem dX2_addStep_11 : decode cX2_addStep 11 = .ok (.getfield 34, 3) := by decide +kernel
theorem dX2_addStep_14 : decode cX2_addStep 14 = .ok (.aload_n 0, 1) := by decide +kernel
theorem dX2_addStep_15 : decode cX2_addStep 15 = .ok (.getfield 47, 3) := by decide +kernel
theorem dX2_addStep_18 : decode cX2_addStep 18 = .ok (.iload_n 1, 1) := by decide +kernel
theorem dX2_addStep_19 : decode cX2_addStep 19 = .ok (.iastore, 1) := by decide +kernel
theorem dX2_addStep_20 : decode cX2_addStep 20 = .ok (.aload_n 0, 1) := by decide +kernel
theorem dX2_addStep_21 : decode cX2_addStep 21 = .ok (.getfield 37, 3) := by decide +kernel
theorem dX2_addStep_24 : decode cX2_addStep 24 = .ok (.aload_n 0, 1) := by decide +kernel
theorem dX2_addStep_25 : decode cX2_addStep 25 = .ok (.getfield 47, 3) := by decide +kernel
theorem dX2_addStep_28 : decode cX2_addStep 28 = .ok (.aload_n 0, 1) := by decide +kernel
theorem dX2_addStep_29 : decode cX2_addStep 29 = .ok (.getfield 9, 3) := by decide +kernel
theorem dX2_addStep_32 : decode cX2_addStep 32 = .ok (.iload_n 2, 1) := by decide +kernel
theorem dX2_addStep_33 : decode cX2_addStep 33 = .ok (.iaload, 1) := by decide +kernel
theorem dX2_addStep_34 : decode cX2_addStep 34 = .ok (.iastore, 1) := by decide +kernel
theorem dX2_addStep_35 : decode cX2_addStep 35 = .ok (.aload_n 0, 1) := by decide +kernel
theorem dX2_addStep_36 : decode cX2_addStep 36 = .ok (.getfield 40, 3) := by decide +kernel
theorem dX2_addStep_39 : decode cX2_addStep 39 = .ok (.aload_n 0, 1) := by decide +kernel
theorem dX2_addStep_40 : decode cX2_addStep 40 = .ok (.getfield 47, 3) := by decide +kernel
theorem dX2_addStep_43 : decode cX2_addStep 43 = .ok (.iload_n 3, 1) := by decide +kernel
theorem dX2_addStep_44 : decode cX2_addStep 44 = .ok (.iastore, 1) := by decide +kernel
theorem dX2_addStep_45 : decode cX2_addStep 45 = .ok (.aload_n 0, 1) := by decide +kernel
theorem dX2_addStep_46 : decode cX2_addStep 46 = .ok (.dup, 1) := by decide +kernel
theorem dX2_addStep_47 : decode cX2_addStep 47 = .ok (.getfield 47, 3) := by decide +kernel
theorem dX2_addStep_50 : decode cX2_addStep 50 = .ok (.iconst 1, 1) := by decide +kernel
theorem dX2_addStep_51 : decode cX2_addStep 51 = .ok (.iadd, 1) := by decide +kernel
theorem dX2_addStep_52 : decode cX2_addStep 52 = .ok (.putfield 47, 3) := by decide +kernel
theorem dX2_addStep_55 : decode cX2_addStep 55 = .ok (.return_, 1) := by decide +kernel
theorem dX2_hasStep_0 : decode cX2_hasStep 0 = .ok (.iload_n 1, 1) := by decide +kernel
theorem dX2_hasStep_1 : decode cX2_hasStep 1 = .ok (.ifCond .lt 22, 3) := by decide +kernel
theorem dX2_hasStep_4 : decode cX2_hasStep 4 = .ok (.iload_n 1, 1) := by decide +kernel
theorem dX2_hasStep_5 : decode cX2_hasStep 5 = .ok (.aload_n 0, 1) := by decide +kernel
theorem dX2_hasStep_6 : decode cX2_hasStep 6 = .ok (.getfield 47, 3) := by decide +kernel
theorem dX2_hasStep_9 : decode cX2_hasStep 9 = .ok (.if_icmp .ge 14, 3) := by decide +kernel
theorem dX2_hasStep_12 : decode cX2_hasStep 12 = .ok (.iload_n 1, 1) := by decide +kernel
theorem dX2_hasStep_13 : decode cX2_hasStep 13 = .ok (.sipush 240, 3) := by decide +kernel
theorem dX2_hasStep_16 : decode cX2_hasStep 16 = .ok (.if_icmp .ge 7, 3) := by decide +kernel
theorem dX2_hasStep_19 : decode cX2_hasStep 19 = .ok (.iconst 1, 1) := by decide +kernel
theorem dX2_hasStep_20 : decode cX2_hasStep 20 = .ok (.goto 4, 3) := by decide +kernel
theorem dX2_hasStep_23 : decode cX2_hasStep 23 = .ok (.iconst 0, 1) := by decide +kernel
theorem dX2_hasStep_24 : decode cX2_hasStep 24 = .ok (.ireturn, 1) := by decide +kernel
theorem dX2_actOf_0 : decode cX2_actOf 0 = .ok (.aload_n 0, 1) := by decide +kernel
theorem dX2_actOf_1 : decode cX2_actOf 1 = .ok (.iload_n 1, 1) := by decide +kernel
theorem dX2_actOf_2 : decode cX2_actOf 2 = .ok (.invokevirtual 119, 3) := by decide +kernel
theorem dX2_actOf_5 : decode cX2_actOf 5 = .ok (.ifCond .eq 12, 3) := by decide +kernel
theorem dX2_actOf_8 : decode cX2_actOf 8 = .ok (.aload_n 0, 1) := by decide +kernel
theorem dX2_actOf_9 : decode cX2_actOf 9 = .ok (.getfield 34, 3) := by decide +kernel
theorem dX2_actOf_12 : decode cX2_actOf 12 = .ok (.iload_n 1, 1) := by decide +kernel
theorem dX2_actOf_13 : decode cX2_actOf 13 = .ok (.iaload, 1) := by decide +kernel
theorem dX2_actOf_14 : decode cX2_actOf 14 = .ok (.goto 4, 3) := by decide +kernel
theorem dX2_actOf_17 : decode cX2_actOf 17 = .ok (.iconst (-1), 1) := by decide +kernel
theorem dX2_actOf_18 : decode cX2_actOf 18 = .ok (.ireturn, 1) := by decide +kernel
theorem dX2_placeOf_0 : decode cX2_placeOf 0 = .ok (.aload_n 0, 1) := by decide +kernel
theorem dX2_placeOf_1 : decode cX2_placeOf 1 = .ok (.iload_n 1, 1) := by decide +kernel
theorem dX2_placeOf_2 : decode cX2_placeOf 2 = .ok (.invokevirtual 119, 3) := by decide +kernel
theorem dX2_placeOf_5 : decode cX2_placeOf 5 = .ok (.ifCond .eq 12, 3) := by decide +kernel
theorem dX2_placeOf_8 : decode cX2_placeOf 8 = .ok (.aload_n 0, 1) := by decide +kernel
theorem dX2_placeOf_9 : decode cX2_placeOf 9 = .ok (.getfield 37, 3) := by decide +kernel
theorem dX2_placeOf_12 : decode cX2_placeOf 12 = .ok (.iload_n 1, 1) := by decide +kernel
theorem dX2_placeOf_13 : decode cX2_placeOf 13 = .ok (.iaload, 1) := by decide +kernel
theorem dX2_placeOf_14 : decode cX2_placeOf 14 = .ok (.goto 4, 3) := by decide +kernel
theorem dX2_placeOf_17 : decode cX2_placeOf 17 = .ok (.iconst (-1), 1) := by decide +kernel
theorem dX2_placeOf_18 : decode cX2_placeOf 18 = .ok (.ireturn, 1) := by decide +kernel
theorem dX2_roleOf_0 : decode cX2_roleOf 0 = .ok (.aload_n 0, 1) := by decide +kernel
theorem dX2_roleOf_1 : decode cX2_roleOf 1 = .ok (.iload_n 1, 1) := by decide +kernel
theorem dX2_roleOf_2 : decode cX2_roleOf 2 = .ok (.invokevirtual 119, 3) := by decide +kernel
theorem dX2_roleOf_5 : decode cX2_roleOf 5 = .ok (.ifCond .eq 12, 3) := by decide +kernel
theorem dX2_roleOf_8 : decode cX2_roleOf 8 = .ok (.aload_n 0, 1) := by decide +kernel
theorem dX2_roleOf_9 : decode cX2_roleOf 9 = .ok (.getfield 40, 3) := by decide +kernel
theorem dX2_roleOf_12 : decode cX2_roleOf 12 = .ok (.iload_n 1, 1) := by decide +kernel
theorem dX2_roleOf_13 : decode cX2_roleOf 13 = .ok (.iaload, 1) := by decide +kernel
theorem dX2_roleOf_14 : decode cX2_roleOf 14 = .ok (.goto 4, 3) := by decide +kernel
theorem dX2_roleOf_17 : decode cX2_roleOf 17 = .ok (.iconst (-1), 1) := by decide +kernel
theorem dX2_roleOf_18 : decode cX2_roleOf 18 = .ok (.ireturn, 1) := by decide +kernel
theorem dX2_growth_0 : decode cX2_growth 0 = .ok (.iconst 0, 1) := by decide +kernel
theorem dX2_growth_1 : decode cX2_growth 1 = .ok (.istore_n 1, 1) := by decide +kernel
theorem dX2_growth_2 : decode cX2_growth 2 = .ok (.iconst 0, 1) := by decide +kernel
theorem dX2_growth_3 : decode cX2_growth 3 = .ok (.istore_n 2, 1) := by decide +kernel
theorem dX2_growth_4 : decode cX2_growth 4 = .ok (.iload_n 2, 1) := by decide +kernel
theorem dX2_growth_5 : decode cX2_growth 5 = .ok (.aload_n 0, 1) := by decide +kernel
theorem dX2_growth_6 : decode cX2_growth 6 = .ok (.getfield 47, 3) := by decide +kernel
theorem dX2_growth_9 : decode cX2_growth 9 = .ok (.if_icmp .ge 35, 3) := by decide +kernel
theorem dX2_growth_12 : decode cX2_growth 12 = .ok (.aload_n 0, 1) := by decide +kernel
theorem dX2_growth_13 : decode cX2_growth 13 = .ok (.iload_n 2, 1) := by decide +kernel
theorem dX2_growth_14 : decode cX2_growth 14 = .ok (.invokevirtual 122, 3) := by decide +kernel
theorem dX2_growth_17 : decode cX2_growth 17 = .ok (.iconst 1, 1) := by decide +kernel
theorem dX2_growth_18 : decode cX2_growth 18 = .ok (.if_icmp .ne 9, 3) := by decide +kernel
theorem dX2_growth_21 : decode cX2_growth 21 = .ok (.iinc 1 1, 3) := by decide +kernel
theorem dX2_growth_24 : decode cX2_growth 24 = .ok (.goto 14, 3) := by decide +kernel
theorem dX2_growth_27 : decode cX2_growth 27 = .ok (.aload_n 0, 1) := by decide +kernel
theorem dX2_growth_28 : decode cX2_growth 28 = .ok (.iload_n 2, 1) := by decide +kernel
theorem dX2_growth_29 : decode cX2_growth 29 = .ok (.invokevirtual 122, 3) := by decide +kernel
theorem dX2_growth_32 : decode cX2_growth 32 = .ok (.ifCond .ne 6, 3) := by decide +kernel
theorem dX2_growth_35 : decode cX2_growth 35 = .ok (.iinc 1 (-1), 3) := by decide +kernel
theorem dX2_growth_38 : decode cX2_growth 38 = .ok (.iinc 2 1, 3) := by decide +kernel
theorem dX2_growth_41 : decode cX2_growth 41 = .ok (.goto (-37), 3) := by decide +kernel
theorem dX2_growth_44 : decode cX2_growth 44 = .ok (.iload_n 1, 1) := by decide +kernel
theorem dX2_growth_45 : decode cX2_growth 45 = .ok (.ireturn, 1) := by decide +kernel
theorem dX3_init_0 : decode cX3_init 0 = .ok (.aload_n 0, 1) := by decide +kernel
theorem dX3_init_1 : decode cX3_init 1 = .ok (.invokespecial 3, 3) := by decide +kernel
theorem dX3_init_4 : decode cX3_init 4 = .ok (.aload_n 0, 1) := by decide +kernel
theorem dX3_init_5 : decode cX3_init 5 = .ok (.bipush 100, 2) := by decide +kernel
theorem dX3_init_7 : decode cX3_init 7 = .ok (.newarray .int, 2) := by decide +kernel
theorem dX3_init_9 : decode cX3_init 9 = .ok (.putfield 11, 3) := by decide +kernel
theorem dX3_init_12 : decode cX3_init 12 = .ok (.aload_n 0, 1) := by decide +kernel
theorem dX3_init_13 : decode cX3_init 13 = .ok (.sipush 300, 3) := by decide +kernel
theorem dX3_init_16 : decode cX3_init 16 = .ok (.newarray .int, 2) := by decide +kernel
theorem dX3_init_18 : decode cX3_init 18 = .ok (.putfield 15, 3) := by decide +kernel
theorem dX3_init_21 : decode cX3_init 21 = .ok (.aload_n 0, 1) := by decide +kernel
theorem dX3_init_22 : decode cX3_init 22 = .ok (.iconst 0, 1) := by decide +kernel
theorem dX3_init_23 : decode cX3_init 23 = .ok (.putfield 18, 3) := by decide +kernel
theorem dX3_init_26 : decode cX3_init 26 = .ok (.return_, 1) := by decide +kernel
theorem dX3_verbOf_0 : decode cX3_verbOf 0 = .ok (.iload_n 1, 1) := by decide +kernel
theorem dX3_verbOf_1 : decode cX3_verbOf 1 = .ok (.ifCond .lt 18, 3) := by decide +kernel
theorem dX3_verbOf_4 : decode cX3_verbOf 4 = .ok (.iload_n 1, 1) := by decide +kernel
theorem dX3_verbOf_5 : decode cX3_verbOf 5 = .ok (.bipush 100, 2) := by decide +kernel
theorem dX3_verbOf_7 : decode cX3_verbOf 7 = .ok (.if_icmp .ge 12, 3) := by decide +kernel
theorem dX3_verbOf_10 : decode cX3_verbOf 10 = .ok (.aload_n 0, 1) := by decide +kernel
theorem dX3_verbOf_11 : decode cX3_verbOf 11 = .ok (.getfield 11, 3) := by decide +kernel
theorem dX3_verbOf_14 : decode cX3_verbOf 14 = .ok (.iload_n 1, 1) := by decide +kernel
theorem dX3_verbOf_15 : decode cX3_verbOf 15 = .ok (.iaload, 1) := by decide +kernel
theorem dX3_verbOf_16 : decode cX3_verbOf 16 = .ok (.goto 4, 3) := by decide +kernel
theorem dX3_verbOf_19 : decode cX3_verbOf 19 = .ok (.iconst (-1), 1) := by decide +kernel
theorem dX3_verbOf_20 : decode cX3_verbOf 20 = .ok (.ireturn, 1) := by decide +kernel
theorem dX3_numberOf_0 : decode cX3_numberOf 0 = .ok (.iload_n 1, 1) := by decide +kernel
theorem dX3_numberOf_1 : decode cX3_numberOf 1 = .ok (.ifCond .lt 18, 3) := by decide +kernel
theorem dX3_numberOf_4 : decode cX3_numberOf 4 = .ok (.iload_n 1, 1) := by decide +kernel
theorem dX3_numberOf_5 : decode cX3_numberOf 5 = .ok (.bipush 100, 2) := by decide +kernel
theorem dX3_numberOf_7 : decode cX3_numberOf 7 = .ok (.if_icmp .ge 12, 3) := by decide +kernel
theorem dX3_numberOf_10 : decode cX3_numberOf 10 = .ok (.iload_n 2, 1) := by decide +kernel
theorem dX3_numberOf_11 : decode cX3_numberOf 11 = .ok (.ifCond .lt 8, 3) := by decide +kernel
theorem dX3_numberOf_14 : decode cX3_numberOf 14 = .ok (.iload_n 2, 1) := by decide +kernel
theorem dX3_numberOf_15 : decode cX3_numberOf 15 = .ok (.iconst 3, 1) := by decide +kernel
theorem dX3_numberOf_16 : decode cX3_numberOf 16 = .ok (.if_icmp .lt 5, 3) := by decide +kernel
theorem dX3_numberOf_19 : decode cX3_numberOf 19 = .ok (.iconst (-1), 1) := by decide +kernel
theorem dX3_numberOf_20 : decode cX3_numberOf 20 = .ok (.ireturn, 1) := by decide +kernel
theorem dX3_numberOf_21 : decode cX3_numberOf 21 = .ok (.aload_n 0, 1) := by decide +kernel
theorem dX3_numberOf_22 : decode cX3_numberOf 22 = .ok (.getfield 15, 3) := by decide +kernel
theorem dX3_numberOf_25 : decode cX3_numberOf 25 = .ok (.iload_n 1, 1) := by decide +kernel
theorem dX3_numberOf_26 : decode cX3_numberOf 26 = .ok (.iconst 3, 1) := by decide +kernel
theorem dX3_numberOf_27 : decode cX3_numberOf 27 = .ok (.imul, 1) := by decide +kernel
theorem dX3_numberOf_28 : decode cX3_numberOf 28 = .ok (.iload_n 2, 1) := by decide +kernel
theorem dX3_numberOf_29 : decode cX3_numberOf 29 = .ok (.iadd, 1) := by decide +kernel
theorem dX3_numberOf_30 : decode cX3_numberOf 30 = .ok (.iaload, 1) := by decide +kernel
theorem dX3_numberOf_31 : decode cX3_numberOf 31 = .ok (.ireturn, 1) := by decide +kernel
theorem dX3_parse_0 : decode cX3_parse 0 = .ok (.iconst 0, 1) := by decide +kernel
theorem dX3_parse_1 : decode cX3_parse 1 = .ok (.istore_n 2, 1) := by decide +kernel
theorem dX3_parse_2 : decode cX3_parse 2 = .ok (.aload_n 0, 1) := by decide +kernel
theorem dX3_parse_3 : decode cX3_parse 3 = .ok (.iconst 0, 1) := by decide +kernel
theorem dX3_parse_4 : decode cX3_parse 4 = .ok (.putfield 18, 3) := by decide +kernel
theorem dX3_parse_7 : decode cX3_parse 7 = .ok (.iconst 0, 1) := by decide +kernel
theorem dX3_parse_8 : decode cX3_parse 8 = .ok (.istore_n 3, 1) := by decide +kernel
theorem dX3_parse_9 : decode cX3_parse 9 = .ok (.iload_n 3, 1) := by decide +kernel
theorem dX3_parse_10 : decode cX3_parse 10 = .ok (.bipush 100, 2) := by decide +kernel
theorem dX3_parse_12 : decode cX3_parse 12 = .ok (.if_icmp .ge 37, 3) := by decide +kernel
theorem dX3_parse_15 : decode cX3_parse 15 = .ok (.iload_n 2, 1) := by decide +kernel
theorem dX3_parse_16 : decode cX3_parse 16 = .ok (.ifCond .ne 33, 3) := by decide +kernel
theorem dX3_parse_19 : decode cX3_parse 19 = .ok (.aload_n 1, 1) := by decide +kernel
theorem dX3_parse_20 : decode cX3_parse 20 = .ok (.invokevirtual 22, 3) := by decide +kernel
theorem dX3_parse_23 : decode cX3_parse 23 = .ok (.ifCond .ne 26, 3) := by decide +kernel
theorem dX3_parse_26 : decode cX3_parse 26 = .ok (.aload_n 0, 1) := by decide +kernel
theorem dX3_parse_27 : decode cX3_parse 27 = .ok (.aload_n 1, 1) := by decide +kernel
theorem dX3_parse_28 : decode cX3_parse 28 = .ok (.iload_n 3, 1) := by decide +kernel
theorem dX3_parse_29 : decode cX3_parse 29 = .ok (.invokevirtual 28, 3) := by decide +kernel
theorem dX3_parse_32 : decode cX3_parse 32 = .ok (.istore_n 2, 1) := by decide +kernel
theorem dX3_parse_33 : decode cX3_parse 33 = .ok (.aload_n 0, 1) := by decide +kernel
theorem dX3_parse_34 : decode cX3_parse 34 = .ok (.dup, 1) := by decide +kernel
theorem dX3_parse_35 : decode cX3_parse 35 = .ok (.getfield 18, 3) := by decide +kernel
theorem dX3_parse_38 : decode cX3_parse 38 = .ok (.iconst 1, 1) := by decide +kernel
theorem dX3_parse_39 : decode cX3_parse 39 = .ok (.iadd, 1) := by decide +kernel
theorem dX3_parse_40 : decode cX3_parse 40 = .ok (.putfield 18, 3) := by decide +kernel
theorem dX3_parse_43 : decode cX3_parse 43 = .ok (.iinc 3 1, 3) := by decide +kernel
theorem dX3_parse_46 : decode cX3_parse 46 = .ok (.goto (-37), 3) := by decide +kernel
theorem dX3_parse_49 : decode cX3_parse 49 = .ok (.iload_n 2, 1) := by decide +kernel
theorem dX3_parse_50 : decode cX3_parse 50 = .ok (.ireturn, 1) := by decide +kernel
theorem dX3_parseStatement_0 : decode cX3_parseStatement 0 = .ok (.aload_n 1, 1) := by decide +kernel
theorem dX3_parseStatement_1 : decode cX3_parseStatement 1 = .ok (.invokestatic 32, 3) := by decide +kernel
theorem dX3_parseStatement_4 : decode cX3_parseStatement 4 = .ok (.istore_n 3, 1) := by decide +kernel
theorem dX3_parseStatement_5 : decode cX3_parseStatement 5 = .ok (.iload_n 3, 1) := by decide +kernel
theorem dX3_parseStatement_6 : decode cX3_parseStatement 6 = .ok (.iconst (-1), 1) := by decide +kernel
theorem dX3_parseStatement_7 : decode cX3_parseStatement 7 = .ok (.if_icmp .eq 13, 3) := by decide +kernel
theorem dX3_parseStatement_10 : decode cX3_parseStatement 10 = .ok (.iload_n 2, 1) := by decide +kernel
theorem dX3_parseStatement_11 : decode cX3_parseStatement 11 = .ok (.ifCond .lt 9, 3) := by decide +kernel
theorem dX3_parseStatement_14 : decode cX3_parseStatement 14 = .ok (.iload_n 2, 1) := by decide +kernel
theorem dX3_parseStatement_15 : decode cX3_parseStatement 15 = .ok (.bipush 100, 2) := by decide +kernel
theorem dX3_parseStatement_17 : decode cX3_parseStatement 17 = .ok (.if_icmp .lt 5, 3) := by decide +kernel
theorem dX3_parseStatement_20 : decode cX3_parseStatement 20 = .ok (.iconst 1, 1) := by decide +kernel
theorem dX3_parseStatement_21 : decode cX3_parseStatement 21 = .ok (.ireturn, 1) := by decide +kernel
theorem dX3_parseStatement_22 : decode cX3_parseStatement 22 = .ok (.aload_n 0, 1) := by decide +kernel
theorem dX3_parseStatement_23 : decode cX3_parseStatement 23 = .ok (.getfield 11, 3) := by decide +kernel
theorem dX3_parseStatement_26 : decode cX3_parseStatement 26 = .ok (.iload_n 2, 1) := by decide +kernel
theorem dX3_parseStatement_27 : decode cX3_parseStatement 27 = .ok (.iload_n 3, 1) := by decide +kernel
theorem dX3_parseStatement_28 : decode cX3_parseStatement 28 = .ok (.iastore, 1) := by decide +kernel
theorem dX3_parseStatement_29 : decode cX3_parseStatement 29 = .ok (.aload_n 1, 1) := by decide +kernel
theorem dX3_parseStatement_30 : decode cX3_parseStatement 30 = .ok (.invokevirtual 36, 3) := by decide +kernel
theorem dX3_parseStatement_33 : decode cX3_parseStatement 33 = .ok (.iconst 0, 1) := by decide +kernel
theorem dX3_parseStatement_34 : decode cX3_parseStatement 34 = .ok (.istore 4, 2) := by decide +kernel
theorem dX3_parseStatement_36 : decode cX3_parseStatement 36 = .ok (.iload 4, 2) := by decide +kernel
theorem dX3_parseStatement_38 : decode cX3_parseStatement 38 = .ok (.iload_n 3, 1) := by decide +kernel
theorem dX3_parseStatement_39 : decode cX3_parseStatement 39 = .ok (.invokestatic 39, 3) := by decide +kernel
theorem dX3_parseStatement_42 : decode cX3_parseStatement 42 = .ok (.if_icmp .ge 47, 3) := by decide +kernel
theorem dX3_parseStatement_45 : decode cX3_parseStatement 45 = .ok (.iload 4, 2) := by decide +kernel
theorem dX3_parseStatement_47 : decode cX3_parseStatement 47 = .ok (.iconst 3, 1) := by decide +kernel
theorem dX3_parseStatement_48 : decode cX3_parseStatement 48 = .ok (.if_icmp .ge 41, 3) := by decide +kernel
theorem dX3_parseStatement_51 : decode cX3_parseStatement 51 = .ok (.aload_n 1, 1) := by decide +kernel
theorem dX3_parseStatement_52 : decode cX3_parseStatement 52 = .ok (.iconst 0, 1) := by decide +kernel
theorem dX3_parseStatement_53 : decode cX3_parseStatement 53 = .ok (.sipush 999, 3) := by decide +kernel
theorem dX3_parseStatement_56 : decode cX3_parseStatement 56 = .ok (.invokevirtual 43, 3) := by decide +kernel
theorem dX3_parseStatement_59 : decode cX3_parseStatement 59 = .ok (.istore 5, 2) := by decide +kernel
theorem dX3_parseStatement_61 : decode cX3_parseStatement 61 = .ok (.iload 5, 2) := by decide +kernel
theorem dX3_parseStatement_63 : decode cX3_parseStatement 63 = .ok (.ifCond .ge 7, 3) := by decide +kernel
theorem dX3_parseStatement_66 : decode cX3_parseStatement 66 = .ok (.iload 5, 2) := by decide +kernel
theorem dX3_parseStatement_68 : decode cX3_parseStatement 68 = .ok (.ineg, 1) := by decide +kernel
theorem dX3_parseStatement_69 : decode cX3_parseStatement 69 = .ok (.ireturn, 1) := by decide +kernel
theorem dX3_parseStatement_70 : decode cX3_parseStatement 70 = .ok (.aload_n 0, 1) := by decide +kernel
theorem dX3_parseStatement_71 : decode cX3_parseStatement 71 = .ok (.getfield 15, 3) := by decide +kernel
theorem dX3_parseStatement_74 : decode cX3_parseStatement 74 = .ok (.iload_n 2, 1) := by decide +kernel
theorem dX3_parseStatement_75 : decode cX3_parseStatement 75 = .ok (.iconst 3, 1) := by decide +kernel
theorem dX3_parseStatement_76 : decode cX3_parseStatement 76 = .ok (.imul, 1) := by decide +kernel
theorem dX3_parseStatement_77 : decode cX3_parseStatement 77 = .ok (.iload 4, 2) := by decide +kernel
theorem dX3_parseStatement_79 : decode cX3_parseStatement 79 = .ok (.iadd, 1) := by decide +kernel
theorem dX3_parseStatement_80 : decode cX3_parseStatement 80 = .ok (.iload 5, 2) := by decide +kernel
theorem dX3_parseStatement_82 : decode cX3_parseStatement 82 = .ok (.iastore, 1) := by decide +kernel
theorem dX3_parseStatement_83 : decode cX3_parseStatement 83 = .ok (.iinc 4 1, 3) := by decide +kernel
theorem dX3_parseStatement_86 : decode cX3_parseStatement 86 = .ok (.goto (-50), 3) := by decide +kernel
theorem dX3_parseStatement_89 : decode cX3_parseStatement 89 = .ok (.aload_n 1, 1) := by decide +kernel
theorem dX3_parseStatement_90 : decode cX3_parseStatement 90 = .ok (.invokevirtual 47, 3) := by decide +kernel
theorem dX3_parseStatement_93 : decode cX3_parseStatement 93 = .ok (.ireturn, 1) := by decide +kernel
theorem dX3_verbIn_0 : decode cX3_verbIn 0 = .ok (.aload_n 0, 1) := by decide +kernel
theorem dX3_verbIn_1 : decode cX3_verbIn 1 = .ok (.ldc 51, 2) := by decide +kernel
theorem dX3_verbIn_3 : decode cX3_verbIn 3 = .ok (.invokevirtual 53, 3) := by decide +kernel
theorem dX3_verbIn_6 : decode cX3_verbIn 6 = .ok (.ifCond .eq 5, 3) := by decide +kernel
theorem dX3_verbIn_9 : decode cX3_verbIn 9 = .ok (.iconst 0, 1) := by decide +kernel
theorem dX3_verbIn_10 : decode cX3_verbIn 10 = .ok (.ireturn, 1) := by decide +kernel
theorem dX3_verbIn_11 : decode cX3_verbIn 11 = .ok (.aload_n 0, 1) := by decide +kernel
theorem dX3_verbIn_12 : decode cX3_verbIn 12 = .ok (.ldc 57, 2) := by decide +kernel
theorem dX3_verbIn_14 : decode cX3_verbIn 14 = .ok (.invokevirtual 53, 3) := by decide +kernel
theorem dX3_verbIn_17 : decode cX3_verbIn 17 = .ok (.ifCond .eq 5, 3) := by decide +kernel
theorem dX3_verbIn_20 : decode cX3_verbIn 20 = .ok (.iconst 1, 1) := by decide +kernel
theorem dX3_verbIn_21 : decode cX3_verbIn 21 = .ok (.ireturn, 1) := by decide +kernel
theorem dX3_verbIn_22 : decode cX3_verbIn 22 = .ok (.aload_n 0, 1) := by decide +kernel
theorem dX3_verbIn_23 : decode cX3_verbIn 23 = .ok (.ldc 59, 2) := by decide +kernel
theorem dX3_verbIn_25 : decode cX3_verbIn 25 = .ok (.invokevirtual 53, 3) := by decide +kernel
theorem dX3_verbIn_28 : decode cX3_verbIn 28 = .ok (.ifCond .eq 5, 3) := by decide +kernel
theorem dX3_verbIn_31 : decode cX3_verbIn 31 = .ok (.iconst 2, 1) := by decide +kernel
theorem dX3_verbIn_32 : decode cX3_verbIn 32 = .ok (.ireturn, 1) := by decide +kernel
theorem dX3_verbIn_33 : decode cX3_verbIn 33 = .ok (.aload_n 0, 1) := by decide +kernel
theorem dX3_verbIn_34 : decode cX3_verbIn 34 = .ok (.ldc 61, 2) := by decide +kernel
theorem dX3_verbIn_36 : decode cX3_verbIn 36 = .ok (.invokevirtual 53, 3) := by decide +kernel
theorem dX3_verbIn_39 : decode cX3_verbIn 39 = .ok (.ifCond .eq 5, 3) := by decide +kernel
theorem dX3_verbIn_42 : decode cX3_verbIn 42 = .ok (.iconst 3, 1) := by decide +kernel
theorem dX3_verbIn_43 : decode cX3_verbIn 43 = .ok (.ireturn, 1) := by decide +kernel
theorem dX3_verbIn_44 : decode cX3_verbIn 44 = .ok (.aload_n 0, 1) := by decide +kernel
theorem dX3_verbIn_45 : decode cX3_verbIn 45 = .ok (.ldc 63, 2) := by decide +kernel
theorem dX3_verbIn_47 : decode cX3_verbIn 47 = .ok (.invokevirtual 53, 3) := by decide +kernel
theorem dX3_verbIn_50 : decode cX3_verbIn 50 = .ok (.ifCond .eq 5, 3) := by decide +kernel
theorem dX3_verbIn_53 : decode cX3_verbIn 53 = .ok (.iconst 4, 1) := by decide +kernel
theorem dX3_verbIn_54 : decode cX3_verbIn 54 = .ok (.ireturn, 1) := by decide +kernel
theorem dX3_verbIn_55 : decode cX3_verbIn 55 = .ok (.aload_n 0, 1) := by decide +kernel
theorem dX3_verbIn_56 : decode cX3_verbIn 56 = .ok (.ldc 65, 2) := by decide +kernel
theorem dX3_verbIn_58 : decode cX3_verbIn 58 = .ok (.invokevirtual 53, 3) := by decide +kernel
theorem dX3_verbIn_61 : decode cX3_verbIn 61 = .ok (.ifCond .eq 7, 3) := by decide +kernel
theorem dX3_verbIn_64 : decode cX3_verbIn 64 = .ok (.iconst 5, 1) := by decide +kernel
theorem dX3_verbIn_65 : decode cX3_verbIn 65 = .ok (.goto 4, 3) := by decide +kernel
theorem dX3_verbIn_68 : decode cX3_verbIn 68 = .ok (.iconst (-1), 1) := by decide +kernel
theorem dX3_verbIn_69 : decode cX3_verbIn 69 = .ok (.ireturn, 1) := by decide +kernel
theorem dX3_numbersOf_0 : decode cX3_numbersOf 0 = .ok (.iload_n 0, 1) := by decide +kernel
theorem dX3_numbersOf_1 : decode cX3_numbersOf 1 = .ok (.tableswitch 33 3 5 #[27, 29, 31], 27) := by decide +kernel
theorem dX3_numbersOf_28 : decode cX3_numbersOf 28 = .ok (.iconst 3, 1) := by decide +kernel
theorem dX3_numbersOf_29 : decode cX3_numbersOf 29 = .ok (.ireturn, 1) := by decide +kernel
theorem dX3_numbersOf_30 : decode cX3_numbersOf 30 = .ok (.iconst 0, 1) := by decide +kernel
theorem dX3_numbersOf_31 : decode cX3_numbersOf 31 = .ok (.ireturn, 1) := by decide +kernel
theorem dX3_numbersOf_32 : decode cX3_numbersOf 32 = .ok (.iconst 1, 1) := by decide +kernel
theorem dX3_numbersOf_33 : decode cX3_numbersOf 33 = .ok (.ireturn, 1) := by decide +kernel
theorem dX3_numbersOf_34 : decode cX3_numbersOf 34 = .ok (.iconst 2, 1) := by decide +kernel
theorem dX3_numbersOf_35 : decode cX3_numbersOf 35 = .ok (.ireturn, 1) := by decide +kernel
theorem dX4_init_0 : decode cX4_init 0 = .ok (.aload_n 0, 1) := by decide +kernel
theorem dX4_init_1 : decode cX4_init 1 = .ok (.invokespecial 3, 3) := by decide +kernel
theorem dX4_init_4 : decode cX4_init 4 = .ok (.aload_n 0, 1) := by decide +kernel
theorem dX4_init_5 : decode cX4_init 5 = .ok (.sipush 240, 3) := by decide +kernel
theorem dX4_init_8 : decode cX4_init 8 = .ok (.newarray .int, 2) := by decide +kernel
theorem dX4_init_10 : decode cX4_init 10 = .ok (.putfield 9, 3) := by decide +kernel
theorem dX4_init_13 : decode cX4_init 13 = .ok (.aload_n 0, 1) := by decide +kernel
theorem dX4_init_14 : decode cX4_init 14 = .ok (.bipush 8, 2) := by decide +kernel
theorem dX4_init_16 : decode cX4_init 16 = .ok (.newarray .int, 2) := by decide +kernel
theorem dX4_init_18 : decode cX4_init 18 = .ok (.putfield 15, 3) := by decide +kernel
theorem dX4_init_21 : decode cX4_init 21 = .ok (.aload_n 0, 1) := by decide +kernel
theorem dX4_init_22 : decode cX4_init 22 = .ok (.iconst 0, 1) := by decide +kernel
theorem dX4_init_23 : decode cX4_init 23 = .ok (.putfield 18, 3) := by decide +kernel
theorem dX4_init_26 : decode cX4_init 26 = .ok (.aload_n 0, 1) := by decide +kernel
theorem dX4_init_27 : decode cX4_init 27 = .ok (.iconst 0, 1) := by decide +kernel
theorem dX4_init_28 : decode cX4_init 28 = .ok (.putfield 22, 3) := by decide +kernel
theorem dX4_init_31 : decode cX4_init 31 = .ok (.aload_n 0, 1) := by decide +kernel
theorem dX4_init_32 : decode cX4_init 32 = .ok (.iconst 3, 1) := by decide +kernel
theorem dX4_init_33 : decode cX4_init 33 = .ok (.putfield 25, 3) := by decide +kernel
theorem dX4_init_36 : decode cX4_init 36 = .ok (.aload_n 0, 1) := by decide +kernel
theorem dX4_init_37 : decode cX4_init 37 = .ok (.iconst 2, 1) := by decide +kernel
theorem dX4_init_38 : decode cX4_init 38 = .ok (.putfield 28, 3) := by decide +kernel
theorem dX4_init_41 : decode cX4_init 41 = .ok (.aload_n 0, 1) := by decide +kernel
theorem dX4_init_42 : decode cX4_init 42 = .ok (.iconst 3, 1) := by decide +kernel
theorem dX4_init_43 : decode cX4_init 43 = .ok (.putfield 31, 3) := by decide +kernel
theorem dX4_init_46 : decode cX4_init 46 = .ok (.aload_n 0, 1) := by decide +kernel
theorem dX4_init_47 : decode cX4_init 47 = .ok (.iconst 4, 1) := by decide +kernel
theorem dX4_init_48 : decode cX4_init 48 = .ok (.putfield 34, 3) := by decide +kernel
theorem dX4_init_51 : decode cX4_init 51 = .ok (.return_, 1) := by decide +kernel
theorem dX4_copyFrom_0 : decode cX4_copyFrom 0 = .ok (.aload_n 1, 1) := by decide +kernel
theorem dX4_copyFrom_1 : decode cX4_copyFrom 1 = .ok (.getfield 9, 3) := by decide +kernel
theorem dX4_copyFrom_4 : decode cX4_copyFrom 4 = .ok (.iconst 0, 1) := by decide +kernel
theorem dX4_copyFrom_5 : decode cX4_copyFrom 5 = .ok (.aload_n 0, 1) := by decide +kernel
theorem dX4_copyFrom_6 : decode cX4_copyFrom 6 = .ok (.getfield 9, 3) := by decide +kernel
theorem dX4_copyFrom_9 : decode cX4_copyFrom 9 = .ok (.iconst 0, 1) := by decide +kernel
theorem dX4_copyFrom_10 : decode cX4_copyFrom 10 = .ok (.sipush 240, 3) := by decide +kernel
theorem dX4_copyFrom_13 : decode cX4_copyFrom 13 = .ok (.invokestatic 37, 3) := by decide +kernel
theorem dX4_copyFrom_16 : decode cX4_copyFrom 16 = .ok (.aload_n 1, 1) := by decide +kernel
theorem dX4_copyFrom_17 : decode cX4_copyFrom 17 = .ok (.getfield 15, 3) := by decide +kernel
theorem dX4_copyFrom_20 : decode cX4_copyFrom 20 = .ok (.iconst 0, 1) := by decide +kernel
theorem dX4_copyFrom_21 : decode cX4_copyFrom 21 = .ok (.aload_n 0, 1) := by decide +kernel
theorem dX4_copyFrom_22 : decode cX4_copyFrom 22 = .ok (.getfield 15, 3) := by decide +kernel
theorem dX4_copyFrom_25 : decode cX4_copyFrom 25 = .ok (.iconst 0, 1) := by decide +kernel
theorem dX4_copyFrom_26 : decode cX4_copyFrom 26 = .ok (.bipush 8, 2) := by decide +kernel
theorem dX4_copyFrom_28 : decode cX4_copyFrom 28 = .ok (.invokestatic 37, 3) := by decide +kernel
theorem dX4_copyFrom_31 : decode cX4_copyFrom 31 = .ok (.aload_n 0, 1) := by decide +kernel
theorem dX4_copyFrom_32 : decode cX4_copyFrom 32 = .ok (.aload_n 1, 1) := by decide +kernel
theorem dX4_copyFrom_33 : decode cX4_copyFrom 33 = .ok (.getfield 18, 3) := by decide +kernel
theorem dX4_copyFrom_36 : decode cX4_copyFrom 36 = .ok (.putfield 18, 3) := by decide +kernel
theorem dX4_copyFrom_39 : decode cX4_copyFrom 39 = .ok (.aload_n 0, 1) := by decide +kernel
theorem dX4_copyFrom_40 : decode cX4_copyFrom 40 = .ok (.aload_n 1, 1) := by decide +kernel
theorem dX4_copyFrom_41 : decode cX4_copyFrom 41 = .ok (.getfield 22, 3) := by decide +kernel
theorem dX4_copyFrom_44 : decode cX4_copyFrom 44 = .ok (.putfield 22, 3) := by decide +kernel
theorem dX4_copyFrom_47 : decode cX4_copyFrom 47 = .ok (.aload_n 0, 1) := by decide +kernel
theorem dX4_copyFrom_48 : decode cX4_copyFrom 48 = .ok (.aload_n 1, 1) := by decide +kernel
theorem dX4_copyFrom_49 : decode cX4_copyFrom 49 = .ok (.getfield 25, 3) := by decide +kernel
theorem dX4_copyFrom_52 : decode cX4_copyFrom 52 = .ok (.putfield 25, 3) := by decide +kernel
theorem dX4_copyFrom_55 : decode cX4_copyFrom 55 = .ok (.aload_n 0, 1) := by decide +kernel
theorem dX4_copyFrom_56 : decode cX4_copyFrom 56 = .ok (.aload_n 1, 1) := by decide +kernel
theorem dX4_copyFrom_57 : decode cX4_copyFrom 57 = .ok (.getfield 28, 3) := by decide +kernel
theorem dX4_copyFrom_60 : decode cX4_copyFrom 60 = .ok (.aload_n 1, 1) := by decide +kernel
theorem dX4_copyFrom_61 : decode cX4_copyFrom 61 = .ok (.getfield 31, 3) := by decide +kernel
theorem dX4_copyFrom_64 : decode cX4_copyFrom 64 = .ok (.aload_n 1, 1) := by decide +kernel
theorem dX4_copyFrom_65 : decode cX4_copyFrom 65 = .ok (.getfield 34, 3) := by decide +kernel
theorem dX4_copyFrom_68 : decode cX4_copyFrom 68 = .ok (.invokevirtual 43, 3) := by decide +kernel
theorem dX4_copyFrom_71 : decode cX4_copyFrom 71 = .ok (.return_, 1) := by decide +kernel
theorem dX4_setPrices_0 : decode cX4_setPrices 0 = .ok (.aload_n 0, 1) := by decide +kernel
theorem dX4_setPrices_1 : decode cX4_setPrices 1 = .ok (.iload_n 1, 1) := by decide +kernel
theorem dX4_setPrices_2 : decode cX4_setPrices 2 = .ok (.putfield 28, 3) := by decide +kernel
theorem dX4_setPrices_5 : decode cX4_setPrices 5 = .ok (.aload_n 0, 1) := by decide +kernel
theorem dX4_setPrices_6 : decode cX4_setPrices 6 = .ok (.iload_n 2, 1) := by decide +kernel
theorem dX4_setPrices_7 : decode cX4_setPrices 7 = .ok (.putfield 31, 3) := by decide +kernel
theorem dX4_setPrices_10 : decode cX4_setPrices 10 = .ok (.aload_n 0, 1) := by decide +kernel
theorem dX4_setPrices_11 : decode cX4_setPrices 11 = .ok (.iload_n 3, 1) := by decide +kernel
theorem dX4_setPrices_12 : decode cX4_setPrices 12 = .ok (.putfield 34, 3) := by decide +kernel
theorem dX4_setPrices_15 : decode cX4_setPrices 15 = .ok (.return_, 1) := by decide +kernel
theorem dX4_clearText_0 : decode cX4_clearText 0 = .ok (.aload_n 0, 1) := by decide +kernel
theorem dX4_clearText_1 : decode cX4_clearText 1 = .ok (.iconst 0, 1) := by decide +kernel
theorem dX4_clearText_2 : decode cX4_clearText 2 = .ok (.putfield 18, 3) := by decide +kernel
theorem dX4_clearText_5 : decode cX4_clearText 5 = .ok (.aload_n 0, 1) := by decide +kernel
theorem dX4_clearText_6 : decode cX4_clearText 6 = .ok (.iconst 0, 1) := by decide +kernel
theorem dX4_clearText_7 : decode cX4_clearText 7 = .ok (.putfield 22, 3) := by decide +kernel
theorem dX4_clearText_10 : decode cX4_clearText 10 = .ok (.return_, 1) := by decide +kernel
theorem dX4_hasByte_0 : decode cX4_hasByte 0 = .ok (.iload_n 1, 1) := by decide +kernel
theorem dX4_hasByte_1 : decode cX4_hasByte 1 = .ok (.ifCond .lt 15, 3) := by decide +kernel
theorem dX4_hasByte_4 : decode cX4_hasByte 4 = .ok (.iload_n 1, 1) := by decide +kernel
theorem dX4_hasByte_5 : decode cX4_hasByte 5 = .ok (.aload_n 0, 1) := by decide +kernel
theorem dX4_hasByte_6 : decode cX4_hasByte 6 = .ok (.getfield 18, 3) := by decide +kernel
theorem dX4_hasByte_9 : decode cX4_hasByte 9 = .ok (.if_icmp .ge 7, 3) := by decide +kernel
theorem dX4_hasByte_12 : decode cX4_hasByte 12 = .ok (.iconst 1, 1) := by decide +kernel
theorem dX4_hasByte_13 : decode cX4_hasByte 13 = .ok (.goto 4, 3) := by decide +kernel
theorem dX4_hasByte_16 : decode cX4_hasByte 16 = .ok (.iconst 0, 1) := by decide +kernel
theorem dX4_hasByte_17 : decode cX4_hasByte 17 = .ok (.ireturn, 1) := by decide +kernel
theorem dX4_hasPlace_0 : decode cX4_hasPlace 0 = .ok (.iload_n 1, 1) := by decide +kernel
theorem dX4_hasPlace_1 : decode cX4_hasPlace 1 = .ok (.ifCond .lt 15, 3) := by decide +kernel
theorem dX4_hasPlace_4 : decode cX4_hasPlace 4 = .ok (.iload_n 1, 1) := by decide +kernel
theorem dX4_hasPlace_5 : decode cX4_hasPlace 5 = .ok (.aload_n 0, 1) := by decide +kernel
theorem dX4_hasPlace_6 : decode cX4_hasPlace 6 = .ok (.getfield 18, 3) := by decide +kernel
theorem dX4_hasPlace_9 : decode cX4_hasPlace 9 = .ok (.if_icmp .gt 7, 3) := by decide +kernel
theorem dX4_hasPlace_12 : decode cX4_hasPlace 12 = .ok (.iconst 1, 1) := by decide +kernel
theorem dX4_hasPlace_13 : decode cX4_hasPlace 13 = .ok (.goto 4, 3) := by decide +kernel
theorem dX4_hasPlace_16 : decode cX4_hasPlace 16 = .ok (.iconst 0, 1) := by decide +kernel
theorem dX4_hasPlace_17 : decode cX4_hasPlace 17 = .ok (.ireturn, 1) := by decide +kernel
theorem dX4_hasRange_0 : decode cX4_hasRange 0 = .ok (.iload_n 1, 1) := by decide +kernel
theorem dX4_hasRange_1 : decode cX4_hasRange 1 = .ok (.ifCond .lt 20, 3) := by decide +kernel
theorem dX4_hasRange_4 : decode cX4_hasRange 4 = .ok (.iload_n 1, 1) := by decide +kernel
theorem dX4_hasRange_5 : decode cX4_hasRange 5 = .ok (.iload_n 2, 1) := by decide +kernel
theorem dX4_hasRange_6 : decode cX4_hasRange 6 = .ok (.if_icmp .gt 15, 3) := by decide +kernel
theorem dX4_hasRange_9 : decode cX4_hasRange 9 = .ok (.iload_n 2, 1) := by decide +kernel
theorem dX4_hasRange_10 : decode cX4_hasRange 10 = .ok (.aload_n 0, 1) := by decide +kernel
theorem dX4_hasRange_11 : decode cX4_hasRange 11 = .ok (.getfield 18, 3) := by decide +kernel
theorem dX4_hasRange_14 : decode cX4_hasRange 14 = .ok (.if_icmp .gt 7, 3) := by decide +kernel
theorem dX4_hasRange_17 : decode cX4_hasRange 17 = .ok (.iconst 1, 1) := by decide +kernel
theorem dX4_hasRange_18 : decode cX4_hasRange 18 = .ok (.goto 4, 3) := by decide +kernel
theorem dX4_hasRange_21 : decode cX4_hasRange 21 = .ok (.iconst 0, 1) := by decide +kernel
theorem dX4_hasRange_22 : decode cX4_hasRange 22 = .ok (.ireturn, 1) := by decide +kernel
theorem dX4_hasRoom_0 : decode cX4_hasRoom 0 = .ok (.iload_n 1, 1) := by decide +kernel
theorem dX4_hasRoom_1 : decode cX4_hasRoom 1 = .ok (.sipush 240, 3) := by decide +kernel
theorem dX4_hasRoom_4 : decode cX4_hasRoom 4 = .ok (.aload_n 0, 1) := by decide +kernel
theorem dX4_hasRoom_5 : decode cX4_hasRoom 5 = .ok (.getfield 18, 3) := by decide +kernel
theorem dX4_hasRoom_8 : decode cX4_hasRoom 8 = .ok (.isub, 1) := by decide +kernel
theorem dX4_hasRoom_9 : decode cX4_hasRoom 9 = .ok (.if_icmp .gt 7, 3) := by decide +kernel
theorem dX4_hasRoom_12 : decode cX4_hasRoom 12 = .ok (.iconst 1, 1) := by decide +kernel
theorem dX4_hasRoom_13 : decode cX4_hasRoom 13 = .ok (.goto 4, 3) := by decide +kernel
theorem dX4_hasRoom_16 : decode cX4_hasRoom 16 = .ok (.iconst 0, 1) := by decide +kernel
theorem dX4_hasRoom_17 : decode cX4_hasRoom 17 = .ok (.ireturn, 1) := by decide +kernel
theorem dX4_byteAt_0 : decode cX4_byteAt 0 = .ok (.aload_n 0, 1) := by decide +kernel
theorem dX4_byteAt_1 : decode cX4_byteAt 1 = .ok (.iload_n 1, 1) := by decide +kernel
theorem dX4_byteAt_2 : decode cX4_byteAt 2 = .ok (.invokevirtual 47, 3) := by decide +kernel
theorem dX4_byteAt_5 : decode cX4_byteAt 5 = .ok (.ifCond .eq 12, 3) := by decide +kernel
theorem dX4_byteAt_8 : decode cX4_byteAt 8 = .ok (.aload_n 0, 1) := by decide +kernel
theorem dX4_byteAt_9 : decode cX4_byteAt 9 = .ok (.getfield 9, 3) := by decide +kernel
theorem dX4_byteAt_12 : decode cX4_byteAt 12 = .ok (.iload_n 1, 1) := by decide +kernel
theorem dX4_byteAt_13 : decode cX4_byteAt 13 = .ok (.iaload, 1) := by decide +kernel
theorem dX4_byteAt_14 : decode cX4_byteAt 14 = .ok (.goto 4, 3) := by decide +kernel
theorem dX4_byteAt_17 : decode cX4_byteAt 17 = .ok (.iconst (-1), 1) := by decide +kernel
theorem dX4_byteAt_18 : decode cX4_byteAt 18 = .ok (.ireturn, 1) := by decide +kernel
theorem dX4_setByte_0 : decode cX4_setByte 0 = .ok (.aload_n 0, 1) := by decide +kernel
theorem dX4_setByte_1 : decode cX4_setByte 1 = .ok (.iload_n 1, 1) := by decide +kernel
theorem dX4_setByte_2 : decode cX4_setByte 2 = .ok (.invokevirtual 47, 3) := by decide +kernel
theorem dX4_setByte_5 : decode cX4_setByte 5 = .ok (.ifCond .eq 10, 3) := by decide +kernel
theorem dX4_setByte_8 : decode cX4_setByte 8 = .ok (.aload_n 0, 1) := by decide +kernel
theorem dX4_setByte_9 : decode cX4_setByte 9 = .ok (.getfield 9, 3) := by decide +kernel
theorem dX4_setByte_12 : decode cX4_setByte 12 = .ok (.iload_n 1, 1) := by decide +kernel
theorem dX4_setByte_13 : decode cX4_setByte 13 = .ok (.iload_n 2, 1) := by decide +kernel
theorem dX4_setByte_14 : decode cX4_setByte 14 = .ok (.iastore, 1) := by decide +kernel
theorem dX4_setByte_15 : decode cX4_setByte 15 = .ok (.return_, 1) := by decide +kernel
theorem dX4_lineOf_0 : decode cX4_lineOf 0 = .ok (.iconst 0, 1) := by decide +kernel
theorem dX4_lineOf_1 : decode cX4_lineOf 1 = .ok (.istore_n 2, 1) := by decide +kernel
theorem dX4_lineOf_2 : decode cX4_lineOf 2 = .ok (.iconst 0, 1) := by decide +kernel
theorem dX4_lineOf_3 : decode cX4_lineOf 3 = .ok (.istore_n 3, 1) := by decide +kernel
theorem dX4_lineOf_4 : decode cX4_lineOf 4 = .ok (.iload_n 3, 1) := by decide +kernel
theorem dX4_lineOf_5 : decode cX4_lineOf 5 = .ok (.iload_n 1, 1) := by decide +kernel
theorem dX4_lineOf_6 : decode cX4_lineOf 6 = .ok (.if_icmp .ge 31, 3) := by decide +kernel
theorem dX4_lineOf_9 : decode cX4_lineOf 9 = .ok (.iload_n 3, 1) := by decide +kernel
theorem dX4_lineOf_10 : decode cX4_lineOf 10 = .ok (.aload_n 0, 1) := by decide +kernel
theorem dX4_lineOf_11 : decode cX4_lineOf 11 = .ok (.getfield 18, 3) := by decide +kernel
theorem dX4_lineOf_14 : decode cX4_lineOf 14 = .ok (.if_icmp .ge 23, 3) := by decide +kernel
theorem dX4_lineOf_17 : decode cX4_lineOf 17 = .ok (.aload_n 0, 1) := by decide +kernel
theorem dX4_lineOf_18 : decode cX4_lineOf 18 = .ok (.getfield 9, 3) := by decide +kernel
theorem dX4_lineOf_21 : decode cX4_lineOf 21 = .ok (.iload_n 3, 1) := by decide +kernel
theorem dX4_lineOf_22 : decode cX4_lineOf 22 = .ok (.iaload, 1) := by decide +kernel
theorem dX4_lineOf_23 : decode cX4_lineOf 23 = .ok (.bipush 10, 2) := by decide +kernel
theorem dX4_lineOf_25 : decode cX4_lineOf 25 = .ok (.if_icmp .ne 6, 3) := by decide +kernel
theorem dX4_lineOf_28 : decode cX4_lineOf 28 = .ok (.iinc 2 1, 3) := by decide +kernel
theorem dX4_lineOf_31 : decode cX4_lineOf 31 = .ok (.iinc 3 1, 3) := by decide +kernel
theorem dX4_lineOf_34 : decode cX4_lineOf 34 = .ok (.goto (-30), 3) := by decide +kernel
theorem dX4_lineOf_37 : decode cX4_lineOf 37 = .ok (.iload_n 2, 1) := by decide +kernel
theorem dX4_lineOf_38 : decode cX4_lineOf 38 = .ok (.ireturn, 1) := by decide +kernel
theorem dX4_columnOf_0 : decode cX4_columnOf 0 = .ok (.iconst 0, 1) := by decide +kernel
theorem dX4_columnOf_1 : decode cX4_columnOf 1 = .ok (.istore_n 2, 1) := by decide +kernel
theorem dX4_columnOf_2 : decode cX4_columnOf 2 = .ok (.iload_n 2, 1) := by decide +kernel
theorem dX4_columnOf_3 : decode cX4_columnOf 3 = .ok (.iload_n 1, 1) := by decide +kernel
theorem dX4_columnOf_4 : decode cX4_columnOf 4 = .ok (.if_icmp .ge 23, 3) := by decide +kernel
theorem dX4_columnOf_7 : decode cX4_columnOf 7 = .ok (.aload_n 0, 1) := by decide +kernel
theorem dX4_columnOf_8 : decode cX4_columnOf 8 = .ok (.iload_n 1, 1) := by decide +kernel
theorem dX4_columnOf_9 : decode cX4_columnOf 9 = .ok (.iload_n 2, 1) := by decide +kernel
theorem dX4_columnOf_10 : decode cX4_columnOf 10 = .ok (.isub, 1) := by decide +kernel
theorem dX4_columnOf_11 : decode cX4_columnOf 11 = .ok (.iconst 1, 1) := by decide +kernel
theorem dX4_columnOf_12 : decode cX4_columnOf 12 = .ok (.isub, 1) := by decide +kernel
theorem dX4_columnOf_13 : decode cX4_columnOf 13 = .ok (.invokevirtual 51, 3) := by decide +kernel
theorem dX4_columnOf_16 : decode cX4_columnOf 16 = .ok (.bipush 10, 2) := by decide +kernel
theorem dX4_columnOf_18 : decode cX4_columnOf 18 = .ok (.if_icmp .eq 9, 3) := by decide +kernel
theorem dX4_columnOf_21 : decode cX4_columnOf 21 = .ok (.iinc 2 1, 3) := by decide +kernel
theorem dX4_columnOf_24 : decode cX4_columnOf 24 = .ok (.goto (-22), 3) := by decide +kernel
theorem dX4_columnOf_27 : decode cX4_columnOf 27 = .ok (.iload_n 2, 1) := by decide +kernel
theorem dX4_columnOf_28 : decode cX4_columnOf 28 = .ok (.ireturn, 1) := by decide +kernel
theorem dX4_putByte_0 : decode cX4_putByte 0 = .ok (.aload_n 0, 1) := by decide +kernel
theorem dX4_putByte_1 : decode cX4_putByte 1 = .ok (.iload_n 1, 1) := by decide +kernel
theorem dX4_putByte_2 : decode cX4_putByte 2 = .ok (.iconst 1, 1) := by decide +kernel
theorem dX4_putByte_3 : decode cX4_putByte 3 = .ok (.invokevirtual 55, 3) := by decide +kernel
theorem dX4_putByte_6 : decode cX4_putByte 6 = .ok (.aload_n 0, 1) := by decide +kernel
theorem dX4_putByte_7 : decode cX4_putByte 7 = .ok (.iload_n 1, 1) := by decide +kernel
theorem dX4_putByte_8 : decode cX4_putByte 8 = .ok (.iload_n 2, 1) := by decide +kernel
theorem dX4_putByte_9 : decode cX4_putByte 9 = .ok (.invokevirtual 59, 3) := by decide +kernel
theorem dX4_putByte_12 : decode cX4_putByte 12 = .ok (.return_, 1) := by decide +kernel
theorem dX4_putIn_0 : decode cX4_putIn 0 = .ok (.aload_n 0, 1) := by decide +kernel
theorem dX4_putIn_1 : decode cX4_putIn 1 = .ok (.iload_n 1, 1) := by decide +kernel
theorem dX4_putIn_2 : decode cX4_putIn 2 = .ok (.iload_n 3, 1) := by decide +kernel
theorem dX4_putIn_3 : decode cX4_putIn 3 = .ok (.invokevirtual 55, 3) := by decide +kernel
theorem dX4_putIn_6 : decode cX4_putIn 6 = .ok (.iconst 0, 1) := by decide +kernel
theorem dX4_putIn_7 : decode cX4_putIn 7 = .ok (.istore 4, 2) := by decide +kernel
theorem dX4_putIn_9 : decode cX4_putIn 9 = .ok (.iload 4, 2) := by decide +kernel
theorem dX4_putIn_11 : decode cX4_putIn 11 = .ok (.iload_n 3, 1) := by decide +kernel
theorem dX4_putIn_12 : decode cX4_putIn 12 = .ok (.if_icmp .ge 23, 3) := by decide +kernel
theorem dX4_putIn_15 : decode cX4_putIn 15 = .ok (.aload_n 0, 1) := by decide +kernel
theorem dX4_putIn_16 : decode cX4_putIn 16 = .ok (.iload_n 1, 1) := by decide +kernel
theorem dX4_putIn_17 : decode cX4_putIn 17 = .ok (.iload 4, 2) := by decide +kernel
theorem dX4_putIn_19 : decode cX4_putIn 19 = .ok (.iadd, 1) := by decide +kernel
theorem dX4_putIn_20 : decode cX4_putIn 20 = .ok (.aload_n 2, 1) := by decide +kernel
theorem dX4_putIn_21 : decode cX4_putIn 21 = .ok (.iload 4, 2) := by decide +kernel
theorem dX4_putIn_23 : decode cX4_putIn 23 = .ok (.invokevirtual 62, 3) := by decide +kernel
theorem dX4_putIn_26 : decode cX4_putIn 26 = .ok (.invokevirtual 59, 3) := by decide +kernel
theorem dX4_putIn_29 : decode cX4_putIn 29 = .ok (.iinc 4 1, 3) := by decide +kernel
theorem dX4_putIn_32 : decode cX4_putIn 32 = .ok (.goto (-23), 3) := by decide +kernel
theorem dX4_putIn_35 : decode cX4_putIn 35 = .ok (.return_, 1) := by decide +kernel
theorem dX4_makeRoom_0 : decode cX4_makeRoom 0 = .ok (.aload_n 0, 1) := by decide +kernel
theorem dX4_makeRoom_1 : decode cX4_makeRoom 1 = .ok (.iload_n 1, 1) := by decide +kernel
theorem dX4_makeRoom_2 : decode cX4_makeRoom 2 = .ok (.invokevirtual 65, 3) := by decide +kernel
theorem dX4_makeRoom_5 : decode cX4_makeRoom 5 = .ok (.ifCond .eq 15, 3) := by decide +kernel
theorem dX4_makeRoom_8 : decode cX4_makeRoom 8 = .ok (.iload_n 2, 1) := by decide +kernel
theorem dX4_makeRoom_9 : decode cX4_makeRoom 9 = .ok (.ifCond .lt 11, 3) := by decide +kernel
theorem dX4_makeRoom_12 : decode cX4_makeRoom 12 = .ok (.aload_n 0, 1) := by decide +kernel
theorem dX4_makeRoom_13 : decode cX4_makeRoom 13 = .ok (.iload_n 2, 1) := by decide +kernel
theorem dX4_makeRoom_14 : decode cX4_makeRoom 14 = .ok (.invokevirtual 68, 3) := by decide +kernel
theorem dX4_makeRoom_17 : decode cX4_makeRoom 17 = .ok (.ifCond .ne 4, 3) := by decide +kernel
theorem dX4_makeRoom_20 : decode cX4_makeRoom 20 = .ok (.return_, 1) := by decide +kernel
theorem dX4_makeRoom_21 : decode cX4_makeRoom 21 = .ok (.aload_n 0, 1) := by decide +kernel
theorem dX4_makeRoom_22 : decode cX4_makeRoom 22 = .ok (.getfield 9, 3) := by decide +kernel
theorem dX4_makeRoom_25 : decode cX4_makeRoom 25 = .ok (.iload_n 1, 1) := by decide +kernel
theorem dX4_makeRoom_26 : decode cX4_makeRoom 26 = .ok (.aload_n 0, 1) := by decide +kernel
theorem dX4_makeRoom_27 : decode cX4_makeRoom 27 = .ok (.getfield 9, 3) := by decide +kernel
theorem dX4_makeRoom_30 : decode cX4_makeRoom 30 = .ok (.iload_n 1, 1) := by decide +kernel
theorem dX4_makeRoom_31 : decode cX4_makeRoom 31 = .ok (.iload_n 2, 1) := by decide +kernel
theorem dX4_makeRoom_32 : decode cX4_makeRoom 32 = .ok (.iadd, 1) := by decide +kernel
theorem dX4_makeRoom_33 : decode cX4_makeRoom 33 = .ok (.aload_n 0, 1) := by decide +kernel
theorem dX4_makeRoom_34 : decode cX4_makeRoom 34 = .ok (.getfield 18, 3) := by decide +kernel
theorem dX4_makeRoom_37 : decode cX4_makeRoom 37 = .ok (.iload_n 1, 1) := by decide +kernel
theorem dX4_makeRoom_38 : decode cX4_makeRoom 38 = .ok (.isub, 1) := by decide +kernel
theorem dX4_makeRoom_39 : decode cX4_makeRoom 39 = .ok (.invokestatic 37, 3) := by decide +kernel
theorem dX4_makeRoom_42 : decode cX4_makeRoom 42 = .ok (.aload_n 0, 1) := by decide +kernel
theorem dX4_makeRoom_43 : decode cX4_makeRoom 43 = .ok (.dup, 1) := by decide +kernel
theorem dX4_makeRoom_44 : decode cX4_makeRoom 44 = .ok (.getfield 18, 3) := by decide +kernel
theorem dX4_makeRoom_47 : decode cX4_makeRoom 47 = .ok (.iload_n 2, 1) := by decide +kernel
theorem dX4_makeRoom_48 : decode cX4_makeRoom 48 = .ok (.iadd, 1) := by decide +kernel
theorem dX4_makeRoom_49 : decode cX4_makeRoom 49 = .ok (.putfield 18, 3) := by decide +kernel
theorem dX4_makeRoom_52 : decode cX4_makeRoom 52 = .ok (.iconst 0, 1) := by decide +kernel
theorem dX4_makeRoom_53 : decode cX4_makeRoom 53 = .ok (.istore_n 3, 1) := by decide +kernel
theorem dX4_makeRoom_54 : decode cX4_makeRoom 54 = .ok (.iload_n 3, 1) := by decide +kernel
theorem dX4_makeRoom_55 : decode cX4_makeRoom 55 = .ok (.aload_n 0, 1) := by decide +kernel
theorem dX4_makeRoom_56 : decode cX4_makeRoom 56 = .ok (.getfield 22, 3) := by decide +kernel
theorem dX4_makeRoom_59 : decode cX4_makeRoom 59 = .ok (.if_icmp .ge 29, 3) := by decide +kernel
theorem dX4_makeRoom_62 : decode cX4_makeRoom 62 = .ok (.aload_n 0, 1) := by decide +kernel
theorem dX4_makeRoom_63 : decode cX4_makeRoom 63 = .ok (.getfield 15, 3) := by decide +kernel
theorem dX4_makeRoom_66 : decode cX4_makeRoom 66 = .ok (.iload_n 3, 1) := by decide +kernel
theorem dX4_makeRoom_67 : decode cX4_makeRoom 67 = .ok (.iaload, 1) := by decide +kernel
theorem dX4_makeRoom_68 : decode cX4_makeRoom 68 = .ok (.iload_n 1, 1) := by decide +kernel
theorem dX4_makeRoom_69 : decode cX4_makeRoom 69 = .ok (.if_icmp .lt 13, 3) := by decide +kernel
theorem dX4_makeRoom_72 : decode cX4_makeRoom 72 = .ok (.aload_n 0, 1) := by decide +kernel
theorem dX4_makeRoom_73 : decode cX4_makeRoom 73 = .ok (.getfield 15, 3) := by decide +kernel
theorem dX4_makeRoom_76 : decode cX4_makeRoom 76 = .ok (.iload_n 3, 1) := by decide +kernel
theorem dX4_makeRoom_77 : decode cX4_makeRoom 77 = .ok (.dup2, 1) := by decide +kernel
theorem dX4_makeRoom_78 : decode cX4_makeRoom 78 = .ok (.iaload, 1) := by decide +kernel
theorem dX4_makeRoom_79 : decode cX4_makeRoom 79 = .ok (.iload_n 2, 1) := by decide +kernel
theorem dX4_makeRoom_80 : decode cX4_makeRoom 80 = .ok (.iadd, 1) := by decide +kernel
theorem dX4_makeRoom_81 : decode cX4_makeRoom 81 = .ok (.iastore, 1) := by decide +kernel
theorem dX4_makeRoom_82 : decode cX4_makeRoom 82 = .ok (.iinc 3 1, 3) := by decide +kernel
theorem dX4_makeRoom_85 : decode cX4_makeRoom 85 = .ok (.goto (-31), 3) := by decide +kernel
theorem dX4_makeRoom_88 : decode cX4_makeRoom 88 = .ok (.return_, 1) := by decide +kernel
theorem dX4_takeOut_0 : decode cX4_takeOut 0 = .ok (.aload_n 0, 1) := by decide +kernel
theorem dX4_takeOut_1 : decode cX4_takeOut 1 = .ok (.iload_n 1, 1) := by decide +kernel
theorem dX4_takeOut_2 : decode cX4_takeOut 2 = .ok (.iload_n 2, 1) := by decide +kernel
theorem dX4_takeOut_3 : decode cX4_takeOut 3 = .ok (.invokevirtual 71, 3) := by decide +kernel
theorem dX4_takeOut_6 : decode cX4_takeOut 6 = .ok (.ifCond .ne 4, 3) := by decide +kernel
theorem dX4_takeOut_9 : decode cX4_takeOut 9 = .ok (.return_, 1) := by decide +kernel
theorem dX4_takeOut_10 : decode cX4_takeOut 10 = .ok (.aload_n 0, 1) := by decide +kernel
theorem dX4_takeOut_11 : decode cX4_takeOut 11 = .ok (.getfield 9, 3) := by decide +kernel
theorem dX4_takeOut_14 : decode cX4_takeOut 14 = .ok (.iload_n 2, 1) := by decide +kernel
theorem dX4_takeOut_15 : decode cX4_takeOut 15 = .ok (.aload_n 0, 1) := by decide +kernel
theorem dX4_takeOut_16 : decode cX4_takeOut 16 = .ok (.getfield 9, 3) := by decide +kernel
theorem dX4_takeOut_19 : decode cX4_takeOut 19 = .ok (.iload_n 1, 1) := by decide +kernel
theorem dX4_takeOut_20 : decode cX4_takeOut 20 = .ok (.aload_n 0, 1) := by decide +kernel
theorem dX4_takeOut_21 : decode cX4_takeOut 21 = .ok (.getfield 18, 3) := by decide +kernel
theorem dX4_takeOut_24 : decode cX4_takeOut 24 = .ok (.iload_n 2, 1) := by decide +kernel
theorem dX4_takeOut_25 : decode cX4_takeOut 25 = .ok (.isub, 1) := by decide +kernel
theorem dX4_takeOut_26 : decode cX4_takeOut 26 = .ok (.invokestatic 37, 3) := by decide +kernel
theorem dX4_takeOut_29 : decode cX4_takeOut 29 = .ok (.aload_n 0, 1) := by decide +kernel
theorem dX4_takeOut_30 : decode cX4_takeOut 30 = .ok (.dup, 1) := by decide +kernel
theorem dX4_takeOut_31 : decode cX4_takeOut 31 = .ok (.getfield 18, 3) := by decide +kernel
theorem dX4_takeOut_34 : decode cX4_takeOut 34 = .ok (.iload_n 2, 1) := by decide +kernel
theorem dX4_takeOut_35 : decode cX4_takeOut 35 = .ok (.iload_n 1, 1) := by decide +kernel
theorem dX4_takeOut_36 : decode cX4_takeOut 36 = .ok (.isub, 1) := by decide +kernel
theorem dX4_takeOut_37 : decode cX4_takeOut 37 = .ok (.isub, 1) := by decide +kernel
theorem dX4_takeOut_38 : decode cX4_takeOut 38 = .ok (.putfield 18, 3) := by decide +kernel
theorem dX4_takeOut_41 : decode cX4_takeOut 41 = .ok (.iconst 0, 1) := by decide +kernel
theorem dX4_takeOut_42 : decode cX4_takeOut 42 = .ok (.istore_n 3, 1) := by decide +kernel
theorem dX4_takeOut_43 : decode cX4_takeOut 43 = .ok (.iload_n 3, 1) := by decide +kernel
theorem dX4_takeOut_44 : decode cX4_takeOut 44 = .ok (.aload_n 0, 1) := by decide +kernel
theorem dX4_takeOut_45 : decode cX4_takeOut 45 = .ok (.getfield 22, 3) := by decide +kernel
theorem dX4_takeOut_48 : decode cX4_takeOut 48 = .ok (.if_icmp .ge 51, 3) := by decide +kernel
theorem dX4_takeOut_51 : decode cX4_takeOut 51 = .ok (.aload_n 0, 1) := by decide +kernel
theorem dX4_takeOut_52 : decode cX4_takeOut 52 = .ok (.getfield 15, 3) := by decide +kernel
theorem dX4_takeOut_55 : decode cX4_takeOut 55 = .ok (.iload_n 3, 1) := by decide +kernel
theorem dX4_takeOut_56 : decode cX4_takeOut 56 = .ok (.iaload, 1) := by decide +kernel
theorem dX4_takeOut_57 : decode cX4_takeOut 57 = .ok (.iload_n 2, 1) := by decide +kernel
theorem dX4_takeOut_58 : decode cX4_takeOut 58 = .ok (.if_icmp .le 18, 3) := by decide +kernel
theorem dX4_takeOut_61 : decode cX4_takeOut 61 = .ok (.aload_n 0, 1) := by decide +kernel
theorem dX4_takeOut_62 : decode cX4_takeOut 62 = .ok (.getfield 15, 3) := by decide +kernel
theorem dX4_takeOut_65 : decode cX4_takeOut 65 = .ok (.iload_n 3, 1) := by decide +kernel
theorem dX4_takeOut_66 : decode cX4_takeOut 66 = .ok (.dup2, 1) := by decide +kernel
theorem dX4_takeOut_67 : decode cX4_takeOut 67 = .ok (.iaload, 1) := by decide +kernel
theorem dX4_takeOut_68 : decode cX4_takeOut 68 = .ok (.iload_n 2, 1) := by decide +kernel
theorem dX4_takeOut_69 : decode cX4_takeOut 69 = .ok (.iload_n 1, 1) := by decide +kernel
theorem dX4_takeOut_70 : decode cX4_takeOut 70 = .ok (.isub, 1) := by decide +kernel
theorem dX4_takeOut_71 : decode cX4_takeOut 71 = .ok (.isub, 1) := by decide +kernel
theorem dX4_takeOut_72 : decode cX4_takeOut 72 = .ok (.iastore, 1) := by decide +kernel
theorem dX4_takeOut_73 : decode cX4_takeOut 73 = .ok (.goto 20, 3) := by decide +kernel
theorem dX4_takeOut_76 : decode cX4_takeOut 76 = .ok (.aload_n 0, 1) := by decide +kernel
theorem dX4_takeOut_77 : decode cX4_takeOut 77 = .ok (.getfield 15, 3) := by decide +kernel
theorem dX4_takeOut_80 : decode cX4_takeOut 80 = .ok (.iload_n 3, 1) := by decide +kernel
theorem dX4_takeOut_81 : decode cX4_takeOut 81 = .ok (.iaload, 1) := by decide +kernel
theorem dX4_takeOut_82 : decode cX4_takeOut 82 = .ok (.iload_n 1, 1) := by decide +kernel
theorem dX4_takeOut_83 : decode cX4_takeOut 83 = .ok (.if_icmp .le 10, 3) := by decide +kernel
theorem dX4_takeOut_86 : decode cX4_takeOut 86 = .ok (.aload_n 0, 1) := by decide +kernel
theorem dX4_takeOut_87 : decode cX4_takeOut 87 = .ok (.getfield 15, 3) := by decide +kernel
theorem dX4_takeOut_90 : decode cX4_takeOut 90 = .ok (.iload_n 3, 1) := by decide +kernel
theorem dX4_takeOut_91 : decode cX4_takeOut 91 = .ok (.iload_n 1, 1) := by decide +kernel
theorem dX4_takeOut_92 : decode cX4_takeOut 92 = .ok (.iastore, 1) := by decide +kernel
theorem dX4_takeOut_93 : decode cX4_takeOut 93 = .ok (.iinc 3 1, 3) := by decide +kernel
theorem dX4_takeOut_96 : decode cX4_takeOut 96 = .ok (.goto (-53), 3) := by decide +kernel
theorem dX4_takeOut_99 : decode cX4_takeOut 99 = .ok (.return_, 1) := by decide +kernel
theorem dX4_placeOfMark_0 : decode cX4_placeOfMark 0 = .ok (.iload_n 1, 1) := by decide +kernel
theorem dX4_placeOfMark_1 : decode cX4_placeOfMark 1 = .ok (.ifCond .lt 20, 3) := by decide +kernel
theorem dX4_placeOfMark_4 : decode cX4_placeOfMark 4 = .ok (.iload_n 1, 1) := by decide +kernel
theorem dX4_placeOfMark_5 : decode cX4_placeOfMark 5 = .ok (.aload_n 0, 1) := by decide +kernel
theorem dX4_placeOfMark_6 : decode cX4_placeOfMark 6 = .ok (.getfield 22, 3) := by decide +kernel
theorem dX4_placeOfMark_9 : decode cX4_placeOfMark 9 = .ok (.if_icmp .ge 12, 3) := by decide +kernel
theorem dX4_placeOfMark_12 : decode cX4_placeOfMark 12 = .ok (.aload_n 0, 1) := by decide +kernel
theorem dX4_placeOfMark_13 : decode cX4_placeOfMark 13 = .ok (.getfield 15, 3) := by decide +kernel
theorem dX4_placeOfMark_16 : decode cX4_placeOfMark 16 = .ok (.iload_n 1, 1) := by decide +kernel
theorem dX4_placeOfMark_17 : decode cX4_placeOfMark 17 = .ok (.iaload, 1) := by decide +kernel
theorem dX4_placeOfMark_18 : decode cX4_placeOfMark 18 = .ok (.goto 4, 3) := by decide +kernel
theorem dX4_placeOfMark_21 : decode cX4_placeOfMark 21 = .ok (.iconst (-1), 1) := by decide +kernel
theorem dX4_placeOfMark_22 : decode cX4_placeOfMark 22 = .ok (.ireturn, 1) := by decide +kernel
theorem dX4_addMark_0 : decode cX4_addMark 0 = .ok (.aload_n 0, 1) := by decide +kernel
theorem dX4_addMark_1 : decode cX4_addMark 1 = .ok (.getfield 22, 3) := by decide +kernel
theorem dX4_addMark_4 : decode cX4_addMark 4 = .ok (.bipush 8, 2) := by decide +kernel
theorem dX4_addMark_6 : decode cX4_addMark 6 = .ok (.if_icmp .ge 23, 3) := by decide +kernel
theorem dX4_addMark_9 : decode cX4_addMark 9 = .ok (.aload_n 0, 1) := by decide +kernel
theorem dX4_addMark_10 : decode cX4_addMark 10 = .ok (.getfield 15, 3) := by decide +kernel
theorem dX4_addMark_13 : decode cX4_addMark 13 = .ok (.aload_n 0, 1) := by decide +kernel
theorem dX4_addMark_14 : decode cX4_addMark 14 = .ok (.getfield 22, 3) := by decide +kernel
theorem dX4_addMark_17 : decode cX4_addMark 17 = .ok (.iload_n 1, 1) := by decide +kernel
theorem dX4_addMark_18 : decode cX4_addMark 18 = .ok (.iastore, 1) := by decide +kernel
theorem dX4_addMark_19 : decode cX4_addMark 19 = .ok (.aload_n 0, 1) := by decide +kernel
theorem dX4_addMark_20 : decode cX4_addMark 20 = .ok (.dup, 1) := by decide +kernel
theorem dX4_addMark_21 : decode cX4_addMark 21 = .ok (.getfield 22, 3) := by decide +kernel
theorem dX4_addMark_24 : decode cX4_addMark 24 = .ok (.iconst 1, 1) := by decide +kernel
theorem dX4_addMark_25 : decode cX4_addMark 25 = .ok (.iadd, 1) := by decide +kernel
theorem dX4_addMark_26 : decode cX4_addMark 26 = .ok (.putfield 22, 3) := by decide +kernel
theorem dX4_addMark_29 : decode cX4_addMark 29 = .ok (.return_, 1) := by decide +kernel
theorem dX4_removeMark_0 : decode cX4_removeMark 0 = .ok (.iload_n 1, 1) := by decide +kernel
theorem dX4_removeMark_1 : decode cX4_removeMark 1 = .ok (.ifCond .lt 11, 3) := by decide +kernel
theorem dX4_removeMark_4 : decode cX4_removeMark 4 = .ok (.iload_n 1, 1) := by decide +kernel
theorem dX4_removeMark_5 : decode cX4_removeMark 5 = .ok (.aload_n 0, 1) := by decide +kernel
theorem dX4_removeMark_6 : decode cX4_removeMark 6 = .ok (.getfield 22, 3) := by decide +kernel
theorem dX4_removeMark_9 : decode cX4_removeMark 9 = .ok (.if_icmp .lt 4, 3) := by decide +kernel
theorem dX4_removeMark_12 : decode cX4_removeMark 12 = .ok (.return_, 1) := by decide +kernel
theorem dX4_removeMark_13 : decode cX4_removeMark 13 = .ok (.aload_n 0, 1) := by decide +kernel
theorem dX4_removeMark_14 : decode cX4_removeMark 14 = .ok (.getfield 15, 3) := by decide +kernel
theorem dX4_removeMark_17 : decode cX4_removeMark 17 = .ok (.iload_n 1, 1) := by decide +kernel
theorem dX4_removeMark_18 : decode cX4_removeMark 18 = .ok (.iconst 1, 1) := by decide +kernel
theorem dX4_removeMark_19 : decode cX4_removeMark 19 = .ok (.iadd, 1) := by decide +kernel
theorem dX4_removeMark_20 : decode cX4_removeMark 20 = .ok (.aload_n 0, 1) := by decide +kernel
theorem dX4_removeMark_21 : decode cX4_removeMark 21 = .ok (.getfield 15, 3) := by decide +kernel
theorem dX4_removeMark_24 : decode cX4_removeMark 24 = .ok (.iload_n 1, 1) := by decide +kernel
theorem dX4_removeMark_25 : decode cX4_removeMark 25 = .ok (.aload_n 0, 1) := by decide +kernel
theorem dX4_removeMark_26 : decode cX4_removeMark 26 = .ok (.getfield 22, 3) := by decide +kernel
theorem dX4_removeMark_29 : decode cX4_removeMark 29 = .ok (.iload_n 1, 1) := by decide +kernel
theorem dX4_removeMark_30 : decode cX4_removeMark 30 = .ok (.isub, 1) := by decide +kernel
theorem dX4_removeMark_31 : decode cX4_removeMark 31 = .ok (.iconst 1, 1) := by decide +kernel
theorem dX4_removeMark_32 : decode cX4_removeMark 32 = .ok (.isub, 1) := by decide +kernel
theorem dX4_removeMark_33 : decode cX4_removeMark 33 = .ok (.invokestatic 37, 3) := by decide +kernel
theorem dX4_removeMark_36 : decode cX4_removeMark 36 = .ok (.aload_n 0, 1) := by decide +kernel
theorem dX4_removeMark_37 : decode cX4_removeMark 37 = .ok (.dup, 1) := by decide +kernel
theorem dX4_removeMark_38 : decode cX4_removeMark 38 = .ok (.getfield 22, 3) := by decide +kernel
theorem dX4_removeMark_41 : decode cX4_removeMark 41 = .ok (.iconst 1, 1) := by decide +kernel
theorem dX4_removeMark_42 : decode cX4_removeMark 42 = .ok (.isub, 1) := by decide +kernel
theorem dX4_removeMark_43 : decode cX4_removeMark 43 = .ok (.putfield 22, 3) := by decide +kernel
theorem dX4_removeMark_46 : decode cX4_removeMark 46 = .ok (.return_, 1) := by decide +kernel
theorem dX5_init_0 : decode cX5_init 0 = .ok (.aload_n 0, 1) := by decide +kernel
theorem dX5_init_1 : decode cX5_init 1 = .ok (.invokespecial 3, 3) := by decide +kernel
theorem dX5_init_4 : decode cX5_init 4 = .ok (.aload_n 0, 1) := by decide +kernel
theorem dX5_init_5 : decode cX5_init 5 = .ok (.sipush 240, 3) := by decide +kernel
theorem dX5_init_8 : decode cX5_init 8 = .ok (.newarray .int, 2) := by decide +kernel
theorem dX5_init_10 : decode cX5_init 10 = .ok (.putfield 9, 3) := by decide +kernel
theorem dX5_init_13 : decode cX5_init 13 = .ok (.aload_n 0, 1) := by decide +kernel
theorem dX5_init_14 : decode cX5_init 14 = .ok (.sipush 240, 3) := by decide +kernel
theorem dX5_init_17 : decode cX5_init 17 = .ok (.newarray .int, 2) := by decide +kernel
theorem dX5_init_19 : decode cX5_init 19 = .ok (.putfield 15, 3) := by decide +kernel
theorem dX5_init_22 : decode cX5_init 22 = .ok (.aload_n 0, 1) := by decide +kernel
theorem dX5_init_23 : decode cX5_init 23 = .ok (.sipush 240, 3) := by decide +kernel
theorem dX5_init_26 : decode cX5_init 26 = .ok (.newarray .int, 2) := by decide +kernel
theorem dX5_init_28 : decode cX5_init 28 = .ok (.putfield 18, 3) := by decide +kernel
theorem dX5_init_31 : decode cX5_init 31 = .ok (.aload_n 0, 1) := by decide +kernel
theorem dX5_init_32 : decode cX5_init 32 = .ok (.sipush 240, 3) := by decide +kernel
theorem dX5_init_35 : decode cX5_init 35 = .ok (.newarray .int, 2) := by decide +kernel
theorem dX5_init_37 : decode cX5_init 37 = .ok (.putfield 21, 3) := by decide +kernel
theorem dX5_init_40 : decode cX5_init 40 = .ok (.aload_n 0, 1) := by decide +kernel
theorem dX5_init_41 : decode cX5_init 41 = .ok (.sipush 240, 3) := by decide +kernel
theorem dX5_init_44 : decode cX5_init 44 = .ok (.newarray .int, 2) := by decide +kernel
theorem dX5_init_46 : decode cX5_init 46 = .ok (.putfield 24, 3) := by decide +kernel
theorem dX5_init_49 : decode cX5_init 49 = .ok (.aload_n 0, 1) := by decide +kernel
theorem dX5_init_50 : decode cX5_init 50 = .ok (.iconst 0, 1) := by decide +kernel
theorem dX5_init_51 : decode cX5_init 51 = .ok (.putfield 27, 3) := by decide +kernel
theorem dX5_init_54 : decode cX5_init 54 = .ok (.aload_n 0, 1) := by decide +kernel
theorem dX5_init_55 : decode cX5_init 55 = .ok (.iconst 0, 1) := by decide +kernel
theorem dX5_init_56 : decode cX5_init 56 = .ok (.putfield 31, 3) := by decide +kernel
theorem dX5_init_59 : decode cX5_init 59 = .ok (.aload_n 0, 1) := by decide +kernel
theorem dX5_init_60 : decode cX5_init 60 = .ok (.iconst 0, 1) := by decide +kernel
theorem dX5_init_61 : decode cX5_init 61 = .ok (.putfield 34, 3) := by decide +kernel
theorem dX5_init_64 : decode cX5_init 64 = .ok (.aload_n 0, 1) := by decide +kernel
theorem dX5_init_65 : decode cX5_init 65 = .ok (.iconst 0, 1) := by decide +kernel
theorem dX5_init_66 : decode cX5_init 66 = .ok (.putfield 37, 3) := by decide +kernel
theorem dX5_init_69 : decode cX5_init 69 = .ok (.aload_n 0, 1) := by decide +kernel
theorem dX5_init_70 : decode cX5_init 70 = .ok (.iconst (-1), 1) := by decide +kernel
theorem dX5_init_71 : decode cX5_init 71 = .ok (.putfield 40, 3) := by decide +kernel
theorem dX5_init_74 : decode cX5_init 74 = .ok (.aload_n 0, 1) := by decide +kernel
theorem dX5_init_75 : decode cX5_init 75 = .ok (.iconst 0, 1) := by decide +kernel
theorem dX5_init_76 : decode cX5_init 76 = .ok (.putfield 43, 3) := by decide +kernel
theorem dX5_init_79 : decode cX5_init 79 = .ok (.aload_n 0, 1) := by decide +kernel
theorem dX5_init_80 : decode cX5_init 80 = .ok (.iconst 0, 1) := by decide +kernel
theorem dX5_init_81 : decode cX5_init 81 = .ok (.putfield 46, 3) := by decide +kernel
theorem dX5_init_84 : decode cX5_init 84 = .ok (.return_, 1) := by decide +kernel
theorem dX5_read_0 : decode cX5_read 0 = .ok (.aload_n 0, 1) := by decide +kernel
theorem dX5_read_1 : decode cX5_read 1 = .ok (.aload_n 1, 1) := by decide +kernel
theorem dX5_read_2 : decode cX5_read 2 = .ok (.getfield 50, 3) := by decide +kernel
theorem dX5_read_5 : decode cX5_read 5 = .ok (.sipush 240, 3) := by decide +kernel
theorem dX5_read_8 : decode cX5_read 8 = .ok (.invokestatic 53, 3) := by decide +kernel
theorem dX5_read_11 : decode cX5_read 11 = .ok (.putfield 27, 3) := by decide +kernel
theorem dX5_read_14 : decode cX5_read 14 = .ok (.aload_n 0, 1) := by decide +kernel
theorem dX5_read_15 : decode cX5_read 15 = .ok (.iconst 0, 1) := by decide +kernel
theorem dX5_read_16 : decode cX5_read 16 = .ok (.putfield 31, 3) := by decide +kernel
theorem dX5_read_19 : decode cX5_read 19 = .ok (.aload_n 0, 1) := by decide +kernel
theorem dX5_read_20 : decode cX5_read 20 = .ok (.iconst 0, 1) := by decide +kernel
theorem dX5_read_21 : decode cX5_read 21 = .ok (.putfield 37, 3) := by decide +kernel
theorem dX5_read_24 : decode cX5_read 24 = .ok (.aload_n 0, 1) := by decide +kernel
theorem dX5_read_25 : decode cX5_read 25 = .ok (.iconst 0, 1) := by decide +kernel
theorem dX5_read_26 : decode cX5_read 26 = .ok (.putfield 43, 3) := by decide +kernel
theorem dX5_read_29 : decode cX5_read 29 = .ok (.aload_n 0, 1) := by decide +kernel
theorem dX5_read_30 : decode cX5_read 30 = .ok (.iconst 0, 1) := by decide +kernel
theorem dX5_read_31 : decode cX5_read 31 = .ok (.putfield 46, 3) := by decide +kernel
theorem dX5_read_34 : decode cX5_read 34 = .ok (.iconst 0, 1) := by decide +kernel
theorem dX5_read_35 : decode cX5_read 35 = .ok (.istore 4, 2) := by decide +kernel
theorem dX5_read_37 : decode cX5_read 37 = .ok (.iload 4, 2) := by decide +kernel
theorem dX5_read_39 : decode cX5_read 39 = .ok (.aload_n 0, 1) := by decide +kernel
theorem dX5_read_40 : decode cX5_read 40 = .ok (.getfield 27, 3) := by decide +kernel
theorem dX5_read_43 : decode cX5_read 43 = .ok (.if_icmp .ge 44, 3) := by decide +kernel
theorem dX5_read_46 : decode cX5_read 46 = .ok (.aload_n 0, 1) := by decide +kernel
theorem dX5_read_47 : decode cX5_read 47 = .ok (.getfield 9, 3) := by decide +kernel
theorem dX5_read_50 : decode cX5_read 50 = .ok (.iload 4, 2) := by decide +kernel
theorem dX5_read_52 : decode cX5_read 52 = .ok (.iconst 0, 1) := by decide +kernel
theorem dX5_read_53 : decode cX5_read 53 = .ok (.iastore, 1) := by decide +kernel
theorem dX5_read_54 : decode cX5_read 54 = .ok (.aload_n 0, 1) := by decide +kernel
theorem dX5_read_55 : decode cX5_read 55 = .ok (.getfield 15, 3) := by decide +kernel
theorem dX5_read_58 : decode cX5_read 58 = .ok (.iload 4, 2) := by decide +kernel
theorem dX5_read_60 : decode cX5_read 60 = .ok (.iconst (-1), 1) := by decide +kernel
theorem dX5_read_61 : decode cX5_read 61 = .ok (.iastore, 1) := by decide +kernel
theorem dX5_read_62 : decode cX5_read 62 = .ok (.iload 4, 2) := by decide +kernel
theorem dX5_read_64 : decode cX5_read 64 = .ok (.iload_n 3, 1) := by decide +kernel
theorem dX5_read_65 : decode cX5_read 65 = .ok (.if_icmp .eq 16, 3) := by decide +kernel
theorem dX5_read_68 : decode cX5_read 68 = .ok (.aload_n 0, 1) := by decide +kernel
theorem dX5_read_69 : decode cX5_read 69 = .ok (.iload 4, 2) := by decide +kernel
theorem dX5_read_71 : decode cX5_read 71 = .ok (.aload_n 1, 1) := by decide +kernel
theorem dX5_read_72 : decode cX5_read 72 = .ok (.iload 4, 2) := by decide +kernel
theorem dX5_read_74 : decode cX5_read 74 = .ok (.invokevirtual 59, 3) := by decide +kernel
theorem dX5_read_77 : decode cX5_read 77 = .ok (.aload_n 2, 1) := by decide +kernel
theorem dX5_read_78 : decode cX5_read 78 = .ok (.invokevirtual 63, 3) := by decide +kernel
theorem dX5_read_81 : decode cX5_read 81 = .ok (.iinc 4 1, 3) := by decide +kernel
theorem dX5_read_84 : decode cX5_read 84 = .ok (.goto (-47), 3) := by decide +kernel
theorem dX5_read_87 : decode cX5_read 87 = .ok (.return_, 1) := by decide +kernel
theorem dX5_readByte_0 : decode cX5_readByte 0 = .ok (.aload_n 3, 1) := by decide +kernel
theorem dX5_readByte_1 : decode cX5_readByte 1 = .ok (.iload_n 2, 1) := by decide +kernel
theorem dX5_readByte_2 : decode cX5_readByte 2 = .ok (.invokevirtual 67, 3) := by decide +kernel
theorem dX5_readByte_5 : decode cX5_readByte 5 = .ok (.istore 4, 2) := by decide +kernel
theorem dX5_readByte_7 : decode cX5_readByte 7 = .ok (.aload_n 0, 1) := by decide +kernel
theorem dX5_readByte_8 : decode cX5_readByte 8 = .ok (.getfield 43, 3) := by decide +kernel
theorem dX5_readByte_11 : decode cX5_readByte 11 = .ok (.iconst 2, 1) := by decide +kernel
theorem dX5_readByte_12 : decode cX5_readByte 12 = .ok (.if_icmp .ne 17, 3) := by decide +kernel
theorem dX5_readByte_15 : decode cX5_readByte 15 = .ok (.iload_n 2, 1) := by decide +kernel
theorem dX5_readByte_16 : decode cX5_readByte 16 = .ok (.bipush 10, 2) := by decide +kernel
theorem dX5_readByte_18 : decode cX5_readByte 18 = .ok (.if_icmp .ne 11, 3) := by decide +kernel
theorem dX5_readByte_21 : decode cX5_readByte 21 = .ok (.aload_n 0, 1) := by decide +kernel
theorem dX5_readByte_22 : decode cX5_readByte 22 = .ok (.iconst 0, 1) := by decide +kernel
theorem dX5_readByte_23 : decode cX5_readByte 23 = .ok (.putfield 43, 3) := by decide +kernel
theorem dX5_readByte_26 : decode cX5_readByte 26 = .ok (.goto 93, 3) := by decide +kernel
theorem dX5_readByte_29 : decode cX5_readByte 29 = .ok (.aload_n 0, 1) := by decide +kernel
theorem dX5_readByte_30 : decode cX5_readByte 30 = .ok (.getfield 43, 3) := by decide +kernel
theorem dX5_readByte_33 : decode cX5_readByte 33 = .ok (.ifCond .eq 17, 3) := by decide +kernel
theorem dX5_readByte_36 : decode cX5_readByte 36 = .ok (.aload_n 0, 1) := by decide +kernel
theorem dX5_readByte_37 : decode cX5_readByte 37 = .ok (.iload_n 1, 1) := by decide +kernel
theorem dX5_readByte_38 : decode cX5_readByte 38 = .ok (.invokevirtual 72, 3) := by decide +kernel
theorem dX5_readByte_41 : decode cX5_readByte 41 = .ok (.aload_n 0, 1) := by decide +kernel
theorem dX5_readByte_42 : decode cX5_readByte 42 = .ok (.iload 4, 2) := by decide +kernel
theorem dX5_readByte_44 : decode cX5_readByte 44 = .ok (.invokevirtual 76, 3) := by decide +kernel
theorem dX5_readByte_47 : decode cX5_readByte 47 = .ok (.goto 72, 3) := by decide +kernel
theorem dX5_readByte_50 : decode cX5_readByte 50 = .ok (.iload 4, 2) := by decide +kernel
theorem dX5_readByte_52 : decode cX5_readByte 52 = .ok (.bipush 8, 2) := by decide +kernel
theorem dX5_readByte_54 : decode cX5_readByte 54 = .ok (.if_icmp .eq 10, 3) := by decide +kernel
theorem dX5_readByte_57 : decode cX5_readByte 57 = .ok (.iload 4, 2) := by decide +kernel
theorem dX5_readByte_59 : decode cX5_readByte 59 = .ok (.bipush 10, 2) := by decide +kernel
theorem dX5_readByte_61 : decode cX5_readByte 61 = .ok (.if_icmp .ne 27, 3) := by decide +kernel
theorem dX5_readByte_64 : decode cX5_readByte 64 = .ok (.aload_n 0, 1) := by decide +kernel
theorem dX5_readByte_65 : decode cX5_readByte 65 = .ok (.iload 4, 2) := by decide +kernel
theorem dX5_readByte_67 : decode cX5_readByte 67 = .ok (.bipush 8, 2) := by decide +kernel
theorem dX5_readByte_69 : decode cX5_readByte 69 = .ok (.if_icmp .ne 7, 3) := by decide +kernel
theorem dX5_readByte_72 : decode cX5_readByte 72 = .ok (.iconst 1, 1) := by decide +kernel
theorem dX5_readByte_73 : decode cX5_readByte 73 = .ok (.goto 4, 3) := by decide +kernel
theorem dX5_readByte_76 : decode cX5_readByte 76 = .ok (.iconst 2, 1) := by decide +kernel
theorem dX5_readByte_77 : decode cX5_readByte 77 = .ok (.putfield 43, 3) := by decide +kernel
theorem dX5_readByte_80 : decode cX5_readByte 80 = .ok (.aload_n 0, 1) := by decide +kernel
theorem dX5_readByte_81 : decode cX5_readByte 81 = .ok (.iload_n 1, 1) := by decide +kernel
theorem dX5_readByte_82 : decode cX5_readByte 82 = .ok (.invokevirtual 72, 3) := by decide +kernel
theorem dX5_readByte_85 : decode cX5_readByte 85 = .ok (.goto 34, 3) := by decide +kernel
theorem dX5_readByte_88 : decode cX5_readByte 88 = .ok (.iload 4, 2) := by decide +kernel
theorem dX5_readByte_90 : decode cX5_readByte 90 = .ok (.iconst (-1), 1) := by decide +kernel
theorem dX5_readByte_91 : decode cX5_readByte 91 = .ok (.if_icmp .eq 28, 3) := by decide +kernel
theorem dX5_readByte_94 : decode cX5_readByte 94 = .ok (.iload 4, 2) := by decide +kernel
theorem dX5_readByte_96 : decode cX5_readByte 96 = .ok (.bipush 8, 2) := by decide +kernel
theorem dX5_readByte_98 : decode cX5_readByte 98 = .ok (.if_icmp .ge 21, 3) := by decide +kernel
theorem dX5_readByte_101 : decode cX5_readByte 101 = .ok (.aload_n 0, 1) := by decide +kernel
theorem dX5_readByte_102 : decode cX5_readByte 102 = .ok (.getfield 15, 3) := by decide +kernel
theorem dX5_readByte_105 : decode cX5_readByte 105 = .ok (.iload_n 1, 1) := by decide +kernel
theorem dX5_readByte_106 : decode cX5_readByte 106 = .ok (.iload 4, 2) := by decide +kernel
theorem dX5_readByte_108 : decode cX5_readByte 108 = .ok (.iastore, 1) := by decide +kernel
theorem dX5_readByte_109 : decode cX5_readByte 109 = .ok (.aload_n 0, 1) := by decide +kernel
theorem dX5_readByte_110 : decode cX5_readByte 110 = .ok (.dup, 1) := by decide +kernel
theorem dX5_readByte_111 : decode cX5_readByte 111 = .ok (.getfield 31, 3) := by decide +kernel
theorem dX5_readByte_114 : decode cX5_readByte 114 = .ok (.iconst 1, 1) := by decide +kernel
theorem dX5_readByte_115 : decode cX5_readByte 115 = .ok (.iadd, 1) := by decide +kernel
theorem dX5_readByte_116 : decode cX5_readByte 116 = .ok (.putfield 31, 3) := by decide +kernel
theorem dX5_readByte_119 : decode cX5_readByte 119 = .ok (.return_, 1) := by decide +kernel
theorem dX5_readInside_0 : decode cX5_readInside 0 = .ok (.aload_n 0, 1) := by decide +kernel
theorem dX5_readInside_1 : decode cX5_readInside 1 = .ok (.getfield 43, 3) := by decide +kernel
theorem dX5_readInside_4 : decode cX5_readInside 4 = .ok (.iconst 1, 1) := by decide +kernel
theorem dX5_readInside_5 : decode cX5_readInside 5 = .ok (.if_icmp .eq 4, 3) := by decide +kernel
theorem dX5_readInside_8 : decode cX5_readInside 8 = .ok (.return_, 1) := by decide +kernel
theorem dX5_readInside_9 : decode cX5_readInside 9 = .ok (.aload_n 0, 1) := by decide +kernel
theorem dX5_readInside_10 : decode cX5_readInside 10 = .ok (.getfield 46, 3) := by decide +kernel
theorem dX5_readInside_13 : decode cX5_readInside 13 = .ok (.ifCond .eq 11, 3) := by decide +kernel
theorem dX5_readInside_16 : decode cX5_readInside 16 = .ok (.aload_n 0, 1) := by decide +kernel
theorem dX5_readInside_17 : decode cX5_readInside 17 = .ok (.iconst 0, 1) := by decide +kernel
theorem dX5_readInside_18 : decode cX5_readInside 18 = .ok (.putfield 46, 3) := by decide +kernel
theorem dX5_readInside_21 : decode cX5_readInside 21 = .ok (.goto 28, 3) := by decide +kernel
theorem dX5_readInside_24 : decode cX5_readInside 24 = .ok (.iload_n 1, 1) := by decide +kernel
theorem dX5_readInside_25 : decode cX5_readInside 25 = .ok (.bipush 9, 2) := by decide +kernel
theorem dX5_readInside_27 : decode cX5_readInside 27 = .ok (.if_icmp .ne 11, 3) := by decide +kernel
theorem dX5_readInside_30 : decode cX5_readInside 30 = .ok (.aload_n 0, 1) := by decide +kernel
theorem dX5_readInside_31 : decode cX5_readInside 31 = .ok (.iconst 1, 1) := by decide +kernel
theorem dX5_readInside_32 : decode cX5_readInside 32 = .ok (.putfield 46, 3) := by decide +kernel
theorem dX5_readInside_35 : decode cX5_readInside 35 = .ok (.goto 14, 3) := by decide +kernel
theorem dX5_readInside_38 : decode cX5_readInside 38 = .ok (.iload_n 1, 1) := by decide +kernel
theorem dX5_readInside_39 : decode cX5_readInside 39 = .ok (.bipush 8, 2) := by decide +kernel
theorem dX5_readInside_41 : decode cX5_readInside 41 = .ok (.if_icmp .ne 8, 3) := by decide +kernel
theorem dX5_readInside_44 : decode cX5_readInside 44 = .ok (.aload_n 0, 1) := by decide +kernel
theorem dX5_readInside_45 : decode cX5_readInside 45 = .ok (.iconst 0, 1) := by decide +kernel
theorem dX5_readInside_46 : decode cX5_readInside 46 = .ok (.putfield 43, 3) := by decide +kernel
theorem dX5_readInside_49 : decode cX5_readInside 49 = .ok (.return_, 1) := by decide +kernel
theorem dX5_hide_0 : decode cX5_hide 0 = .ok (.iload_n 1, 1) := by decide +kernel
theorem dX5_hide_1 : decode cX5_hide 1 = .ok (.ifCond .lt 30, 3) := by decide +kernel
theorem dX5_hide_4 : decode cX5_hide 4 = .ok (.iload_n 1, 1) := by decide +kernel
theorem dX5_hide_5 : decode cX5_hide 5 = .ok (.sipush 240, 3) := by decide +kernel
theorem dX5_hide_8 : decode cX5_hide 8 = .ok (.if_icmp .ge 23, 3) := by decide +kernel
theorem dX5_hide_11 : decode cX5_hide 11 = .ok (.aload_n 0, 1) := by decide +kernel
theorem dX5_hide_12 : decode cX5_hide 12 = .ok (.getfield 9, 3) := by decide +kernel
theorem dX5_hide_15 : decode cX5_hide 15 = .ok (.iload_n 1, 1) := by decide +kernel
theorem dX5_hide_16 : decode cX5_hide 16 = .ok (.aload_n 0, 1) := by decide +kernel
theorem dX5_hide_17 : decode cX5_hide 17 = .ok (.getfield 43, 3) := by decide +kernel
theorem dX5_hide_20 : decode cX5_hide 20 = .ok (.iastore, 1) := by decide +kernel
theorem dX5_hide_21 : decode cX5_hide 21 = .ok (.aload_n 0, 1) := by decide +kernel
theorem dX5_hide_22 : decode cX5_hide 22 = .ok (.dup, 1) := by decide +kernel
theorem dX5_hide_23 : decode cX5_hide 23 = .ok (.getfield 37, 3) := by decide +kernel
theorem dX5_hide_26 : decode cX5_hide 26 = .ok (.iconst 1, 1) := by decide +kernel
theorem dX5_hide_27 : decode cX5_hide 27 = .ok (.iadd, 1) := by decide +kernel
theorem dX5_hide_28 : decode cX5_hide 28 = .ok (.putfield 37, 3) := by decide +kernel
theorem dX5_hide_31 : decode cX5_hide 31 = .ok (.return_, 1) := by decide +kernel
theorem dX5_pairUp_0 : decode cX5_pairUp 0 = .ok (.iconst 0, 1) := by decide +kernel
theorem dX5_pairUp_1 : decode cX5_pairUp 1 = .ok (.istore_n 1, 1) := by decide +kernel
theorem dX5_pairUp_2 : decode cX5_pairUp 2 = .ok (.aload_n 0, 1) := by decide +kernel
theorem dX5_pairUp_3 : decode cX5_pairUp 3 = .ok (.iconst 0, 1) := by decide +kernel
theorem dX5_pairUp_4 : decode cX5_pairUp 4 = .ok (.putfield 34, 3) := by decide +kernel
theorem dX5_pairUp_7 : decode cX5_pairUp 7 = .ok (.iconst 0, 1) := by decide +kernel
theorem dX5_pairUp_8 : decode cX5_pairUp 8 = .ok (.istore_n 2, 1) := by decide +kernel
theorem dX5_pairUp_9 : decode cX5_pairUp 9 = .ok (.iload_n 2, 1) := by decide +kernel
theorem dX5_pairUp_10 : decode cX5_pairUp 10 = .ok (.aload_n 0, 1) := by decide +kernel
theorem dX5_pairUp_11 : decode cX5_pairUp 11 = .ok (.getfield 27, 3) := by decide +kernel
theorem dX5_pairUp_14 : decode cX5_pairUp 14 = .ok (.if_icmp .ge 88, 3) := by decide +kernel
theorem dX5_pairUp_17 : decode cX5_pairUp 17 = .ok (.aload_n 0, 1) := by decide +kernel
theorem dX5_pairUp_18 : decode cX5_pairUp 18 = .ok (.getfield 18, 3) := by decide +kernel
theorem dX5_pairUp_21 : decode cX5_pairUp 21 = .ok (.iload_n 2, 1) := by decide +kernel
theorem dX5_pairUp_22 : decode cX5_pairUp 22 = .ok (.iconst (-1), 1) := by decide +kernel
theorem dX5_pairUp_23 : decode cX5_pairUp 23 = .ok (.iastore, 1) := by decide +kernel
theorem dX5_pairUp_24 : decode cX5_pairUp 24 = .ok (.aload_n 0, 1) := by decide +kernel
theorem dX5_pairUp_25 : decode cX5_pairUp 25 = .ok (.getfield 15, 3) := by decide +kernel
theorem dX5_pairUp_28 : decode cX5_pairUp 28 = .ok (.iload_n 2, 1) := by decide +kernel
theorem dX5_pairUp_29 : decode cX5_pairUp 29 = .ok (.iaload, 1) := by decide +kernel
theorem dX5_pairUp_30 : decode cX5_pairUp 30 = .ok (.istore_n 3, 1) := by decide +kernel
theorem dX5_pairUp_31 : decode cX5_pairUp 31 = .ok (.iload_n 3, 1) := by decide +kernel
theorem dX5_pairUp_32 : decode cX5_pairUp 32 = .ok (.iconst (-1), 1) := by decide +kernel
theorem dX5_pairUp_33 : decode cX5_pairUp 33 = .ok (.if_icmp .ne 6, 3) := by decide +kernel
theorem dX5_pairUp_36 : decode cX5_pairUp 36 = .ok (.goto 60, 3) := by decide +kernel
theorem dX5_pairUp_39 : decode cX5_pairUp 39 = .ok (.iload_n 3, 1) := by decide +kernel
theorem dX5_pairUp_40 : decode cX5_pairUp 40 = .ok (.iconst 2, 1) := by decide +kernel
theorem dX5_pairUp_41 : decode cX5_pairUp 41 = .ok (.irem, 1) := by decide +kernel
theorem dX5_pairUp_42 : decode cX5_pairUp 42 = .ok (.ifCond .ne 23, 3) := by decide +kernel
theorem dX5_pairUp_45 : decode cX5_pairUp 45 = .ok (.iload_n 1, 1) := by decide +kernel
theorem dX5_pairUp_46 : decode cX5_pairUp 46 = .ok (.sipush 240, 3) := by decide +kernel
theorem dX5_pairUp_49 : decode cX5_pairUp 49 = .ok (.if_icmp .ge 16, 3) := by decide +kernel
theorem dX5_pairUp_52 : decode cX5_pairUp 52 = .ok (.aload_n 0, 1) := by decide +kernel
theorem dX5_pairUp_53 : decode cX5_pairUp 53 = .ok (.getfield 24, 3) := by decide +kernel
theorem dX5_pairUp_56 : decode cX5_pairUp 56 = .ok (.iload_n 1, 1) := by decide +kernel
theorem dX5_pairUp_57 : decode cX5_pairUp 57 = .ok (.iload_n 2, 1) := by decide +kernel
theorem dX5_pairUp_58 : decode cX5_pairUp 58 = .ok (.iastore, 1) := by decide +kernel
theorem dX5_pairUp_59 : decode cX5_pairUp 59 = .ok (.iinc 1 1, 3) := by decide +kernel
theorem dX5_pairUp_62 : decode cX5_pairUp 62 = .ok (.goto 34, 3) := by decide +kernel
theorem dX5_pairUp_65 : decode cX5_pairUp 65 = .ok (.aload_n 0, 1) := by decide +kernel
theorem dX5_pairUp_66 : decode cX5_pairUp 66 = .ok (.iload_n 1, 1) := by decide +kernel
theorem dX5_pairUp_67 : decode cX5_pairUp 67 = .ok (.iload_n 3, 1) := by decide +kernel
theorem dX5_pairUp_68 : decode cX5_pairUp 68 = .ok (.iconst 1, 1) := by decide +kernel
theorem dX5_pairUp_69 : decode cX5_pairUp 69 = .ok (.isub, 1) := by decide +kernel
theorem dX5_pairUp_70 : decode cX5_pairUp 70 = .ok (.invokevirtual 79, 3) := by decide +kernel
theorem dX5_pairUp_73 : decode cX5_pairUp 73 = .ok (.istore 4, 2) := by decide +kernel
theorem dX5_pairUp_75 : decode cX5_pairUp 75 = .ok (.iload 4, 2) := by decide +kernel
theorem dX5_pairUp_77 : decode cX5_pairUp 77 = .ok (.iconst (-1), 1) := by decide +kernel
theorem dX5_pairUp_78 : decode cX5_pairUp 78 = .ok (.if_icmp .eq 18, 3) := by decide +kernel
theorem dX5_pairUp_81 : decode cX5_pairUp 81 = .ok (.aload_n 0, 1) := by decide +kernel
theorem dX5_pairUp_82 : decode cX5_pairUp 82 = .ok (.aload_n 0, 1) := by decide +kernel
theorem dX5_pairUp_83 : decode cX5_pairUp 83 = .ok (.getfield 24, 3) := by decide +kernel
theorem dX5_pairUp_86 : decode cX5_pairUp 86 = .ok (.iload 4, 2) := by decide +kernel
theorem dX5_pairUp_88 : decode cX5_pairUp 88 = .ok (.iaload, 1) := by decide +kernel
theorem dX5_pairUp_89 : decode cX5_pairUp 89 = .ok (.iload_n 2, 1) := by decide +kernel
theorem dX5_pairUp_90 : decode cX5_pairUp 90 = .ok (.invokevirtual 82, 3) := by decide +kernel
theorem dX5_pairUp_93 : decode cX5_pairUp 93 = .ok (.iload 4, 2) := by decide +kernel
theorem dX5_pairUp_95 : decode cX5_pairUp 95 = .ok (.istore_n 1, 1) := by decide +kernel
theorem dX5_pairUp_96 : decode cX5_pairUp 96 = .ok (.iinc 2 1, 3) := by decide +kernel
theorem dX5_pairUp_99 : decode cX5_pairUp 99 = .ok (.goto (-90), 3) := by decide +kernel
theorem dX5_pairUp_102 : decode cX5_pairUp 102 = .ok (.return_, 1) := by decide +kernel
theorem dX5_latestWaiting_0 : decode cX5_latestWaiting 0 = .ok (.iload_n 1, 1) := by decide +kernel
theorem dX5_latestWaiting_1 : decode cX5_latestWaiting 1 = .ok (.iconst 1, 1) := by decide +kernel
theorem dX5_latestWaiting_2 : decode cX5_latestWaiting 2 = .ok (.isub, 1) := by decide +kernel
theorem dX5_latestWaiting_3 : decode cX5_latestWaiting 3 = .ok (.istore_n 3, 1) := by decide +kernel
theorem dX5_latestWaiting_4 : decode cX5_latestWaiting 4 = .ok (.iload_n 3, 1) := by decide +kernel
theorem dX5_latestWaiting_5 : decode cX5_latestWaiting 5 = .ok (.ifCond .lt 25, 3) := by decide +kernel
theorem dX5_latestWaiting_8 : decode cX5_latestWaiting 8 = .ok (.aload_n 0, 1) := by decide +kernel
theorem dX5_latestWaiting_9 : decode cX5_latestWaiting 9 = .ok (.aload_n 0, 1) := by decide +kernel
theorem dX5_latestWaiting_10 : decode cX5_latestWaiting 10 = .ok (.getfield 24, 3) := by decide +kernel
