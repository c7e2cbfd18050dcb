theorem dX5_latestWaiting_13 : decode cX5_latestWaiting 13 = .ok (.iload_n 3, 1) := by decide +kernel
theorem dX5_latestWaiting_14 : decode cX5_latestWaiting 14 = .ok (.iaload, 1) := by decide +kernel
theorem dX5_latestWaiting_15 : decode cX5_latestWaiting 15 = .ok (.invokevirtual 86, 3) := by decide +kernel
theorem dX5_latestWaiting_18 : decode cX5_latestWaiting 18 = .ok (.iload_n 2, 1) := by decide +kernel
theorem dX5_latestWaiting_19 : decode cX5_latestWaiting 19 = .ok (.if_icmp .ne 5, 3) := by decide +kernel
theorem dX5_latestWaiting_22 : decode cX5_latestWaiting 22 = .ok (.iload_n 3, 1) := by decide +kernel
theorem dX5_latestWaiting_23 : decode cX5_latestWaiting 23 = .ok (.ireturn, 1) := by decide +kernel
theorem dX5_latestWaiting_24 : decode cX5_latestWaiting 24 = .ok (.iinc 3 (-1), 3) := by decide +kernel
theorem dX5_latestWaiting_27 : decode cX5_latestWaiting 27 = .ok (.goto (-23), 3) := by decide +kernel
theorem dX5_latestWaiting_30 : decode cX5_latestWaiting 30 = .ok (.iconst (-1), 1) := by decide +kernel
theorem dX5_latestWaiting_31 : decode cX5_latestWaiting 31 = .ok (.ireturn, 1) := by decide +kernel
theorem dX5_joinPair_0 : decode cX5_joinPair 0 = .ok (.iload_n 1, 1) := by decide +kernel
theorem dX5_joinPair_1 : decode cX5_joinPair 1 = .ok (.ifCond .lt 39, 3) := by decide +kernel
theorem dX5_joinPair_4 : decode cX5_joinPair 4 = .ok (.iload_n 1, 1) := by decide +kernel
theorem dX5_joinPair_5 : decode cX5_joinPair 5 = .ok (.iload_n 2, 1) := by decide +kernel
theorem dX5_joinPair_6 : decode cX5_joinPair 6 = .ok (.if_icmp .ge 34, 3) := by decide +kernel
theorem dX5_joinPair_9 : decode cX5_joinPair 9 = .ok (.iload_n 2, 1) := by decide +kernel
theorem dX5_joinPair_10 : decode cX5_joinPair 10 = .ok (.sipush 240, 3) := by decide +kernel
theorem dX5_joinPair_13 : decode cX5_joinPair 13 = .ok (.if_icmp .ge 27, 3) := by decide +kernel
theorem dX5_joinPair_16 : decode cX5_joinPair 16 = .ok (.aload_n 0, 1) := by decide +kernel
theorem dX5_joinPair_17 : decode cX5_joinPair 17 = .ok (.getfield 18, 3) := by decide +kernel
theorem dX5_joinPair_20 : decode cX5_joinPair 20 = .ok (.iload_n 1, 1) := by decide +kernel
theorem dX5_joinPair_21 : decode cX5_joinPair 21 = .ok (.iload_n 2, 1) := by decide +kernel
theorem dX5_joinPair_22 : decode cX5_joinPair 22 = .ok (.iastore, 1) := by decide +kernel
theorem dX5_joinPair_23 : decode cX5_joinPair 23 = .ok (.aload_n 0, 1) := by decide +kernel
theorem dX5_joinPair_24 : decode cX5_joinPair 24 = .ok (.getfield 18, 3) := by decide +kernel
theorem dX5_joinPair_27 : decode cX5_joinPair 27 = .ok (.iload_n 2, 1) := by decide +kernel
theorem dX5_joinPair_28 : decode cX5_joinPair 28 = .ok (.iload_n 1, 1) := by decide +kernel
theorem dX5_joinPair_29 : decode cX5_joinPair 29 = .ok (.iastore, 1) := by decide +kernel
theorem dX5_joinPair_30 : decode cX5_joinPair 30 = .ok (.aload_n 0, 1) := by decide +kernel
theorem dX5_joinPair_31 : decode cX5_joinPair 31 = .ok (.dup, 1) := by decide +kernel
theorem dX5_joinPair_32 : decode cX5_joinPair 32 = .ok (.getfield 34, 3) := by decide +kernel
theorem dX5_joinPair_35 : decode cX5_joinPair 35 = .ok (.iconst 1, 1) := by decide +kernel
theorem dX5_joinPair_36 : decode cX5_joinPair 36 = .ok (.iadd, 1) := by decide +kernel
theorem dX5_joinPair_37 : decode cX5_joinPair 37 = .ok (.putfield 34, 3) := by decide +kernel
theorem dX5_joinPair_40 : decode cX5_joinPair 40 = .ok (.return_, 1) := by decide +kernel
theorem dX5_measureDepths_0 : decode cX5_measureDepths 0 = .ok (.iconst 0, 1) := by decide +kernel
theorem dX5_measureDepths_1 : decode cX5_measureDepths 1 = .ok (.istore_n 1, 1) := by decide +kernel
theorem dX5_measureDepths_2 : decode cX5_measureDepths 2 = .ok (.aload_n 0, 1) := by decide +kernel
theorem dX5_measureDepths_3 : decode cX5_measureDepths 3 = .ok (.iconst (-1), 1) := by decide +kernel
theorem dX5_measureDepths_4 : decode cX5_measureDepths 4 = .ok (.putfield 40, 3) := by decide +kernel
theorem dX5_measureDepths_7 : decode cX5_measureDepths 7 = .ok (.iconst 0, 1) := by decide +kernel
theorem dX5_measureDepths_8 : decode cX5_measureDepths 8 = .ok (.istore_n 2, 1) := by decide +kernel
theorem dX5_measureDepths_9 : decode cX5_measureDepths 9 = .ok (.iload_n 2, 1) := by decide +kernel
theorem dX5_measureDepths_10 : decode cX5_measureDepths 10 = .ok (.aload_n 0, 1) := by decide +kernel
theorem dX5_measureDepths_11 : decode cX5_measureDepths 11 = .ok (.getfield 27, 3) := by decide +kernel
theorem dX5_measureDepths_14 : decode cX5_measureDepths 14 = .ok (.if_icmp .ge 50, 3) := by decide +kernel
theorem dX5_measureDepths_17 : decode cX5_measureDepths 17 = .ok (.aload_n 0, 1) := by decide +kernel
theorem dX5_measureDepths_18 : decode cX5_measureDepths 18 = .ok (.iload_n 2, 1) := by decide +kernel
theorem dX5_measureDepths_19 : decode cX5_measureDepths 19 = .ok (.invokevirtual 89, 3) := by decide +kernel
theorem dX5_measureDepths_22 : decode cX5_measureDepths 22 = .ok (.ifCond .eq 6, 3) := by decide +kernel
theorem dX5_measureDepths_25 : decode cX5_measureDepths 25 = .ok (.iinc 1 (-1), 3) := by decide +kernel
theorem dX5_measureDepths_28 : decode cX5_measureDepths 28 = .ok (.aload_n 0, 1) := by decide +kernel
theorem dX5_measureDepths_29 : decode cX5_measureDepths 29 = .ok (.getfield 21, 3) := by decide +kernel
theorem dX5_measureDepths_32 : decode cX5_measureDepths 32 = .ok (.iload_n 2, 1) := by decide +kernel
theorem dX5_measureDepths_33 : decode cX5_measureDepths 33 = .ok (.iload_n 1, 1) := by decide +kernel
theorem dX5_measureDepths_34 : decode cX5_measureDepths 34 = .ok (.iastore, 1) := by decide +kernel
theorem dX5_measureDepths_35 : decode cX5_measureDepths 35 = .ok (.aload_n 0, 1) := by decide +kernel
theorem dX5_measureDepths_36 : decode cX5_measureDepths 36 = .ok (.iload_n 2, 1) := by decide +kernel
theorem dX5_measureDepths_37 : decode cX5_measureDepths 37 = .ok (.invokevirtual 93, 3) := by decide +kernel
theorem dX5_measureDepths_40 : decode cX5_measureDepths 40 = .ok (.ifCond .eq 18, 3) := by decide +kernel
theorem dX5_measureDepths_43 : decode cX5_measureDepths 43 = .ok (.aload_n 0, 1) := by decide +kernel
theorem dX5_measureDepths_44 : decode cX5_measureDepths 44 = .ok (.aload_n 0, 1) := by decide +kernel
theorem dX5_measureDepths_45 : decode cX5_measureDepths 45 = .ok (.getfield 40, 3) := by decide +kernel
theorem dX5_measureDepths_48 : decode cX5_measureDepths 48 = .ok (.iload_n 1, 1) := by decide +kernel
theorem dX5_measureDepths_49 : decode cX5_measureDepths 49 = .ok (.invokestatic 96, 3) := by decide +kernel
theorem dX5_measureDepths_52 : decode cX5_measureDepths 52 = .ok (.putfield 40, 3) := by decide +kernel
theorem dX5_measureDepths_55 : decode cX5_measureDepths 55 = .ok (.iinc 1 1, 3) := by decide +kernel
theorem dX5_measureDepths_58 : decode cX5_measureDepths 58 = .ok (.iinc 2 1, 3) := by decide +kernel
theorem dX5_measureDepths_61 : decode cX5_measureDepths 61 = .ok (.goto (-52), 3) := by decide +kernel
theorem dX5_measureDepths_64 : decode cX5_measureDepths 64 = .ok (.return_, 1) := by decide +kernel
theorem dX5_isOpening_0 : decode cX5_isOpening 0 = .ok (.aload_n 0, 1) := by decide +kernel
theorem dX5_isOpening_1 : decode cX5_isOpening 1 = .ok (.iload_n 1, 1) := by decide +kernel
theorem dX5_isOpening_2 : decode cX5_isOpening 2 = .ok (.invokevirtual 99, 3) := by decide +kernel
theorem dX5_isOpening_5 : decode cX5_isOpening 5 = .ok (.iload_n 1, 1) := by decide +kernel
theorem dX5_isOpening_6 : decode cX5_isOpening 6 = .ok (.if_icmp .le 7, 3) := by decide +kernel
theorem dX5_isOpening_9 : decode cX5_isOpening 9 = .ok (.iconst 1, 1) := by decide +kernel
theorem dX5_isOpening_10 : decode cX5_isOpening 10 = .ok (.goto 4, 3) := by decide +kernel
theorem dX5_isOpening_13 : decode cX5_isOpening 13 = .ok (.iconst 0, 1) := by decide +kernel
theorem dX5_isOpening_14 : decode cX5_isOpening 14 = .ok (.ireturn, 1) := by decide +kernel
theorem dX5_isClosing_0 : decode cX5_isClosing 0 = .ok (.aload_n 0, 1) := by decide +kernel
theorem dX5_isClosing_1 : decode cX5_isClosing 1 = .ok (.iload_n 1, 1) := by decide +kernel
theorem dX5_isClosing_2 : decode cX5_isClosing 2 = .ok (.invokevirtual 99, 3) := by decide +kernel
theorem dX5_isClosing_5 : decode cX5_isClosing 5 = .ok (.iconst (-1), 1) := by decide +kernel
theorem dX5_isClosing_6 : decode cX5_isClosing 6 = .ok (.if_icmp .eq 16, 3) := by decide +kernel
theorem dX5_isClosing_9 : decode cX5_isClosing 9 = .ok (.aload_n 0, 1) := by decide +kernel
theorem dX5_isClosing_10 : decode cX5_isClosing 10 = .ok (.iload_n 1, 1) := by decide +kernel
theorem dX5_isClosing_11 : decode cX5_isClosing 11 = .ok (.invokevirtual 99, 3) := by decide +kernel
theorem dX5_isClosing_14 : decode cX5_isClosing 14 = .ok (.iload_n 1, 1) := by decide +kernel
theorem dX5_isClosing_15 : decode cX5_isClosing 15 = .ok (.if_icmp .ge 7, 3) := by decide +kernel
theorem dX5_isClosing_18 : decode cX5_isClosing 18 = .ok (.iconst 1, 1) := by decide +kernel
theorem dX5_isClosing_19 : decode cX5_isClosing 19 = .ok (.goto 4, 3) := by decide +kernel
theorem dX5_isClosing_22 : decode cX5_isClosing 22 = .ok (.iconst 0, 1) := by decide +kernel
theorem dX5_isClosing_23 : decode cX5_isClosing 23 = .ok (.ireturn, 1) := by decide +kernel
theorem dX5_roleAt_0 : decode cX5_roleAt 0 = .ok (.iload_n 1, 1) := by decide +kernel
theorem dX5_roleAt_1 : decode cX5_roleAt 1 = .ok (.ifCond .lt 20, 3) := by decide +kernel
theorem dX5_roleAt_4 : decode cX5_roleAt 4 = .ok (.iload_n 1, 1) := by decide +kernel
theorem dX5_roleAt_5 : decode cX5_roleAt 5 = .ok (.aload_n 0, 1) := by decide +kernel
theorem dX5_roleAt_6 : decode cX5_roleAt 6 = .ok (.getfield 27, 3) := by decide +kernel
theorem dX5_roleAt_9 : decode cX5_roleAt 9 = .ok (.if_icmp .ge 12, 3) := by decide +kernel
theorem dX5_roleAt_12 : decode cX5_roleAt 12 = .ok (.aload_n 0, 1) := by decide +kernel
theorem dX5_roleAt_13 : decode cX5_roleAt 13 = .ok (.getfield 15, 3) := by decide +kernel
theorem dX5_roleAt_16 : decode cX5_roleAt 16 = .ok (.iload_n 1, 1) := by decide +kernel
theorem dX5_roleAt_17 : decode cX5_roleAt 17 = .ok (.iaload, 1) := by decide +kernel
theorem dX5_roleAt_18 : decode cX5_roleAt 18 = .ok (.goto 4, 3) := by decide +kernel
theorem dX5_roleAt_21 : decode cX5_roleAt 21 = .ok (.iconst (-1), 1) := by decide +kernel
theorem dX5_roleAt_22 : decode cX5_roleAt 22 = .ok (.ireturn, 1) := by decide +kernel
theorem dX5_kindOf_0 : decode cX5_kindOf 0 = .ok (.aload_n 0, 1) := by decide +kernel
theorem dX5_kindOf_1 : decode cX5_kindOf 1 = .ok (.iload_n 1, 1) := by decide +kernel
theorem dX5_kindOf_2 : decode cX5_kindOf 2 = .ok (.invokevirtual 86, 3) := by decide +kernel
theorem dX5_kindOf_5 : decode cX5_kindOf 5 = .ok (.istore_n 2, 1) := by decide +kernel
theorem dX5_kindOf_6 : decode cX5_kindOf 6 = .ok (.iload_n 2, 1) := by decide +kernel
theorem dX5_kindOf_7 : decode cX5_kindOf 7 = .ok (.iconst (-1), 1) := by decide +kernel
theorem dX5_kindOf_8 : decode cX5_kindOf 8 = .ok (.if_icmp .ne 7, 3) := by decide +kernel
theorem dX5_kindOf_11 : decode cX5_kindOf 11 = .ok (.iconst (-1), 1) := by decide +kernel
theorem dX5_kindOf_12 : decode cX5_kindOf 12 = .ok (.goto 6, 3) := by decide +kernel
theorem dX5_kindOf_15 : decode cX5_kindOf 15 = .ok (.iload_n 2, 1) := by decide +kernel
theorem dX5_kindOf_16 : decode cX5_kindOf 16 = .ok (.iconst 2, 1) := by decide +kernel
theorem dX5_kindOf_17 : decode cX5_kindOf 17 = .ok (.idiv, 1) := by decide +kernel
theorem dX5_kindOf_18 : decode cX5_kindOf 18 = .ok (.ireturn, 1) := by decide +kernel
theorem dX5_sideOf_0 : decode cX5_sideOf 0 = .ok (.aload_n 0, 1) := by decide +kernel
theorem dX5_sideOf_1 : decode cX5_sideOf 1 = .ok (.iload_n 1, 1) := by decide +kernel
theorem dX5_sideOf_2 : decode cX5_sideOf 2 = .ok (.invokevirtual 86, 3) := by decide +kernel
theorem dX5_sideOf_5 : decode cX5_sideOf 5 = .ok (.istore_n 2, 1) := by decide +kernel
theorem dX5_sideOf_6 : decode cX5_sideOf 6 = .ok (.iload_n 2, 1) := by decide +kernel
theorem dX5_sideOf_7 : decode cX5_sideOf 7 = .ok (.iconst (-1), 1) := by decide +kernel
theorem dX5_sideOf_8 : decode cX5_sideOf 8 = .ok (.if_icmp .ne 7, 3) := by decide +kernel
theorem dX5_sideOf_11 : decode cX5_sideOf 11 = .ok (.iconst (-1), 1) := by decide +kernel
theorem dX5_sideOf_12 : decode cX5_sideOf 12 = .ok (.goto 8, 3) := by decide +kernel
theorem dX5_sideOf_15 : decode cX5_sideOf 15 = .ok (.iconst 1, 1) := by decide +kernel
theorem dX5_sideOf_16 : decode cX5_sideOf 16 = .ok (.iload_n 2, 1) := by decide +kernel
theorem dX5_sideOf_17 : decode cX5_sideOf 17 = .ok (.iconst 2, 1) := by decide +kernel
theorem dX5_sideOf_18 : decode cX5_sideOf 18 = .ok (.irem, 1) := by decide +kernel
theorem dX5_sideOf_19 : decode cX5_sideOf 19 = .ok (.isub, 1) := by decide +kernel
theorem dX5_sideOf_20 : decode cX5_sideOf 20 = .ok (.ireturn, 1) := by decide +kernel
theorem dX5_partnerOf_0 : decode cX5_partnerOf 0 = .ok (.iload_n 1, 1) := by decide +kernel
theorem dX5_partnerOf_1 : decode cX5_partnerOf 1 = .ok (.ifCond .lt 20, 3) := by decide +kernel
theorem dX5_partnerOf_4 : decode cX5_partnerOf 4 = .ok (.iload_n 1, 1) := by decide +kernel
theorem dX5_partnerOf_5 : decode cX5_partnerOf 5 = .ok (.aload_n 0, 1) := by decide +kernel
theorem dX5_partnerOf_6 : decode cX5_partnerOf 6 = .ok (.getfield 27, 3) := by decide +kernel
theorem dX5_partnerOf_9 : decode cX5_partnerOf 9 = .ok (.if_icmp .ge 12, 3) := by decide +kernel
theorem dX5_partnerOf_12 : decode cX5_partnerOf 12 = .ok (.aload_n 0, 1) := by decide +kernel
theorem dX5_partnerOf_13 : decode cX5_partnerOf 13 = .ok (.getfield 18, 3) := by decide +kernel
theorem dX5_partnerOf_16 : decode cX5_partnerOf 16 = .ok (.iload_n 1, 1) := by decide +kernel
theorem dX5_partnerOf_17 : decode cX5_partnerOf 17 = .ok (.iaload, 1) := by decide +kernel
theorem dX5_partnerOf_18 : decode cX5_partnerOf 18 = .ok (.goto 4, 3) := by decide +kernel
theorem dX5_partnerOf_21 : decode cX5_partnerOf 21 = .ok (.iconst (-1), 1) := by decide +kernel
theorem dX5_partnerOf_22 : decode cX5_partnerOf 22 = .ok (.ireturn, 1) := by decide +kernel
theorem dX5_openingOf_0 : decode cX5_openingOf 0 = .ok (.aload_n 0, 1) := by decide +kernel
theorem dX5_openingOf_1 : decode cX5_openingOf 1 = .ok (.iload_n 1, 1) := by decide +kernel
theorem dX5_openingOf_2 : decode cX5_openingOf 2 = .ok (.invokevirtual 89, 3) := by decide +kernel
theorem dX5_openingOf_5 : decode cX5_openingOf 5 = .ok (.ifCond .eq 11, 3) := by decide +kernel
theorem dX5_openingOf_8 : decode cX5_openingOf 8 = .ok (.aload_n 0, 1) := by decide +kernel
theorem dX5_openingOf_9 : decode cX5_openingOf 9 = .ok (.iload_n 1, 1) := by decide +kernel
theorem dX5_openingOf_10 : decode cX5_openingOf 10 = .ok (.invokevirtual 99, 3) := by decide +kernel
theorem dX5_openingOf_13 : decode cX5_openingOf 13 = .ok (.goto 4, 3) := by decide +kernel
theorem dX5_openingOf_16 : decode cX5_openingOf 16 = .ok (.iload_n 1, 1) := by decide +kernel
theorem dX5_openingOf_17 : decode cX5_openingOf 17 = .ok (.ireturn, 1) := by decide +kernel
theorem dX5_depthOf_0 : decode cX5_depthOf 0 = .ok (.iload_n 1, 1) := by decide +kernel
theorem dX5_depthOf_1 : decode cX5_depthOf 1 = .ok (.ifCond .lt 20, 3) := by decide +kernel
theorem dX5_depthOf_4 : decode cX5_depthOf 4 = .ok (.iload_n 1, 1) := by decide +kernel
theorem dX5_depthOf_5 : decode cX5_depthOf 5 = .ok (.aload_n 0, 1) := by decide +kernel
theorem dX5_depthOf_6 : decode cX5_depthOf 6 = .ok (.getfield 27, 3) := by decide +kernel
theorem dX5_depthOf_9 : decode cX5_depthOf 9 = .ok (.if_icmp .ge 12, 3) := by decide +kernel
theorem dX5_depthOf_12 : decode cX5_depthOf 12 = .ok (.aload_n 0, 1) := by decide +kernel
theorem dX5_depthOf_13 : decode cX5_depthOf 13 = .ok (.getfield 21, 3) := by decide +kernel
theorem dX5_depthOf_16 : decode cX5_depthOf 16 = .ok (.iload_n 1, 1) := by decide +kernel
theorem dX5_depthOf_17 : decode cX5_depthOf 17 = .ok (.iaload, 1) := by decide +kernel
theorem dX5_depthOf_18 : decode cX5_depthOf 18 = .ok (.goto 4, 3) := by decide +kernel
theorem dX5_depthOf_21 : decode cX5_depthOf 21 = .ok (.iconst 0, 1) := by decide +kernel
theorem dX5_depthOf_22 : decode cX5_depthOf 22 = .ok (.ireturn, 1) := by decide +kernel
theorem dX5_hiddenAs_0 : decode cX5_hiddenAs 0 = .ok (.iload_n 1, 1) := by decide +kernel
theorem dX5_hiddenAs_1 : decode cX5_hiddenAs 1 = .ok (.ifCond .lt 20, 3) := by decide +kernel
theorem dX5_hiddenAs_4 : decode cX5_hiddenAs 4 = .ok (.iload_n 1, 1) := by decide +kernel
theorem dX5_hiddenAs_5 : decode cX5_hiddenAs 5 = .ok (.aload_n 0, 1) := by decide +kernel
theorem dX5_hiddenAs_6 : decode cX5_hiddenAs 6 = .ok (.getfield 27, 3) := by decide +kernel
theorem dX5_hiddenAs_9 : decode cX5_hiddenAs 9 = .ok (.if_icmp .ge 12, 3) := by decide +kernel
theorem dX5_hiddenAs_12 : decode cX5_hiddenAs 12 = .ok (.aload_n 0, 1) := by decide +kernel
theorem dX5_hiddenAs_13 : decode cX5_hiddenAs 13 = .ok (.getfield 9, 3) := by decide +kernel
theorem dX5_hiddenAs_16 : decode cX5_hiddenAs 16 = .ok (.iload_n 1, 1) := by decide +kernel
theorem dX5_hiddenAs_17 : decode cX5_hiddenAs 17 = .ok (.iaload, 1) := by decide +kernel
theorem dX5_hiddenAs_18 : decode cX5_hiddenAs 18 = .ok (.goto 4, 3) := by decide +kernel
theorem dX5_hiddenAs_21 : decode cX5_hiddenAs 21 = .ok (.iconst 0, 1) := by decide +kernel
theorem dX5_hiddenAs_22 : decode cX5_hiddenAs 22 = .ok (.ireturn, 1) := by decide +kernel
theorem dX5_lones_0 : decode cX5_lones 0 = .ok (.aload_n 0, 1) := by decide +kernel
theorem dX5_lones_1 : decode cX5_lones 1 = .ok (.getfield 31, 3) := by decide +kernel
theorem dX5_lones_4 : decode cX5_lones 4 = .ok (.iconst 2, 1) := by decide +kernel
theorem dX5_lones_5 : decode cX5_lones 5 = .ok (.aload_n 0, 1) := by decide +kernel
theorem dX5_lones_6 : decode cX5_lones 6 = .ok (.getfield 34, 3) := by decide +kernel
theorem dX5_lones_9 : decode cX5_lones 9 = .ok (.imul, 1) := by decide +kernel
theorem dX5_lones_10 : decode cX5_lones 10 = .ok (.isub, 1) := by decide +kernel
theorem dX5_lones_11 : decode cX5_lones 11 = .ok (.ireturn, 1) := by decide +kernel
theorem dX5_hasBracketsOf_0 : decode cX5_hasBracketsOf 0 = .ok (.aload_n 0, 1) := by decide +kernel
theorem dX5_hasBracketsOf_1 : decode cX5_hasBracketsOf 1 = .ok (.getfield 31, 3) := by decide +kernel
theorem dX5_hasBracketsOf_4 : decode cX5_hasBracketsOf 4 = .ok (.aload_n 1, 1) := by decide +kernel
theorem dX5_hasBracketsOf_5 : decode cX5_hasBracketsOf 5 = .ok (.getfield 31, 3) := by decide +kernel
theorem dX5_hasBracketsOf_8 : decode cX5_hasBracketsOf 8 = .ok (.if_icmp .eq 5, 3) := by decide +kernel
theorem dX5_hasBracketsOf_11 : decode cX5_hasBracketsOf 11 = .ok (.iconst 0, 1) := by decide +kernel
theorem dX5_hasBracketsOf_12 : decode cX5_hasBracketsOf 12 = .ok (.ireturn, 1) := by decide +kernel
theorem dX5_hasBracketsOf_13 : decode cX5_hasBracketsOf 13 = .ok (.iconst 0, 1) := by decide +kernel
theorem dX5_hasBracketsOf_14 : decode cX5_hasBracketsOf 14 = .ok (.istore_n 2, 1) := by decide +kernel
theorem dX5_hasBracketsOf_15 : decode cX5_hasBracketsOf 15 = .ok (.iload_n 2, 1) := by decide +kernel
theorem dX5_hasBracketsOf_16 : decode cX5_hasBracketsOf 16 = .ok (.aload_n 0, 1) := by decide +kernel
theorem dX5_hasBracketsOf_17 : decode cX5_hasBracketsOf 17 = .ok (.getfield 27, 3) := by decide +kernel
theorem dX5_hasBracketsOf_20 : decode cX5_hasBracketsOf 20 = .ok (.if_icmp .ge 25, 3) := by decide +kernel
theorem dX5_hasBracketsOf_23 : decode cX5_hasBracketsOf 23 = .ok (.aload_n 0, 1) := by decide +kernel
theorem dX5_hasBracketsOf_24 : decode cX5_hasBracketsOf 24 = .ok (.getfield 15, 3) := by decide +kernel
theorem dX5_hasBracketsOf_27 : decode cX5_hasBracketsOf 27 = .ok (.iload_n 2, 1) := by decide +kernel
theorem dX5_hasBracketsOf_28 : decode cX5_hasBracketsOf 28 = .ok (.iaload, 1) := by decide +kernel
theorem dX5_hasBracketsOf_29 : decode cX5_hasBracketsOf 29 = .ok (.aload_n 1, 1) := by decide +kernel
theorem dX5_hasBracketsOf_30 : decode cX5_hasBracketsOf 30 = .ok (.iload_n 2, 1) := by decide +kernel
theorem dX5_hasBracketsOf_31 : decode cX5_hasBracketsOf 31 = .ok (.invokevirtual 86, 3) := by decide +kernel
theorem dX5_hasBracketsOf_34 : decode cX5_hasBracketsOf 34 = .ok (.if_icmp .eq 5, 3) := by decide +kernel
theorem dX5_hasBracketsOf_37 : decode cX5_hasBracketsOf 37 = .ok (.iconst 0, 1) := by decide +kernel
theorem dX5_hasBracketsOf_38 : decode cX5_hasBracketsOf 38 = .ok (.ireturn, 1) := by decide +kernel
theorem dX5_hasBracketsOf_39 : decode cX5_hasBracketsOf 39 = .ok (.iinc 2 1, 3) := by decide +kernel
theorem dX5_hasBracketsOf_42 : decode cX5_hasBracketsOf 42 = .ok (.goto (-27), 3) := by decide +kernel
theorem dX5_hasBracketsOf_45 : decode cX5_hasBracketsOf 45 = .ok (.iconst 1, 1) := by decide +kernel
theorem dX5_hasBracketsOf_46 : decode cX5_hasBracketsOf 46 = .ok (.ireturn, 1) := by decide +kernel
theorem dX5_pairAround_0 : decode cX5_pairAround 0 = .ok (.iload_n 2, 1) := by decide +kernel
theorem dX5_pairAround_1 : decode cX5_pairAround 1 = .ok (.istore_n 3, 1) := by decide +kernel
theorem dX5_pairAround_2 : decode cX5_pairAround 2 = .ok (.iload_n 1, 1) := by decide +kernel
theorem dX5_pairAround_3 : decode cX5_pairAround 3 = .ok (.iconst 1, 1) := by decide +kernel
theorem dX5_pairAround_4 : decode cX5_pairAround 4 = .ok (.isub, 1) := by decide +kernel
theorem dX5_pairAround_5 : decode cX5_pairAround 5 = .ok (.istore 4, 2) := by decide +kernel
theorem dX5_pairAround_7 : decode cX5_pairAround 7 = .ok (.iload 4, 2) := by decide +kernel
theorem dX5_pairAround_9 : decode cX5_pairAround 9 = .ok (.ifCond .lt 33, 3) := by decide +kernel
theorem dX5_pairAround_12 : decode cX5_pairAround 12 = .ok (.iload_n 3, 1) := by decide +kernel
theorem dX5_pairAround_13 : decode cX5_pairAround 13 = .ok (.ifCond .lt 29, 3) := by decide +kernel
theorem dX5_pairAround_16 : decode cX5_pairAround 16 = .ok (.aload_n 0, 1) := by decide +kernel
theorem dX5_pairAround_17 : decode cX5_pairAround 17 = .ok (.iload 4, 2) := by decide +kernel
theorem dX5_pairAround_19 : decode cX5_pairAround 19 = .ok (.invokevirtual 99, 3) := by decide +kernel
theorem dX5_pairAround_22 : decode cX5_pairAround 22 = .ok (.iload_n 1, 1) := by decide +kernel
theorem dX5_pairAround_23 : decode cX5_pairAround 23 = .ok (.if_icmp .le 13, 3) := by decide +kernel
theorem dX5_pairAround_26 : decode cX5_pairAround 26 = .ok (.iload_n 3, 1) := by decide +kernel
theorem dX5_pairAround_27 : decode cX5_pairAround 27 = .ok (.ifCond .ne 6, 3) := by decide +kernel
theorem dX5_pairAround_30 : decode cX5_pairAround 30 = .ok (.iload 4, 2) := by decide +kernel
theorem dX5_pairAround_32 : decode cX5_pairAround 32 = .ok (.ireturn, 1) := by decide +kernel
theorem dX5_pairAround_33 : decode cX5_pairAround 33 = .ok (.iinc 3 (-1), 3) := by decide +kernel
theorem dX5_pairAround_36 : decode cX5_pairAround 36 = .ok (.iinc 4 (-1), 3) := by decide +kernel
theorem dX5_pairAround_39 : decode cX5_pairAround 39 = .ok (.goto (-32), 3) := by decide +kernel
theorem dX5_pairAround_42 : decode cX5_pairAround 42 = .ok (.iconst (-1), 1) := by decide +kernel
theorem dX5_pairAround_43 : decode cX5_pairAround 43 = .ok (.ireturn, 1) := by decide +kernel
theorem dX5_pairWithin_0 : decode cX5_pairWithin 0 = .ok (.iload_n 2, 1) := by decide +kernel
theorem dX5_pairWithin_1 : decode cX5_pairWithin 1 = .ok (.istore_n 3, 1) := by decide +kernel
theorem dX5_pairWithin_2 : decode cX5_pairWithin 2 = .ok (.iload_n 1, 1) := by decide +kernel
theorem dX5_pairWithin_3 : decode cX5_pairWithin 3 = .ok (.iconst 1, 1) := by decide +kernel
theorem dX5_pairWithin_4 : decode cX5_pairWithin 4 = .ok (.iadd, 1) := by decide +kernel
theorem dX5_pairWithin_5 : decode cX5_pairWithin 5 = .ok (.istore 4, 2) := by decide +kernel
theorem dX5_pairWithin_7 : decode cX5_pairWithin 7 = .ok (.iload 4, 2) := by decide +kernel
theorem dX5_pairWithin_9 : decode cX5_pairWithin 9 = .ok (.aload_n 0, 1) := by decide +kernel
theorem dX5_pairWithin_10 : decode cX5_pairWithin 10 = .ok (.iload_n 1, 1) := by decide +kernel
theorem dX5_pairWithin_11 : decode cX5_pairWithin 11 = .ok (.invokevirtual 99, 3) := by decide +kernel
theorem dX5_pairWithin_14 : decode cX5_pairWithin 14 = .ok (.if_icmp .ge 48, 3) := by decide +kernel
theorem dX5_pairWithin_17 : decode cX5_pairWithin 17 = .ok (.iload_n 3, 1) := by decide +kernel
theorem dX5_pairWithin_18 : decode cX5_pairWithin 18 = .ok (.ifCond .lt 44, 3) := by decide +kernel
theorem dX5_pairWithin_21 : decode cX5_pairWithin 21 = .ok (.aload_n 0, 1) := by decide +kernel
theorem dX5_pairWithin_22 : decode cX5_pairWithin 22 = .ok (.iload 4, 2) := by decide +kernel
theorem dX5_pairWithin_24 : decode cX5_pairWithin 24 = .ok (.invokevirtual 93, 3) := by decide +kernel
theorem dX5_pairWithin_27 : decode cX5_pairWithin 27 = .ok (.ifCond .eq 29, 3) := by decide +kernel
theorem dX5_pairWithin_30 : decode cX5_pairWithin 30 = .ok (.aload_n 0, 1) := by decide +kernel
theorem dX5_pairWithin_31 : decode cX5_pairWithin 31 = .ok (.iload 4, 2) := by decide +kernel
theorem dX5_pairWithin_33 : decode cX5_pairWithin 33 = .ok (.invokevirtual 102, 3) := by decide +kernel
theorem dX5_pairWithin_36 : decode cX5_pairWithin 36 = .ok (.aload_n 0, 1) := by decide +kernel
theorem dX5_pairWithin_37 : decode cX5_pairWithin 37 = .ok (.iload_n 1, 1) := by decide +kernel
theorem dX5_pairWithin_38 : decode cX5_pairWithin 38 = .ok (.invokevirtual 102, 3) := by decide +kernel
theorem dX5_pairWithin_41 : decode cX5_pairWithin 41 = .ok (.iconst 1, 1) := by decide +kernel
theorem dX5_pairWithin_42 : decode cX5_pairWithin 42 = .ok (.iadd, 1) := by decide +kernel
theorem dX5_pairWithin_43 : decode cX5_pairWithin 43 = .ok (.if_icmp .ne 13, 3) := by decide +kernel
theorem dX5_pairWithin_46 : decode cX5_pairWithin 46 = .ok (.iload_n 3, 1) := by decide +kernel
theorem dX5_pairWithin_47 : decode cX5_pairWithin 47 = .ok (.ifCond .ne 6, 3) := by decide +kernel
theorem dX5_pairWithin_50 : decode cX5_pairWithin 50 = .ok (.iload 4, 2) := by decide +kernel
theorem dX5_pairWithin_52 : decode cX5_pairWithin 52 = .ok (.ireturn, 1) := by decide +kernel
theorem dX5_pairWithin_53 : decode cX5_pairWithin 53 = .ok (.iinc 3 (-1), 3) := by decide +kernel
theorem dX5_pairWithin_56 : decode cX5_pairWithin 56 = .ok (.iinc 4 1, 3) := by decide +kernel
theorem dX5_pairWithin_59 : decode cX5_pairWithin 59 = .ok (.goto (-52), 3) := by decide +kernel
theorem dX5_pairWithin_62 : decode cX5_pairWithin 62 = .ok (.iconst (-1), 1) := by decide +kernel
theorem dX5_pairWithin_63 : decode cX5_pairWithin 63 = .ok (.ireturn, 1) := by decide +kernel
theorem dX5_pairBehind_0 : decode cX5_pairBehind 0 = .ok (.aload_n 0, 1) := by decide +kernel
theorem dX5_pairBehind_1 : decode cX5_pairBehind 1 = .ok (.iload_n 1, 1) := by decide +kernel
theorem dX5_pairBehind_2 : decode cX5_pairBehind 2 = .ok (.invokevirtual 102, 3) := by decide +kernel
theorem dX5_pairBehind_5 : decode cX5_pairBehind 5 = .ok (.istore_n 2, 1) := by decide +kernel
theorem dX5_pairBehind_6 : decode cX5_pairBehind 6 = .ok (.aload_n 0, 1) := by decide +kernel
theorem dX5_pairBehind_7 : decode cX5_pairBehind 7 = .ok (.iload_n 1, 1) := by decide +kernel
theorem dX5_pairBehind_8 : decode cX5_pairBehind 8 = .ok (.invokevirtual 99, 3) := by decide +kernel
theorem dX5_pairBehind_11 : decode cX5_pairBehind 11 = .ok (.iconst 1, 1) := by decide +kernel
theorem dX5_pairBehind_12 : decode cX5_pairBehind 12 = .ok (.iadd, 1) := by decide +kernel
theorem dX5_pairBehind_13 : decode cX5_pairBehind 13 = .ok (.istore_n 3, 1) := by decide +kernel
theorem dX5_pairBehind_14 : decode cX5_pairBehind 14 = .ok (.iload_n 3, 1) := by decide +kernel
theorem dX5_pairBehind_15 : decode cX5_pairBehind 15 = .ok (.aload_n 0, 1) := by decide +kernel
theorem dX5_pairBehind_16 : decode cX5_pairBehind 16 = .ok (.getfield 27, 3) := by decide +kernel
theorem dX5_pairBehind_19 : decode cX5_pairBehind 19 = .ok (.if_icmp .ge 37, 3) := by decide +kernel
theorem dX5_pairBehind_22 : decode cX5_pairBehind 22 = .ok (.aload_n 0, 1) := by decide +kernel
theorem dX5_pairBehind_23 : decode cX5_pairBehind 23 = .ok (.iload_n 3, 1) := by decide +kernel
theorem dX5_pairBehind_24 : decode cX5_pairBehind 24 = .ok (.invokevirtual 102, 3) := by decide +kernel
theorem dX5_pairBehind_27 : decode cX5_pairBehind 27 = .ok (.iload_n 2, 1) := by decide +kernel
theorem dX5_pairBehind_28 : decode cX5_pairBehind 28 = .ok (.if_icmp .lt 28, 3) := by decide +kernel
theorem dX5_pairBehind_31 : decode cX5_pairBehind 31 = .ok (.aload_n 0, 1) := by decide +kernel
theorem dX5_pairBehind_32 : decode cX5_pairBehind 32 = .ok (.iload_n 3, 1) := by decide +kernel
theorem dX5_pairBehind_33 : decode cX5_pairBehind 33 = .ok (.invokevirtual 93, 3) := by decide +kernel
theorem dX5_pairBehind_36 : decode cX5_pairBehind 36 = .ok (.ifCond .eq 14, 3) := by decide +kernel
theorem dX5_pairBehind_39 : decode cX5_pairBehind 39 = .ok (.aload_n 0, 1) := by decide +kernel
theorem dX5_pairBehind_40 : decode cX5_pairBehind 40 = .ok (.iload_n 3, 1) := by decide +kernel
theorem dX5_pairBehind_41 : decode cX5_pairBehind 41 = .ok (.invokevirtual 102, 3) := by decide +kernel
theorem dX5_pairBehind_44 : decode cX5_pairBehind 44 = .ok (.iload_n 2, 1) := by decide +kernel
theorem dX5_pairBehind_45 : decode cX5_pairBehind 45 = .ok (.if_icmp .ne 5, 3) := by decide +kernel
theorem dX5_pairBehind_48 : decode cX5_pairBehind 48 = .ok (.iload_n 3, 1) := by decide +kernel
theorem dX5_pairBehind_49 : decode cX5_pairBehind 49 = .ok (.ireturn, 1) := by decide +kernel
theorem dX5_pairBehind_50 : decode cX5_pairBehind 50 = .ok (.iinc 3 1, 3) := by decide +kernel
theorem dX5_pairBehind_53 : decode cX5_pairBehind 53 = .ok (.goto (-39), 3) := by decide +kernel
theorem dX5_pairBehind_56 : decode cX5_pairBehind 56 = .ok (.iconst (-1), 1) := by decide +kernel
theorem dX5_pairBehind_57 : decode cX5_pairBehind 57 = .ok (.ireturn, 1) := by decide +kernel
theorem dX5_pairAhead_0 : decode cX5_pairAhead 0 = .ok (.aload_n 0, 1) := by decide +kernel
theorem dX5_pairAhead_1 : decode cX5_pairAhead 1 = .ok (.iload_n 1, 1) := by decide +kernel
theorem dX5_pairAhead_2 : decode cX5_pairAhead 2 = .ok (.invokevirtual 102, 3) := by decide +kernel
theorem dX5_pairAhead_5 : decode cX5_pairAhead 5 = .ok (.istore_n 2, 1) := by decide +kernel
theorem dX5_pairAhead_6 : decode cX5_pairAhead 6 = .ok (.iload_n 1, 1) := by decide +kernel
theorem dX5_pairAhead_7 : decode cX5_pairAhead 7 = .ok (.iconst 1, 1) := by decide +kernel
theorem dX5_pairAhead_8 : decode cX5_pairAhead 8 = .ok (.isub, 1) := by decide +kernel
theorem dX5_pairAhead_9 : decode cX5_pairAhead 9 = .ok (.istore_n 3, 1) := by decide +kernel
theorem dX5_pairAhead_10 : decode cX5_pairAhead 10 = .ok (.iload_n 3, 1) := by decide +kernel
theorem dX5_pairAhead_11 : decode cX5_pairAhead 11 = .ok (.ifCond .lt 37, 3) := by decide +kernel
theorem dX5_pairAhead_14 : decode cX5_pairAhead 14 = .ok (.aload_n 0, 1) := by decide +kernel
theorem dX5_pairAhead_15 : decode cX5_pairAhead 15 = .ok (.iload_n 3, 1) := by decide +kernel
theorem dX5_pairAhead_16 : decode cX5_pairAhead 16 = .ok (.invokevirtual 102, 3) := by decide +kernel
theorem dX5_pairAhead_19 : decode cX5_pairAhead 19 = .ok (.iload_n 2, 1) := by decide +kernel
theorem dX5_pairAhead_20 : decode cX5_pairAhead 20 = .ok (.if_icmp .lt 28, 3) := by decide +kernel
theorem dX5_pairAhead_23 : decode cX5_pairAhead 23 = .ok (.aload_n 0, 1) := by decide +kernel
theorem dX5_pairAhead_24 : decode cX5_pairAhead 24 = .ok (.iload_n 3, 1) := by decide +kernel
theorem dX5_pairAhead_25 : decode cX5_pairAhead 25 = .ok (.invokevirtual 93, 3) := by decide +kernel
theorem dX5_pairAhead_28 : decode cX5_pairAhead 28 = .ok (.ifCond .eq 14, 3) := by decide +kernel
theorem dX5_pairAhead_31 : decode cX5_pairAhead 31 = .ok (.aload_n 0, 1) := by decide +kernel
theorem dX5_pairAhead_32 : decode cX5_pairAhead 32 = .ok (.iload_n 3, 1) := by decide +kernel
theorem dX5_pairAhead_33 : decode cX5_pairAhead 33 = .ok (.invokevirtual 102, 3) := by decide +kernel
theorem dX5_pairAhead_36 : decode cX5_pairAhead 36 = .ok (.iload_n 2, 1) := by decide +kernel
theorem dX5_pairAhead_37 : decode cX5_pairAhead 37 = .ok (.if_icmp .ne 5, 3) := by decide +kernel
theorem dX5_pairAhead_40 : decode cX5_pairAhead 40 = .ok (.iload_n 3, 1) := by decide +kernel
theorem dX5_pairAhead_41 : decode cX5_pairAhead 41 = .ok (.ireturn, 1) := by decide +kernel
theorem dX5_pairAhead_42 : decode cX5_pairAhead 42 = .ok (.iinc 3 (-1), 3) := by decide +kernel
theorem dX5_pairAhead_45 : decode cX5_pairAhead 45 = .ok (.goto (-35), 3) := by decide +kernel
theorem dX5_pairAhead_48 : decode cX5_pairAhead 48 = .ok (.iconst (-1), 1) := by decide +kernel
theorem dX5_pairAhead_49 : decode cX5_pairAhead 49 = .ok (.ireturn, 1) := by decide +kernel
theorem dX5_loneAt_0 : decode cX5_loneAt 0 = .ok (.iload_n 1, 1) := by decide +kernel
theorem dX5_loneAt_1 : decode cX5_loneAt 1 = .ok (.istore_n 2, 1) := by decide +kernel
theorem dX5_loneAt_2 : decode cX5_loneAt 2 = .ok (.iconst 0, 1) := by decide +kernel
theorem dX5_loneAt_3 : decode cX5_loneAt 3 = .ok (.istore_n 3, 1) := by decide +kernel
theorem dX5_loneAt_4 : decode cX5_loneAt 4 = .ok (.iload_n 3, 1) := by decide +kernel
theorem dX5_loneAt_5 : decode cX5_loneAt 5 = .ok (.aload_n 0, 1) := by decide +kernel
theorem dX5_loneAt_6 : decode cX5_loneAt 6 = .ok (.getfield 27, 3) := by decide +kernel
theorem dX5_loneAt_9 : decode cX5_loneAt 9 = .ok (.if_icmp .ge 40, 3) := by decide +kernel
theorem dX5_loneAt_12 : decode cX5_loneAt 12 = .ok (.iload_n 2, 1) := by decide +kernel
theorem dX5_loneAt_13 : decode cX5_loneAt 13 = .ok (.ifCond .lt 36, 3) := by decide +kernel
theorem dX5_loneAt_16 : decode cX5_loneAt 16 = .ok (.aload_n 0, 1) := by decide +kernel
theorem dX5_loneAt_17 : decode cX5_loneAt 17 = .ok (.iload_n 3, 1) := by decide +kernel
theorem dX5_loneAt_18 : decode cX5_loneAt 18 = .ok (.invokevirtual 86, 3) := by decide +kernel
theorem dX5_loneAt_21 : decode cX5_loneAt 21 = .ok (.iconst (-1), 1) := by decide +kernel
theorem dX5_loneAt_22 : decode cX5_loneAt 22 = .ok (.if_icmp .eq 21, 3) := by decide +kernel
theorem dX5_loneAt_25 : decode cX5_loneAt 25 = .ok (.aload_n 0, 1) := by decide +kernel
theorem dX5_loneAt_26 : decode cX5_loneAt 26 = .ok (.iload_n 3, 1) := by decide +kernel
theorem dX5_loneAt_27 : decode cX5_loneAt 27 = .ok (.invokevirtual 99, 3) := by decide +kernel
theorem dX5_loneAt_30 : decode cX5_loneAt 30 = .ok (.iconst (-1), 1) := by decide +kernel
theorem dX5_loneAt_31 : decode cX5_loneAt 31 = .ok (.if_icmp .ne 12, 3) := by decide +kernel
theorem dX5_loneAt_34 : decode cX5_loneAt 34 = .ok (.iload_n 2, 1) := by decide +kernel
theorem dX5_loneAt_35 : decode cX5_loneAt 35 = .ok (.ifCond .ne 5, 3) := by decide +kernel
theorem dX5_loneAt_38 : decode cX5_loneAt 38 = .ok (.iload_n 3, 1) := by decide +kernel
theorem dX5_loneAt_39 : decode cX5_loneAt 39 = .ok (.ireturn, 1) := by decide +kernel
theorem dX5_loneAt_40 : decode cX5_loneAt 40 = .ok (.iinc 2 (-1), 3) := by decide +kernel
theorem dX5_loneAt_43 : decode cX5_loneAt 43 = .ok (.iinc 3 1, 3) := by decide +kernel
theorem dX5_loneAt_46 : decode cX5_loneAt 46 = .ok (.goto (-42), 3) := by decide +kernel
theorem dX5_loneAt_49 : decode cX5_loneAt 49 = .ok (.iconst (-1), 1) := by decide +kernel
theorem dX5_loneAt_50 : decode cX5_loneAt 50 = .ok (.ireturn, 1) := by decide +kernel
theorem dX5_bracketsOf_0 : decode cX5_bracketsOf 0 = .ok (.iconst 0, 1) := by decide +kernel
theorem dX5_bracketsOf_1 : decode cX5_bracketsOf 1 = .ok (.istore_n 3, 1) := by decide +kernel
theorem dX5_bracketsOf_2 : decode cX5_bracketsOf 2 = .ok (.iconst 0, 1) := by decide +kernel
theorem dX5_bracketsOf_3 : decode cX5_bracketsOf 3 = .ok (.istore 4, 2) := by decide +kernel
theorem dX5_bracketsOf_5 : decode cX5_bracketsOf 5 = .ok (.iload 4, 2) := by decide +kernel
theorem dX5_bracketsOf_7 : decode cX5_bracketsOf 7 = .ok (.aload_n 0, 1) := by decide +kernel
theorem dX5_bracketsOf_8 : decode cX5_bracketsOf 8 = .ok (.getfield 27, 3) := by decide +kernel
theorem dX5_bracketsOf_11 : decode cX5_bracketsOf 11 = .ok (.if_icmp .ge 36, 3) := by decide +kernel
theorem dX5_bracketsOf_14 : decode cX5_bracketsOf 14 = .ok (.aload_n 0, 1) := by decide +kernel
theorem dX5_bracketsOf_15 : decode cX5_bracketsOf 15 = .ok (.iload 4, 2) := by decide +kernel
theorem dX5_bracketsOf_17 : decode cX5_bracketsOf 17 = .ok (.invokevirtual 86, 3) := by decide +kernel
theorem dX5_bracketsOf_20 : decode cX5_bracketsOf 20 = .ok (.iload_n 1, 1) := by decide +kernel
theorem dX5_bracketsOf_21 : decode cX5_bracketsOf 21 = .ok (.if_icmp .ne 20, 3) := by decide +kernel
theorem dX5_bracketsOf_24 : decode cX5_bracketsOf 24 = .ok (.iload_n 2, 1) := by decide +kernel
theorem dX5_bracketsOf_25 : decode cX5_bracketsOf 25 = .ok (.ifCond .eq 13, 3) := by decide +kernel
theorem dX5_bracketsOf_28 : decode cX5_bracketsOf 28 = .ok (.aload_n 0, 1) := by decide +kernel
theorem dX5_bracketsOf_29 : decode cX5_bracketsOf 29 = .ok (.iload 4, 2) := by decide +kernel
theorem dX5_bracketsOf_31 : decode cX5_bracketsOf 31 = .ok (.invokevirtual 99, 3) := by decide +kernel
theorem dX5_bracketsOf_34 : decode cX5_bracketsOf 34 = .ok (.iconst (-1), 1) := by decide +kernel
theorem dX5_bracketsOf_35 : decode cX5_bracketsOf 35 = .ok (.if_icmp .eq 6, 3) := by decide +kernel
theorem dX5_bracketsOf_38 : decode cX5_bracketsOf 38 = .ok (.iinc 3 1, 3) := by decide +kernel
theorem dX5_bracketsOf_41 : decode cX5_bracketsOf 41 = .ok (.iinc 4 1, 3) := by decide +kernel
theorem dX5_bracketsOf_44 : decode cX5_bracketsOf 44 = .ok (.goto (-39), 3) := by decide +kernel
theorem dX5_bracketsOf_47 : decode cX5_bracketsOf 47 = .ok (.iload_n 3, 1) := by decide +kernel
theorem dX5_bracketsOf_48 : decode cX5_bracketsOf 48 = .ok (.ireturn, 1) := by decide +kernel
theorem dX5_widestPair_0 : decode cX5_widestPair 0 = .ok (.iconst (-1), 1) := by decide +kernel
theorem dX5_widestPair_1 : decode cX5_widestPair 1 = .ok (.istore_n 1, 1) := by decide +kernel
theorem dX5_widestPair_2 : decode cX5_widestPair 2 = .ok (.iconst 0, 1) := by decide +kernel
theorem dX5_widestPair_3 : decode cX5_widestPair 3 = .ok (.istore_n 2, 1) := by decide +kernel
theorem dX5_widestPair_4 : decode cX5_widestPair 4 = .ok (.iconst 0, 1) := by decide +kernel
theorem dX5_widestPair_5 : decode cX5_widestPair 5 = .ok (.istore_n 3, 1) := by decide +kernel
theorem dX5_widestPair_6 : decode cX5_widestPair 6 = .ok (.iload_n 3, 1) := by decide +kernel
theorem dX5_widestPair_7 : decode cX5_widestPair 7 = .ok (.aload_n 0, 1) := by decide +kernel
theorem dX5_widestPair_8 : decode cX5_widestPair 8 = .ok (.getfield 27, 3) := by decide +kernel
theorem dX5_widestPair_11 : decode cX5_widestPair 11 = .ok (.if_icmp .ge 30, 3) := by decide +kernel
theorem dX5_widestPair_14 : decode cX5_widestPair 14 = .ok (.aload_n 0, 1) := by decide +kernel
theorem dX5_widestPair_15 : decode cX5_widestPair 15 = .ok (.iload_n 3, 1) := by decide +kernel
theorem dX5_widestPair_16 : decode cX5_widestPair 16 = .ok (.invokevirtual 99, 3) := by decide +kernel
theorem dX5_widestPair_19 : decode cX5_widestPair 19 = .ok (.iload_n 3, 1) := by decide +kernel
theorem dX5_widestPair_20 : decode cX5_widestPair 20 = .ok (.isub, 1) := by decide +kernel
theorem dX5_widestPair_21 : decode cX5_widestPair 21 = .ok (.iload_n 2, 1) := by decide +kernel
theorem dX5_widestPair_22 : decode cX5_widestPair 22 = .ok (.if_icmp .le 13, 3) := by decide +kernel
theorem dX5_widestPair_25 : decode cX5_widestPair 25 = .ok (.iload_n 3, 1) := by decide +kernel
theorem dX5_widestPair_26 : decode cX5_widestPair 26 = .ok (.istore_n 1, 1) := by decide +kernel
theorem dX5_widestPair_27 : decode cX5_widestPair 27 = .ok (.aload_n 0, 1) := by decide +kernel
theorem dX5_widestPair_28 : decode cX5_widestPair 28 = .ok (.iload_n 3, 1) := by decide +kernel
theorem dX5_widestPair_29 : decode cX5_widestPair 29 = .ok (.invokevirtual 99, 3) := by decide +kernel
theorem dX5_widestPair_32 : decode cX5_widestPair 32 = .ok (.iload_n 3, 1) := by decide +kernel
theorem dX5_widestPair_33 : decode cX5_widestPair 33 = .ok (.isub, 1) := by decide +kernel
theorem dX5_widestPair_34 : decode cX5_widestPair 34 = .ok (.istore_n 2, 1) := by decide +kernel
theorem dX5_widestPair_35 : decode cX5_widestPair 35 = .ok (.iinc 3 1, 3) := by decide +kernel
theorem dX5_widestPair_38 : decode cX5_widestPair 38 = .ok (.goto (-32), 3) := by decide +kernel
theorem dX5_widestPair_41 : decode cX5_widestPair 41 = .ok (.iload_n 1, 1) := by decide +kernel
theorem dX5_widestPair_42 : decode cX5_widestPair 42 = .ok (.ireturn, 1) := by decide +kernel
theorem dX5_depthSum_0 : decode cX5_depthSum 0 = .ok (.iconst 0, 1) := by decide +kernel
theorem dX5_depthSum_1 : decode cX5_depthSum 1 = .ok (.istore_n 1, 1) := by decide +kernel
theorem dX5_depthSum_2 : decode cX5_depthSum 2 = .ok (.iconst 0, 1) := by decide +kernel
theorem dX5_depthSum_3 : decode cX5_depthSum 3 = .ok (.istore_n 2, 1) := by decide +kernel
theorem dX5_depthSum_4 : decode cX5_depthSum 4 = .ok (.iload_n 2, 1) := by decide +kernel
theorem dX5_depthSum_5 : decode cX5_depthSum 5 = .ok (.aload_n 0, 1) := by decide +kernel
theorem dX5_depthSum_6 : decode cX5_depthSum 6 = .ok (.getfield 27, 3) := by decide +kernel
theorem dX5_depthSum_9 : decode cX5_depthSum 9 = .ok (.if_icmp .ge 25, 3) := by decide +kernel
theorem dX5_depthSum_12 : decode cX5_depthSum 12 = .ok (.aload_n 0, 1) := by decide +kernel
theorem dX5_depthSum_13 : decode cX5_depthSum 13 = .ok (.iload_n 2, 1) := by decide +kernel
theorem dX5_depthSum_14 : decode cX5_depthSum 14 = .ok (.invokevirtual 93, 3) := by decide +kernel
theorem dX5_depthSum_17 : decode cX5_depthSum 17 = .ok (.ifCond .eq 11, 3) := by decide +kernel
theorem dX5_depthSum_20 : decode cX5_depthSum 20 = .ok (.iload_n 1, 1) := by decide +kernel
theorem dX5_depthSum_21 : decode cX5_depthSum 21 = .ok (.aload_n 0, 1) := by decide +kernel
theorem dX5_depthSum_22 : decode cX5_depthSum 22 = .ok (.iload_n 2, 1) := by decide +kernel
theorem dX5_depthSum_23 : decode cX5_depthSum 23 = .ok (.invokevirtual 102, 3) := by decide +kernel
theorem dX5_depthSum_26 : decode cX5_depthSum 26 = .ok (.iadd, 1) := by decide +kernel
theorem dX5_depthSum_27 : decode cX5_depthSum 27 = .ok (.istore_n 1, 1) := by decide +kernel
theorem dX5_depthSum_28 : decode cX5_depthSum 28 = .ok (.iinc 2 1, 3) := by decide +kernel
theorem dX5_depthSum_31 : decode cX5_depthSum 31 = .ok (.goto (-27), 3) := by decide +kernel
theorem dX5_depthSum_34 : decode cX5_depthSum 34 = .ok (.iload_n 1, 1) := by decide +kernel
theorem dX5_depthSum_35 : decode cX5_depthSum 35 = .ok (.ireturn, 1) := by decide +kernel
theorem dX6_init_0 : decode cX6_init 0 = .ok (.aload_n 0, 1) := by decide +kernel
theorem dX6_init_1 : decode cX6_init 1 = .ok (.invokespecial 3, 3) := by decide +kernel
theorem dX6_init_4 : decode cX6_init 4 = .ok (.aload_n 0, 1) := by decide +kernel
theorem dX6_init_5 : decode cX6_init 5 = .ok (.new 9, 3) := by decide +kernel
theorem dX6_init_8 : decode cX6_init 8 = .ok (.dup, 1) := by decide +kernel
theorem dX6_init_9 : decode cX6_init 9 = .ok (.invokespecial 11, 3) := by decide +kernel
theorem dX6_init_12 : decode cX6_init 12 = .ok (.putfield 12, 3) := by decide +kernel
theorem dX6_init_15 : decode cX6_init 15 = .ok (.aload_n 0, 1) := by decide +kernel
theorem dX6_init_16 : decode cX6_init 16 = .ok (.iconst 0, 1) := by decide +kernel
theorem dX6_init_17 : decode cX6_init 17 = .ok (.putfield 18, 3) := by decide +kernel
theorem dX6_init_20 : decode cX6_init 20 = .ok (.aload_n 0, 1) := by decide +kernel
theorem dX6_init_21 : decode cX6_init 21 = .ok (.iconst 0, 1) := by decide +kernel
theorem dX6_init_22 : decode cX6_init 22 = .ok (.putfield 22, 3) := by decide +kernel
theorem dX6_init_25 : decode cX6_init 25 = .ok (.aload_n 0, 1) := by decide +kernel
theorem dX6_init_26 : decode cX6_init 26 = .ok (.iconst 0, 1) := by decide +kernel
theorem dX6_init_27 : decode cX6_init 27 = .ok (.putfield 25, 3) := by decide +kernel
theorem dX6_init_30 : decode cX6_init 30 = .ok (.aload_n 0, 1) := by decide +kernel
theorem dX6_init_31 : decode cX6_init 31 = .ok (.iconst 0, 1) := by decide +kernel
theorem dX6_init_32 : decode cX6_init 32 = .ok (.putfield 28, 3) := by decide +kernel
theorem dX6_init_35 : decode cX6_init 35 = .ok (.aload_n 0, 1) := by decide +kernel
theorem dX6_init_36 : decode cX6_init 36 = .ok (.iconst 0, 1) := by decide +kernel
theorem dX6_init_37 : decode cX6_init 37 = .ok (.putfield 31, 3) := by decide +kernel
theorem dX6_init_40 : decode cX6_init 40 = .ok (.aload_n 0, 1) := by decide +kernel
theorem dX6_init_41 : decode cX6_init 41 = .ok (.iconst 0, 1) := by decide +kernel
theorem dX6_init_42 : decode cX6_init 42 = .ok (.putfield 35, 3) := by decide +kernel
theorem dX6_init_45 : decode cX6_init 45 = .ok (.return_, 1) := by decide +kernel
theorem dX6_parse_0 : decode cX6_parse 0 = .ok (.aload_n 0, 1) := by decide +kernel
theorem dX6_parse_1 : decode cX6_parse 1 = .ok (.invokevirtual 38, 3) := by decide +kernel
theorem dX6_parse_4 : decode cX6_parse 4 = .ok (.aload_n 1, 1) := by decide +kernel
theorem dX6_parse_5 : decode cX6_parse 5 = .ok (.ldc 41, 2) := by decide +kernel
theorem dX6_parse_7 : decode cX6_parse 7 = .ok (.invokevirtual 43, 3) := by decide +kernel
theorem dX6_parse_10 : decode cX6_parse 10 = .ok (.ifCond .ne 5, 3) := by decide +kernel
theorem dX6_parse_13 : decode cX6_parse 13 = .ok (.iconst 1, 1) := by decide +kernel
theorem dX6_parse_14 : decode cX6_parse 14 = .ok (.ireturn, 1) := by decide +kernel
theorem dX6_parse_15 : decode cX6_parse 15 = .ok (.aload_n 1, 1) := by decide +kernel
theorem dX6_parse_16 : decode cX6_parse 16 = .ok (.invokevirtual 49, 3) := by decide +kernel
theorem dX6_parse_19 : decode cX6_parse 19 = .ok (.aload_n 0, 1) := by decide +kernel
theorem dX6_parse_20 : decode cX6_parse 20 = .ok (.aload_n 1, 1) := by decide +kernel
theorem dX6_parse_21 : decode cX6_parse 21 = .ok (.invokevirtual 52, 3) := by decide +kernel
theorem dX6_parse_24 : decode cX6_parse 24 = .ok (.istore_n 2, 1) := by decide +kernel
theorem dX6_parse_25 : decode cX6_parse 25 = .ok (.iconst 0, 1) := by decide +kernel
theorem dX6_parse_26 : decode cX6_parse 26 = .ok (.istore_n 3, 1) := by decide +kernel
theorem dX6_parse_27 : decode cX6_parse 27 = .ok (.iload_n 3, 1) := by decide +kernel
theorem dX6_parse_28 : decode cX6_parse 28 = .ok (.sipush 600, 3) := by decide +kernel
theorem dX6_parse_31 : decode cX6_parse 31 = .ok (.if_icmp .ge 26, 3) := by decide +kernel
theorem dX6_parse_34 : decode cX6_parse 34 = .ok (.iload_n 2, 1) := by decide +kernel
theorem dX6_parse_35 : decode cX6_parse 35 = .ok (.ifCond .ne 22, 3) := by decide +kernel
theorem dX6_parse_38 : decode cX6_parse 38 = .ok (.aload_n 1, 1) := by decide +kernel
theorem dX6_parse_39 : decode cX6_parse 39 = .ok (.invokevirtual 56, 3) := by decide +kernel
theorem dX6_parse_42 : decode cX6_parse 42 = .ok (.ifCond .ne 15, 3) := by decide +kernel
theorem dX6_parse_45 : decode cX6_parse 45 = .ok (.aload_n 0, 1) := by decide +kernel
theorem dX6_parse_46 : decode cX6_parse 46 = .ok (.aload_n 1, 1) := by decide +kernel
theorem dX6_parse_47 : decode cX6_parse 47 = .ok (.invokevirtual 60, 3) := by decide +kernel
theorem dX6_parse_50 : decode cX6_parse 50 = .ok (.istore_n 2, 1) := by decide +kernel
theorem dX6_parse_51 : decode cX6_parse 51 = .ok (.iinc 3 1, 3) := by decide +kernel
theorem dX6_parse_54 : decode cX6_parse 54 = .ok (.goto (-27), 3) := by decide +kernel
theorem dX6_parse_57 : decode cX6_parse 57 = .ok (.iload_n 2, 1) := by decide +kernel
theorem dX6_parse_58 : decode cX6_parse 58 = .ok (.ireturn, 1) := by decide +kernel
theorem dX6_startOver_0 : decode cX6_startOver 0 = .ok (.aload_n 0, 1) := by decide +kernel
theorem dX6_startOver_1 : decode cX6_startOver 1 = .ok (.getfield 12, 3) := by decide +kernel
theorem dX6_startOver_4 : decode cX6_startOver 4 = .ok (.invokevirtual 63, 3) := by decide +kernel
theorem dX6_startOver_7 : decode cX6_startOver 7 = .ok (.aload_n 0, 1) := by decide +kernel
theorem dX6_startOver_8 : decode cX6_startOver 8 = .ok (.iconst 3, 1) := by decide +kernel
theorem dX6_startOver_9 : decode cX6_startOver 9 = .ok (.putfield 18, 3) := by decide +kernel
theorem dX6_startOver_12 : decode cX6_startOver 12 = .ok (.aload_n 0, 1) := by decide +kernel
theorem dX6_startOver_13 : decode cX6_startOver 13 = .ok (.iconst 2, 1) := by decide +kernel
theorem dX6_startOver_14 : decode cX6_startOver 14 = .ok (.putfield 22, 3) := by decide +kernel
theorem dX6_startOver_17 : decode cX6_startOver 17 = .ok (.aload_n 0, 1) := by decide +kernel
theorem dX6_startOver_18 : decode cX6_startOver 18 = .ok (.iconst 3, 1) := by decide +kernel
theorem dX6_startOver_19 : decode cX6_startOver 19 = .ok (.putfield 25, 3) := by decide +kernel
theorem dX6_startOver_22 : decode cX6_startOver 22 = .ok (.aload_n 0, 1) := by decide +kernel
theorem dX6_startOver_23 : decode cX6_startOver 23 = .ok (.iconst 4, 1) := by decide +kernel
theorem dX6_startOver_24 : decode cX6_startOver 24 = .ok (.putfield 28, 3) := by decide +kernel
theorem dX6_startOver_27 : decode cX6_startOver 27 = .ok (.aload_n 0, 1) := by decide +kernel
theorem dX6_startOver_28 : decode cX6_startOver 28 = .ok (.iconst 0, 1) := by decide +kernel
theorem dX6_startOver_29 : decode cX6_startOver 29 = .ok (.putfield 31, 3) := by decide +kernel
theorem dX6_startOver_32 : decode cX6_startOver 32 = .ok (.aload_n 0, 1) := by decide +kernel
theorem dX6_startOver_33 : decode cX6_startOver 33 = .ok (.iconst 0, 1) := by decide +kernel
theorem dX6_startOver_34 : decode cX6_startOver 34 = .ok (.putfield 35, 3) := by decide +kernel
theorem dX6_startOver_37 : decode cX6_startOver 37 = .ok (.return_, 1) := by decide +kernel
theorem dX6_parseKinds_0 : decode cX6_parseKinds 0 = .ok (.aload_n 1, 1) := by decide +kernel
theorem dX6_parseKinds_1 : decode cX6_parseKinds 1 = .ok (.iconst 2, 1) := by decide +kernel
theorem dX6_parseKinds_2 : decode cX6_parseKinds 2 = .ok (.invokevirtual 68, 3) := by decide +kernel
theorem dX6_parseKinds_5 : decode cX6_parseKinds 5 = .ok (.ifCond .ne 5, 3) := by decide +kernel
theorem dX6_parseKinds_8 : decode cX6_parseKinds 8 = .ok (.iconst 1, 1) := by decide +kernel
theorem dX6_parseKinds_9 : decode cX6_parseKinds 9 = .ok (.ireturn, 1) := by decide +kernel
theorem dX6_parseKinds_10 : decode cX6_parseKinds 10 = .ok (.iconst 0, 1) := by decide +kernel
theorem dX6_parseKinds_11 : decode cX6_parseKinds 11 = .ok (.istore_n 2, 1) := by decide +kernel
theorem dX6_parseKinds_12 : decode cX6_parseKinds 12 = .ok (.iload_n 2, 1) := by decide +kernel
theorem dX6_parseKinds_13 : decode cX6_parseKinds 13 = .ok (.iconst 4, 1) := by decide +kernel
theorem dX6_parseKinds_14 : decode cX6_parseKinds 14 = .ok (.if_icmp .gt 45, 3) := by decide +kernel
theorem dX6_parseKinds_17 : decode cX6_parseKinds 17 = .ok (.aload_n 1, 1) := by decide +kernel
theorem dX6_parseKinds_18 : decode cX6_parseKinds 18 = .ok (.iconst 2, 1) := by decide +kernel
theorem dX6_parseKinds_19 : decode cX6_parseKinds 19 = .ok (.invokevirtual 68, 3) := by decide +kernel
theorem dX6_parseKinds_22 : decode cX6_parseKinds 22 = .ok (.ifCond .eq 37, 3) := by decide +kernel
theorem dX6_parseKinds_25 : decode cX6_parseKinds 25 = .ok (.aload_n 0, 1) := by decide +kernel
theorem dX6_parseKinds_26 : decode cX6_parseKinds 26 = .ok (.getfield 12, 3) := by decide +kernel
theorem dX6_parseKinds_29 : decode cX6_parseKinds 29 = .ok (.aload_n 1, 1) := by decide +kernel
theorem dX6_parseKinds_30 : decode cX6_parseKinds 30 = .ok (.iconst 0, 1) := by decide +kernel
theorem dX6_parseKinds_31 : decode cX6_parseKinds 31 = .ok (.invokevirtual 72, 3) := by decide +kernel
theorem dX6_parseKinds_34 : decode cX6_parseKinds 34 = .ok (.aload_n 1, 1) := by decide +kernel
theorem dX6_parseKinds_35 : decode cX6_parseKinds 35 = .ok (.iconst 1, 1) := by decide +kernel
theorem dX6_parseKinds_36 : decode cX6_parseKinds 36 = .ok (.invokevirtual 72, 3) := by decide +kernel
theorem dX6_parseKinds_39 : decode cX6_parseKinds 39 = .ok (.invokevirtual 76, 3) := by decide +kernel
theorem dX6_parseKinds_42 : decode cX6_parseKinds 42 = .ok (.istore_n 3, 1) := by decide +kernel
theorem dX6_parseKinds_43 : decode cX6_parseKinds 43 = .ok (.iload_n 3, 1) := by decide +kernel
theorem dX6_parseKinds_44 : decode cX6_parseKinds 44 = .ok (.ifCond .eq 5, 3) := by decide +kernel
theorem dX6_parseKinds_47 : decode cX6_parseKinds 47 = .ok (.iload_n 3, 1) := by decide +kernel
theorem dX6_parseKinds_48 : decode cX6_parseKinds 48 = .ok (.ireturn, 1) := by decide +kernel
theorem dX6_parseKinds_49 : decode cX6_parseKinds 49 = .ok (.aload_n 1, 1) := by decide +kernel
theorem dX6_parseKinds_50 : decode cX6_parseKinds 50 = .ok (.invokevirtual 49, 3) := by decide +kernel
theorem dX6_parseKinds_53 : decode cX6_parseKinds 53 = .ok (.iinc 2 1, 3) := by decide +kernel
theorem dX6_parseKinds_56 : decode cX6_parseKinds 56 = .ok (.goto (-44), 3) := by decide +kernel
theorem dX6_parseKinds_59 : decode cX6_parseKinds 59 = .ok (.aload_n 1, 1) := by decide +kernel
theorem dX6_parseKinds_60 : decode cX6_parseKinds 60 = .ok (.invokevirtual 80, 3) := by decide +kernel
theorem dX6_parseKinds_63 : decode cX6_parseKinds 63 = .ok (.ireturn, 1) := by decide +kernel
theorem dX6_parseStatement_0 : decode cX6_parseStatement 0 = .ok (.iconst 1, 1) := by decide +kernel
theorem dX6_parseStatement_1 : decode cX6_parseStatement 1 = .ok (.istore_n 2, 1) := by decide +kernel
theorem dX6_parseStatement_2 : decode cX6_parseStatement 2 = .ok (.aload_n 1, 1) := by decide +kernel
theorem dX6_parseStatement_3 : decode cX6_parseStatement 3 = .ok (.ldc 84, 2) := by decide +kernel
theorem dX6_parseStatement_5 : decode cX6_parseStatement 5 = .ok (.invokevirtual 43, 3) := by decide +kernel
theorem dX6_parseStatement_8 : decode cX6_parseStatement 8 = .ok (.ifCond .eq 12, 3) := by decide +kernel
theorem dX6_parseStatement_11 : decode cX6_parseStatement 11 = .ok (.aload_n 0, 1) := by decide +kernel
theorem dX6_parseStatement_12 : decode cX6_parseStatement 12 = .ok (.aload_n 1, 1) := by decide +kernel
theorem dX6_parseStatement_13 : decode cX6_parseStatement 13 = .ok (.invokevirtual 86, 3) := by decide +kernel
theorem dX6_parseStatement_16 : decode cX6_parseStatement 16 = .ok (.istore_n 2, 1) := by decide +kernel
theorem dX6_parseStatement_17 : decode cX6_parseStatement 17 = .ok (.goto 54, 3) := by decide +kernel
theorem dX6_parseStatement_20 : decode cX6_parseStatement 20 = .ok (.aload_n 1, 1) := by decide +kernel
theorem dX6_parseStatement_21 : decode cX6_parseStatement 21 = .ok (.ldc 89, 2) := by decide +kernel
theorem dX6_parseStatement_23 : decode cX6_parseStatement 23 = .ok (.invokevirtual 43, 3) := by decide +kernel
theorem dX6_parseStatement_26 : decode cX6_parseStatement 26 = .ok (.ifCond .eq 12, 3) := by decide +kernel
theorem dX6_parseStatement_29 : decode cX6_parseStatement 29 = .ok (.aload_n 0, 1) := by decide +kernel
theorem dX6_parseStatement_30 : decode cX6_parseStatement 30 = .ok (.aload_n 1, 1) := by decide +kernel
theorem dX6_parseStatement_31 : decode cX6_parseStatement 31 = .ok (.invokevirtual 91, 3) := by decide +kernel
theorem dX6_parseStatement_34 : decode cX6_parseStatement 34 = .ok (.istore_n 2, 1) := by decide +kernel
theorem dX6_parseStatement_35 : decode cX6_parseStatement 35 = .ok (.goto 36, 3) := by decide +kernel
theorem dX6_parseStatement_38 : decode cX6_parseStatement 38 = .ok (.aload_n 1, 1) := by decide +kernel
theorem dX6_parseStatement_39 : decode cX6_parseStatement 39 = .ok (.ldc 94, 2) := by decide +kernel
theorem dX6_parseStatement_41 : decode cX6_parseStatement 41 = .ok (.invokevirtual 43, 3) := by decide +kernel
theorem dX6_parseStatement_44 : decode cX6_parseStatement 44 = .ok (.ifCond .eq 12, 3) := by decide +kernel
theorem dX6_parseStatement_47 : decode cX6_parseStatement 47 = .ok (.aload_n 0, 1) := by decide +kernel
theorem dX6_parseStatement_48 : decode cX6_parseStatement 48 = .ok (.aload_n 1, 1) := by decide +kernel
theorem dX6_parseStatement_49 : decode cX6_parseStatement 49 = .ok (.invokevirtual 95, 3) := by decide +kernel
theorem dX6_parseStatement_52 : decode cX6_parseStatement 52 = .ok (.istore_n 2, 1) := by decide +kernel
theorem dX6_parseStatement_53 : decode cX6_parseStatement 53 = .ok (.goto 18, 3) := by decide +kernel
theorem dX6_parseStatement_56 : decode cX6_parseStatement 56 = .ok (.aload_n 1, 1) := by decide +kernel
theorem dX6_parseStatement_57 : decode cX6_parseStatement 57 = .ok (.ldc 98, 2) := by decide +kernel
theorem dX6_parseStatement_59 : decode cX6_parseStatement 59 = .ok (.invokevirtual 43, 3) := by decide +kernel
theorem dX6_parseStatement_62 : decode cX6_parseStatement 62 = .ok (.ifCond .eq 9, 3) := by decide +kernel
theorem dX6_parseStatement_65 : decode cX6_parseStatement 65 = .ok (.aload_n 0, 1) := by decide +kernel
theorem dX6_parseStatement_66 : decode cX6_parseStatement 66 = .ok (.aload_n 1, 1) := by decide +kernel
theorem dX6_parseStatement_67 : decode cX6_parseStatement 67 = .ok (.invokevirtual 100, 3) := by decide +kernel
theorem dX6_parseStatement_70 : decode cX6_parseStatement 70 = .ok (.istore_n 2, 1) := by decide +kernel
theorem dX6_parseStatement_71 : decode cX6_parseStatement 71 = .ok (.iload_n 2, 1) := by decide +kernel
theorem dX6_parseStatement_72 : decode cX6_parseStatement 72 = .ok (.ifCond .ne 10, 3) := by decide +kernel
theorem dX6_parseStatement_75 : decode cX6_parseStatement 75 = .ok (.aload_n 1, 1) := by decide +kernel
theorem dX6_parseStatement_76 : decode cX6_parseStatement 76 = .ok (.invokevirtual 80, 3) := by decide +kernel
theorem dX6_parseStatement_79 : decode cX6_parseStatement 79 = .ok (.goto 4, 3) := by decide +kernel
theorem dX6_parseStatement_82 : decode cX6_parseStatement 82 = .ok (.iload_n 2, 1) := by decide +kernel
theorem dX6_parseStatement_83 : decode cX6_parseStatement 83 = .ok (.ireturn, 1) := by decide +kernel
theorem dX6_parseQuote_0 : decode cX6_parseQuote 0 = .ok (.aload_n 0, 1) := by decide +kernel
theorem dX6_parseQuote_1 : decode cX6_parseQuote 1 = .ok (.getfield 31, 3) := by decide +kernel
theorem dX6_parseQuote_4 : decode cX6_parseQuote 4 = .ok (.ifCond .eq 5, 3) := by decide +kernel
theorem dX6_parseQuote_7 : decode cX6_parseQuote 7 = .ok (.iconst 4, 1) := by decide +kernel
theorem dX6_parseQuote_8 : decode cX6_parseQuote 8 = .ok (.ireturn, 1) := by decide +kernel
theorem dX6_parseQuote_9 : decode cX6_parseQuote 9 = .ok (.aload_n 0, 1) := by decide +kernel
theorem dX6_parseQuote_10 : decode cX6_parseQuote 10 = .ok (.iconst 1, 1) := by decide +kernel
theorem dX6_parseQuote_11 : decode cX6_parseQuote 11 = .ok (.putfield 31, 3) := by decide +kernel
theorem dX6_parseQuote_14 : decode cX6_parseQuote 14 = .ok (.aload_n 1, 1) := by decide +kernel
theorem dX6_parseQuote_15 : decode cX6_parseQuote 15 = .ok (.invokevirtual 49, 3) := by decide +kernel
theorem dX6_parseQuote_18 : decode cX6_parseQuote 18 = .ok (.aload_n 0, 1) := by decide +kernel
theorem dX6_parseQuote_19 : decode cX6_parseQuote 19 = .ok (.aload_n 1, 1) := by decide +kernel
theorem dX6_parseQuote_20 : decode cX6_parseQuote 20 = .ok (.bipush 8, 2) := by decide +kernel
theorem dX6_parseQuote_22 : decode cX6_parseQuote 22 = .ok (.invokevirtual 103, 3) := by decide +kernel
theorem dX6_parseQuote_25 : decode cX6_parseQuote 25 = .ok (.istore_n 2, 1) := by decide +kernel
theorem dX6_parseQuote_26 : decode cX6_parseQuote 26 = .ok (.iload_n 2, 1) := by decide +kernel
theorem dX6_parseQuote_27 : decode cX6_parseQuote 27 = .ok (.ifCond .ne 12, 3) := by decide +kernel
theorem dX6_parseQuote_30 : decode cX6_parseQuote 30 = .ok (.aload_n 1, 1) := by decide +kernel
theorem dX6_parseQuote_31 : decode cX6_parseQuote 31 = .ok (.ldc 107, 2) := by decide +kernel
theorem dX6_parseQuote_33 : decode cX6_parseQuote 33 = .ok (.invokevirtual 43, 3) := by decide +kernel
theorem dX6_parseQuote_36 : decode cX6_parseQuote 36 = .ok (.ifCond .ne 5, 3) := by decide +kernel
theorem dX6_parseQuote_39 : decode cX6_parseQuote 39 = .ok (.iload_n 2, 1) := by decide +kernel
theorem dX6_parseQuote_40 : decode cX6_parseQuote 40 = .ok (.ireturn, 1) := by decide +kernel
theorem dX6_parseQuote_41 : decode cX6_parseQuote 41 = .ok (.aload_n 1, 1) := by decide +kernel
theorem dX6_parseQuote_42 : decode cX6_parseQuote 42 = .ok (.invokevirtual 49, 3) := by decide +kernel
theorem dX6_parseQuote_45 : decode cX6_parseQuote 45 = .ok (.aload_n 0, 1) := by decide +kernel
theorem dX6_parseQuote_46 : decode cX6_parseQuote 46 = .ok (.aload_n 1, 1) := by decide +kernel
theorem dX6_parseQuote_47 : decode cX6_parseQuote 47 = .ok (.bipush 9, 2) := by decide +kernel
theorem dX6_parseQuote_49 : decode cX6_parseQuote 49 = .ok (.invokevirtual 103, 3) := by decide +kernel
theorem dX6_parseQuote_52 : decode cX6_parseQuote 52 = .ok (.ireturn, 1) := by decide +kernel
theorem dX6_parseNote_0 : decode cX6_parseNote 0 = .ok (.aload_n 0, 1) := by decide +kernel
theorem dX6_parseNote_1 : decode cX6_parseNote 1 = .ok (.getfield 35, 3) := by decide +kernel
theorem dX6_parseNote_4 : decode cX6_parseNote 4 = .ok (.ifCond .eq 5, 3) := by decide +kernel
theorem dX6_parseNote_7 : decode cX6_parseNote 7 = .ok (.iconst 4, 1) := by decide +kernel
theorem dX6_parseNote_8 : decode cX6_parseNote 8 = .ok (.ireturn, 1) := by decide +kernel
theorem dX6_parseNote_9 : decode cX6_parseNote 9 = .ok (.aload_n 0, 1) := by decide +kernel
theorem dX6_parseNote_10 : decode cX6_parseNote 10 = .ok (.iconst 1, 1) := by decide +kernel
theorem dX6_parseNote_11 : decode cX6_parseNote 11 = .ok (.putfield 35, 3) := by decide +kernel
theorem dX6_parseNote_14 : decode cX6_parseNote 14 = .ok (.aload_n 1, 1) := by decide +kernel
theorem dX6_parseNote_15 : decode cX6_parseNote 15 = .ok (.invokevirtual 49, 3) := by decide +kernel
theorem dX6_parseNote_18 : decode cX6_parseNote 18 = .ok (.aload_n 0, 1) := by decide +kernel
theorem dX6_parseNote_19 : decode cX6_parseNote 19 = .ok (.aload_n 1, 1) := by decide +kernel
theorem dX6_parseNote_20 : decode cX6_parseNote 20 = .ok (.bipush 10, 2) := by decide +kernel
theorem dX6_parseNote_22 : decode cX6_parseNote 22 = .ok (.invokevirtual 103, 3) := by decide +kernel
theorem dX6_parseNote_25 : decode cX6_parseNote 25 = .ok (.ireturn, 1) := by decide +kernel
theorem dX6_parseSign_0 : decode cX6_parseSign 0 = .ok (.aload_n 1, 1) := by decide +kernel
theorem dX6_parseSign_1 : decode cX6_parseSign 1 = .ok (.iconst 1, 1) := by decide +kernel
theorem dX6_parseSign_2 : decode cX6_parseSign 2 = .ok (.invokevirtual 68, 3) := by decide +kernel
theorem dX6_parseSign_5 : decode cX6_parseSign 5 = .ok (.ifCond .ne 5, 3) := by decide +kernel
theorem dX6_parseSign_8 : decode cX6_parseSign 8 = .ok (.iconst 1, 1) := by decide +kernel
theorem dX6_parseSign_9 : decode cX6_parseSign 9 = .ok (.ireturn, 1) := by decide +kernel
theorem dX6_parseSign_10 : decode cX6_parseSign 10 = .ok (.aload_n 0, 1) := by decide +kernel
theorem dX6_parseSign_11 : decode cX6_parseSign 11 = .ok (.getfield 12, 3) := by decide +kernel
theorem dX6_parseSign_14 : decode cX6_parseSign 14 = .ok (.aload_n 1, 1) := by decide +kernel
theorem dX6_parseSign_15 : decode cX6_parseSign 15 = .ok (.iconst 0, 1) := by decide +kernel
theorem dX6_parseSign_16 : decode cX6_parseSign 16 = .ok (.invokevirtual 72, 3) := by decide +kernel
theorem dX6_parseSign_19 : decode cX6_parseSign 19 = .ok (.iload_n 2, 1) := by decide +kernel
theorem dX6_parseSign_20 : decode cX6_parseSign 20 = .ok (.invokevirtual 109, 3) := by decide +kernel
theorem dX6_parseSign_23 : decode cX6_parseSign 23 = .ok (.istore_n 3, 1) := by decide +kernel
theorem dX6_parseSign_24 : decode cX6_parseSign 24 = .ok (.iload_n 3, 1) := by decide +kernel
theorem dX6_parseSign_25 : decode cX6_parseSign 25 = .ok (.ifCond .ne 7, 3) := by decide +kernel
theorem dX6_parseSign_28 : decode cX6_parseSign 28 = .ok (.aload_n 1, 1) := by decide +kernel
theorem dX6_parseSign_29 : decode cX6_parseSign 29 = .ok (.invokevirtual 49, 3) := by decide +kernel
theorem dX6_parseSign_32 : decode cX6_parseSign 32 = .ok (.iload_n 3, 1) := by decide +kernel
theorem dX6_parseSign_33 : decode cX6_parseSign 33 = .ok (.ireturn, 1) := by decide +kernel
theorem dX6_parseColours_0 : decode cX6_parseColours 0 = .ok (.aload_n 1, 1) := by decide +kernel
theorem dX6_parseColours_1 : decode cX6_parseColours 1 = .ok (.invokevirtual 49, 3) := by decide +kernel
theorem dX6_parseColours_4 : decode cX6_parseColours 4 = .ok (.aload_n 0, 1) := by decide +kernel
theorem dX6_parseColours_5 : decode cX6_parseColours 5 = .ok (.aload_n 1, 1) := by decide +kernel
theorem dX6_parseColours_6 : decode cX6_parseColours 6 = .ok (.iconst 1, 1) := by decide +kernel
theorem dX6_parseColours_7 : decode cX6_parseColours 7 = .ok (.bipush 9, 2) := by decide +kernel
theorem dX6_parseColours_9 : decode cX6_parseColours 9 = .ok (.invokevirtual 112, 3) := by decide +kernel
theorem dX6_parseColours_12 : decode cX6_parseColours 12 = .ok (.putfield 18, 3) := by decide +kernel
theorem dX6_parseColours_15 : decode cX6_parseColours 15 = .ok (.aload_n 0, 1) := by decide +kernel
theorem dX6_parseColours_16 : decode cX6_parseColours 16 = .ok (.getfield 18, 3) := by decide +kernel
theorem dX6_parseColours_19 : decode cX6_parseColours 19 = .ok (.ifCond .ge 11, 3) := by decide +kernel
theorem dX6_parseColours_22 : decode cX6_parseColours 22 = .ok (.aload_n 0, 1) := by decide +kernel
theorem dX6_parseColours_23 : decode cX6_parseColours 23 = .ok (.getfield 18, 3) := by decide +kernel
theorem dX6_parseColours_26 : decode cX6_parseColours 26 = .ok (.ineg, 1) := by decide +kernel
theorem dX6_parseColours_27 : decode cX6_parseColours 27 = .ok (.goto 4, 3) := by decide +kernel
theorem dX6_parseColours_30 : decode cX6_parseColours 30 = .ok (.iconst 0, 1) := by decide +kernel
theorem dX6_parseColours_31 : decode cX6_parseColours 31 = .ok (.ireturn, 1) := by decide +kernel
theorem dX6_parseCosts_0 : decode cX6_parseCosts 0 = .ok (.aload_n 1, 1) := by decide +kernel
theorem dX6_parseCosts_1 : decode cX6_parseCosts 1 = .ok (.invokevirtual 49, 3) := by decide +kernel
theorem dX6_parseCosts_4 : decode cX6_parseCosts 4 = .ok (.aload_n 0, 1) := by decide +kernel
theorem dX6_parseCosts_5 : decode cX6_parseCosts 5 = .ok (.aload_n 1, 1) := by decide +kernel
theorem dX6_parseCosts_6 : decode cX6_parseCosts 6 = .ok (.iconst 1, 1) := by decide +kernel
theorem dX6_parseCosts_7 : decode cX6_parseCosts 7 = .ok (.bipush 99, 2) := by decide +kernel
theorem dX6_parseCosts_9 : decode cX6_parseCosts 9 = .ok (.invokevirtual 112, 3) := by decide +kernel
theorem dX6_parseCosts_12 : decode cX6_parseCosts 12 = .ok (.putfield 22, 3) := by decide +kernel
theorem dX6_parseCosts_15 : decode cX6_parseCosts 15 = .ok (.aload_n 0, 1) := by decide +kernel
theorem dX6_parseCosts_16 : decode cX6_parseCosts 16 = .ok (.getfield 22, 3) := by decide +kernel
theorem dX6_parseCosts_19 : decode cX6_parseCosts 19 = .ok (.ifCond .ge 9, 3) := by decide +kernel
theorem dX6_parseCosts_22 : decode cX6_parseCosts 22 = .ok (.aload_n 0, 1) := by decide +kernel
theorem dX6_parseCosts_23 : decode cX6_parseCosts 23 = .ok (.getfield 22, 3) := by decide +kernel
theorem dX6_parseCosts_26 : decode cX6_parseCosts 26 = .ok (.ineg, 1) := by decide +kernel
theorem dX6_parseCosts_27 : decode cX6_parseCosts 27 = .ok (.ireturn, 1) := by decide +kernel
theorem dX6_parseCosts_28 : decode cX6_parseCosts 28 = .ok (.aload_n 0, 1) := by decide +kernel
theorem dX6_parseCosts_29 : decode cX6_parseCosts 29 = .ok (.aload_n 1, 1) := by decide +kernel
theorem dX6_parseCosts_30 : decode cX6_parseCosts 30 = .ok (.iconst 1, 1) := by decide +kernel
theorem dX6_parseCosts_31 : decode cX6_parseCosts 31 = .ok (.bipush 99, 2) := by decide +kernel
theorem dX6_parseCosts_33 : decode cX6_parseCosts 33 = .ok (.invokevirtual 112, 3) := by decide +kernel
theorem dX6_parseCosts_36 : decode cX6_parseCosts 36 = .ok (.putfield 25, 3) := by decide +kernel
theorem dX6_parseCosts_39 : decode cX6_parseCosts 39 = .ok (.aload_n 0, 1) := by decide +kernel
theorem dX6_parseCosts_40 : decode cX6_parseCosts 40 = .ok (.getfield 25, 3) := by decide +kernel
theorem dX6_parseCosts_43 : decode cX6_parseCosts 43 = .ok (.ifCond .ge 9, 3) := by decide +kernel
theorem dX6_parseCosts_46 : decode cX6_parseCosts 46 = .ok (.aload_n 0, 1) := by decide +kernel
theorem dX6_parseCosts_47 : decode cX6_parseCosts 47 = .ok (.getfield 25, 3) := by decide +kernel
theorem dX6_parseCosts_50 : decode cX6_parseCosts 50 = .ok (.ineg, 1) := by decide +kernel
theorem dX6_parseCosts_51 : decode cX6_parseCosts 51 = .ok (.ireturn, 1) := by decide +kernel
theorem dX6_parseCosts_52 : decode cX6_parseCosts 52 = .ok (.aload_n 0, 1) := by decide +kernel
theorem dX6_parseCosts_53 : decode cX6_parseCosts 53 = .ok (.aload_n 1, 1) := by decide +kernel
theorem dX6_parseCosts_54 : decode cX6_parseCosts 54 = .ok (.iconst 1, 1) := by decide +kernel
theorem dX6_parseCosts_55 : decode cX6_parseCosts 55 = .ok (.bipush 99, 2) := by decide +kernel
theorem dX6_parseCosts_57 : decode cX6_parseCosts 57 = .ok (.invokevirtual 112, 3) := by decide +kernel
theorem dX6_parseCosts_60 : decode cX6_parseCosts 60 = .ok (.putfield 28, 3) := by decide +kernel
theorem dX6_parseCosts_63 : decode cX6_parseCosts 63 = .ok (.aload_n 0, 1) := by decide +kernel
theorem dX6_parseCosts_64 : decode cX6_parseCosts 64 = .ok (.getfield 28, 3) := by decide +kernel
theorem dX6_parseCosts_67 : decode cX6_parseCosts 67 = .ok (.ifCond .ge 11, 3) := by decide +kernel
theorem dX6_parseCosts_70 : decode cX6_parseCosts 70 = .ok (.aload_n 0, 1) := by decide +kernel
theorem dX6_parseCosts_71 : decode cX6_parseCosts 71 = .ok (.getfield 28, 3) := by decide +kernel
theorem dX6_parseCosts_74 : decode cX6_parseCosts 74 = .ok (.ineg, 1) := by decide +kernel
theorem dX6_parseCosts_75 : decode cX6_parseCosts 75 = .ok (.goto 4, 3) := by decide +kernel
theorem dX6_parseCosts_78 : decode cX6_parseCosts 78 = .ok (.iconst 0, 1) := by decide +kernel
theorem dX6_parseCosts_79 : decode cX6_parseCosts 79 = .ok (.ireturn, 1) := by decide +kernel
theorem dX7_init_0 : decode cX7_init 0 = .ok (.aload_n 0, 1) := by decide +kernel
theorem dX7_init_1 : decode cX7_init 1 = .ok (.invokespecial 3, 3) := by decide +kernel
theorem dX7_init_4 : decode cX7_init 4 = .ok (.aload_n 0, 1) := by decide +kernel
theorem dX7_init_5 : decode cX7_init 5 = .ok (.bipush 127, 2) := by decide +kernel
theorem dX7_init_7 : decode cX7_init 7 = .ok (.newarray .int, 2) := by decide +kernel
theorem dX7_init_9 : decode cX7_init 9 = .ok (.putfield 9, 3) := by decide +kernel
theorem dX7_init_12 : decode cX7_init 12 = .ok (.aload_n 0, 1) := by decide +kernel
theorem dX7_init_13 : decode cX7_init 13 = .ok (.bipush 8, 2) := by decide +kernel
theorem dX7_init_15 : decode cX7_init 15 = .ok (.newarray .int, 2) := by decide +kernel
theorem dX7_init_17 : decode cX7_init 17 = .ok (.putfield 15, 3) := by decide +kernel
theorem dX7_init_20 : decode cX7_init 20 = .ok (.aload_n 0, 1) := by decide +kernel
theorem dX7_init_21 : decode cX7_init 21 = .ok (.iconst 0, 1) := by decide +kernel
theorem dX7_init_22 : decode cX7_init 22 = .ok (.putfield 18, 3) := by decide +kernel
theorem dX7_init_25 : decode cX7_init 25 = .ok (.aload_n 0, 1) := by decide +kernel
theorem dX7_init_26 : decode cX7_init 26 = .ok (.invokevirtual 22, 3) := by decide +kernel
theorem dX7_init_29 : decode cX7_init 29 = .ok (.return_, 1) := by decide +kernel
theorem dX7_clear_0 : decode cX7_clear 0 = .ok (.iconst 0, 1) := by decide +kernel
theorem dX7_clear_1 : decode cX7_clear 1 = .ok (.istore_n 1, 1) := by decide +kernel
theorem dX7_clear_2 : decode cX7_clear 2 = .ok (.iload_n 1, 1) := by decide +kernel
theorem dX7_clear_3 : decode cX7_clear 3 = .ok (.bipush 126, 2) := by decide +kernel
theorem dX7_clear_5 : decode cX7_clear 5 = .ok (.if_icmp .gt 16, 3) := by decide +kernel
theorem dX7_clear_8 : decode cX7_clear 8 = .ok (.aload_n 0, 1) := by decide +kernel
theorem dX7_clear_9 : decode cX7_clear 9 = .ok (.getfield 9, 3) := by decide +kernel
theorem dX7_clear_12 : decode cX7_clear 12 = .ok (.iload_n 1, 1) := by decide +kernel
theorem dX7_clear_13 : decode cX7_clear 13 = .ok (.iconst (-1), 1) := by decide +kernel
theorem dX7_clear_14 : decode cX7_clear 14 = .ok (.iastore, 1) := by decide +kernel
theorem dX7_clear_15 : decode cX7_clear 15 = .ok (.iinc 1 1, 3) := by decide +kernel
theorem dX7_clear_18 : decode cX7_clear 18 = .ok (.goto (-16), 3) := by decide +kernel
theorem dX7_clear_21 : decode cX7_clear 21 = .ok (.aload_n 0, 1) := by decide +kernel
theorem dX7_clear_22 : decode cX7_clear 22 = .ok (.iconst 0, 1) := by decide +kernel
theorem dX7_clear_23 : decode cX7_clear 23 = .ok (.putfield 18, 3) := by decide +kernel
theorem dX7_clear_26 : decode cX7_clear 26 = .ok (.return_, 1) := by decide +kernel
theorem dX7_copyFrom_0 : decode cX7_copyFrom 0 = .ok (.aload_n 1, 1) := by decide +kernel
theorem dX7_copyFrom_1 : decode cX7_copyFrom 1 = .ok (.getfield 9, 3) := by decide +kernel
theorem dX7_copyFrom_4 : decode cX7_copyFrom 4 = .ok (.iconst 0, 1) := by decide +kernel
theorem dX7_copyFrom_5 : decode cX7_copyFrom 5 = .ok (.aload_n 0, 1) := by decide +kernel
theorem dX7_copyFrom_6 : decode cX7_copyFrom 6 = .ok (.getfield 9, 3) := by decide +kernel
theorem dX7_copyFrom_9 : decode cX7_copyFrom 9 = .ok (.iconst 0, 1) := by decide +kernel
theorem dX7_copyFrom_10 : decode cX7_copyFrom 10 = .ok (.bipush 127, 2) := by decide +kernel
theorem dX7_copyFrom_12 : decode cX7_copyFrom 12 = .ok (.invokestatic 25, 3) := by decide +kernel
theorem dX7_copyFrom_15 : decode cX7_copyFrom 15 = .ok (.aload_n 1, 1) := by decide +kernel
theorem dX7_copyFrom_16 : decode cX7_copyFrom 16 = .ok (.getfield 15, 3) := by decide +kernel
theorem dX7_copyFrom_19 : decode cX7_copyFrom 19 = .ok (.iconst 0, 1) := by decide +kernel
theorem dX7_copyFrom_20 : decode cX7_copyFrom 20 = .ok (.aload_n 0, 1) := by decide +kernel
theorem dX7_copyFrom_21 : decode cX7_copyFrom 21 = .ok (.getfield 15, 3) := by decide +kernel
theorem dX7_copyFrom_24 : decode cX7_copyFrom 24 = .ok (.iconst 0, 1) := by decide +kernel
theorem dX7_copyFrom_25 : decode cX7_copyFrom 25 = .ok (.bipush 8, 2) := by decide +kernel
theorem dX7_copyFrom_27 : decode cX7_copyFrom 27 = .ok (.invokestatic 25, 3) := by decide +kernel
theorem dX7_copyFrom_30 : decode cX7_copyFrom 30 = .ok (.aload_n 0, 1) := by decide +kernel
theorem dX7_copyFrom_31 : decode cX7_copyFrom 31 = .ok (.aload_n 1, 1) := by decide +kernel
theorem dX7_copyFrom_32 : decode cX7_copyFrom 32 = .ok (.getfield 18, 3) := by decide +kernel
theorem dX7_copyFrom_35 : decode cX7_copyFrom 35 = .ok (.putfield 18, 3) := by decide +kernel
theorem dX7_copyFrom_38 : decode cX7_copyFrom 38 = .ok (.return_, 1) := by decide +kernel
theorem dX7_roleOf_0 : decode cX7_roleOf 0 = .ok (.iload_n 1, 1) := by decide +kernel
theorem dX7_roleOf_1 : decode cX7_roleOf 1 = .ok (.ifCond .lt 18, 3) := by decide +kernel
theorem dX7_roleOf_4 : decode cX7_roleOf 4 = .ok (.iload_n 1, 1) := by decide +kernel
theorem dX7_roleOf_5 : decode cX7_roleOf 5 = .ok (.bipush 126, 2) := by decide +kernel
theorem dX7_roleOf_7 : decode cX7_roleOf 7 = .ok (.if_icmp .gt 12, 3) := by decide +kernel
theorem dX7_roleOf_10 : decode cX7_roleOf 10 = .ok (.aload_n 0, 1) := by decide +kernel
theorem dX7_roleOf_11 : decode cX7_roleOf 11 = .ok (.getfield 9, 3) := by decide +kernel
theorem dX7_roleOf_14 : decode cX7_roleOf 14 = .ok (.iload_n 1, 1) := by decide +kernel
theorem dX7_roleOf_15 : decode cX7_roleOf 15 = .ok (.iaload, 1) := by decide +kernel
theorem dX7_roleOf_16 : decode cX7_roleOf 16 = .ok (.goto 4, 3) := by decide +kernel
theorem dX7_roleOf_19 : decode cX7_roleOf 19 = .ok (.iconst (-1), 1) := by decide +kernel
theorem dX7_roleOf_20 : decode cX7_roleOf 20 = .ok (.ireturn, 1) := by decide +kernel
theorem dX7_hasKind_0 : decode cX7_hasKind 0 = .ok (.iload_n 1, 1) := by decide +kernel
theorem dX7_hasKind_1 : decode cX7_hasKind 1 = .ok (.ifCond .lt 15, 3) := by decide +kernel
theorem dX7_hasKind_4 : decode cX7_hasKind 4 = .ok (.iload_n 1, 1) := by decide +kernel
theorem dX7_hasKind_5 : decode cX7_hasKind 5 = .ok (.aload_n 0, 1) := by decide +kernel
theorem dX7_hasKind_6 : decode cX7_hasKind 6 = .ok (.getfield 18, 3) := by decide +kernel
theorem dX7_hasKind_9 : decode cX7_hasKind 9 = .ok (.if_icmp .ge 7, 3) := by decide +kernel
theorem dX7_hasKind_12 : decode cX7_hasKind 12 = .ok (.iconst 1, 1) := by decide +kernel
theorem dX7_hasKind_13 : decode cX7_hasKind 13 = .ok (.goto 4, 3) := by decide +kernel
theorem dX7_hasKind_16 : decode cX7_hasKind 16 = .ok (.iconst 0, 1) := by decide +kernel
theorem dX7_hasKind_17 : decode cX7_hasKind 17 = .ok (.ireturn, 1) := by decide +kernel
theorem dX7_openingOf_0 : decode cX7_openingOf 0 = .ok (.aload_n 0, 1) := by decide +kernel
theorem dX7_openingOf_1 : decode cX7_openingOf 1 = .ok (.iload_n 1, 1) := by decide +kernel
theorem dX7_openingOf_2 : decode cX7_openingOf 2 = .ok (.invokevirtual 31, 3) := by decide +kernel
theorem dX7_openingOf_5 : decode cX7_openingOf 5 = .ok (.ifCond .eq 19, 3) := by decide +kernel
theorem dX7_openingOf_8 : decode cX7_openingOf 8 = .ok (.iload_n 1, 1) := by decide +kernel
theorem dX7_openingOf_9 : decode cX7_openingOf 9 = .ok (.iconst 4, 1) := by decide +kernel
theorem dX7_openingOf_10 : decode cX7_openingOf 10 = .ok (.if_icmp .ge 14, 3) := by decide +kernel
theorem dX7_openingOf_13 : decode cX7_openingOf 13 = .ok (.aload_n 0, 1) := by decide +kernel
theorem dX7_openingOf_14 : decode cX7_openingOf 14 = .ok (.getfield 15, 3) := by decide +kernel
theorem dX7_openingOf_17 : decode cX7_openingOf 17 = .ok (.iconst 2, 1) := by decide +kernel
theorem dX7_openingOf_18 : decode cX7_openingOf 18 = .ok (.iload_n 1, 1) := by decide +kernel
theorem dX7_openingOf_19 : decode cX7_openingOf 19 = .ok (.imul, 1) := by decide +kernel
theorem dX7_openingOf_20 : decode cX7_openingOf 20 = .ok (.iaload, 1) := by decide +kernel
theorem dX7_openingOf_21 : decode cX7_openingOf 21 = .ok (.goto 4, 3) := by decide +kernel
theorem dX7_openingOf_24 : decode cX7_openingOf 24 = .ok (.iconst (-1), 1) := by decide +kernel
theorem dX7_openingOf_25 : decode cX7_openingOf 25 = .ok (.ireturn, 1) := by decide +kernel
theorem dX7_closingOf_0 : decode cX7_closingOf 0 = .ok (.aload_n 0, 1) := by decide +kernel
theorem dX7_closingOf_1 : decode cX7_closingOf 1 = .ok (.iload_n 1, 1) := by decide +kernel
theorem dX7_closingOf_2 : decode cX7_closingOf 2 = .ok (.invokevirtual 31, 3) := by decide +kernel
theorem dX7_closingOf_5 : decode cX7_closingOf 5 = .ok (.ifCond .eq 21, 3) := by decide +kernel
theorem dX7_closingOf_8 : decode cX7_closingOf 8 = .ok (.iload_n 1, 1) := by decide +kernel
theorem dX7_closingOf_9 : decode cX7_closingOf 9 = .ok (.iconst 4, 1) := by decide +kernel
theorem dX7_closingOf_10 : decode cX7_closingOf 10 = .ok (.if_icmp .ge 16, 3) := by decide +kernel
theorem dX7_closingOf_13 : decode cX7_closingOf 13 = .ok (.aload_n 0, 1) := by decide +kernel
theorem dX7_closingOf_14 : decode cX7_closingOf 14 = .ok (.getfield 15, 3) := by decide +kernel
theorem dX7_closingOf_17 : decode cX7_closingOf 17 = .ok (.iconst 2, 1) := by decide +kernel
theorem dX7_closingOf_18 : decode cX7_closingOf 18 = .ok (.iload_n 1, 1) := by decide +kernel
theorem dX7_closingOf_19 : decode cX7_closingOf 19 = .ok (.imul, 1) := by decide +kernel
theorem dX7_closingOf_20 : decode cX7_closingOf 20 = .ok (.iconst 1, 1) := by decide +kernel
theorem dX7_closingOf_21 : decode cX7_closingOf 21 = .ok (.iadd, 1) := by decide +kernel
theorem dX7_closingOf_22 : decode cX7_closingOf 22 = .ok (.iaload, 1) := by decide +kernel
theorem dX7_closingOf_23 : decode cX7_closingOf 23 = .ok (.goto 4, 3) := by decide +kernel
theorem dX7_closingOf_26 : decode cX7_closingOf 26 = .ok (.iconst (-1), 1) := by decide +kernel
theorem dX7_closingOf_27 : decode cX7_closingOf 27 = .ok (.ireturn, 1) := by decide +kernel
theorem dX7_addKind_0 : decode cX7_addKind 0 = .ok (.iload_n 1, 1) := by decide +kernel
theorem dX7_addKind_1 : decode cX7_addKind 1 = .ok (.iload_n 2, 1) := by decide +kernel
theorem dX7_addKind_2 : decode cX7_addKind 2 = .ok (.if_icmp .eq 21, 3) := by decide +kernel
theorem dX7_addKind_5 : decode cX7_addKind 5 = .ok (.aload_n 0, 1) := by decide +kernel
theorem dX7_addKind_6 : decode cX7_addKind 6 = .ok (.iload_n 1, 1) := by decide +kernel
theorem dX7_addKind_7 : decode cX7_addKind 7 = .ok (.invokevirtual 35, 3) := by decide +kernel
theorem dX7_addKind_10 : decode cX7_addKind 10 = .ok (.iconst (-1), 1) := by decide +kernel
theorem dX7_addKind_11 : decode cX7_addKind 11 = .ok (.if_icmp .ne 12, 3) := by decide +kernel
theorem dX7_addKind_14 : decode cX7_addKind 14 = .ok (.aload_n 0, 1) := by decide +kernel
theorem dX7_addKind_15 : decode cX7_addKind 15 = .ok (.iload_n 2, 1) := by decide +kernel
theorem dX7_addKind_16 : decode cX7_addKind 16 = .ok (.invokevirtual 35, 3) := by decide +kernel
theorem dX7_addKind_19 : decode cX7_addKind 19 = .ok (.iconst (-1), 1) := by decide +kernel
theorem dX7_addKind_20 : decode cX7_addKind 20 = .ok (.if_icmp .eq 5, 3) := by decide +kernel
theorem dX7_addKind_23 : decode cX7_addKind 23 = .ok (.iconst 3, 1) := by decide +kernel
theorem dX7_addKind_24 : decode cX7_addKind 24 = .ok (.ireturn, 1) := by decide +kernel
theorem dX7_addKind_25 : decode cX7_addKind 25 = .ok (.aload_n 0, 1) := by decide +kernel
theorem dX7_addKind_26 : decode cX7_addKind 26 = .ok (.getfield 18, 3) := by decide +kernel
theorem dX7_addKind_29 : decode cX7_addKind 29 = .ok (.iconst 4, 1) := by decide +kernel
theorem dX7_addKind_30 : decode cX7_addKind 30 = .ok (.if_icmp .lt 5, 3) := by decide +kernel
theorem dX7_addKind_33 : decode cX7_addKind 33 = .ok (.iconst 4, 1) := by decide +kernel
theorem dX7_addKind_34 : decode cX7_addKind 34 = .ok (.ireturn, 1) := by decide +kernel
theorem dX7_addKind_35 : decode cX7_addKind 35 = .ok (.aload_n 0, 1) := by decide +kernel
theorem dX7_addKind_36 : decode cX7_addKind 36 = .ok (.getfield 15, 3) := by decide +kernel
theorem dX7_addKind_39 : decode cX7_addKind 39 = .ok (.iconst 2, 1) := by decide +kernel
theorem dX7_addKind_40 : decode cX7_addKind 40 = .ok (.aload_n 0, 1) := by decide +kernel
theorem dX7_addKind_41 : decode cX7_addKind 41 = .ok (.getfield 18, 3) := by decide +kernel
theorem dX7_addKind_44 : decode cX7_addKind 44 = .ok (.imul, 1) := by decide +kernel
theorem dX7_addKind_45 : decode cX7_addKind 45 = .ok (.iload_n 1, 1) := by decide +kernel
theorem dX7_addKind_46 : decode cX7_addKind 46 = .ok (.iastore, 1) := by decide +kernel
theorem dX7_addKind_47 : decode cX7_addKind 47 = .ok (.aload_n 0, 1) := by decide +kernel
theorem dX7_addKind_48 : decode cX7_addKind 48 = .ok (.getfield 15, 3) := by decide +kernel
theorem dX7_addKind_51 : decode cX7_addKind 51 = .ok (.iconst 2, 1) := by decide +kernel
theorem dX7_addKind_52 : decode cX7_addKind 52 = .ok (.aload_n 0, 1) := by decide +kernel
theorem dX7_addKind_53 : decode cX7_addKind 53 = .ok (.getfield 18, 3) := by decide +kernel
theorem dX7_addKind_56 : decode cX7_addKind 56 = .ok (.imul, 1) := by decide +kernel
theorem dX7_addKind_57 : decode cX7_addKind 57 = .ok (.iconst 1, 1) := by decide +kernel
theorem dX7_addKind_58 : decode cX7_addKind 58 = .ok (.iadd, 1) := by decide +kernel
theorem dX7_addKind_59 : decode cX7_addKind 59 = .ok (.iload_n 2, 1) := by decide +kernel
theorem dX7_addKind_60 : decode cX7_addKind 60 = .ok (.iastore, 1) := by decide +kernel
theorem dX7_addKind_61 : decode cX7_addKind 61 = .ok (.aload_n 0, 1) := by decide +kernel
theorem dX7_addKind_62 : decode cX7_addKind 62 = .ok (.iload_n 1, 1) := by decide +kernel
theorem dX7_addKind_63 : decode cX7_addKind 63 = .ok (.iconst 2, 1) := by decide +kernel
theorem dX7_addKind_64 : decode cX7_addKind 64 = .ok (.aload_n 0, 1) := by decide +kernel
theorem dX7_addKind_65 : decode cX7_addKind 65 = .ok (.getfield 18, 3) := by decide +kernel
theorem dX7_addKind_68 : decode cX7_addKind 68 = .ok (.imul, 1) := by decide +kernel
theorem dX7_addKind_69 : decode cX7_addKind 69 = .ok (.invokevirtual 39, 3) := by decide +kernel
theorem dX7_addKind_72 : decode cX7_addKind 72 = .ok (.pop, 1) := by decide +kernel
theorem dX7_addKind_73 : decode cX7_addKind 73 = .ok (.aload_n 0, 1) := by decide +kernel
theorem dX7_addKind_74 : decode cX7_addKind 74 = .ok (.iload_n 2, 1) := by decide +kernel
theorem dX7_addKind_75 : decode cX7_addKind 75 = .ok (.iconst 2, 1) := by decide +kernel
theorem dX7_addKind_76 : decode cX7_addKind 76 = .ok (.aload_n 0, 1) := by decide +kernel
theorem dX7_addKind_77 : decode cX7_addKind 77 = .ok (.getfield 18, 3) := by decide +kernel
theorem dX7_addKind_80 : decode cX7_addKind 80 = .ok (.imul, 1) := by decide +kernel
theorem dX7_addKind_81 : decode cX7_addKind 81 = .ok (.iconst 1, 1) := by decide +kernel
theorem dX7_addKind_82 : decode cX7_addKind 82 = .ok (.iadd, 1) := by decide +kernel
theorem dX7_addKind_83 : decode cX7_addKind 83 = .ok (.invokevirtual 39, 3) := by decide +kernel
theorem dX7_addKind_86 : decode cX7_addKind 86 = .ok (.pop, 1) := by decide +kernel
theorem dX7_addKind_87 : decode cX7_addKind 87 = .ok (.aload_n 0, 1) := by decide +kernel
theorem dX7_addKind_88 : decode cX7_addKind 88 = .ok (.dup, 1) := by decide +kernel
theorem dX7_addKind_89 : decode cX7_addKind 89 = .ok (.getfield 18, 3) := by decide +kernel
theorem dX7_addKind_92 : decode cX7_addKind 92 = .ok (.iconst 1, 1) := by decide +kernel
theorem dX7_addKind_93 : decode cX7_addKind 93 = .ok (.iadd, 1) := by decide +kernel
theorem dX7_addKind_94 : decode cX7_addKind 94 = .ok (.putfield 18, 3) := by decide +kernel
theorem dX7_addKind_97 : decode cX7_addKind 97 = .ok (.iconst 0, 1) := by decide +kernel
theorem dX7_addKind_98 : decode cX7_addKind 98 = .ok (.ireturn, 1) := by decide +kernel
theorem dX7_tell_0 : decode cX7_tell 0 = .ok (.iload_n 1, 1) := by decide +kernel
theorem dX7_tell_1 : decode cX7_tell 1 = .ok (.ifCond .lt 9, 3) := by decide +kernel
theorem dX7_tell_4 : decode cX7_tell 4 = .ok (.iload_n 1, 1) := by decide +kernel
theorem dX7_tell_5 : decode cX7_tell 5 = .ok (.bipush 126, 2) := by decide +kernel
theorem dX7_tell_7 : decode cX7_tell 7 = .ok (.if_icmp .le 5, 3) := by decide +kernel
theorem dX7_tell_10 : decode cX7_tell 10 = .ok (.iconst 1, 1) := by decide +kernel
theorem dX7_tell_11 : decode cX7_tell 11 = .ok (.ireturn, 1) := by decide +kernel
theorem dX7_tell_12 : decode cX7_tell 12 = .ok (.aload_n 0, 1) := by decide +kernel
theorem dX7_tell_13 : decode cX7_tell 13 = .ok (.getfield 9, 3) := by decide +kernel
theorem dX7_tell_16 : decode cX7_tell 16 = .ok (.iload_n 1, 1) := by decide +kernel
theorem dX7_tell_17 : decode cX7_tell 17 = .ok (.iaload, 1) := by decide +kernel
theorem dX7_tell_18 : decode cX7_tell 18 = .ok (.iconst (-1), 1) := by decide +kernel
theorem dX7_tell_19 : decode cX7_tell 19 = .ok (.if_icmp .eq 5, 3) := by decide +kernel
theorem dX7_tell_22 : decode cX7_tell 22 = .ok (.iconst 3, 1) := by decide +kernel
theorem dX7_tell_23 : decode cX7_tell 23 = .ok (.ireturn, 1) := by decide +kernel
theorem dX7_tell_24 : decode cX7_tell 24 = .ok (.aload_n 0, 1) := by decide +kernel
theorem dX7_tell_25 : decode cX7_tell 25 = .ok (.getfield 9, 3) := by decide +kernel
theorem dX7_tell_28 : decode cX7_tell 28 = .ok (.iload_n 1, 1) := by decide +kernel
theorem dX7_tell_29 : decode cX7_tell 29 = .ok (.iload_n 2, 1) := by decide +kernel
theorem dX7_tell_30 : decode cX7_tell 30 = .ok (.iastore, 1) := by decide +kernel
theorem dX7_tell_31 : decode cX7_tell 31 = .ok (.iconst 0, 1) := by decide +kernel
theorem dX7_tell_32 : decode cX7_tell 32 = .ok (.ireturn, 1) := by decide +kernel
theorem dX8_init_0 : decode cX8_init 0 = .ok (.aload_n 0, 1) := by decide +kernel
theorem dX8_init_1 : decode cX8_init 1 = .ok (.invokespecial 3, 3) := by decide +kernel
theorem dX8_init_4 : decode cX8_init 4 = .ok (.aload_n 0, 1) := by decide +kernel
theorem dX8_init_5 : decode cX8_init 5 = .ok (.iconst 0, 1) := by decide +kernel
theorem dX8_init_6 : decode cX8_init 6 = .ok (.putfield 9, 3) := by decide +kernel
theorem dX8_init_9 : decode cX8_init 9 = .ok (.aload_n 0, 1) := by decide +kernel
theorem dX8_init_10 : decode cX8_init 10 = .ok (.iconst 0, 1) := by decide +kernel
theorem dX8_init_11 : decode cX8_init 11 = .ok (.putfield 15, 3) := by decide +kernel
theorem dX8_init_14 : decode cX8_init 14 = .ok (.aload_n 0, 1) := by decide +kernel
theorem dX8_init_15 : decode cX8_init 15 = .ok (.iconst 0, 1) := by decide +kernel
theorem dX8_init_16 : decode cX8_init 16 = .ok (.putfield 18, 3) := by decide +kernel
theorem dX8_init_19 : decode cX8_init 19 = .ok (.aload_n 0, 1) := by decide +kernel
theorem dX8_init_20 : decode cX8_init 20 = .ok (.iconst 0, 1) := by decide +kernel
theorem dX8_init_21 : decode cX8_init 21 = .ok (.putfield 21, 3) := by decide +kernel
theorem dX8_init_24 : decode cX8_init 24 = .ok (.aload_n 0, 1) := by decide +kernel
theorem dX8_init_25 : decode cX8_init 25 = .ok (.aload_n 1, 1) := by decide +kernel
theorem dX8_init_26 : decode cX8_init 26 = .ok (.putfield 24, 3) := by decide +kernel
theorem dX8_init_29 : decode cX8_init 29 = .ok (.return_, 1) := by decide +kernel
theorem dX8_begin_0 : decode cX8_begin 0 = .ok (.aload_n 0, 1) := by decide +kernel
theorem dX8_begin_1 : decode cX8_begin 1 = .ok (.iload_n 1, 1) := by decide +kernel
theorem dX8_begin_2 : decode cX8_begin 2 = .ok (.putfield 9, 3) := by decide +kernel
theorem dX8_begin_5 : decode cX8_begin 5 = .ok (.aload_n 0, 1) := by decide +kernel
theorem dX8_begin_6 : decode cX8_begin 6 = .ok (.iconst 0, 1) := by decide +kernel
theorem dX8_begin_7 : decode cX8_begin 7 = .ok (.putfield 18, 3) := by decide +kernel
theorem dX8_begin_10 : decode cX8_begin 10 = .ok (.aload_n 0, 1) := by decide +kernel
theorem dX8_begin_11 : decode cX8_begin 11 = .ok (.invokevirtual 28, 3) := by decide +kernel
theorem dX8_begin_14 : decode cX8_begin 14 = .ok (.return_, 1) := by decide +kernel
theorem dX8_moveOn_0 : decode cX8_moveOn 0 = .ok (.aload_n 0, 1) := by decide +kernel
theorem dX8_moveOn_1 : decode cX8_moveOn 1 = .ok (.aload_n 0, 1) := by decide +kernel
theorem dX8_moveOn_2 : decode cX8_moveOn 2 = .ok (.getfield 18, 3) := by decide +kernel
theorem dX8_moveOn_5 : decode cX8_moveOn 5 = .ok (.putfield 15, 3) := by decide +kernel
theorem dX8_moveOn_8 : decode cX8_moveOn 8 = .ok (.aload_n 0, 1) := by decide +kernel
theorem dX8_moveOn_9 : decode cX8_moveOn 9 = .ok (.getfield 15, 3) := by decide +kernel
theorem dX8_moveOn_12 : decode cX8_moveOn 12 = .ok (.aload_n 0, 1) := by decide +kernel
theorem dX8_moveOn_13 : decode cX8_moveOn 13 = .ok (.getfield 9, 3) := by decide +kernel
theorem dX8_moveOn_16 : decode cX8_moveOn 16 = .ok (.if_icmp .ge 34, 3) := by decide +kernel
theorem dX8_moveOn_19 : decode cX8_moveOn 19 = .ok (.aload_n 0, 1) := by decide +kernel
theorem dX8_moveOn_20 : decode cX8_moveOn 20 = .ok (.getfield 24, 3) := by decide +kernel
theorem dX8_moveOn_23 : decode cX8_moveOn 23 = .ok (.aload_n 0, 1) := by decide +kernel
theorem dX8_moveOn_24 : decode cX8_moveOn 24 = .ok (.getfield 15, 3) := by decide +kernel
theorem dX8_moveOn_27 : decode cX8_moveOn 27 = .ok (.invokevirtual 31, 3) := by decide +kernel
theorem dX8_moveOn_30 : decode cX8_moveOn 30 = .ok (.invokestatic 37, 3) := by decide +kernel
theorem dX8_moveOn_33 : decode cX8_moveOn 33 = .ok (.iconst 5, 1) := by decide +kernel
theorem dX8_moveOn_34 : decode cX8_moveOn 34 = .ok (.if_icmp .ne 16, 3) := by decide +kernel
theorem dX8_moveOn_37 : decode cX8_moveOn 37 = .ok (.aload_n 0, 1) := by decide +kernel
theorem dX8_moveOn_38 : decode cX8_moveOn 38 = .ok (.dup, 1) := by decide +kernel
theorem dX8_moveOn_39 : decode cX8_moveOn 39 = .ok (.getfield 15, 3) := by decide +kernel
theorem dX8_moveOn_42 : decode cX8_moveOn 42 = .ok (.iconst 1, 1) := by decide +kernel
theorem dX8_moveOn_43 : decode cX8_moveOn 43 = .ok (.iadd, 1) := by decide +kernel
theorem dX8_moveOn_44 : decode cX8_moveOn 44 = .ok (.putfield 15, 3) := by decide +kernel
theorem dX8_moveOn_47 : decode cX8_moveOn 47 = .ok (.goto (-39), 3) := by decide +kernel
theorem dX8_moveOn_50 : decode cX8_moveOn 50 = .ok (.aload_n 0, 1) := by decide +kernel
theorem dX8_moveOn_51 : decode cX8_moveOn 51 = .ok (.aload_n 0, 1) := by decide +kernel
theorem dX8_moveOn_52 : decode cX8_moveOn 52 = .ok (.getfield 15, 3) := by decide +kernel
theorem dX8_moveOn_55 : decode cX8_moveOn 55 = .ok (.putfield 18, 3) := by decide +kernel
theorem dX8_moveOn_58 : decode cX8_moveOn 58 = .ok (.aload_n 0, 1) := by decide +kernel
theorem dX8_moveOn_59 : decode cX8_moveOn 59 = .ok (.getfield 15, 3) := by decide +kernel
theorem dX8_moveOn_62 : decode cX8_moveOn 62 = .ok (.aload_n 0, 1) := by decide +kernel
theorem dX8_moveOn_63 : decode cX8_moveOn 63 = .ok (.getfield 9, 3) := by decide +kernel
theorem dX8_moveOn_66 : decode cX8_moveOn 66 = .ok (.if_icmp .lt 9, 3) := by decide +kernel
theorem dX8_moveOn_69 : decode cX8_moveOn 69 = .ok (.aload_n 0, 1) := by decide +kernel
theorem dX8_moveOn_70 : decode cX8_moveOn 70 = .ok (.iconst 0, 1) := by decide +kernel
theorem dX8_moveOn_71 : decode cX8_moveOn 71 = .ok (.putfield 21, 3) := by decide +kernel
theorem dX8_moveOn_74 : decode cX8_moveOn 74 = .ok (.return_, 1) := by decide +kernel
theorem dX8_moveOn_75 : decode cX8_moveOn 75 = .ok (.aload_n 0, 1) := by decide +kernel
theorem dX8_moveOn_76 : decode cX8_moveOn 76 = .ok (.aload_n 0, 1) := by decide +kernel
theorem dX8_moveOn_77 : decode cX8_moveOn 77 = .ok (.getfield 24, 3) := by decide +kernel
theorem dX8_moveOn_80 : decode cX8_moveOn 80 = .ok (.aload_n 0, 1) := by decide +kernel
theorem dX8_moveOn_81 : decode cX8_moveOn 81 = .ok (.getfield 15, 3) := by decide +kernel
theorem dX8_moveOn_84 : decode cX8_moveOn 84 = .ok (.invokevirtual 31, 3) := by decide +kernel
theorem dX8_moveOn_87 : decode cX8_moveOn 87 = .ok (.invokestatic 37, 3) := by decide +kernel
theorem dX8_moveOn_90 : decode cX8_moveOn 90 = .ok (.putfield 21, 3) := by decide +kernel
theorem dX8_moveOn_93 : decode cX8_moveOn 93 = .ok (.aload_n 0, 1) := by decide +kernel
theorem dX8_moveOn_94 : decode cX8_moveOn 94 = .ok (.dup, 1) := by decide +kernel
theorem dX8_moveOn_95 : decode cX8_moveOn 95 = .ok (.getfield 18, 3) := by decide +kernel
theorem dX8_moveOn_98 : decode cX8_moveOn 98 = .ok (.iconst 1, 1) := by decide +kernel
theorem dX8_moveOn_99 : decode cX8_moveOn 99 = .ok (.iadd, 1) := by decide +kernel
theorem dX8_moveOn_100 : decode cX8_moveOn 100 = .ok (.putfield 18, 3) := by decide +kernel
theorem dX8_moveOn_103 : decode cX8_moveOn 103 = .ok (.aload_n 0, 1) := by decide +kernel
theorem dX8_moveOn_104 : decode cX8_moveOn 104 = .ok (.getfield 18, 3) := by decide +kernel
theorem dX8_moveOn_107 : decode cX8_moveOn 107 = .ok (.aload_n 0, 1) := by decide +kernel
theorem dX8_moveOn_108 : decode cX8_moveOn 108 = .ok (.getfield 9, 3) := by decide +kernel
theorem dX8_moveOn_111 : decode cX8_moveOn 111 = .ok (.if_icmp .ge 45, 3) := by decide +kernel
theorem dX8_moveOn_114 : decode cX8_moveOn 114 = .ok (.aload_n 0, 1) := by decide +kernel
theorem dX8_moveOn_115 : decode cX8_moveOn 115 = .ok (.invokevirtual 40, 3) := by decide +kernel
theorem dX8_moveOn_118 : decode cX8_moveOn 118 = .ok (.iconst 1, 1) := by decide +kernel
theorem dX8_moveOn_119 : decode cX8_moveOn 119 = .ok (.if_icmp .le 37, 3) := by decide +kernel
theorem dX8_moveOn_122 : decode cX8_moveOn 122 = .ok (.aload_n 0, 1) := by decide +kernel
theorem dX8_moveOn_123 : decode cX8_moveOn 123 = .ok (.getfield 24, 3) := by decide +kernel
theorem dX8_moveOn_126 : decode cX8_moveOn 126 = .ok (.aload_n 0, 1) := by decide +kernel
theorem dX8_moveOn_127 : decode cX8_moveOn 127 = .ok (.getfield 18, 3) := by decide +kernel
theorem dX8_moveOn_130 : decode cX8_moveOn 130 = .ok (.invokevirtual 31, 3) := by decide +kernel
theorem dX8_moveOn_133 : decode cX8_moveOn 133 = .ok (.invokestatic 37, 3) := by decide +kernel
theorem dX8_moveOn_136 : decode cX8_moveOn 136 = .ok (.aload_n 0, 1) := by decide +kernel
theorem dX8_moveOn_137 : decode cX8_moveOn 137 = .ok (.getfield 21, 3) := by decide +kernel
theorem dX8_moveOn_140 : decode cX8_moveOn 140 = .ok (.if_icmp .ne 16, 3) := by decide +kernel
theorem dX8_moveOn_143 : decode cX8_moveOn 143 = .ok (.aload_n 0, 1) := by decide +kernel
theorem dX8_moveOn_144 : decode cX8_moveOn 144 = .ok (.dup, 1) := by decide +kernel
theorem dX8_moveOn_145 : decode cX8_moveOn 145 = .ok (.getfield 18, 3) := by decide +kernel
theorem dX8_moveOn_148 : decode cX8_moveOn 148 = .ok (.iconst 1, 1) := by decide +kernel
theorem dX8_moveOn_149 : decode cX8_moveOn 149 = .ok (.iadd, 1) := by decide +kernel
theorem dX8_moveOn_150 : decode cX8_moveOn 150 = .ok (.putfield 18, 3) := by decide +kernel
theorem dX8_moveOn_153 : decode cX8_moveOn 153 = .ok (.goto (-50), 3) := by decide +kernel
theorem dX8_moveOn_156 : decode cX8_moveOn 156 = .ok (.aload_n 0, 1) := by decide +kernel
theorem dX8_moveOn_157 : decode cX8_moveOn 157 = .ok (.getfield 18, 3) := by decide +kernel
theorem dX8_moveOn_160 : decode cX8_moveOn 160 = .ok (.aload_n 0, 1) := by decide +kernel
theorem dX8_moveOn_161 : decode cX8_moveOn 161 = .ok (.getfield 15, 3) := by decide +kernel
theorem dX8_moveOn_164 : decode cX8_moveOn 164 = .ok (.isub, 1) := by decide +kernel
theorem dX8_moveOn_165 : decode cX8_moveOn 165 = .ok (.aload_n 0, 1) := by decide +kernel
theorem dX8_moveOn_166 : decode cX8_moveOn 166 = .ok (.invokevirtual 40, 3) := by decide +kernel
theorem dX8_moveOn_169 : decode cX8_moveOn 169 = .ok (.if_icmp .le 9, 3) := by decide +kernel
theorem dX8_moveOn_172 : decode cX8_moveOn 172 = .ok (.aload_n 0, 1) := by decide +kernel
theorem dX8_moveOn_173 : decode cX8_moveOn 173 = .ok (.bipush 6, 2) := by decide +kernel
theorem dX8_moveOn_175 : decode cX8_moveOn 175 = .ok (.putfield 21, 3) := by decide +kernel
theorem dX8_moveOn_178 : decode cX8_moveOn 178 = .ok (.return_, 1) := by decide +kernel
theorem dX8_longest_0 : decode cX8_longest 0 = .ok (.aload_n 0, 1) := by decide +kernel
theorem dX8_longest_1 : decode cX8_longest 1 = .ok (.getfield 21, 3) := by decide +kernel
theorem dX8_longest_4 : decode cX8_longest 4 = .ok (.tableswitch 39 1 4 #[32, 35, 39, 37], 32) := by decide +kernel
theorem dX8_longest_36 : decode cX8_longest 36 = .ok (.bipush 7, 2) := by decide +kernel
theorem dX8_longest_38 : decode cX8_longest 38 = .ok (.ireturn, 1) := by decide +kernel
theorem dX8_longest_39 : decode cX8_longest 39 = .ok (.iconst 3, 1) := by decide +kernel
theorem dX8_longest_40 : decode cX8_longest 40 = .ok (.ireturn, 1) := by decide +kernel
theorem dX8_longest_41 : decode cX8_longest 41 = .ok (.iconst 2, 1) := by decide +kernel
theorem dX8_longest_42 : decode cX8_longest 42 = .ok (.ireturn, 1) := by decide +kernel
theorem dX8_longest_43 : decode cX8_longest 43 = .ok (.iconst 1, 1) := by decide +kernel
theorem dX8_longest_44 : decode cX8_longest 44 = .ok (.ireturn, 1) := by decide +kernel
theorem dX8_sortOf_0 : decode cX8_sortOf 0 = .ok (.iload_n 0, 1) := by decide +kernel
theorem dX8_sortOf_1 : decode cX8_sortOf 1 = .ok (.bipush 32, 2) := by decide +kernel
theorem dX8_sortOf_3 : decode cX8_sortOf 3 = .ok (.if_icmp .eq 9, 3) := by decide +kernel
theorem dX8_sortOf_6 : decode cX8_sortOf 6 = .ok (.iload_n 0, 1) := by decide +kernel
theorem dX8_sortOf_7 : decode cX8_sortOf 7 = .ok (.bipush 10, 2) := by decide +kernel
theorem dX8_sortOf_9 : decode cX8_sortOf 9 = .ok (.if_icmp .ne 5, 3) := by decide +kernel
theorem dX8_sortOf_12 : decode cX8_sortOf 12 = .ok (.iconst 5, 1) := by decide +kernel
theorem dX8_sortOf_13 : decode cX8_sortOf 13 = .ok (.ireturn, 1) := by decide +kernel
theorem dX8_sortOf_14 : decode cX8_sortOf 14 = .ok (.iload_n 0, 1) := by decide +kernel
theorem dX8_sortOf_15 : decode cX8_sortOf 15 = .ok (.bipush 97, 2) := by decide +kernel
theorem dX8_sortOf_17 : decode cX8_sortOf 17 = .ok (.if_icmp .lt 11, 3) := by decide +kernel
theorem dX8_sortOf_20 : decode cX8_sortOf 20 = .ok (.iload_n 0, 1) := by decide +kernel
theorem dX8_sortOf_21 : decode cX8_sortOf 21 = .ok (.bipush 122, 2) := by decide +kernel
theorem dX8_sortOf_23 : decode cX8_sortOf 23 = .ok (.if_icmp .gt 5, 3) := by decide +kernel
theorem dX8_sortOf_26 : decode cX8_sortOf 26 = .ok (.iconst 1, 1) := by decide +kernel
theorem dX8_sortOf_27 : decode cX8_sortOf 27 = .ok (.ireturn, 1) := by decide +kernel
theorem dX8_sortOf_28 : decode cX8_sortOf 28 = .ok (.iload_n 0, 1) := by decide +kernel
theorem dX8_sortOf_29 : decode cX8_sortOf 29 = .ok (.bipush 48, 2) := by decide +kernel
theorem dX8_sortOf_31 : decode cX8_sortOf 31 = .ok (.if_icmp .lt 11, 3) := by decide +kernel
theorem dX8_sortOf_34 : decode cX8_sortOf 34 = .ok (.iload_n 0, 1) := by decide +kernel
theorem dX8_sortOf_35 : decode cX8_sortOf 35 = .ok (.bipush 57, 2) := by decide +kernel
theorem dX8_sortOf_37 : decode cX8_sortOf 37 = .ok (.if_icmp .gt 5, 3) := by decide +kernel
theorem dX8_sortOf_40 : decode cX8_sortOf 40 = .ok (.iconst 2, 1) := by decide +kernel
theorem dX8_sortOf_41 : decode cX8_sortOf 41 = .ok (.ireturn, 1) := by decide +kernel
theorem dX8_sortOf_42 : decode cX8_sortOf 42 = .ok (.iload_n 0, 1) := by decide +kernel
theorem dX8_sortOf_43 : decode cX8_sortOf 43 = .ok (.bipush 59, 2) := by decide +kernel
theorem dX8_sortOf_45 : decode cX8_sortOf 45 = .ok (.if_icmp .ne 5, 3) := by decide +kernel
theorem dX8_sortOf_48 : decode cX8_sortOf 48 = .ok (.iconst 3, 1) := by decide +kernel
theorem dX8_sortOf_49 : decode cX8_sortOf 49 = .ok (.ireturn, 1) := by decide +kernel
theorem dX8_sortOf_50 : decode cX8_sortOf 50 = .ok (.iload_n 0, 1) := by decide +kernel
theorem dX8_sortOf_51 : decode cX8_sortOf 51 = .ok (.bipush 32, 2) := by decide +kernel
theorem dX8_sortOf_53 : decode cX8_sortOf 53 = .ok (.if_icmp .le 13, 3) := by decide +kernel
theorem dX8_sortOf_56 : decode cX8_sortOf 56 = .ok (.iload_n 0, 1) := by decide +kernel
theorem dX8_sortOf_57 : decode cX8_sortOf 57 = .ok (.bipush 126, 2) := by decide +kernel
theorem dX8_sortOf_59 : decode cX8_sortOf 59 = .ok (.if_icmp .gt 7, 3) := by decide +kernel
theorem dX8_sortOf_62 : decode cX8_sortOf 62 = .ok (.iconst 4, 1) := by decide +kernel
theorem dX8_sortOf_63 : decode cX8_sortOf 63 = .ok (.goto 5, 3) := by decide +kernel
theorem dX8_sortOf_66 : decode cX8_sortOf 66 = .ok (.bipush 6, 2) := by decide +kernel
theorem dX8_sortOf_68 : decode cX8_sortOf 68 = .ok (.ireturn, 1) := by decide +kernel
theorem dX8_isEnd_0 : decode cX8_isEnd 0 = .ok (.aload_n 0, 1) := by decide +kernel
theorem dX8_isEnd_1 : decode cX8_isEnd 1 = .ok (.getfield 21, 3) := by decide +kernel
theorem dX8_isEnd_4 : decode cX8_isEnd 4 = .ok (.ifCond .ne 7, 3) := by decide +kernel
theorem dX8_isEnd_7 : decode cX8_isEnd 7 = .ok (.iconst 1, 1) := by decide +kernel
theorem dX8_isEnd_8 : decode cX8_isEnd 8 = .ok (.goto 4, 3) := by decide +kernel
theorem dX8_isEnd_11 : decode cX8_isEnd 11 = .ok (.iconst 0, 1) := by decide +kernel
theorem dX8_isEnd_12 : decode cX8_isEnd 12 = .ok (.ireturn, 1) := by decide +kernel
theorem dX8_isWord_0 : decode cX8_isWord 0 = .ok (.aload_n 0, 1) := by decide +kernel
theorem dX8_isWord_1 : decode cX8_isWord 1 = .ok (.getfield 21, 3) := by decide +kernel
theorem dX8_isWord_4 : decode cX8_isWord 4 = .ok (.iconst 1, 1) := by decide +kernel
theorem dX8_isWord_5 : decode cX8_isWord 5 = .ok (.if_icmp .ne 19, 3) := by decide +kernel
theorem dX8_isWord_8 : decode cX8_isWord 8 = .ok (.aload_n 0, 1) := by decide +kernel
theorem dX8_isWord_9 : decode cX8_isWord 9 = .ok (.getfield 18, 3) := by decide +kernel
theorem dX8_isWord_12 : decode cX8_isWord 12 = .ok (.aload_n 0, 1) := by decide +kernel
theorem dX8_isWord_13 : decode cX8_isWord 13 = .ok (.getfield 15, 3) := by decide +kernel
theorem dX8_isWord_16 : decode cX8_isWord 16 = .ok (.isub, 1) := by decide +kernel
theorem dX8_isWord_17 : decode cX8_isWord 17 = .ok (.aload_n 1, 1) := by decide +kernel
theorem dX8_isWord_18 : decode cX8_isWord 18 = .ok (.invokevirtual 44, 3) := by decide +kernel
theorem dX8_isWord_21 : decode cX8_isWord 21 = .ok (.if_icmp .eq 5, 3) := by decide +kernel
theorem dX8_isWord_24 : decode cX8_isWord 24 = .ok (.iconst 0, 1) := by decide +kernel
theorem dX8_isWord_25 : decode cX8_isWord 25 = .ok (.ireturn, 1) := by decide +kernel
theorem dX8_isWord_26 : decode cX8_isWord 26 = .ok (.iconst 0, 1) := by decide +kernel
theorem dX8_isWord_27 : decode cX8_isWord 27 = .ok (.istore_n 2, 1) := by decide +kernel
theorem dX8_isWord_28 : decode cX8_isWord 28 = .ok (.iload_n 2, 1) := by decide +kernel
theorem dX8_isWord_29 : decode cX8_isWord 29 = .ok (.aload_n 1, 1) := by decide +kernel
theorem dX8_isWord_30 : decode cX8_isWord 30 = .ok (.invokevirtual 44, 3) := by decide +kernel
theorem dX8_isWord_33 : decode cX8_isWord 33 = .ok (.if_icmp .ge 32, 3) := by decide +kernel
theorem dX8_isWord_36 : decode cX8_isWord 36 = .ok (.aload_n 0, 1) := by decide +kernel
theorem dX8_isWord_37 : decode cX8_isWord 37 = .ok (.getfield 24, 3) := by decide +kernel
theorem dX8_isWord_40 : decode cX8_isWord 40 = .ok (.aload_n 0, 1) := by decide +kernel
theorem dX8_isWord_41 : decode cX8_isWord 41 = .ok (.getfield 15, 3) := by decide +kernel
theorem dX8_isWord_44 : decode cX8_isWord 44 = .ok (.iload_n 2, 1) := by decide +kernel
theorem dX8_isWord_45 : decode cX8_isWord 45 = .ok (.iadd, 1) := by decide +kernel
theorem dX8_isWord_46 : decode cX8_isWord 46 = .ok (.invokevirtual 31, 3) := by decide +kernel
theorem dX8_isWord_49 : decode cX8_isWord 49 = .ok (.aload_n 1, 1) := by decide +kernel
theorem dX8_isWord_50 : decode cX8_isWord 50 = .ok (.iload_n 2, 1) := by decide +kernel
theorem dX8_isWord_51 : decode cX8_isWord 51 = .ok (.invokevirtual 49, 3) := by decide +kernel
theorem dX8_isWord_54 : decode cX8_isWord 54 = .ok (.if_icmp .eq 5, 3) := by decide +kernel
theorem dX8_isWord_57 : decode cX8_isWord 57 = .ok (.iconst 0, 1) := by decide +kernel
theorem dX8_isWord_58 : decode cX8_isWord 58 = .ok (.ireturn, 1) := by decide +kernel
theorem dX8_isWord_59 : decode cX8_isWord 59 = .ok (.iinc 2 1, 3) := by decide +kernel
theorem dX8_isWord_62 : decode cX8_isWord 62 = .ok (.goto (-34), 3) := by decide +kernel
theorem dX8_isWord_65 : decode cX8_isWord 65 = .ok (.iconst 1, 1) := by decide +kernel
theorem dX8_isWord_66 : decode cX8_isWord 66 = .ok (.ireturn, 1) := by decide +kernel
theorem dX8_isSigns_0 : decode cX8_isSigns 0 = .ok (.aload_n 0, 1) := by decide +kernel
theorem dX8_isSigns_1 : decode cX8_isSigns 1 = .ok (.getfield 21, 3) := by decide +kernel
theorem dX8_isSigns_4 : decode cX8_isSigns 4 = .ok (.iconst 4, 1) := by decide +kernel
theorem dX8_isSigns_5 : decode cX8_isSigns 5 = .ok (.if_icmp .ne 20, 3) := by decide +kernel
theorem dX8_isSigns_8 : decode cX8_isSigns 8 = .ok (.aload_n 0, 1) := by decide +kernel
theorem dX8_isSigns_9 : decode cX8_isSigns 9 = .ok (.getfield 18, 3) := by decide +kernel
theorem dX8_isSigns_12 : decode cX8_isSigns 12 = .ok (.aload_n 0, 1) := by decide +kernel
theorem dX8_isSigns_13 : decode cX8_isSigns 13 = .ok (.getfield 15, 3) := by decide +kernel
theorem dX8_isSigns_16 : decode cX8_isSigns 16 = .ok (.isub, 1) := by decide +kernel
theorem dX8_isSigns_17 : decode cX8_isSigns 17 = .ok (.iload_n 1, 1) := by decide +kernel
theorem dX8_isSigns_18 : decode cX8_isSigns 18 = .ok (.if_icmp .ne 7, 3) := by decide +kernel
theorem dX8_isSigns_21 : decode cX8_isSigns 21 = .ok (.iconst 1, 1) := by decide +kernel
theorem dX8_isSigns_22 : decode cX8_isSigns 22 = .ok (.goto 4, 3) := by decide +kernel
theorem dX8_isSigns_25 : decode cX8_isSigns 25 = .ok (.iconst 0, 1) := by decide +kernel
theorem dX8_isSigns_26 : decode cX8_isSigns 26 = .ok (.ireturn, 1) := by decide +kernel
theorem dX8_signAt_0 : decode cX8_signAt 0 = .ok (.aload_n 0, 1) := by decide +kernel
theorem dX8_signAt_1 : decode cX8_signAt 1 = .ok (.getfield 24, 3) := by decide +kernel
theorem dX8_signAt_4 : decode cX8_signAt 4 = .ok (.aload_n 0, 1) := by decide +kernel
theorem dX8_signAt_5 : decode cX8_signAt 5 = .ok (.getfield 15, 3) := by decide +kernel
theorem dX8_signAt_8 : decode cX8_signAt 8 = .ok (.iload_n 1, 1) := by decide +kernel
theorem dX8_signAt_9 : decode cX8_signAt 9 = .ok (.iadd, 1) := by decide +kernel
theorem dX8_signAt_10 : decode cX8_signAt 10 = .ok (.invokevirtual 31, 3) := by decide +kernel
theorem dX8_signAt_13 : decode cX8_signAt 13 = .ok (.ireturn, 1) := by decide +kernel
theorem dX8_takeNumber_0 : decode cX8_takeNumber 0 = .ok (.aload_n 0, 1) := by decide +kernel
theorem dX8_takeNumber_1 : decode cX8_takeNumber 1 = .ok (.getfield 21, 3) := by decide +kernel
theorem dX8_takeNumber_4 : decode cX8_takeNumber 4 = .ok (.iconst 2, 1) := by decide +kernel
theorem dX8_takeNumber_5 : decode cX8_takeNumber 5 = .ok (.if_icmp .eq 5, 3) := by decide +kernel
theorem dX8_takeNumber_8 : decode cX8_takeNumber 8 = .ok (.iconst (-1), 1) := by decide +kernel
theorem dX8_takeNumber_9 : decode cX8_takeNumber 9 = .ok (.ireturn, 1) := by decide +kernel
theorem dX8_takeNumber_10 : decode cX8_takeNumber 10 = .ok (.iconst 0, 1) := by decide +kernel
theorem dX8_takeNumber_11 : decode cX8_takeNumber 11 = .ok (.istore_n 3, 1) := by decide +kernel
theorem dX8_takeNumber_12 : decode cX8_takeNumber 12 = .ok (.aload_n 0, 1) := by decide +kernel
theorem dX8_takeNumber_13 : decode cX8_takeNumber 13 = .ok (.getfield 15, 3) := by decide +kernel
theorem dX8_takeNumber_16 : decode cX8_takeNumber 16 = .ok (.istore 4, 2) := by decide +kernel
theorem dX8_takeNumber_18 : decode cX8_takeNumber 18 = .ok (.iload 4, 2) := by decide +kernel
theorem dX8_takeNumber_20 : decode cX8_takeNumber 20 = .ok (.aload_n 0, 1) := by decide +kernel
theorem dX8_takeNumber_21 : decode cX8_takeNumber 21 = .ok (.getfield 18, 3) := by decide +kernel
theorem dX8_takeNumber_24 : decode cX8_takeNumber 24 = .ok (.if_icmp .ge 27, 3) := by decide +kernel
theorem dX8_takeNumber_27 : decode cX8_takeNumber 27 = .ok (.bipush 10, 2) := by decide +kernel
theorem dX8_takeNumber_29 : decode cX8_takeNumber 29 = .ok (.iload_n 3, 1) := by decide +kernel
theorem dX8_takeNumber_30 : decode cX8_takeNumber 30 = .ok (.imul, 1) := by decide +kernel
theorem dX8_takeNumber_31 : decode cX8_takeNumber 31 = .ok (.aload_n 0, 1) := by decide +kernel
theorem dX8_takeNumber_32 : decode cX8_takeNumber 32 = .ok (.getfield 24, 3) := by decide +kernel
theorem dX8_takeNumber_35 : decode cX8_takeNumber 35 = .ok (.iload 4, 2) := by decide +kernel
theorem dX8_takeNumber_37 : decode cX8_takeNumber 37 = .ok (.invokevirtual 31, 3) := by decide +kernel
theorem dX8_takeNumber_40 : decode cX8_takeNumber 40 = .ok (.iadd, 1) := by decide +kernel
theorem dX8_takeNumber_41 : decode cX8_takeNumber 41 = .ok (.bipush 48, 2) := by decide +kernel
theorem dX8_takeNumber_43 : decode cX8_takeNumber 43 = .ok (.isub, 1) := by decide +kernel
theorem dX8_takeNumber_44 : decode cX8_takeNumber 44 = .ok (.istore_n 3, 1) := by decide +kernel
theorem dX8_takeNumber_45 : decode cX8_takeNumber 45 = .ok (.iinc 4 1, 3) := by decide +kernel
theorem dX8_takeNumber_48 : decode cX8_takeNumber 48 = .ok (.goto (-30), 3) := by decide +kernel
theorem dX8_takeNumber_51 : decode cX8_takeNumber 51 = .ok (.iload_n 3, 1) := by decide +kernel
theorem dX8_takeNumber_52 : decode cX8_takeNumber 52 = .ok (.iload_n 1, 1) := by decide +kernel
theorem dX8_takeNumber_53 : decode cX8_takeNumber 53 = .ok (.if_icmp .lt 8, 3) := by decide +kernel
theorem dX8_takeNumber_56 : decode cX8_takeNumber 56 = .ok (.iload_n 3, 1) := by decide +kernel
theorem dX8_takeNumber_57 : decode cX8_takeNumber 57 = .ok (.iload_n 2, 1) := by decide +kernel
theorem dX8_takeNumber_58 : decode cX8_takeNumber 58 = .ok (.if_icmp .le 6, 3) := by decide +kernel
theorem dX8_takeNumber_61 : decode cX8_takeNumber 61 = .ok (.bipush (-2), 2) := by decide +kernel
theorem dX8_takeNumber_63 : decode cX8_takeNumber 63 = .ok (.ireturn, 1) := by decide +kernel
theorem dX8_takeNumber_64 : decode cX8_takeNumber 64 = .ok (.aload_n 0, 1) := by decide +kernel
theorem dX8_takeNumber_65 : decode cX8_takeNumber 65 = .ok (.invokevirtual 28, 3) := by decide +kernel
theorem dX8_takeNumber_68 : decode cX8_takeNumber 68 = .ok (.iload_n 3, 1) := by decide +kernel
theorem dX8_takeNumber_69 : decode cX8_takeNumber 69 = .ok (.ireturn, 1) := by decide +kernel
theorem dX8_passSemicolon_0 : decode cX8_passSemicolon 0 = .ok (.aload_n 0, 1) := by decide +kernel
theorem dX8_passSemicolon_1 : decode cX8_passSemicolon 1 = .ok (.getfield 21, 3) := by decide +kernel
theorem dX8_passSemicolon_4 : decode cX8_passSemicolon 4 = .ok (.iconst 3, 1) := by decide +kernel
theorem dX8_passSemicolon_5 : decode cX8_passSemicolon 5 = .ok (.if_icmp .eq 5, 3) := by decide +kernel
theorem dX8_passSemicolon_8 : decode cX8_passSemicolon 8 = .ok (.iconst 1, 1) := by decide +kernel
theorem dX8_passSemicolon_9 : decode cX8_passSemicolon 9 = .ok (.ireturn, 1) := by decide +kernel
theorem dX8_passSemicolon_10 : decode cX8_passSemicolon 10 = .ok (.aload_n 0, 1) := by decide +kernel
theorem dX8_passSemicolon_11 : decode cX8_passSemicolon 11 = .ok (.invokevirtual 28, 3) := by decide +kernel
theorem dX8_passSemicolon_14 : decode cX8_passSemicolon 14 = .ok (.iconst 0, 1) := by decide +kernel
theorem dX8_passSemicolon_15 : decode cX8_passSemicolon 15 = .ok (.ireturn, 1) := by decide +kernel
theorem dX9_init_0 : decode cX9_init 0 = .ok (.aload_n 0, 1) := by decide +kernel
theorem dX9_init_1 : decode cX9_init 1 = .ok (.invokespecial 3, 3) := by decide +kernel
theorem dX9_init_4 : decode cX9_init 4 = .ok (.aload_n 0, 1) := by decide +kernel
theorem dX9_init_5 : decode cX9_init 5 = .ok (.new 9, 3) := by decide +kernel
theorem dX9_init_8 : decode cX9_init 8 = .ok (.dup, 1) := by decide +kernel
theorem dX9_init_9 : decode cX9_init 9 = .ok (.invokespecial 11, 3) := by decide +kernel
theorem dX9_init_12 : decode cX9_init 12 = .ok (.putfield 12, 3) := by decide +kernel
theorem dX9_init_15 : decode cX9_init 15 = .ok (.aload_n 0, 1) := by decide +kernel
theorem dX9_init_16 : decode cX9_init 16 = .ok (.new 16, 3) := by decide +kernel
theorem dX9_init_19 : decode cX9_init 19 = .ok (.dup, 1) := by decide +kernel
theorem dX9_init_20 : decode cX9_init 20 = .ok (.aload_n 0, 1) := by decide +kernel
theorem dX9_init_21 : decode cX9_init 21 = .ok (.getfield 12, 3) := by decide +kernel
theorem dX9_init_24 : decode cX9_init 24 = .ok (.invokespecial 18, 3) := by decide +kernel
theorem dX9_init_27 : decode cX9_init 27 = .ok (.putfield 21, 3) := by decide +kernel
theorem dX9_init_30 : decode cX9_init 30 = .ok (.aload_n 0, 1) := by decide +kernel
theorem dX9_init_31 : decode cX9_init 31 = .ok (.new 25, 3) := by decide +kernel
theorem dX9_init_34 : decode cX9_init 34 = .ok (.dup, 1) := by decide +kernel
theorem dX9_init_35 : decode cX9_init 35 = .ok (.invokespecial 27, 3) := by decide +kernel
theorem dX9_init_38 : decode cX9_init 38 = .ok (.putfield 28, 3) := by decide +kernel
theorem dX9_init_41 : decode cX9_init 41 = .ok (.aload_n 0, 1) := by decide +kernel
theorem dX9_init_42 : decode cX9_init 42 = .ok (.new 32, 3) := by decide +kernel
theorem dX9_init_45 : decode cX9_init 45 = .ok (.dup, 1) := by decide +kernel
theorem dX9_init_46 : decode cX9_init 46 = .ok (.invokespecial 34, 3) := by decide +kernel
theorem dX9_init_49 : decode cX9_init 49 = .ok (.putfield 35, 3) := by decide +kernel
theorem dX9_init_52 : decode cX9_init 52 = .ok (.aload_n 0, 1) := by decide +kernel
theorem dX9_init_53 : decode cX9_init 53 = .ok (.new 39, 3) := by decide +kernel
theorem dX9_init_56 : decode cX9_init 56 = .ok (.dup, 1) := by decide +kernel
theorem dX9_init_57 : decode cX9_init 57 = .ok (.invokespecial 41, 3) := by decide +kernel
theorem dX9_init_60 : decode cX9_init 60 = .ok (.putfield 42, 3) := by decide +kernel
theorem dX9_init_63 : decode cX9_init 63 = .ok (.aload_n 0, 1) := by decide +kernel
theorem dX9_init_64 : decode cX9_init 64 = .ok (.new 46, 3) := by decide +kernel
theorem dX9_init_67 : decode cX9_init 67 = .ok (.dup, 1) := by decide +kernel
theorem dX9_init_68 : decode cX9_init 68 = .ok (.invokespecial 48, 3) := by decide +kernel
theorem dX9_init_71 : decode cX9_init 71 = .ok (.putfield 49, 3) := by decide +kernel
theorem dX9_init_74 : decode cX9_init 74 = .ok (.aload_n 0, 1) := by decide +kernel
theorem dX9_init_75 : decode cX9_init 75 = .ok (.new 46, 3) := by decide +kernel
theorem dX9_init_78 : decode cX9_init 78 = .ok (.dup, 1) := by decide +kernel
theorem dX9_init_79 : decode cX9_init 79 = .ok (.invokespecial 48, 3) := by decide +kernel
theorem dX9_init_82 : decode cX9_init 82 = .ok (.putfield 53, 3) := by decide +kernel
theorem dX9_init_85 : decode cX9_init 85 = .ok (.aload_n 0, 1) := by decide +kernel
theorem dX9_init_86 : decode cX9_init 86 = .ok (.new 56, 3) := by decide +kernel
theorem dX9_init_89 : decode cX9_init 89 = .ok (.dup, 1) := by decide +kernel
theorem dX9_init_90 : decode cX9_init 90 = .ok (.invokespecial 58, 3) := by decide +kernel
theorem dX9_init_93 : decode cX9_init 93 = .ok (.putfield 59, 3) := by decide +kernel
theorem dX9_init_96 : decode cX9_init 96 = .ok (.aload_n 0, 1) := by decide +kernel
theorem dX9_init_97 : decode cX9_init 97 = .ok (.iconst 2, 1) := by decide +kernel
theorem dX9_init_98 : decode cX9_init 98 = .ok (.anewarray 46, 3) := by decide +kernel
theorem dX9_init_101 : decode cX9_init 101 = .ok (.putfield 63, 3) := by decide +kernel
theorem dX9_init_104 : decode cX9_init 104 = .ok (.aload_n 0, 1) := by decide +kernel
theorem dX9_init_105 : decode cX9_init 105 = .ok (.iconst 2, 1) := by decide +kernel
theorem dX9_init_106 : decode cX9_init 106 = .ok (.newarray .boolean, 2) := by decide +kernel
theorem dX9_init_108 : decode cX9_init 108 = .ok (.putfield 67, 3) := by decide +kernel
theorem dX9_init_111 : decode cX9_init 111 = .ok (.aload_n 0, 1) := by decide +kernel
theorem dX9_init_112 : decode cX9_init 112 = .ok (.new 71, 3) := by decide +kernel
theorem dX9_init_115 : decode cX9_init 115 = .ok (.dup, 1) := by decide +kernel
theorem dX9_init_116 : decode cX9_init 116 = .ok (.invokespecial 73, 3) := by decide +kernel
theorem dX9_init_119 : decode cX9_init 119 = .ok (.putfield 74, 3) := by decide +kernel
theorem dX9_init_122 : decode cX9_init 122 = .ok (.aload_n 0, 1) := by decide +kernel
theorem dX9_init_123 : decode cX9_init 123 = .ok (.new 71, 3) := by decide +kernel
theorem dX9_init_126 : decode cX9_init 126 = .ok (.dup, 1) := by decide +kernel
theorem dX9_init_127 : decode cX9_init 127 = .ok (.invokespecial 73, 3) := by decide +kernel
theorem dX9_init_130 : decode cX9_init 130 = .ok (.putfield 78, 3) := by decide +kernel
theorem dX9_init_133 : decode cX9_init 133 = .ok (.aload_n 0, 1) := by decide +kernel
theorem dX9_init_134 : decode cX9_init 134 = .ok (.new 81, 3) := by decide +kernel
theorem dX9_init_137 : decode cX9_init 137 = .ok (.dup, 1) := by decide +kernel
theorem dX9_init_138 : decode cX9_init 138 = .ok (.invokespecial 83, 3) := by decide +kernel
theorem dX9_init_141 : decode cX9_init 141 = .ok (.putfield 84, 3) := by decide +kernel
theorem dX9_init_144 : decode cX9_init 144 = .ok (.aload_n 0, 1) := by decide +kernel
theorem dX9_init_145 : decode cX9_init 145 = .ok (.sipush 240, 3) := by decide +kernel
theorem dX9_init_148 : decode cX9_init 148 = .ok (.newarray .int, 2) := by decide +kernel
theorem dX9_init_150 : decode cX9_init 150 = .ok (.putfield 88, 3) := by decide +kernel
theorem dX9_init_153 : decode cX9_init 153 = .ok (.aload_n 0, 1) := by decide +kernel
theorem dX9_init_154 : decode cX9_init 154 = .ok (.iconst 0, 1) := by decide +kernel
theorem dX9_init_155 : decode cX9_init 155 = .ok (.putfield 92, 3) := by decide +kernel
theorem dX9_init_158 : decode cX9_init 158 = .ok (.aload_n 0, 1) := by decide +kernel
theorem dX9_init_159 : decode cX9_init 159 = .ok (.iconst (-1), 1) := by decide +kernel
theorem dX9_init_160 : decode cX9_init 160 = .ok (.putfield 96, 3) := by decide +kernel
theorem dX9_init_163 : decode cX9_init 163 = .ok (.aload_n 0, 1) := by decide +kernel
theorem dX9_init_164 : decode cX9_init 164 = .ok (.iconst 1, 1) := by decide +kernel
theorem dX9_init_165 : decode cX9_init 165 = .ok (.putfield 99, 3) := by decide +kernel
theorem dX9_init_168 : decode cX9_init 168 = .ok (.aload_n 0, 1) := by decide +kernel
theorem dX9_init_169 : decode cX9_init 169 = .ok (.iconst 1, 1) := by decide +kernel
theorem dX9_init_170 : decode cX9_init 170 = .ok (.putfield 103, 3) := by decide +kernel
theorem dX9_init_173 : decode cX9_init 173 = .ok (.aload_n 0, 1) := by decide +kernel
theorem dX9_init_174 : decode cX9_init 174 = .ok (.getfield 42, 3) := by decide +kernel
theorem dX9_init_177 : decode cX9_init 177 = .ok (.bipush 40, 2) := by decide +kernel
theorem dX9_init_179 : decode cX9_init 179 = .ok (.bipush 41, 2) := by decide +kernel
theorem dX9_init_181 : decode cX9_init 181 = .ok (.invokevirtual 106, 3) := by decide +kernel
theorem dX9_init_184 : decode cX9_init 184 = .ok (.pop, 1) := by decide +kernel
theorem dX9_init_185 : decode cX9_init 185 = .ok (.iconst 0, 1) := by decide +kernel
theorem dX9_init_186 : decode cX9_init 186 = .ok (.istore_n 1, 1) := by decide +kernel
theorem dX9_init_187 : decode cX9_init 187 = .ok (.iload_n 1, 1) := by decide +kernel
theorem dX9_init_188 : decode cX9_init 188 = .ok (.iconst 2, 1) := by decide +kernel
theorem dX9_init_189 : decode cX9_init 189 = .ok (.if_icmp .ge 22, 3) := by decide +kernel
theorem dX9_init_192 : decode cX9_init 192 = .ok (.aload_n 0, 1) := by decide +kernel
theorem dX9_init_193 : decode cX9_init 193 = .ok (.getfield 63, 3) := by decide +kernel
theorem dX9_init_196 : decode cX9_init 196 = .ok (.iload_n 1, 1) := by decide +kernel
theorem dX9_init_197 : decode cX9_init 197 = .ok (.new 46, 3) := by decide +kernel
theorem dX9_init_200 : decode cX9_init 200 = .ok (.dup, 1) := by decide +kernel
theorem dX9_init_201 : decode cX9_init 201 = .ok (.invokespecial 48, 3) := by decide +kernel
theorem dX9_init_204 : decode cX9_init 204 = .ok (.aastore, 1) := by decide +kernel
theorem dX9_init_205 : decode cX9_init 205 = .ok (.iinc 1 1, 3) := by decide +kernel
theorem dX9_init_208 : decode cX9_init 208 = .ok (.goto (-21), 3) := by decide +kernel
theorem dX9_init_211 : decode cX9_init 211 = .ok (.return_, 1) := by decide +kernel
theorem dX9_append_0 : decode cX9_append 0 = .ok (.aload_n 0, 1) := by decide +kernel
theorem dX9_append_1 : decode cX9_append 1 = .ok (.getfield 12, 3) := by decide +kernel
theorem dX9_append_4 : decode cX9_append 4 = .ok (.getfield 110, 3) := by decide +kernel
theorem dX9_append_7 : decode cX9_append 7 = .ok (.bipush 20, 2) := by decide +kernel
theorem dX9_append_9 : decode cX9_append 9 = .ok (.iadd, 1) := by decide +kernel
theorem dX9_append_10 : decode cX9_append 10 = .ok (.sipush 600, 3) := by decide +kernel
theorem dX9_append_13 : decode cX9_append 13 = .ok (.if_icmp .le 5, 3) := by decide +kernel
theorem dX9_append_16 : decode cX9_append 16 = .ok (.iconst (-1), 1) := by decide +kernel
theorem dX9_append_17 : decode cX9_append 17 = .ok (.ireturn, 1) := by decide +kernel
theorem dX9_append_18 : decode cX9_append 18 = .ok (.aload_n 0, 1) := by decide +kernel
theorem dX9_append_19 : decode cX9_append 19 = .ok (.getfield 12, 3) := by decide +kernel
theorem dX9_append_22 : decode cX9_append 22 = .ok (.iload_n 1, 1) := by decide +kernel
theorem dX9_append_23 : decode cX9_append 23 = .ok (.invokevirtual 113, 3) := by decide +kernel
theorem dX9_append_26 : decode cX9_append 26 = .ok (.aload_n 0, 1) := by decide +kernel
theorem dX9_append_27 : decode cX9_append 27 = .ok (.getfield 12, 3) := by decide +kernel
theorem dX9_append_30 : decode cX9_append 30 = .ok (.iload_n 2, 1) := by decide +kernel
theorem dX9_append_31 : decode cX9_append 31 = .ok (.invokevirtual 113, 3) := by decide +kernel
theorem dX9_append_34 : decode cX9_append 34 = .ok (.aload_n 0, 1) := by decide +kernel
theorem dX9_append_35 : decode cX9_append 35 = .ok (.getfield 12, 3) := by decide +kernel
theorem dX9_append_38 : decode cX9_append 38 = .ok (.iload_n 3, 1) := by decide +kernel
theorem dX9_append_39 : decode cX9_append 39 = .ok (.invokevirtual 113, 3) := by decide +kernel
theorem dX9_append_42 : decode cX9_append 42 = .ok (.aload_n 0, 1) := by decide +kernel
theorem dX9_append_43 : decode cX9_append 43 = .ok (.getfield 12, 3) := by decide +kernel
theorem dX9_append_46 : decode cX9_append 46 = .ok (.iload 4, 2) := by decide +kernel
theorem dX9_append_48 : decode cX9_append 48 = .ok (.invokevirtual 113, 3) := by decide +kernel
theorem dX9_append_51 : decode cX9_append 51 = .ok (.aload_n 0, 1) := by decide +kernel
theorem dX9_append_52 : decode cX9_append 52 = .ok (.getfield 12, 3) := by decide +kernel
theorem dX9_append_55 : decode cX9_append 55 = .ok (.iload 5, 2) := by decide +kernel
theorem dX9_append_57 : decode cX9_append 57 = .ok (.invokevirtual 113, 3) := by decide +kernel
theorem dX9_append_60 : decode cX9_append 60 = .ok (.aload_n 0, 1) := by decide +kernel
theorem dX9_append_61 : decode cX9_append 61 = .ok (.getfield 12, 3) := by decide +kernel
theorem dX9_append_64 : decode cX9_append 64 = .ok (.getfield 110, 3) := by decide +kernel
theorem dX9_append_67 : decode cX9_append 67 = .ok (.ireturn, 1) := by decide +kernel
theorem dX9_setup_0 : decode cX9_setup 0 = .ok (.aload_n 0, 1) := by decide +kernel
theorem dX9_setup_1 : decode cX9_setup 1 = .ok (.iload_n 1, 1) := by decide +kernel
theorem dX9_setup_2 : decode cX9_setup 2 = .ok (.invokevirtual 117, 3) := by decide +kernel
theorem dX9_setup_5 : decode cX9_setup 5 = .ok (.aload_n 0, 1) := by decide +kernel
theorem dX9_setup_6 : decode cX9_setup 6 = .ok (.getfield 21, 3) := by decide +kernel
theorem dX9_setup_9 : decode cX9_setup 9 = .ok (.iload_n 1, 1) := by decide +kernel
theorem dX9_setup_10 : decode cX9_setup 10 = .ok (.invokevirtual 120, 3) := by decide +kernel
theorem dX9_setup_13 : decode cX9_setup 13 = .ok (.aload_n 0, 1) := by decide +kernel
theorem dX9_setup_14 : decode cX9_setup 14 = .ok (.getfield 28, 3) := by decide +kernel
theorem dX9_setup_17 : decode cX9_setup 17 = .ok (.aload_n 0, 1) := by decide +kernel
theorem dX9_setup_18 : decode cX9_setup 18 = .ok (.getfield 21, 3) := by decide +kernel
theorem dX9_setup_21 : decode cX9_setup 21 = .ok (.invokevirtual 123, 3) := by decide +kernel
theorem dX9_setup_24 : decode cX9_setup 24 = .ok (.istore_n 2, 1) := by decide +kernel
theorem dX9_setup_25 : decode cX9_setup 25 = .ok (.aload_n 0, 1) := by decide +kernel
theorem dX9_setup_26 : decode cX9_setup 26 = .ok (.iload_n 2, 1) := by decide +kernel
theorem dX9_setup_27 : decode cX9_setup 27 = .ok (.invokevirtual 127, 3) := by decide +kernel
theorem dX9_setup_30 : decode cX9_setup 30 = .ok (.aload_n 0, 1) := by decide +kernel
theorem dX9_setup_31 : decode cX9_setup 31 = .ok (.getfield 12, 3) := by decide +kernel
theorem dX9_setup_34 : decode cX9_setup 34 = .ok (.iconst 0, 1) := by decide +kernel
theorem dX9_setup_35 : decode cX9_setup 35 = .ok (.putfield 110, 3) := by decide +kernel
theorem dX9_setup_38 : decode cX9_setup 38 = .ok (.iload_n 2, 1) := by decide +kernel
theorem dX9_setup_39 : decode cX9_setup 39 = .ok (.ifCond .ne 70, 3) := by decide +kernel
theorem dX9_setup_42 : decode cX9_setup 42 = .ok (.aload_n 0, 1) := by decide +kernel
theorem dX9_setup_43 : decode cX9_setup 43 = .ok (.getfield 42, 3) := by decide +kernel
theorem dX9_setup_46 : decode cX9_setup 46 = .ok (.aload_n 0, 1) := by decide +kernel
theorem dX9_setup_47 : decode cX9_setup 47 = .ok (.getfield 28, 3) := by decide +kernel
theorem dX9_setup_50 : decode cX9_setup 50 = .ok (.getfield 130, 3) := by decide +kernel
theorem dX9_setup_53 : decode cX9_setup 53 = .ok (.invokevirtual 131, 3) := by decide +kernel
theorem dX9_setup_56 : decode cX9_setup 56 = .ok (.aload_n 0, 1) := by decide +kernel
theorem dX9_setup_57 : decode cX9_setup 57 = .ok (.getfield 49, 3) := by decide +kernel
theorem dX9_setup_60 : decode cX9_setup 60 = .ok (.invokevirtual 135, 3) := by decide +kernel
theorem dX9_setup_63 : decode cX9_setup 63 = .ok (.aload_n 0, 1) := by decide +kernel
theorem dX9_setup_64 : decode cX9_setup 64 = .ok (.getfield 49, 3) := by decide +kernel
theorem dX9_setup_67 : decode cX9_setup 67 = .ok (.aload_n 0, 1) := by decide +kernel
theorem dX9_setup_68 : decode cX9_setup 68 = .ok (.getfield 28, 3) := by decide +kernel
theorem dX9_setup_71 : decode cX9_setup 71 = .ok (.getfield 138, 3) := by decide +kernel
theorem dX9_setup_74 : decode cX9_setup 74 = .ok (.putfield 141, 3) := by decide +kernel
theorem dX9_setup_77 : decode cX9_setup 77 = .ok (.aload_n 0, 1) := by decide +kernel
theorem dX9_setup_78 : decode cX9_setup 78 = .ok (.getfield 49, 3) := by decide +kernel
theorem dX9_setup_81 : decode cX9_setup 81 = .ok (.aload_n 0, 1) := by decide +kernel
theorem dX9_setup_82 : decode cX9_setup 82 = .ok (.getfield 28, 3) := by decide +kernel
theorem dX9_setup_85 : decode cX9_setup 85 = .ok (.getfield 142, 3) := by decide +kernel
theorem dX9_setup_88 : decode cX9_setup 88 = .ok (.aload_n 0, 1) := by decide +kernel
theorem dX9_setup_89 : decode cX9_setup 89 = .ok (.getfield 28, 3) := by decide +kernel
theorem dX9_setup_92 : decode cX9_setup 92 = .ok (.getfield 145, 3) := by decide +kernel
theorem dX9_setup_95 : decode cX9_setup 95 = .ok (.aload_n 0, 1) := by decide +kernel
theorem dX9_setup_96 : decode cX9_setup 96 = .ok (.getfield 28, 3) := by decide +kernel
theorem dX9_setup_99 : decode cX9_setup 99 = .ok (.getfield 148, 3) := by decide +kernel
theorem dX9_setup_102 : decode cX9_setup 102 = .ok (.invokevirtual 151, 3) := by decide +kernel
theorem dX9_setup_105 : decode cX9_setup 105 = .ok (.aload_n 0, 1) := by decide +kernel
theorem dX9_setup_106 : decode cX9_setup 106 = .ok (.invokevirtual 155, 3) := by decide +kernel
theorem dX9_setup_109 : decode cX9_setup 109 = .ok (.iload_n 2, 1) := by decide +kernel
theorem dX9_setup_110 : decode cX9_setup 110 = .ok (.ireturn, 1) := by decide +kernel
theorem dX9_load_0 : decode cX9_load 0 = .ok (.aload_n 0, 1) := by decide +kernel
theorem dX9_load_1 : decode cX9_load 1 = .ok (.iload_n 1, 1) := by decide +kernel
theorem dX9_load_2 : decode cX9_load 2 = .ok (.invokevirtual 117, 3) := by decide +kernel
theorem dX9_load_5 : decode cX9_load 5 = .ok (.aload_n 0, 1) := by decide +kernel
theorem dX9_load_6 : decode cX9_load 6 = .ok (.iload_n 1, 1) := by decide +kernel
theorem dX9_load_7 : decode cX9_load 7 = .ok (.iconst 0, 1) := by decide +kernel
theorem dX9_load_8 : decode cX9_load 8 = .ok (.invokevirtual 158, 3) := by decide +kernel
theorem dX9_load_11 : decode cX9_load 11 = .ok (.istore_n 2, 1) := by decide +kernel
theorem dX9_load_12 : decode cX9_load 12 = .ok (.iload_n 2, 1) := by decide +kernel
theorem dX9_load_13 : decode cX9_load 13 = .ok (.ifCond .ne 27, 3) := by decide +kernel
theorem dX9_load_16 : decode cX9_load 16 = .ok (.aload_n 0, 1) := by decide +kernel
theorem dX9_load_17 : decode cX9_load 17 = .ok (.getfield 49, 3) := by decide +kernel
theorem dX9_load_20 : decode cX9_load 20 = .ok (.invokevirtual 135, 3) := by decide +kernel
theorem dX9_load_23 : decode cX9_load 23 = .ok (.aload_n 0, 1) := by decide +kernel
theorem dX9_load_24 : decode cX9_load 24 = .ok (.getfield 49, 3) := by decide +kernel
theorem dX9_load_27 : decode cX9_load 27 = .ok (.iconst 0, 1) := by decide +kernel
theorem dX9_load_28 : decode cX9_load 28 = .ok (.aload_n 0, 1) := by decide +kernel
theorem dX9_load_29 : decode cX9_load 29 = .ok (.getfield 12, 3) := by decide +kernel
theorem dX9_load_32 : decode cX9_load 32 = .ok (.iload_n 1, 1) := by decide +kernel
theorem dX9_load_33 : decode cX9_load 33 = .ok (.invokevirtual 161, 3) := by decide +kernel
theorem dX9_load_36 : decode cX9_load 36 = .ok (.aload_n 0, 1) := by decide +kernel
theorem dX9_load_37 : decode cX9_load 37 = .ok (.invokevirtual 155, 3) := by decide +kernel
theorem dX9_load_40 : decode cX9_load 40 = .ok (.aload_n 0, 1) := by decide +kernel
theorem dX9_load_41 : decode cX9_load 41 = .ok (.getfield 12, 3) := by decide +kernel
theorem dX9_load_44 : decode cX9_load 44 = .ok (.iconst 0, 1) := by decide +kernel
theorem dX9_load_45 : decode cX9_load 45 = .ok (.putfield 110, 3) := by decide +kernel
theorem dX9_load_48 : decode cX9_load 48 = .ok (.iload_n 2, 1) := by decide +kernel
theorem dX9_load_49 : decode cX9_load 49 = .ok (.ifCond .ne 13, 3) := by decide +kernel
theorem dX9_load_52 : decode cX9_load 52 = .ok (.aload_n 0, 1) := by decide +kernel
theorem dX9_load_53 : decode cX9_load 53 = .ok (.invokevirtual 165, 3) := by decide +kernel
theorem dX9_load_56 : decode cX9_load 56 = .ok (.getfield 169, 3) := by decide +kernel
theorem dX9_load_59 : decode cX9_load 59 = .ok (.goto 4, 3) := by decide +kernel
theorem dX9_load_62 : decode cX9_load 62 = .ok (.iload_n 2, 1) := by decide +kernel
theorem dX9_load_63 : decode cX9_load 63 = .ok (.ireturn, 1) := by decide +kernel
theorem dX9_errorPosition_0 : decode cX9_errorPosition 0 = .ok (.aload_n 0, 1) := by decide +kernel
theorem dX9_errorPosition_1 : decode cX9_errorPosition 1 = .ok (.getfield 96, 3) := by decide +kernel
theorem dX9_errorPosition_4 : decode cX9_errorPosition 4 = .ok (.ireturn, 1) := by decide +kernel
theorem dX9_size_0 : decode cX9_size 0 = .ok (.iload_n 1, 1) := by decide +kernel
theorem dX9_size_1 : decode cX9_size 1 = .ok (.tableswitch 192 0 13 #[71, 79, 87, 95, 103, 111, 119, 127, 144, 152, 160, 168, 176, 184], 71) := by decide +kernel
theorem dX9_size_72 : decode cX9_size 72 = .ok (.aload_n 0, 1) := by decide +kernel
theorem dX9_size_73 : decode cX9_size 73 = .ok (.getfield 49, 3) := by decide +kernel
theorem dX9_size_76 : decode cX9_size 76 = .ok (.getfield 172, 3) := by decide +kernel
theorem dX9_size_79 : decode cX9_size 79 = .ok (.ireturn, 1) := by decide +kernel
theorem dX9_size_80 : decode cX9_size 80 = .ok (.aload_n 0, 1) := by decide +kernel
theorem dX9_size_81 : decode cX9_size 81 = .ok (.invokevirtual 165, 3) := by decide +kernel
theorem dX9_size_84 : decode cX9_size 84 = .ok (.getfield 169, 3) := by decide +kernel
theorem dX9_size_87 : decode cX9_size 87 = .ok (.ireturn, 1) := by decide +kernel
theorem dX9_size_88 : decode cX9_size 88 = .ok (.aload_n 0, 1) := by decide +kernel
theorem dX9_size_89 : decode cX9_size 89 = .ok (.invokevirtual 165, 3) := by decide +kernel
theorem dX9_size_92 : decode cX9_size 92 = .ok (.getfield 173, 3) := by decide +kernel
theorem dX9_size_95 : decode cX9_size 95 = .ok (.ireturn, 1) := by decide +kernel
theorem dX9_size_96 : decode cX9_size 96 = .ok (.aload_n 0, 1) := by decide +kernel
theorem dX9_size_97 : decode cX9_size 97 = .ok (.invokevirtual 165, 3) := by decide +kernel
theorem dX9_size_100 : decode cX9_size 100 = .ok (.invokevirtual 176, 3) := by decide +kernel
theorem dX9_size_103 : decode cX9_size 103 = .ok (.ireturn, 1) := by decide +kernel
theorem dX9_size_104 : decode cX9_size 104 = .ok (.aload_n 0, 1) := by decide +kernel
theorem dX9_size_105 : decode cX9_size 105 = .ok (.getfield 42, 3) := by decide +kernel
theorem dX9_size_108 : decode cX9_size 108 = .ok (.getfield 180, 3) := by decide +kernel
theorem dX9_size_111 : decode cX9_size 111 = .ok (.ireturn, 1) := by decide +kernel
theorem dX9_size_112 : decode cX9_size 112 = .ok (.aload_n 0, 1) := by decide +kernel
theorem dX9_size_113 : decode cX9_size 113 = .ok (.getfield 49, 3) := by decide +kernel
theorem dX9_size_116 : decode cX9_size 116 = .ok (.getfield 141, 3) := by decide +kernel
theorem dX9_size_119 : decode cX9_size 119 = .ok (.ireturn, 1) := by decide +kernel
theorem dX9_size_120 : decode cX9_size 120 = .ok (.aload_n 0, 1) := by decide +kernel
theorem dX9_size_121 : decode cX9_size 121 = .ok (.invokevirtual 165, 3) := by decide +kernel
theorem dX9_size_124 : decode cX9_size 124 = .ok (.getfield 183, 3) := by decide +kernel
theorem dX9_size_127 : decode cX9_size 127 = .ok (.ireturn, 1) := by decide +kernel
theorem dX9_size_128 : decode cX9_size 128 = .ok (.aload_n 0, 1) := by decide +kernel
theorem dX9_size_129 : decode cX9_size 129 = .ok (.getfield 49, 3) := by decide +kernel
theorem dX9_size_132 : decode cX9_size 132 = .ok (.aload_n 0, 1) := by decide +kernel
theorem dX9_size_133 : decode cX9_size 133 = .ok (.getfield 49, 3) := by decide +kernel
theorem dX9_size_136 : decode cX9_size 136 = .ok (.getfield 172, 3) := by decide +kernel
theorem dX9_size_139 : decode cX9_size 139 = .ok (.invokevirtual 186, 3) := by decide +kernel
theorem dX9_size_142 : decode cX9_size 142 = .ok (.iconst 1, 1) := by decide +kernel
theorem dX9_size_143 : decode cX9_size 143 = .ok (.iadd, 1) := by decide +kernel
theorem dX9_size_144 : decode cX9_size 144 = .ok (.ireturn, 1) := by decide +kernel
theorem dX9_size_145 : decode cX9_size 145 = .ok (.aload_n 0, 1) := by decide +kernel
theorem dX9_size_146 : decode cX9_size 146 = .ok (.getfield 49, 3) := by decide +kernel
theorem dX9_size_149 : decode cX9_size 149 = .ok (.getfield 190, 3) := by decide +kernel
theorem dX9_size_152 : decode cX9_size 152 = .ok (.ireturn, 1) := by decide +kernel
theorem dX9_size_153 : decode cX9_size 153 = .ok (.aload_n 0, 1) := by decide +kernel
theorem dX9_size_154 : decode cX9_size 154 = .ok (.getfield 59, 3) := by decide +kernel
theorem dX9_size_157 : decode cX9_size 157 = .ok (.getfield 193, 3) := by decide +kernel
theorem dX9_size_160 : decode cX9_size 160 = .ok (.ireturn, 1) := by decide +kernel
theorem dX9_size_161 : decode cX9_size 161 = .ok (.aload_n 0, 1) := by decide +kernel
theorem dX9_size_162 : decode cX9_size 162 = .ok (.invokevirtual 165, 3) := by decide +kernel
theorem dX9_size_165 : decode cX9_size 165 = .ok (.getfield 196, 3) := by decide +kernel
theorem dX9_size_168 : decode cX9_size 168 = .ok (.ireturn, 1) := by decide +kernel
theorem dX9_size_169 : decode cX9_size 169 = .ok (.aload_n 0, 1) := by decide +kernel
theorem dX9_size_170 : decode cX9_size 170 = .ok (.getfield 49, 3) := by decide +kernel
theorem dX9_size_173 : decode cX9_size 173 = .ok (.getfield 199, 3) := by decide +kernel
theorem dX9_size_176 : decode cX9_size 176 = .ok (.ireturn, 1) := by decide +kernel
theorem dX9_size_177 : decode cX9_size 177 = .ok (.aload_n 0, 1) := by decide +kernel
theorem dX9_size_178 : decode cX9_size 178 = .ok (.getfield 49, 3) := by decide +kernel
theorem dX9_size_181 : decode cX9_size 181 = .ok (.getfield 200, 3) := by decide +kernel
theorem dX9_size_184 : decode cX9_size 184 = .ok (.ireturn, 1) := by decide +kernel
theorem dX9_size_185 : decode cX9_size 185 = .ok (.aload_n 0, 1) := by decide +kernel
theorem dX9_size_186 : decode cX9_size 186 = .ok (.getfield 49, 3) := by decide +kernel
theorem dX9_size_189 : decode cX9_size 189 = .ok (.getfield 201, 3) := by decide +kernel
theorem dX9_size_192 : decode cX9_size 192 = .ok (.ireturn, 1) := by decide +kernel
theorem dX9_size_193 : decode cX9_size 193 = .ok (.new 202, 3) := by decide +kernel
theorem dX9_size_196 : decode cX9_size 196 = .ok (.dup, 1) := by decide +kernel
theorem dX9_size_197 : decode cX9_size 197 = .ok (.ldc 204, 2) := by decide +kernel
theorem dX9_size_199 : decode cX9_size 199 = .ok (.invokespecial 206, 3) := by decide +kernel
theorem dX9_size_202 : decode cX9_size 202 = .ok (.athrow, 1) := by decide +kernel
theorem dX9_look_0 : decode cX9_look 0 = .ok (.aload_n 0, 1) := by decide +kernel
theorem dX9_look_1 : decode cX9_look 1 = .ok (.iload_n 1, 1) := by decide +kernel
theorem dX9_look_2 : decode cX9_look 2 = .ok (.invokevirtual 209, 3) := by decide +kernel
theorem dX9_look_5 : decode cX9_look 5 = .ok (.iload_n 2, 1) := by decide +kernel
theorem dX9_look_6 : decode cX9_look 6 = .ok (.tableswitch 128 0 8 #[50, 59, 68, 77, 86, 95, 101, 110, 119], 50) := by decide +kernel
theorem dX9_look_56 : decode cX9_look 56 = .ok (.aload_n 0, 1) := by decide +kernel
theorem dX9_look_57 : decode cX9_look 57 = .ok (.getfield 49, 3) := by decide +kernel
theorem dX9_look_60 : decode cX9_look 60 = .ok (.iload_n 1, 1) := by decide +kernel
theorem dX9_look_61 : decode cX9_look 61 = .ok (.invokevirtual 212, 3) := by decide +kernel
theorem dX9_look_64 : decode cX9_look 64 = .ok (.ireturn, 1) := by decide +kernel
theorem dX9_look_65 : decode cX9_look 65 = .ok (.aload_n 0, 1) := by decide +kernel
theorem dX9_look_66 : decode cX9_look 66 = .ok (.invokevirtual 165, 3) := by decide +kernel
theorem dX9_look_69 : decode cX9_look 69 = .ok (.iload_n 1, 1) := by decide +kernel
theorem dX9_look_70 : decode cX9_look 70 = .ok (.invokevirtual 215, 3) := by decide +kernel
theorem dX9_look_73 : decode cX9_look 73 = .ok (.ireturn, 1) := by decide +kernel
theorem dX9_look_74 : decode cX9_look 74 = .ok (.aload_n 0, 1) := by decide +kernel
theorem dX9_look_75 : decode cX9_look 75 = .ok (.invokevirtual 165, 3) := by decide +kernel
theorem dX9_look_78 : decode cX9_look 78 = .ok (.iload_n 1, 1) := by decide +kernel
theorem dX9_look_79 : decode cX9_look 79 = .ok (.invokevirtual 218, 3) := by decide +kernel
theorem dX9_look_82 : decode cX9_look 82 = .ok (.ireturn, 1) := by decide +kernel
theorem dX9_look_83 : decode cX9_look 83 = .ok (.aload_n 0, 1) := by decide +kernel
theorem dX9_look_84 : decode cX9_look 84 = .ok (.invokevirtual 165, 3) := by decide +kernel
theorem dX9_look_87 : decode cX9_look 87 = .ok (.iload_n 1, 1) := by decide +kernel
theorem dX9_look_88 : decode cX9_look 88 = .ok (.invokevirtual 221, 3) := by decide +kernel
theorem dX9_look_91 : decode cX9_look 91 = .ok (.ireturn, 1) := by decide +kernel
theorem dX9_look_92 : decode cX9_look 92 = .ok (.aload_n 0, 1) := by decide +kernel
theorem dX9_look_93 : decode cX9_look 93 = .ok (.invokevirtual 165, 3) := by decide +kernel
theorem dX9_look_96 : decode cX9_look 96 = .ok (.iload_n 1, 1) := by decide +kernel
theorem dX9_look_97 : decode cX9_look 97 = .ok (.invokevirtual 224, 3) := by decide +kernel
theorem dX9_look_100 : decode cX9_look 100 = .ok (.ireturn, 1) := by decide +kernel
theorem dX9_look_101 : decode cX9_look 101 = .ok (.aload_n 0, 1) := by decide +kernel
theorem dX9_look_102 : decode cX9_look 102 = .ok (.iload_n 1, 1) := by decide +kernel
theorem dX9_look_103 : decode cX9_look 103 = .ok (.invokevirtual 227, 3) := by decide +kernel
theorem dX9_look_106 : decode cX9_look 106 = .ok (.ireturn, 1) := by decide +kernel
theorem dX9_look_107 : decode cX9_look 107 = .ok (.aload_n 0, 1) := by decide +kernel
theorem dX9_look_108 : decode cX9_look 108 = .ok (.invokevirtual 165, 3) := by decide +kernel
theorem dX9_look_111 : decode cX9_look 111 = .ok (.iload_n 1, 1) := by decide +kernel
theorem dX9_look_112 : decode cX9_look 112 = .ok (.invokevirtual 230, 3) := by decide +kernel
theorem dX9_look_115 : decode cX9_look 115 = .ok (.ireturn, 1) := by decide +kernel
theorem dX9_look_116 : decode cX9_look 116 = .ok (.aload_n 0, 1) := by decide +kernel
theorem dX9_look_117 : decode cX9_look 117 = .ok (.getfield 49, 3) := by decide +kernel
theorem dX9_look_120 : decode cX9_look 120 = .ok (.iload_n 1, 1) := by decide +kernel
theorem dX9_look_121 : decode cX9_look 121 = .ok (.invokevirtual 186, 3) := by decide +kernel
theorem dX9_look_124 : decode cX9_look 124 = .ok (.ireturn, 1) := by decide +kernel
theorem dX9_look_125 : decode cX9_look 125 = .ok (.aload_n 0, 1) := by decide +kernel
theorem dX9_look_126 : decode cX9_look 126 = .ok (.getfield 49, 3) := by decide +kernel
theorem dX9_look_129 : decode cX9_look 129 = .ok (.iload_n 1, 1) := by decide +kernel
theorem dX9_look_130 : decode cX9_look 130 = .ok (.invokevirtual 233, 3) := by decide +kernel
theorem dX9_look_133 : decode cX9_look 133 = .ok (.ireturn, 1) := by decide +kernel
theorem dX9_look_134 : decode cX9_look 134 = .ok (.new 202, 3) := by decide +kernel
theorem dX9_look_137 : decode cX9_look 137 = .ok (.dup, 1) := by decide +kernel
theorem dX9_look_138 : decode cX9_look 138 = .ok (.ldc 236, 2) := by decide +kernel
theorem dX9_look_140 : decode cX9_look 140 = .ok (.invokespecial 206, 3) := by decide +kernel
theorem dX9_look_143 : decode cX9_look 143 = .ok (.athrow, 1) := by decide +kernel
theorem dX9_around_0 : decode cX9_around 0 = .ok (.aload_n 0, 1) := by decide +kernel
theorem dX9_around_1 : decode cX9_around 1 = .ok (.iload_n 1, 1) := by decide +kernel
theorem dX9_around_2 : decode cX9_around 2 = .ok (.invokevirtual 209, 3) := by decide +kernel
theorem dX9_around_5 : decode cX9_around 5 = .ok (.aload_n 0, 1) := by decide +kernel
theorem dX9_around_6 : decode cX9_around 6 = .ok (.invokevirtual 165, 3) := by decide +kernel
theorem dX9_around_9 : decode cX9_around 9 = .ok (.iload_n 1, 1) := by decide +kernel
theorem dX9_around_10 : decode cX9_around 10 = .ok (.iload_n 2, 1) := by decide +kernel
theorem dX9_around_11 : decode cX9_around 11 = .ok (.invokevirtual 238, 3) := by decide +kernel
theorem dX9_around_14 : decode cX9_around 14 = .ok (.ireturn, 1) := by decide +kernel
theorem dX9_within_0 : decode cX9_within 0 = .ok (.aload_n 0, 1) := by decide +kernel
theorem dX9_within_1 : decode cX9_within 1 = .ok (.iload_n 1, 1) := by decide +kernel
theorem dX9_within_2 : decode cX9_within 2 = .ok (.invokevirtual 209, 3) := by decide +kernel
theorem dX9_within_5 : decode cX9_within 5 = .ok (.aload_n 0, 1) := by decide +kernel
theorem dX9_within_6 : decode cX9_within 6 = .ok (.iload_n 1, 1) := by decide +kernel
theorem dX9_within_7 : decode cX9_within 7 = .ok (.invokevirtual 241, 3) := by decide +kernel
theorem dX9_within_10 : decode cX9_within 10 = .ok (.aload_n 0, 1) := by decide +kernel
theorem dX9_within_11 : decode cX9_within 11 = .ok (.invokevirtual 165, 3) := by decide +kernel
theorem dX9_within_14 : decode cX9_within 14 = .ok (.aload_n 0, 1) := by decide +kernel
theorem dX9_within_15 : decode cX9_within 15 = .ok (.invokevirtual 165, 3) := by decide +kernel
theorem dX9_within_18 : decode cX9_within 18 = .ok (.iload_n 1, 1) := by decide +kernel
theorem dX9_within_19 : decode cX9_within 19 = .ok (.invokevirtual 244, 3) := by decide +kernel
theorem dX9_within_22 : decode cX9_within 22 = .ok (.iload_n 2, 1) := by decide +kernel
theorem dX9_within_23 : decode cX9_within 23 = .ok (.invokevirtual 247, 3) := by decide +kernel
theorem dX9_within_26 : decode cX9_within 26 = .ok (.ireturn, 1) := by decide +kernel
theorem dX9_beside_0 : decode cX9_beside 0 = .ok (.aload_n 0, 1) := by decide +kernel
theorem dX9_beside_1 : decode cX9_beside 1 = .ok (.iload_n 1, 1) := by decide +kernel
theorem dX9_beside_2 : decode cX9_beside 2 = .ok (.invokevirtual 209, 3) := by decide +kernel
theorem dX9_beside_5 : decode cX9_beside 5 = .ok (.aload_n 0, 1) := by decide +kernel
theorem dX9_beside_6 : decode cX9_beside 6 = .ok (.iload_n 1, 1) := by decide +kernel
theorem dX9_beside_7 : decode cX9_beside 7 = .ok (.invokevirtual 241, 3) := by decide +kernel
theorem dX9_beside_10 : decode cX9_beside 10 = .ok (.aload_n 0, 1) := by decide +kernel
theorem dX9_beside_11 : decode cX9_beside 11 = .ok (.invokevirtual 165, 3) := by decide +kernel
theorem dX9_beside_14 : decode cX9_beside 14 = .ok (.iload_n 1, 1) := by decide +kernel
theorem dX9_beside_15 : decode cX9_beside 15 = .ok (.invokevirtual 244, 3) := by decide +kernel
theorem dX9_beside_18 : decode cX9_beside 18 = .ok (.istore_n 3, 1) := by decide +kernel
theorem dX9_beside_19 : decode cX9_beside 19 = .ok (.iload_n 2, 1) := by decide +kernel
theorem dX9_beside_20 : decode cX9_beside 20 = .ok (.ifCond .eq 14, 3) := by decide +kernel
theorem dX9_beside_23 : decode cX9_beside 23 = .ok (.aload_n 0, 1) := by decide +kernel
theorem dX9_beside_24 : decode cX9_beside 24 = .ok (.invokevirtual 165, 3) := by decide +kernel
theorem dX9_beside_27 : decode cX9_beside 27 = .ok (.iload_n 3, 1) := by decide +kernel
theorem dX9_beside_28 : decode cX9_beside 28 = .ok (.invokevirtual 250, 3) := by decide +kernel
theorem dX9_beside_31 : decode cX9_beside 31 = .ok (.goto 11, 3) := by decide +kernel
theorem dX9_beside_34 : decode cX9_beside 34 = .ok (.aload_n 0, 1) := by decide +kernel
theorem dX9_beside_35 : decode cX9_beside 35 = .ok (.invokevirtual 165, 3) := by decide +kernel
theorem dX9_beside_38 : decode cX9_beside 38 = .ok (.iload_n 3, 1) := by decide +kernel
theorem dX9_beside_39 : decode cX9_beside 39 = .ok (.invokevirtual 253, 3) := by decide +kernel
theorem dX9_beside_42 : decode cX9_beside 42 = .ok (.ireturn, 1) := by decide +kernel
theorem dX9_lone_0 : decode cX9_lone 0 = .ok (.aload_n 0, 1) := by decide +kernel
theorem dX9_lone_1 : decode cX9_lone 1 = .ok (.invokevirtual 165, 3) := by decide +kernel
theorem dX9_lone_4 : decode cX9_lone 4 = .ok (.iload_n 1, 1) := by decide +kernel
theorem dX9_lone_5 : decode cX9_lone 5 = .ok (.invokevirtual 256, 3) := by decide +kernel
theorem dX9_lone_8 : decode cX9_lone 8 = .ok (.ireturn, 1) := by decide +kernel
theorem dX9_count_0 : decode cX9_count 0 = .ok (.aload_n 0, 1) := by decide +kernel
theorem dX9_count_1 : decode cX9_count 1 = .ok (.iload_n 1, 1) := by decide +kernel
theorem dX9_count_2 : decode cX9_count 2 = .ok (.invokevirtual 259, 3) := by decide +kernel
theorem dX9_count_5 : decode cX9_count 5 = .ok (.iload_n 2, 1) := by decide +kernel
theorem dX9_count_6 : decode cX9_count 6 = .ok (.tableswitch 64 0 2 #[26, 38, 52], 26) := by decide +kernel
theorem dX9_count_32 : decode cX9_count 32 = .ok (.aload_n 0, 1) := by decide +kernel
theorem dX9_count_33 : decode cX9_count 33 = .ok (.invokevirtual 165, 3) := by decide +kernel
theorem dX9_count_36 : decode cX9_count 36 = .ok (.iconst 2, 1) := by decide +kernel
theorem dX9_count_37 : decode cX9_count 37 = .ok (.iload_n 1, 1) := by decide +kernel
theorem dX9_count_38 : decode cX9_count 38 = .ok (.imul, 1) := by decide +kernel
theorem dX9_count_39 : decode cX9_count 39 = .ok (.iconst 0, 1) := by decide +kernel
theorem dX9_count_40 : decode cX9_count 40 = .ok (.invokevirtual 262, 3) := by decide +kernel
theorem dX9_count_43 : decode cX9_count 43 = .ok (.ireturn, 1) := by decide +kernel
theorem dX9_count_44 : decode cX9_count 44 = .ok (.aload_n 0, 1) := by decide +kernel
theorem dX9_count_45 : decode cX9_count 45 = .ok (.invokevirtual 165, 3) := by decide +kernel
theorem dX9_count_48 : decode cX9_count 48 = .ok (.iconst 2, 1) := by decide +kernel
theorem dX9_count_49 : decode cX9_count 49 = .ok (.iload_n 1, 1) := by decide +kernel
theorem dX9_count_50 : decode cX9_count 50 = .ok (.imul, 1) := by decide +kernel
theorem dX9_count_51 : decode cX9_count 51 = .ok (.iconst 1, 1) := by decide +kernel
theorem dX9_count_52 : decode cX9_count 52 = .ok (.iadd, 1) := by decide +kernel
theorem dX9_count_53 : decode cX9_count 53 = .ok (.iconst 0, 1) := by decide +kernel
theorem dX9_count_54 : decode cX9_count 54 = .ok (.invokevirtual 262, 3) := by decide +kernel
theorem dX9_count_57 : decode cX9_count 57 = .ok (.ireturn, 1) := by decide +kernel
theorem dX9_count_58 : decode cX9_count 58 = .ok (.aload_n 0, 1) := by decide +kernel
theorem dX9_count_59 : decode cX9_count 59 = .ok (.invokevirtual 165, 3) := by decide +kernel
theorem dX9_count_62 : decode cX9_count 62 = .ok (.iconst 2, 1) := by decide +kernel
theorem dX9_count_63 : decode cX9_count 63 = .ok (.iload_n 1, 1) := by decide +kernel
theorem dX9_count_64 : decode cX9_count 64 = .ok (.imul, 1) := by decide +kernel
theorem dX9_count_65 : decode cX9_count 65 = .ok (.iconst 1, 1) := by decide +kernel
theorem dX9_count_66 : decode cX9_count 66 = .ok (.invokevirtual 262, 3) := by decide +kernel
theorem dX9_count_69 : decode cX9_count 69 = .ok (.ireturn, 1) := by decide +kernel
theorem dX9_count_70 : decode cX9_count 70 = .ok (.new 202, 3) := by decide +kernel
theorem dX9_count_73 : decode cX9_count 73 = .ok (.dup, 1) := by decide +kernel
theorem dX9_count_74 : decode cX9_count 74 = .ok (.ldc_w 266, 3) := by decide +kernel
theorem dX9_count_77 : decode cX9_count 77 = .ok (.invokespecial 206, 3) := by decide +kernel
theorem dX9_count_80 : decode cX9_count 80 = .ok (.athrow, 1) := by decide +kernel
theorem dX9_widest_0 : decode cX9_widest 0 = .ok (.aload_n 0, 1) := by decide +kernel
theorem dX9_widest_1 : decode cX9_widest 1 = .ok (.invokevirtual 165, 3) := by decide +kernel
theorem dX9_widest_4 : decode cX9_widest 4 = .ok (.invokevirtual 268, 3) := by decide +kernel
theorem dX9_widest_7 : decode cX9_widest 7 = .ok (.ireturn, 1) := by decide +kernel
theorem dX9_meanDepth_0 : decode cX9_meanDepth 0 = .ok (.aload_n 0, 1) := by decide +kernel
theorem dX9_meanDepth_1 : decode cX9_meanDepth 1 = .ok (.invokevirtual 165, 3) := by decide +kernel
theorem dX9_meanDepth_4 : decode cX9_meanDepth 4 = .ok (.getfield 173, 3) := by decide +kernel
theorem dX9_meanDepth_7 : decode cX9_meanDepth 7 = .ok (.istore_n 1, 1) := by decide +kernel
theorem dX9_meanDepth_8 : decode cX9_meanDepth 8 = .ok (.iload_n 1, 1) := by decide +kernel
theorem dX9_meanDepth_9 : decode cX9_meanDepth 9 = .ok (.ifCond .ne 5, 3) := by decide +kernel
theorem dX9_meanDepth_12 : decode cX9_meanDepth 12 = .ok (.dconst 0, 1) := by decide +kernel
theorem dX9_meanDepth_13 : decode cX9_meanDepth 13 = .ok (.dreturn, 1) := by decide +kernel
theorem dX9_meanDepth_14 : decode cX9_meanDepth 14 = .ok (.aload_n 0, 1) := by decide +kernel
theorem dX9_meanDepth_15 : decode cX9_meanDepth 15 = .ok (.invokevirtual 165, 3) := by decide +kernel
theorem dX9_meanDepth_18 : decode cX9_meanDepth 18 = .ok (.invokevirtual 271, 3) := by decide +kernel
theorem dX9_meanDepth_21 : decode cX9_meanDepth 21 = .ok (.i2d, 1) := by decide +kernel
theorem dX9_meanDepth_22 : decode cX9_meanDepth 22 = .ok (.iload_n 1, 1) := by decide +kernel
theorem dX9_meanDepth_23 : decode cX9_meanDepth 23 = .ok (.i2d, 1) := by decide +kernel
theorem dX9_meanDepth_24 : decode cX9_meanDepth 24 = .ok (.ddiv, 1) := by decide +kernel
theorem dX9_meanDepth_25 : decode cX9_meanDepth 25 = .ok (.dreturn, 1) := by decide +kernel
theorem dX9_share_0 : decode cX9_share 0 = .ok (.aload_n 0, 1) := by decide +kernel
theorem dX9_share_1 : decode cX9_share 1 = .ok (.invokevirtual 165, 3) := by decide +kernel
theorem dX9_share_4 : decode cX9_share 4 = .ok (.getfield 169, 3) := by decide +kernel
theorem dX9_share_7 : decode cX9_share 7 = .ok (.istore_n 1, 1) := by decide +kernel
theorem dX9_share_8 : decode cX9_share 8 = .ok (.iload_n 1, 1) := by decide +kernel
theorem dX9_share_9 : decode cX9_share 9 = .ok (.ifCond .ne 5, 3) := by decide +kernel
theorem dX9_share_12 : decode cX9_share 12 = .ok (.fconst 1, 1) := by decide +kernel
theorem dX9_share_13 : decode cX9_share 13 = .ok (.freturn, 1) := by decide +kernel
theorem dX9_share_14 : decode cX9_share 14 = .ok (.iconst 2, 1) := by decide +kernel
theorem dX9_share_15 : decode cX9_share 15 = .ok (.aload_n 0, 1) := by decide +kernel
theorem dX9_share_16 : decode cX9_share 16 = .ok (.invokevirtual 165, 3) := by decide +kernel
theorem dX9_share_19 : decode cX9_share 19 = .ok (.getfield 173, 3) := by decide +kernel
theorem dX9_share_22 : decode cX9_share 22 = .ok (.imul, 1) := by decide +kernel
theorem dX9_share_23 : decode cX9_share 23 = .ok (.i2f, 1) := by decide +kernel
theorem dX9_share_24 : decode cX9_share 24 = .ok (.iload_n 1, 1) := by decide +kernel
theorem dX9_share_25 : decode cX9_share 25 = .ok (.i2f, 1) := by decide +kernel
theorem dX9_share_26 : decode cX9_share 26 = .ok (.fdiv, 1) := by decide +kernel
theorem dX9_share_27 : decode cX9_share 27 = .ok (.freturn, 1) := by decide +kernel
theorem dX9_repairCost_0 : decode cX9_repairCost 0 = .ok (.aload_n 0, 1) := by decide +kernel
theorem dX9_repairCost_1 : decode cX9_repairCost 1 = .ok (.invokevirtual 274, 3) := by decide +kernel
theorem dX9_repairCost_4 : decode cX9_repairCost 4 = .ok (.getfield 278, 3) := by decide +kernel
theorem dX9_repairCost_7 : decode cX9_repairCost 7 = .ok (.ireturn, 1) := by decide +kernel
theorem dX9_repairSteps_0 : decode cX9_repairSteps 0 = .ok (.aload_n 0, 1) := by decide +kernel
theorem dX9_repairSteps_1 : decode cX9_repairSteps 1 = .ok (.invokevirtual 274, 3) := by decide +kernel
theorem dX9_repairSteps_4 : decode cX9_repairSteps 4 = .ok (.getfield 281, 3) := by decide +kernel
theorem dX9_repairSteps_7 : decode cX9_repairSteps 7 = .ok (.ireturn, 1) := by decide +kernel
theorem dX9_repairStep_0 : decode cX9_repairStep 0 = .ok (.iload_n 1, 1) := by decide +kernel
theorem dX9_repairStep_1 : decode cX9_repairStep 1 = .ok (.ifCond .lt 14, 3) := by decide +kernel
theorem dX9_repairStep_4 : decode cX9_repairStep 4 = .ok (.iload_n 1, 1) := by decide +kernel
theorem dX9_repairStep_5 : decode cX9_repairStep 5 = .ok (.aload_n 0, 1) := by decide +kernel
theorem dX9_repairStep_6 : decode cX9_repairStep 6 = .ok (.invokevirtual 274, 3) := by decide +kernel
theorem dX9_repairStep_9 : decode cX9_repairStep 9 = .ok (.getfield 281, 3) := by decide +kernel
theorem dX9_repairStep_12 : decode cX9_repairStep 12 = .ok (.if_icmp .lt 14, 3) := by decide +kernel
