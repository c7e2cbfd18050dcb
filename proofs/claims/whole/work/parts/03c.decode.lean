theorem dX9_repairStep_15 : decode cX9_repairStep 15 = .ok (.new 284, 3) := by decide +kernel
theorem dX9_repairStep_18 : decode cX9_repairStep 18 = .ok (.dup, 1) := by decide +kernel
theorem dX9_repairStep_19 : decode cX9_repairStep 19 = .ok (.ldc_w 286, 3) := by decide +kernel
theorem dX9_repairStep_22 : decode cX9_repairStep 22 = .ok (.invokespecial 288, 3) := by decide +kernel
theorem dX9_repairStep_25 : decode cX9_repairStep 25 = .ok (.athrow, 1) := by decide +kernel
theorem dX9_repairStep_26 : decode cX9_repairStep 26 = .ok (.iload_n 2, 1) := by decide +kernel
theorem dX9_repairStep_27 : decode cX9_repairStep 27 = .ok (.tableswitch 54 0 2 #[25, 34, 43], 25) := by decide +kernel
theorem dX9_repairStep_52 : decode cX9_repairStep 52 = .ok (.aload_n 0, 1) := by decide +kernel
theorem dX9_repairStep_53 : decode cX9_repairStep 53 = .ok (.invokevirtual 274, 3) := by decide +kernel
theorem dX9_repairStep_56 : decode cX9_repairStep 56 = .ok (.iload_n 1, 1) := by decide +kernel
theorem dX9_repairStep_57 : decode cX9_repairStep 57 = .ok (.invokevirtual 289, 3) := by decide +kernel
theorem dX9_repairStep_60 : decode cX9_repairStep 60 = .ok (.ireturn, 1) := by decide +kernel
theorem dX9_repairStep_61 : decode cX9_repairStep 61 = .ok (.aload_n 0, 1) := by decide +kernel
theorem dX9_repairStep_62 : decode cX9_repairStep 62 = .ok (.invokevirtual 274, 3) := by decide +kernel
theorem dX9_repairStep_65 : decode cX9_repairStep 65 = .ok (.iload_n 1, 1) := by decide +kernel
theorem dX9_repairStep_66 : decode cX9_repairStep 66 = .ok (.invokevirtual 292, 3) := by decide +kernel
theorem dX9_repairStep_69 : decode cX9_repairStep 69 = .ok (.ireturn, 1) := by decide +kernel
theorem dX9_repairStep_70 : decode cX9_repairStep 70 = .ok (.aload_n 0, 1) := by decide +kernel
theorem dX9_repairStep_71 : decode cX9_repairStep 71 = .ok (.invokevirtual 274, 3) := by decide +kernel
theorem dX9_repairStep_74 : decode cX9_repairStep 74 = .ok (.iload_n 1, 1) := by decide +kernel
theorem dX9_repairStep_75 : decode cX9_repairStep 75 = .ok (.invokevirtual 295, 3) := by decide +kernel
theorem dX9_repairStep_78 : decode cX9_repairStep 78 = .ok (.iconst 2, 1) := by decide +kernel
theorem dX9_repairStep_79 : decode cX9_repairStep 79 = .ok (.idiv, 1) := by decide +kernel
theorem dX9_repairStep_80 : decode cX9_repairStep 80 = .ok (.ireturn, 1) := by decide +kernel
theorem dX9_repairStep_81 : decode cX9_repairStep 81 = .ok (.new 202, 3) := by decide +kernel
theorem dX9_repairStep_84 : decode cX9_repairStep 84 = .ok (.dup, 1) := by decide +kernel
theorem dX9_repairStep_85 : decode cX9_repairStep 85 = .ok (.ldc_w 298, 3) := by decide +kernel
theorem dX9_repairStep_88 : decode cX9_repairStep 88 = .ok (.invokespecial 206, 3) := by decide +kernel
theorem dX9_repairStep_91 : decode cX9_repairStep 91 = .ok (.athrow, 1) := by decide +kernel
theorem dX9_costWithout_0 : decode cX9_costWithout 0 = .ok (.aload_n 0, 1) := by decide +kernel
theorem dX9_costWithout_1 : decode cX9_costWithout 1 = .ok (.iload_n 1, 1) := by decide +kernel
theorem dX9_costWithout_2 : decode cX9_costWithout 2 = .ok (.invokevirtual 209, 3) := by decide +kernel
theorem dX9_costWithout_5 : decode cX9_costWithout 5 = .ok (.aload_n 0, 1) := by decide +kernel
theorem dX9_costWithout_6 : decode cX9_costWithout 6 = .ok (.iload_n 1, 1) := by decide +kernel
theorem dX9_costWithout_7 : decode cX9_costWithout 7 = .ok (.invokevirtual 300, 3) := by decide +kernel
theorem dX9_costWithout_10 : decode cX9_costWithout 10 = .ok (.ireturn, 1) := by decide +kernel
theorem dX9_culprit_0 : decode cX9_culprit 0 = .ok (.aload_n 0, 1) := by decide +kernel
theorem dX9_culprit_1 : decode cX9_culprit 1 = .ok (.invokevirtual 274, 3) := by decide +kernel
theorem dX9_culprit_4 : decode cX9_culprit 4 = .ok (.getfield 278, 3) := by decide +kernel
theorem dX9_culprit_7 : decode cX9_culprit 7 = .ok (.istore_n 1, 1) := by decide +kernel
theorem dX9_culprit_8 : decode cX9_culprit 8 = .ok (.iload_n 1, 1) := by decide +kernel
theorem dX9_culprit_9 : decode cX9_culprit 9 = .ok (.ifCond .ne 5, 3) := by decide +kernel
theorem dX9_culprit_12 : decode cX9_culprit 12 = .ok (.iconst (-1), 1) := by decide +kernel
theorem dX9_culprit_13 : decode cX9_culprit 13 = .ok (.ireturn, 1) := by decide +kernel
theorem dX9_culprit_14 : decode cX9_culprit 14 = .ok (.aload_n 0, 1) := by decide +kernel
theorem dX9_culprit_15 : decode cX9_culprit 15 = .ok (.getfield 84, 3) := by decide +kernel
theorem dX9_culprit_18 : decode cX9_culprit 18 = .ok (.aload_n 0, 1) := by decide +kernel
theorem dX9_culprit_19 : decode cX9_culprit 19 = .ok (.invokevirtual 165, 3) := by decide +kernel
theorem dX9_culprit_22 : decode cX9_culprit 22 = .ok (.invokevirtual 303, 3) := by decide +kernel
theorem dX9_culprit_25 : decode cX9_culprit 25 = .ok (.istore_n 2, 1) := by decide +kernel
theorem dX9_culprit_26 : decode cX9_culprit 26 = .ok (.iconst 0, 1) := by decide +kernel
theorem dX9_culprit_27 : decode cX9_culprit 27 = .ok (.istore_n 3, 1) := by decide +kernel
theorem dX9_culprit_28 : decode cX9_culprit 28 = .ok (.iload_n 3, 1) := by decide +kernel
theorem dX9_culprit_29 : decode cX9_culprit 29 = .ok (.aload_n 0, 1) := by decide +kernel
theorem dX9_culprit_30 : decode cX9_culprit 30 = .ok (.getfield 49, 3) := by decide +kernel
theorem dX9_culprit_33 : decode cX9_culprit 33 = .ok (.getfield 172, 3) := by decide +kernel
theorem dX9_culprit_36 : decode cX9_culprit 36 = .ok (.if_icmp .ge 47, 3) := by decide +kernel
theorem dX9_culprit_39 : decode cX9_culprit 39 = .ok (.aload_n 0, 1) := by decide +kernel
theorem dX9_culprit_40 : decode cX9_culprit 40 = .ok (.invokevirtual 165, 3) := by decide +kernel
theorem dX9_culprit_43 : decode cX9_culprit 43 = .ok (.iload_n 3, 1) := by decide +kernel
theorem dX9_culprit_44 : decode cX9_culprit 44 = .ok (.invokevirtual 230, 3) := by decide +kernel
theorem dX9_culprit_47 : decode cX9_culprit 47 = .ok (.ifCond .ne 16, 3) := by decide +kernel
theorem dX9_culprit_50 : decode cX9_culprit 50 = .ok (.aload_n 0, 1) := by decide +kernel
theorem dX9_culprit_51 : decode cX9_culprit 51 = .ok (.getfield 49, 3) := by decide +kernel
theorem dX9_culprit_54 : decode cX9_culprit 54 = .ok (.iload_n 3, 1) := by decide +kernel
theorem dX9_culprit_55 : decode cX9_culprit 55 = .ok (.invokevirtual 212, 3) := by decide +kernel
theorem dX9_culprit_58 : decode cX9_culprit 58 = .ok (.bipush 10, 2) := by decide +kernel
theorem dX9_culprit_60 : decode cX9_culprit 60 = .ok (.if_icmp .ne 17, 3) := by decide +kernel
theorem dX9_culprit_63 : decode cX9_culprit 63 = .ok (.iload_n 2, 1) := by decide +kernel
theorem dX9_culprit_64 : decode cX9_culprit 64 = .ok (.aload_n 0, 1) := by decide +kernel
theorem dX9_culprit_65 : decode cX9_culprit 65 = .ok (.iload_n 3, 1) := by decide +kernel
theorem dX9_culprit_66 : decode cX9_culprit 66 = .ok (.invokevirtual 300, 3) := by decide +kernel
theorem dX9_culprit_69 : decode cX9_culprit 69 = .ok (.iload_n 3, 1) := by decide +kernel
theorem dX9_culprit_70 : decode cX9_culprit 70 = .ok (.invokestatic 307, 3) := by decide +kernel
theorem dX9_culprit_73 : decode cX9_culprit 73 = .ok (.invokestatic 310, 3) := by decide +kernel
theorem dX9_culprit_76 : decode cX9_culprit 76 = .ok (.istore_n 2, 1) := by decide +kernel
theorem dX9_culprit_77 : decode cX9_culprit 77 = .ok (.iinc 3 1, 3) := by decide +kernel
theorem dX9_culprit_80 : decode cX9_culprit 80 = .ok (.goto (-52), 3) := by decide +kernel
theorem dX9_culprit_83 : decode cX9_culprit 83 = .ok (.iload_n 2, 1) := by decide +kernel
theorem dX9_culprit_84 : decode cX9_culprit 84 = .ok (.invokestatic 315, 3) := by decide +kernel
theorem dX9_culprit_87 : decode cX9_culprit 87 = .ok (.iload_n 1, 1) := by decide +kernel
theorem dX9_culprit_88 : decode cX9_culprit 88 = .ok (.if_icmp .ge 10, 3) := by decide +kernel
theorem dX9_culprit_91 : decode cX9_culprit 91 = .ok (.iload_n 2, 1) := by decide +kernel
theorem dX9_culprit_92 : decode cX9_culprit 92 = .ok (.invokestatic 318, 3) := by decide +kernel
theorem dX9_culprit_95 : decode cX9_culprit 95 = .ok (.goto 4, 3) := by decide +kernel
theorem dX9_culprit_98 : decode cX9_culprit 98 = .ok (.iconst (-1), 1) := by decide +kernel
theorem dX9_culprit_99 : decode cX9_culprit 99 = .ok (.ireturn, 1) := by decide +kernel
theorem dX9_markAt_0 : decode cX9_markAt 0 = .ok (.aload_n 0, 1) := by decide +kernel
theorem dX9_markAt_1 : decode cX9_markAt 1 = .ok (.iload_n 1, 1) := by decide +kernel
theorem dX9_markAt_2 : decode cX9_markAt 2 = .ok (.invokevirtual 321, 3) := by decide +kernel
theorem dX9_markAt_5 : decode cX9_markAt 5 = .ok (.aload_n 0, 1) := by decide +kernel
theorem dX9_markAt_6 : decode cX9_markAt 6 = .ok (.getfield 49, 3) := by decide +kernel
theorem dX9_markAt_9 : decode cX9_markAt 9 = .ok (.iload_n 1, 1) := by decide +kernel
theorem dX9_markAt_10 : decode cX9_markAt 10 = .ok (.invokevirtual 324, 3) := by decide +kernel
theorem dX9_markAt_13 : decode cX9_markAt 13 = .ok (.ireturn, 1) := by decide +kernel
theorem dX9_report_0 : decode cX9_report 0 = .ok (.aload_n 0, 1) := by decide +kernel
theorem dX9_report_1 : decode cX9_report 1 = .ok (.aload_n 0, 1) := by decide +kernel
theorem dX9_report_2 : decode cX9_report 2 = .ok (.getfield 49, 3) := by decide +kernel
theorem dX9_report_5 : decode cX9_report 5 = .ok (.getfield 172, 3) := by decide +kernel
theorem dX9_report_8 : decode cX9_report 8 = .ok (.putfield 92, 3) := by decide +kernel
theorem dX9_report_11 : decode cX9_report 11 = .ok (.iconst 0, 1) := by decide +kernel
theorem dX9_report_12 : decode cX9_report 12 = .ok (.istore_n 1, 1) := by decide +kernel
theorem dX9_report_13 : decode cX9_report 13 = .ok (.iload_n 1, 1) := by decide +kernel
theorem dX9_report_14 : decode cX9_report 14 = .ok (.aload_n 0, 1) := by decide +kernel
theorem dX9_report_15 : decode cX9_report 15 = .ok (.getfield 92, 3) := by decide +kernel
theorem dX9_report_18 : decode cX9_report 18 = .ok (.if_icmp .ge 27, 3) := by decide +kernel
theorem dX9_report_21 : decode cX9_report 21 = .ok (.iload_n 1, 1) := by decide +kernel
theorem dX9_report_22 : decode cX9_report 22 = .ok (.sipush 240, 3) := by decide +kernel
theorem dX9_report_25 : decode cX9_report 25 = .ok (.if_icmp .ge 20, 3) := by decide +kernel
theorem dX9_report_28 : decode cX9_report 28 = .ok (.aload_n 0, 1) := by decide +kernel
theorem dX9_report_29 : decode cX9_report 29 = .ok (.getfield 88, 3) := by decide +kernel
theorem dX9_report_32 : decode cX9_report 32 = .ok (.iload_n 1, 1) := by decide +kernel
theorem dX9_report_33 : decode cX9_report 33 = .ok (.aload_n 0, 1) := by decide +kernel
theorem dX9_report_34 : decode cX9_report 34 = .ok (.iload_n 1, 1) := by decide +kernel
theorem dX9_report_35 : decode cX9_report 35 = .ok (.invokevirtual 327, 3) := by decide +kernel
theorem dX9_report_38 : decode cX9_report 38 = .ok (.iastore, 1) := by decide +kernel
theorem dX9_report_39 : decode cX9_report 39 = .ok (.iinc 1 1, 3) := by decide +kernel
theorem dX9_report_42 : decode cX9_report 42 = .ok (.goto (-29), 3) := by decide +kernel
theorem dX9_report_45 : decode cX9_report 45 = .ok (.aload_n 0, 1) := by decide +kernel
theorem dX9_report_46 : decode cX9_report 46 = .ok (.getfield 92, 3) := by decide +kernel
theorem dX9_report_49 : decode cX9_report 49 = .ok (.ireturn, 1) := by decide +kernel
theorem dX9_reportByte_0 : decode cX9_reportByte 0 = .ok (.iload_n 1, 1) := by decide +kernel
theorem dX9_reportByte_1 : decode cX9_reportByte 1 = .ok (.ifCond .lt 27, 3) := by decide +kernel
theorem dX9_reportByte_4 : decode cX9_reportByte 4 = .ok (.iload_n 1, 1) := by decide +kernel
theorem dX9_reportByte_5 : decode cX9_reportByte 5 = .ok (.aload_n 0, 1) := by decide +kernel
theorem dX9_reportByte_6 : decode cX9_reportByte 6 = .ok (.getfield 92, 3) := by decide +kernel
theorem dX9_reportByte_9 : decode cX9_reportByte 9 = .ok (.if_icmp .ge 19, 3) := by decide +kernel
theorem dX9_reportByte_12 : decode cX9_reportByte 12 = .ok (.iload_n 1, 1) := by decide +kernel
theorem dX9_reportByte_13 : decode cX9_reportByte 13 = .ok (.sipush 240, 3) := by decide +kernel
theorem dX9_reportByte_16 : decode cX9_reportByte 16 = .ok (.if_icmp .ge 12, 3) := by decide +kernel
theorem dX9_reportByte_19 : decode cX9_reportByte 19 = .ok (.aload_n 0, 1) := by decide +kernel
theorem dX9_reportByte_20 : decode cX9_reportByte 20 = .ok (.getfield 88, 3) := by decide +kernel
theorem dX9_reportByte_23 : decode cX9_reportByte 23 = .ok (.iload_n 1, 1) := by decide +kernel
theorem dX9_reportByte_24 : decode cX9_reportByte 24 = .ok (.iaload, 1) := by decide +kernel
theorem dX9_reportByte_25 : decode cX9_reportByte 25 = .ok (.goto 4, 3) := by decide +kernel
theorem dX9_reportByte_28 : decode cX9_reportByte 28 = .ok (.iconst (-1), 1) := by decide +kernel
theorem dX9_reportByte_29 : decode cX9_reportByte 29 = .ok (.ireturn, 1) := by decide +kernel
theorem dX9_insert_0 : decode cX9_insert 0 = .ok (.aload_n 0, 1) := by decide +kernel
theorem dX9_insert_1 : decode cX9_insert 1 = .ok (.iload_n 1, 1) := by decide +kernel
theorem dX9_insert_2 : decode cX9_insert 2 = .ok (.invokevirtual 330, 3) := by decide +kernel
theorem dX9_insert_5 : decode cX9_insert 5 = .ok (.aload_n 0, 1) := by decide +kernel
theorem dX9_insert_6 : decode cX9_insert 6 = .ok (.iload_n 2, 1) := by decide +kernel
theorem dX9_insert_7 : decode cX9_insert 7 = .ok (.invokevirtual 117, 3) := by decide +kernel
theorem dX9_insert_10 : decode cX9_insert 10 = .ok (.aload_n 0, 1) := by decide +kernel
theorem dX9_insert_11 : decode cX9_insert 11 = .ok (.iload_n 2, 1) := by decide +kernel
theorem dX9_insert_12 : decode cX9_insert 12 = .ok (.aload_n 0, 1) := by decide +kernel
theorem dX9_insert_13 : decode cX9_insert 13 = .ok (.getfield 49, 3) := by decide +kernel
theorem dX9_insert_16 : decode cX9_insert 16 = .ok (.getfield 172, 3) := by decide +kernel
theorem dX9_insert_19 : decode cX9_insert 19 = .ok (.invokevirtual 158, 3) := by decide +kernel
theorem dX9_insert_22 : decode cX9_insert 22 = .ok (.istore_n 3, 1) := by decide +kernel
theorem dX9_insert_23 : decode cX9_insert 23 = .ok (.iload_n 3, 1) := by decide +kernel
theorem dX9_insert_24 : decode cX9_insert 24 = .ok (.ifCond .ne 20, 3) := by decide +kernel
theorem dX9_insert_27 : decode cX9_insert 27 = .ok (.aload_n 0, 1) := by decide +kernel
theorem dX9_insert_28 : decode cX9_insert 28 = .ok (.invokevirtual 333, 3) := by decide +kernel
theorem dX9_insert_31 : decode cX9_insert 31 = .ok (.aload_n 0, 1) := by decide +kernel
theorem dX9_insert_32 : decode cX9_insert 32 = .ok (.getfield 49, 3) := by decide +kernel
theorem dX9_insert_35 : decode cX9_insert 35 = .ok (.iload_n 1, 1) := by decide +kernel
theorem dX9_insert_36 : decode cX9_insert 36 = .ok (.aload_n 0, 1) := by decide +kernel
theorem dX9_insert_37 : decode cX9_insert 37 = .ok (.getfield 12, 3) := by decide +kernel
theorem dX9_insert_40 : decode cX9_insert 40 = .ok (.iload_n 2, 1) := by decide +kernel
theorem dX9_insert_41 : decode cX9_insert 41 = .ok (.invokevirtual 161, 3) := by decide +kernel
theorem dX9_insert_44 : decode cX9_insert 44 = .ok (.aload_n 0, 1) := by decide +kernel
theorem dX9_insert_45 : decode cX9_insert 45 = .ok (.getfield 12, 3) := by decide +kernel
theorem dX9_insert_48 : decode cX9_insert 48 = .ok (.iconst 0, 1) := by decide +kernel
theorem dX9_insert_49 : decode cX9_insert 49 = .ok (.putfield 110, 3) := by decide +kernel
theorem dX9_insert_52 : decode cX9_insert 52 = .ok (.iload_n 3, 1) := by decide +kernel
theorem dX9_insert_53 : decode cX9_insert 53 = .ok (.ifCond .ne 13, 3) := by decide +kernel
theorem dX9_insert_56 : decode cX9_insert 56 = .ok (.aload_n 0, 1) := by decide +kernel
theorem dX9_insert_57 : decode cX9_insert 57 = .ok (.getfield 49, 3) := by decide +kernel
theorem dX9_insert_60 : decode cX9_insert 60 = .ok (.getfield 172, 3) := by decide +kernel
theorem dX9_insert_63 : decode cX9_insert 63 = .ok (.goto 4, 3) := by decide +kernel
theorem dX9_insert_66 : decode cX9_insert 66 = .ok (.iload_n 3, 1) := by decide +kernel
theorem dX9_insert_67 : decode cX9_insert 67 = .ok (.ireturn, 1) := by decide +kernel
theorem dX9_erase_0 : decode cX9_erase 0 = .ok (.aload_n 0, 1) := by decide +kernel
theorem dX9_erase_1 : decode cX9_erase 1 = .ok (.iload_n 1, 1) := by decide +kernel
theorem dX9_erase_2 : decode cX9_erase 2 = .ok (.iload_n 2, 1) := by decide +kernel
theorem dX9_erase_3 : decode cX9_erase 3 = .ok (.invokevirtual 336, 3) := by decide +kernel
theorem dX9_erase_6 : decode cX9_erase 6 = .ok (.aload_n 0, 1) := by decide +kernel
theorem dX9_erase_7 : decode cX9_erase 7 = .ok (.invokevirtual 333, 3) := by decide +kernel
theorem dX9_erase_10 : decode cX9_erase 10 = .ok (.aload_n 0, 1) := by decide +kernel
theorem dX9_erase_11 : decode cX9_erase 11 = .ok (.getfield 49, 3) := by decide +kernel
theorem dX9_erase_14 : decode cX9_erase 14 = .ok (.iload_n 1, 1) := by decide +kernel
theorem dX9_erase_15 : decode cX9_erase 15 = .ok (.iload_n 2, 1) := by decide +kernel
theorem dX9_erase_16 : decode cX9_erase 16 = .ok (.invokevirtual 340, 3) := by decide +kernel
theorem dX9_erase_19 : decode cX9_erase 19 = .ok (.aload_n 0, 1) := by decide +kernel
theorem dX9_erase_20 : decode cX9_erase 20 = .ok (.getfield 49, 3) := by decide +kernel
theorem dX9_erase_23 : decode cX9_erase 23 = .ok (.getfield 172, 3) := by decide +kernel
theorem dX9_erase_26 : decode cX9_erase 26 = .ok (.ireturn, 1) := by decide +kernel
theorem dX9_wrap_0 : decode cX9_wrap 0 = .ok (.aload_n 0, 1) := by decide +kernel
theorem dX9_wrap_1 : decode cX9_wrap 1 = .ok (.iload_n 1, 1) := by decide +kernel
theorem dX9_wrap_2 : decode cX9_wrap 2 = .ok (.iload_n 2, 1) := by decide +kernel
theorem dX9_wrap_3 : decode cX9_wrap 3 = .ok (.invokevirtual 336, 3) := by decide +kernel
theorem dX9_wrap_6 : decode cX9_wrap 6 = .ok (.aload_n 0, 1) := by decide +kernel
theorem dX9_wrap_7 : decode cX9_wrap 7 = .ok (.iload_n 3, 1) := by decide +kernel
theorem dX9_wrap_8 : decode cX9_wrap 8 = .ok (.invokevirtual 259, 3) := by decide +kernel
theorem dX9_wrap_11 : decode cX9_wrap 11 = .ok (.aload_n 0, 1) := by decide +kernel
theorem dX9_wrap_12 : decode cX9_wrap 12 = .ok (.getfield 49, 3) := by decide +kernel
theorem dX9_wrap_15 : decode cX9_wrap 15 = .ok (.iconst 2, 1) := by decide +kernel
theorem dX9_wrap_16 : decode cX9_wrap 16 = .ok (.invokevirtual 343, 3) := by decide +kernel
theorem dX9_wrap_19 : decode cX9_wrap 19 = .ok (.ifCond .ne 6, 3) := by decide +kernel
theorem dX9_wrap_22 : decode cX9_wrap 22 = .ok (.bipush (-2), 2) := by decide +kernel
theorem dX9_wrap_24 : decode cX9_wrap 24 = .ok (.ireturn, 1) := by decide +kernel
theorem dX9_wrap_25 : decode cX9_wrap 25 = .ok (.aload_n 0, 1) := by decide +kernel
theorem dX9_wrap_26 : decode cX9_wrap 26 = .ok (.invokevirtual 333, 3) := by decide +kernel
theorem dX9_wrap_29 : decode cX9_wrap 29 = .ok (.aload_n 0, 1) := by decide +kernel
theorem dX9_wrap_30 : decode cX9_wrap 30 = .ok (.iload_n 1, 1) := by decide +kernel
theorem dX9_wrap_31 : decode cX9_wrap 31 = .ok (.iload_n 2, 1) := by decide +kernel
theorem dX9_wrap_32 : decode cX9_wrap 32 = .ok (.iload_n 3, 1) := by decide +kernel
theorem dX9_wrap_33 : decode cX9_wrap 33 = .ok (.invokevirtual 347, 3) := by decide +kernel
theorem dX9_wrap_36 : decode cX9_wrap 36 = .ok (.aload_n 0, 1) := by decide +kernel
theorem dX9_wrap_37 : decode cX9_wrap 37 = .ok (.getfield 49, 3) := by decide +kernel
theorem dX9_wrap_40 : decode cX9_wrap 40 = .ok (.getfield 172, 3) := by decide +kernel
theorem dX9_wrap_43 : decode cX9_wrap 43 = .ok (.ireturn, 1) := by decide +kernel
theorem dX9_unwrap_0 : decode cX9_unwrap 0 = .ok (.aload_n 0, 1) := by decide +kernel
theorem dX9_unwrap_1 : decode cX9_unwrap 1 = .ok (.iload_n 1, 1) := by decide +kernel
theorem dX9_unwrap_2 : decode cX9_unwrap 2 = .ok (.invokevirtual 209, 3) := by decide +kernel
theorem dX9_unwrap_5 : decode cX9_unwrap 5 = .ok (.aload_n 0, 1) := by decide +kernel
theorem dX9_unwrap_6 : decode cX9_unwrap 6 = .ok (.iload_n 1, 1) := by decide +kernel
theorem dX9_unwrap_7 : decode cX9_unwrap 7 = .ok (.invokevirtual 241, 3) := by decide +kernel
theorem dX9_unwrap_10 : decode cX9_unwrap 10 = .ok (.aload_n 0, 1) := by decide +kernel
theorem dX9_unwrap_11 : decode cX9_unwrap 11 = .ok (.invokevirtual 165, 3) := by decide +kernel
theorem dX9_unwrap_14 : decode cX9_unwrap 14 = .ok (.iload_n 1, 1) := by decide +kernel
theorem dX9_unwrap_15 : decode cX9_unwrap 15 = .ok (.invokevirtual 244, 3) := by decide +kernel
theorem dX9_unwrap_18 : decode cX9_unwrap 18 = .ok (.istore_n 2, 1) := by decide +kernel
theorem dX9_unwrap_19 : decode cX9_unwrap 19 = .ok (.aload_n 0, 1) := by decide +kernel
theorem dX9_unwrap_20 : decode cX9_unwrap 20 = .ok (.invokevirtual 165, 3) := by decide +kernel
theorem dX9_unwrap_23 : decode cX9_unwrap 23 = .ok (.iload_n 2, 1) := by decide +kernel
theorem dX9_unwrap_24 : decode cX9_unwrap 24 = .ok (.invokevirtual 221, 3) := by decide +kernel
theorem dX9_unwrap_27 : decode cX9_unwrap 27 = .ok (.istore_n 3, 1) := by decide +kernel
theorem dX9_unwrap_28 : decode cX9_unwrap 28 = .ok (.aload_n 0, 1) := by decide +kernel
theorem dX9_unwrap_29 : decode cX9_unwrap 29 = .ok (.invokevirtual 333, 3) := by decide +kernel
theorem dX9_unwrap_32 : decode cX9_unwrap 32 = .ok (.aload_n 0, 1) := by decide +kernel
theorem dX9_unwrap_33 : decode cX9_unwrap 33 = .ok (.getfield 49, 3) := by decide +kernel
theorem dX9_unwrap_36 : decode cX9_unwrap 36 = .ok (.iload_n 3, 1) := by decide +kernel
theorem dX9_unwrap_37 : decode cX9_unwrap 37 = .ok (.iload_n 3, 1) := by decide +kernel
theorem dX9_unwrap_38 : decode cX9_unwrap 38 = .ok (.iconst 1, 1) := by decide +kernel
theorem dX9_unwrap_39 : decode cX9_unwrap 39 = .ok (.iadd, 1) := by decide +kernel
theorem dX9_unwrap_40 : decode cX9_unwrap 40 = .ok (.invokevirtual 340, 3) := by decide +kernel
theorem dX9_unwrap_43 : decode cX9_unwrap 43 = .ok (.aload_n 0, 1) := by decide +kernel
theorem dX9_unwrap_44 : decode cX9_unwrap 44 = .ok (.getfield 49, 3) := by decide +kernel
theorem dX9_unwrap_47 : decode cX9_unwrap 47 = .ok (.iload_n 2, 1) := by decide +kernel
theorem dX9_unwrap_48 : decode cX9_unwrap 48 = .ok (.iload_n 2, 1) := by decide +kernel
theorem dX9_unwrap_49 : decode cX9_unwrap 49 = .ok (.iconst 1, 1) := by decide +kernel
theorem dX9_unwrap_50 : decode cX9_unwrap 50 = .ok (.iadd, 1) := by decide +kernel
theorem dX9_unwrap_51 : decode cX9_unwrap 51 = .ok (.invokevirtual 340, 3) := by decide +kernel
theorem dX9_unwrap_54 : decode cX9_unwrap 54 = .ok (.aload_n 0, 1) := by decide +kernel
theorem dX9_unwrap_55 : decode cX9_unwrap 55 = .ok (.getfield 49, 3) := by decide +kernel
theorem dX9_unwrap_58 : decode cX9_unwrap 58 = .ok (.getfield 172, 3) := by decide +kernel
theorem dX9_unwrap_61 : decode cX9_unwrap 61 = .ok (.ireturn, 1) := by decide +kernel
theorem dX9_repair_0 : decode cX9_repair 0 = .ok (.aload_n 0, 1) := by decide +kernel
theorem dX9_repair_1 : decode cX9_repair 1 = .ok (.invokevirtual 274, 3) := by decide +kernel
theorem dX9_repair_4 : decode cX9_repair 4 = .ok (.getfield 278, 3) := by decide +kernel
theorem dX9_repair_7 : decode cX9_repair 7 = .ok (.istore_n 1, 1) := by decide +kernel
theorem dX9_repair_8 : decode cX9_repair 8 = .ok (.aload_n 0, 1) := by decide +kernel
theorem dX9_repair_9 : decode cX9_repair 9 = .ok (.getfield 53, 3) := by decide +kernel
theorem dX9_repair_12 : decode cX9_repair 12 = .ok (.aload_n 0, 1) := by decide +kernel
theorem dX9_repair_13 : decode cX9_repair 13 = .ok (.getfield 49, 3) := by decide +kernel
theorem dX9_repair_16 : decode cX9_repair 16 = .ok (.invokevirtual 350, 3) := by decide +kernel
theorem dX9_repair_19 : decode cX9_repair 19 = .ok (.aload_n 0, 1) := by decide +kernel
theorem dX9_repair_20 : decode cX9_repair 20 = .ok (.invokevirtual 353, 3) := by decide +kernel
theorem dX9_repair_23 : decode cX9_repair 23 = .ok (.ifCond .ne 6, 3) := by decide +kernel
theorem dX9_repair_26 : decode cX9_repair 26 = .ok (.bipush (-2), 2) := by decide +kernel
theorem dX9_repair_28 : decode cX9_repair 28 = .ok (.ireturn, 1) := by decide +kernel
theorem dX9_repair_29 : decode cX9_repair 29 = .ok (.aload_n 0, 1) := by decide +kernel
theorem dX9_repair_30 : decode cX9_repair 30 = .ok (.getfield 59, 3) := by decide +kernel
theorem dX9_repair_33 : decode cX9_repair 33 = .ok (.aload_n 0, 1) := by decide +kernel
theorem dX9_repair_34 : decode cX9_repair 34 = .ok (.getfield 53, 3) := by decide +kernel
theorem dX9_repair_37 : decode cX9_repair 37 = .ok (.invokevirtual 357, 3) := by decide +kernel
theorem dX9_repair_40 : decode cX9_repair 40 = .ok (.iload_n 1, 1) := by decide +kernel
theorem dX9_repair_41 : decode cX9_repair 41 = .ok (.ireturn, 1) := by decide +kernel
theorem dX9_mark_0 : decode cX9_mark 0 = .ok (.aload_n 0, 1) := by decide +kernel
theorem dX9_mark_1 : decode cX9_mark 1 = .ok (.iload_n 1, 1) := by decide +kernel
theorem dX9_mark_2 : decode cX9_mark 2 = .ok (.invokevirtual 330, 3) := by decide +kernel
theorem dX9_mark_5 : decode cX9_mark 5 = .ok (.aload_n 0, 1) := by decide +kernel
theorem dX9_mark_6 : decode cX9_mark 6 = .ok (.getfield 49, 3) := by decide +kernel
theorem dX9_mark_9 : decode cX9_mark 9 = .ok (.getfield 190, 3) := by decide +kernel
theorem dX9_mark_12 : decode cX9_mark 12 = .ok (.bipush 8, 2) := by decide +kernel
theorem dX9_mark_14 : decode cX9_mark 14 = .ok (.if_icmp .lt 6, 3) := by decide +kernel
theorem dX9_mark_17 : decode cX9_mark 17 = .ok (.bipush (-2), 2) := by decide +kernel
theorem dX9_mark_19 : decode cX9_mark 19 = .ok (.ireturn, 1) := by decide +kernel
theorem dX9_mark_20 : decode cX9_mark 20 = .ok (.aload_n 0, 1) := by decide +kernel
theorem dX9_mark_21 : decode cX9_mark 21 = .ok (.getfield 59, 3) := by decide +kernel
theorem dX9_mark_24 : decode cX9_mark 24 = .ok (.aload_n 0, 1) := by decide +kernel
theorem dX9_mark_25 : decode cX9_mark 25 = .ok (.getfield 49, 3) := by decide +kernel
theorem dX9_mark_28 : decode cX9_mark 28 = .ok (.invokevirtual 357, 3) := by decide +kernel
theorem dX9_mark_31 : decode cX9_mark 31 = .ok (.aload_n 0, 1) := by decide +kernel
theorem dX9_mark_32 : decode cX9_mark 32 = .ok (.getfield 49, 3) := by decide +kernel
theorem dX9_mark_35 : decode cX9_mark 35 = .ok (.iload_n 1, 1) := by decide +kernel
theorem dX9_mark_36 : decode cX9_mark 36 = .ok (.invokevirtual 360, 3) := by decide +kernel
theorem dX9_mark_39 : decode cX9_mark 39 = .ok (.aload_n 0, 1) := by decide +kernel
theorem dX9_mark_40 : decode cX9_mark 40 = .ok (.getfield 49, 3) := by decide +kernel
theorem dX9_mark_43 : decode cX9_mark 43 = .ok (.getfield 190, 3) := by decide +kernel
theorem dX9_mark_46 : decode cX9_mark 46 = .ok (.iconst 1, 1) := by decide +kernel
theorem dX9_mark_47 : decode cX9_mark 47 = .ok (.isub, 1) := by decide +kernel
theorem dX9_mark_48 : decode cX9_mark 48 = .ok (.ireturn, 1) := by decide +kernel
theorem dX9_unmark_0 : decode cX9_unmark 0 = .ok (.aload_n 0, 1) := by decide +kernel
theorem dX9_unmark_1 : decode cX9_unmark 1 = .ok (.iload_n 1, 1) := by decide +kernel
theorem dX9_unmark_2 : decode cX9_unmark 2 = .ok (.invokevirtual 321, 3) := by decide +kernel
theorem dX9_unmark_5 : decode cX9_unmark 5 = .ok (.aload_n 0, 1) := by decide +kernel
theorem dX9_unmark_6 : decode cX9_unmark 6 = .ok (.getfield 49, 3) := by decide +kernel
theorem dX9_unmark_9 : decode cX9_unmark 9 = .ok (.iload_n 1, 1) := by decide +kernel
theorem dX9_unmark_10 : decode cX9_unmark 10 = .ok (.invokevirtual 324, 3) := by decide +kernel
theorem dX9_unmark_13 : decode cX9_unmark 13 = .ok (.istore_n 2, 1) := by decide +kernel
theorem dX9_unmark_14 : decode cX9_unmark 14 = .ok (.aload_n 0, 1) := by decide +kernel
theorem dX9_unmark_15 : decode cX9_unmark 15 = .ok (.getfield 59, 3) := by decide +kernel
theorem dX9_unmark_18 : decode cX9_unmark 18 = .ok (.aload_n 0, 1) := by decide +kernel
theorem dX9_unmark_19 : decode cX9_unmark 19 = .ok (.getfield 49, 3) := by decide +kernel
theorem dX9_unmark_22 : decode cX9_unmark 22 = .ok (.invokevirtual 357, 3) := by decide +kernel
theorem dX9_unmark_25 : decode cX9_unmark 25 = .ok (.aload_n 0, 1) := by decide +kernel
theorem dX9_unmark_26 : decode cX9_unmark 26 = .ok (.getfield 49, 3) := by decide +kernel
theorem dX9_unmark_29 : decode cX9_unmark 29 = .ok (.iload_n 1, 1) := by decide +kernel
theorem dX9_unmark_30 : decode cX9_unmark 30 = .ok (.invokevirtual 363, 3) := by decide +kernel
theorem dX9_unmark_33 : decode cX9_unmark 33 = .ok (.iload_n 2, 1) := by decide +kernel
theorem dX9_unmark_34 : decode cX9_unmark 34 = .ok (.ireturn, 1) := by decide +kernel
theorem dX9_setColours_0 : decode cX9_setColours 0 = .ok (.iload_n 1, 1) := by decide +kernel
theorem dX9_setColours_1 : decode cX9_setColours 1 = .ok (.iconst 1, 1) := by decide +kernel
theorem dX9_setColours_2 : decode cX9_setColours 2 = .ok (.if_icmp .lt 9, 3) := by decide +kernel
theorem dX9_setColours_5 : decode cX9_setColours 5 = .ok (.iload_n 1, 1) := by decide +kernel
theorem dX9_setColours_6 : decode cX9_setColours 6 = .ok (.bipush 9, 2) := by decide +kernel
theorem dX9_setColours_8 : decode cX9_setColours 8 = .ok (.if_icmp .le 14, 3) := by decide +kernel
theorem dX9_setColours_11 : decode cX9_setColours 11 = .ok (.new 202, 3) := by decide +kernel
theorem dX9_setColours_14 : decode cX9_setColours 14 = .ok (.dup, 1) := by decide +kernel
theorem dX9_setColours_15 : decode cX9_setColours 15 = .ok (.ldc_w 366, 3) := by decide +kernel
theorem dX9_setColours_18 : decode cX9_setColours 18 = .ok (.invokespecial 206, 3) := by decide +kernel
theorem dX9_setColours_21 : decode cX9_setColours 21 = .ok (.athrow, 1) := by decide +kernel
theorem dX9_setColours_22 : decode cX9_setColours 22 = .ok (.aload_n 0, 1) := by decide +kernel
theorem dX9_setColours_23 : decode cX9_setColours 23 = .ok (.getfield 49, 3) := by decide +kernel
theorem dX9_setColours_26 : decode cX9_setColours 26 = .ok (.getfield 141, 3) := by decide +kernel
theorem dX9_setColours_29 : decode cX9_setColours 29 = .ok (.istore_n 2, 1) := by decide +kernel
theorem dX9_setColours_30 : decode cX9_setColours 30 = .ok (.aload_n 0, 1) := by decide +kernel
theorem dX9_setColours_31 : decode cX9_setColours 31 = .ok (.getfield 59, 3) := by decide +kernel
theorem dX9_setColours_34 : decode cX9_setColours 34 = .ok (.aload_n 0, 1) := by decide +kernel
theorem dX9_setColours_35 : decode cX9_setColours 35 = .ok (.getfield 49, 3) := by decide +kernel
theorem dX9_setColours_38 : decode cX9_setColours 38 = .ok (.invokevirtual 357, 3) := by decide +kernel
theorem dX9_setColours_41 : decode cX9_setColours 41 = .ok (.aload_n 0, 1) := by decide +kernel
theorem dX9_setColours_42 : decode cX9_setColours 42 = .ok (.getfield 49, 3) := by decide +kernel
theorem dX9_setColours_45 : decode cX9_setColours 45 = .ok (.iload_n 1, 1) := by decide +kernel
theorem dX9_setColours_46 : decode cX9_setColours 46 = .ok (.putfield 141, 3) := by decide +kernel
theorem dX9_setColours_49 : decode cX9_setColours 49 = .ok (.iload_n 2, 1) := by decide +kernel
theorem dX9_setColours_50 : decode cX9_setColours 50 = .ok (.ireturn, 1) := by decide +kernel
theorem dX9_setCosts_0 : decode cX9_setCosts 0 = .ok (.iload_n 1, 1) := by decide +kernel
theorem dX9_setCosts_1 : decode cX9_setCosts 1 = .ok (.invokestatic 368, 3) := by decide +kernel
theorem dX9_setCosts_4 : decode cX9_setCosts 4 = .ok (.ifCond .eq 17, 3) := by decide +kernel
theorem dX9_setCosts_7 : decode cX9_setCosts 7 = .ok (.iload_n 2, 1) := by decide +kernel
theorem dX9_setCosts_8 : decode cX9_setCosts 8 = .ok (.invokestatic 368, 3) := by decide +kernel
theorem dX9_setCosts_11 : decode cX9_setCosts 11 = .ok (.ifCond .eq 10, 3) := by decide +kernel
theorem dX9_setCosts_14 : decode cX9_setCosts 14 = .ok (.iload_n 3, 1) := by decide +kernel
theorem dX9_setCosts_15 : decode cX9_setCosts 15 = .ok (.invokestatic 368, 3) := by decide +kernel
theorem dX9_setCosts_18 : decode cX9_setCosts 18 = .ok (.ifCond .ne 14, 3) := by decide +kernel
theorem dX9_setCosts_21 : decode cX9_setCosts 21 = .ok (.new 202, 3) := by decide +kernel
theorem dX9_setCosts_24 : decode cX9_setCosts 24 = .ok (.dup, 1) := by decide +kernel
theorem dX9_setCosts_25 : decode cX9_setCosts 25 = .ok (.ldc_w 371, 3) := by decide +kernel
theorem dX9_setCosts_28 : decode cX9_setCosts 28 = .ok (.invokespecial 206, 3) := by decide +kernel
theorem dX9_setCosts_31 : decode cX9_setCosts 31 = .ok (.athrow, 1) := by decide +kernel
theorem dX9_setCosts_32 : decode cX9_setCosts 32 = .ok (.aload_n 0, 1) := by decide +kernel
theorem dX9_setCosts_33 : decode cX9_setCosts 33 = .ok (.invokevirtual 333, 3) := by decide +kernel
theorem dX9_setCosts_36 : decode cX9_setCosts 36 = .ok (.aload_n 0, 1) := by decide +kernel
theorem dX9_setCosts_37 : decode cX9_setCosts 37 = .ok (.getfield 49, 3) := by decide +kernel
theorem dX9_setCosts_40 : decode cX9_setCosts 40 = .ok (.iload_n 1, 1) := by decide +kernel
theorem dX9_setCosts_41 : decode cX9_setCosts 41 = .ok (.iload_n 2, 1) := by decide +kernel
theorem dX9_setCosts_42 : decode cX9_setCosts 42 = .ok (.iload_n 3, 1) := by decide +kernel
theorem dX9_setCosts_43 : decode cX9_setCosts 43 = .ok (.invokevirtual 151, 3) := by decide +kernel
theorem dX9_setCosts_46 : decode cX9_setCosts 46 = .ok (.aload_n 0, 1) := by decide +kernel
theorem dX9_setCosts_47 : decode cX9_setCosts 47 = .ok (.invokevirtual 274, 3) := by decide +kernel
theorem dX9_setCosts_50 : decode cX9_setCosts 50 = .ok (.getfield 278, 3) := by decide +kernel
theorem dX9_setCosts_53 : decode cX9_setCosts 53 = .ok (.ireturn, 1) := by decide +kernel
theorem dX9_script_0 : decode cX9_script 0 = .ok (.aload_n 0, 1) := by decide +kernel
theorem dX9_script_1 : decode cX9_script 1 = .ok (.iload_n 1, 1) := by decide +kernel
theorem dX9_script_2 : decode cX9_script 2 = .ok (.invokevirtual 117, 3) := by decide +kernel
theorem dX9_script_5 : decode cX9_script 5 = .ok (.aload_n 0, 1) := by decide +kernel
theorem dX9_script_6 : decode cX9_script 6 = .ok (.getfield 21, 3) := by decide +kernel
theorem dX9_script_9 : decode cX9_script 9 = .ok (.iload_n 1, 1) := by decide +kernel
theorem dX9_script_10 : decode cX9_script 10 = .ok (.invokevirtual 120, 3) := by decide +kernel
theorem dX9_script_13 : decode cX9_script 13 = .ok (.aload_n 0, 1) := by decide +kernel
theorem dX9_script_14 : decode cX9_script 14 = .ok (.getfield 35, 3) := by decide +kernel
theorem dX9_script_17 : decode cX9_script 17 = .ok (.aload_n 0, 1) := by decide +kernel
theorem dX9_script_18 : decode cX9_script 18 = .ok (.getfield 21, 3) := by decide +kernel
theorem dX9_script_21 : decode cX9_script 21 = .ok (.invokevirtual 373, 3) := by decide +kernel
theorem dX9_script_24 : decode cX9_script 24 = .ok (.istore_n 2, 1) := by decide +kernel
theorem dX9_script_25 : decode cX9_script 25 = .ok (.aload_n 0, 1) := by decide +kernel
theorem dX9_script_26 : decode cX9_script 26 = .ok (.iload_n 2, 1) := by decide +kernel
theorem dX9_script_27 : decode cX9_script 27 = .ok (.invokevirtual 127, 3) := by decide +kernel
theorem dX9_script_30 : decode cX9_script 30 = .ok (.aload_n 0, 1) := by decide +kernel
theorem dX9_script_31 : decode cX9_script 31 = .ok (.getfield 12, 3) := by decide +kernel
theorem dX9_script_34 : decode cX9_script 34 = .ok (.iconst 0, 1) := by decide +kernel
theorem dX9_script_35 : decode cX9_script 35 = .ok (.putfield 110, 3) := by decide +kernel
theorem dX9_script_38 : decode cX9_script 38 = .ok (.iload_n 2, 1) := by decide +kernel
theorem dX9_script_39 : decode cX9_script 39 = .ok (.ifCond .eq 8, 3) := by decide +kernel
theorem dX9_script_42 : decode cX9_script 42 = .ok (.bipush (-10), 2) := by decide +kernel
theorem dX9_script_44 : decode cX9_script 44 = .ok (.iload_n 2, 1) := by decide +kernel
theorem dX9_script_45 : decode cX9_script 45 = .ok (.isub, 1) := by decide +kernel
theorem dX9_script_46 : decode cX9_script 46 = .ok (.ireturn, 1) := by decide +kernel
theorem dX9_script_47 : decode cX9_script 47 = .ok (.aload_n 0, 1) := by decide +kernel
theorem dX9_script_48 : decode cX9_script 48 = .ok (.getfield 53, 3) := by decide +kernel
theorem dX9_script_51 : decode cX9_script 51 = .ok (.aload_n 0, 1) := by decide +kernel
theorem dX9_script_52 : decode cX9_script 52 = .ok (.getfield 49, 3) := by decide +kernel
theorem dX9_script_55 : decode cX9_script 55 = .ok (.invokevirtual 350, 3) := by decide +kernel
theorem dX9_script_58 : decode cX9_script 58 = .ok (.iconst 0, 1) := by decide +kernel
theorem dX9_script_59 : decode cX9_script 59 = .ok (.istore_n 3, 1) := by decide +kernel
theorem dX9_script_60 : decode cX9_script 60 = .ok (.iload_n 3, 1) := by decide +kernel
theorem dX9_script_61 : decode cX9_script 61 = .ok (.aload_n 0, 1) := by decide +kernel
theorem dX9_script_62 : decode cX9_script 62 = .ok (.getfield 35, 3) := by decide +kernel
theorem dX9_script_65 : decode cX9_script 65 = .ok (.getfield 374, 3) := by decide +kernel
theorem dX9_script_68 : decode cX9_script 68 = .ok (.if_icmp .ge 37, 3) := by decide +kernel
theorem dX9_script_71 : decode cX9_script 71 = .ok (.aload_n 0, 1) := by decide +kernel
theorem dX9_script_72 : decode cX9_script 72 = .ok (.iload_n 3, 1) := by decide +kernel
theorem dX9_script_73 : decode cX9_script 73 = .ok (.invokevirtual 375, 3) := by decide +kernel
theorem dX9_script_76 : decode cX9_script 76 = .ok (.ifCond .ne 23, 3) := by decide +kernel
theorem dX9_script_79 : decode cX9_script 79 = .ok (.aload_n 0, 1) := by decide +kernel
theorem dX9_script_80 : decode cX9_script 80 = .ok (.getfield 49, 3) := by decide +kernel
theorem dX9_script_83 : decode cX9_script 83 = .ok (.aload_n 0, 1) := by decide +kernel
theorem dX9_script_84 : decode cX9_script 84 = .ok (.getfield 53, 3) := by decide +kernel
theorem dX9_script_87 : decode cX9_script 87 = .ok (.invokevirtual 350, 3) := by decide +kernel
theorem dX9_script_90 : decode cX9_script 90 = .ok (.aload_n 0, 1) := by decide +kernel
theorem dX9_script_91 : decode cX9_script 91 = .ok (.invokevirtual 378, 3) := by decide +kernel
theorem dX9_script_94 : decode cX9_script 94 = .ok (.bipush (-20), 2) := by decide +kernel
theorem dX9_script_96 : decode cX9_script 96 = .ok (.iload_n 3, 1) := by decide +kernel
theorem dX9_script_97 : decode cX9_script 97 = .ok (.isub, 1) := by decide +kernel
theorem dX9_script_98 : decode cX9_script 98 = .ok (.ireturn, 1) := by decide +kernel
theorem dX9_script_99 : decode cX9_script 99 = .ok (.iinc 3 1, 3) := by decide +kernel
theorem dX9_script_102 : decode cX9_script 102 = .ok (.goto (-42), 3) := by decide +kernel
theorem dX9_script_105 : decode cX9_script 105 = .ok (.aload_n 0, 1) := by decide +kernel
theorem dX9_script_106 : decode cX9_script 106 = .ok (.getfield 59, 3) := by decide +kernel
theorem dX9_script_109 : decode cX9_script 109 = .ok (.aload_n 0, 1) := by decide +kernel
theorem dX9_script_110 : decode cX9_script 110 = .ok (.getfield 53, 3) := by decide +kernel
theorem dX9_script_113 : decode cX9_script 113 = .ok (.invokevirtual 357, 3) := by decide +kernel
theorem dX9_script_116 : decode cX9_script 116 = .ok (.aload_n 0, 1) := by decide +kernel
theorem dX9_script_117 : decode cX9_script 117 = .ok (.getfield 35, 3) := by decide +kernel
theorem dX9_script_120 : decode cX9_script 120 = .ok (.getfield 374, 3) := by decide +kernel
theorem dX9_script_123 : decode cX9_script 123 = .ok (.ireturn, 1) := by decide +kernel
theorem dX9_undo_0 : decode cX9_undo 0 = .ok (.aload_n 0, 1) := by decide +kernel
theorem dX9_undo_1 : decode cX9_undo 1 = .ok (.getfield 59, 3) := by decide +kernel
theorem dX9_undo_4 : decode cX9_undo 4 = .ok (.getfield 193, 3) := by decide +kernel
theorem dX9_undo_7 : decode cX9_undo 7 = .ok (.ifCond .ne 5, 3) := by decide +kernel
theorem dX9_undo_10 : decode cX9_undo 10 = .ok (.iconst (-1), 1) := by decide +kernel
theorem dX9_undo_11 : decode cX9_undo 11 = .ok (.ireturn, 1) := by decide +kernel
theorem dX9_undo_12 : decode cX9_undo 12 = .ok (.aload_n 0, 1) := by decide +kernel
theorem dX9_undo_13 : decode cX9_undo 13 = .ok (.getfield 59, 3) := by decide +kernel
theorem dX9_undo_16 : decode cX9_undo 16 = .ok (.aload_n 0, 1) := by decide +kernel
theorem dX9_undo_17 : decode cX9_undo 17 = .ok (.getfield 49, 3) := by decide +kernel
theorem dX9_undo_20 : decode cX9_undo 20 = .ok (.invokevirtual 381, 3) := by decide +kernel
theorem dX9_undo_23 : decode cX9_undo 23 = .ok (.aload_n 0, 1) := by decide +kernel
theorem dX9_undo_24 : decode cX9_undo 24 = .ok (.invokevirtual 378, 3) := by decide +kernel
theorem dX9_undo_27 : decode cX9_undo 27 = .ok (.aload_n 0, 1) := by decide +kernel
theorem dX9_undo_28 : decode cX9_undo 28 = .ok (.getfield 59, 3) := by decide +kernel
theorem dX9_undo_31 : decode cX9_undo 31 = .ok (.getfield 193, 3) := by decide +kernel
theorem dX9_undo_34 : decode cX9_undo 34 = .ok (.ireturn, 1) := by decide +kernel
theorem dX9_saveSnapshot_0 : decode cX9_saveSnapshot 0 = .ok (.aload_n 0, 1) := by decide +kernel
theorem dX9_saveSnapshot_1 : decode cX9_saveSnapshot 1 = .ok (.iload_n 1, 1) := by decide +kernel
theorem dX9_saveSnapshot_2 : decode cX9_saveSnapshot 2 = .ok (.invokevirtual 384, 3) := by decide +kernel
theorem dX9_saveSnapshot_5 : decode cX9_saveSnapshot 5 = .ok (.aload_n 0, 1) := by decide +kernel
theorem dX9_saveSnapshot_6 : decode cX9_saveSnapshot 6 = .ok (.getfield 63, 3) := by decide +kernel
theorem dX9_saveSnapshot_9 : decode cX9_saveSnapshot 9 = .ok (.iload_n 1, 1) := by decide +kernel
theorem dX9_saveSnapshot_10 : decode cX9_saveSnapshot 10 = .ok (.aaload, 1) := by decide +kernel
theorem dX9_saveSnapshot_11 : decode cX9_saveSnapshot 11 = .ok (.astore_n 2, 1) := by decide +kernel
theorem dX9_saveSnapshot_12 : decode cX9_saveSnapshot 12 = .ok (.aload_n 2, 1) := by decide +kernel
theorem dX9_saveSnapshot_13 : decode cX9_saveSnapshot 13 = .ok (.ifnull 11, 3) := by decide +kernel
theorem dX9_saveSnapshot_16 : decode cX9_saveSnapshot 16 = .ok (.aload_n 2, 1) := by decide +kernel
theorem dX9_saveSnapshot_17 : decode cX9_saveSnapshot 17 = .ok (.aload_n 0, 1) := by decide +kernel
theorem dX9_saveSnapshot_18 : decode cX9_saveSnapshot 18 = .ok (.getfield 49, 3) := by decide +kernel
theorem dX9_saveSnapshot_21 : decode cX9_saveSnapshot 21 = .ok (.invokevirtual 350, 3) := by decide +kernel
theorem dX9_saveSnapshot_24 : decode cX9_saveSnapshot 24 = .ok (.aload_n 0, 1) := by decide +kernel
theorem dX9_saveSnapshot_25 : decode cX9_saveSnapshot 25 = .ok (.getfield 67, 3) := by decide +kernel
theorem dX9_saveSnapshot_28 : decode cX9_saveSnapshot 28 = .ok (.iload_n 1, 1) := by decide +kernel
theorem dX9_saveSnapshot_29 : decode cX9_saveSnapshot 29 = .ok (.baload, 1) := by decide +kernel
theorem dX9_saveSnapshot_30 : decode cX9_saveSnapshot 30 = .ok (.istore_n 3, 1) := by decide +kernel
theorem dX9_saveSnapshot_31 : decode cX9_saveSnapshot 31 = .ok (.aload_n 0, 1) := by decide +kernel
theorem dX9_saveSnapshot_32 : decode cX9_saveSnapshot 32 = .ok (.getfield 67, 3) := by decide +kernel
theorem dX9_saveSnapshot_35 : decode cX9_saveSnapshot 35 = .ok (.iload_n 1, 1) := by decide +kernel
theorem dX9_saveSnapshot_36 : decode cX9_saveSnapshot 36 = .ok (.iconst 1, 1) := by decide +kernel
theorem dX9_saveSnapshot_37 : decode cX9_saveSnapshot 37 = .ok (.bastore, 1) := by decide +kernel
theorem dX9_saveSnapshot_38 : decode cX9_saveSnapshot 38 = .ok (.iload_n 3, 1) := by decide +kernel
theorem dX9_saveSnapshot_39 : decode cX9_saveSnapshot 39 = .ok (.ireturn, 1) := by decide +kernel
theorem dX9_restoreSnapshot_0 : decode cX9_restoreSnapshot 0 = .ok (.aload_n 0, 1) := by decide +kernel
theorem dX9_restoreSnapshot_1 : decode cX9_restoreSnapshot 1 = .ok (.iload_n 1, 1) := by decide +kernel
theorem dX9_restoreSnapshot_2 : decode cX9_restoreSnapshot 2 = .ok (.invokevirtual 384, 3) := by decide +kernel
theorem dX9_restoreSnapshot_5 : decode cX9_restoreSnapshot 5 = .ok (.aload_n 0, 1) := by decide +kernel
theorem dX9_restoreSnapshot_6 : decode cX9_restoreSnapshot 6 = .ok (.getfield 63, 3) := by decide +kernel
theorem dX9_restoreSnapshot_9 : decode cX9_restoreSnapshot 9 = .ok (.iload_n 1, 1) := by decide +kernel
theorem dX9_restoreSnapshot_10 : decode cX9_restoreSnapshot 10 = .ok (.aaload, 1) := by decide +kernel
theorem dX9_restoreSnapshot_11 : decode cX9_restoreSnapshot 11 = .ok (.astore_n 2, 1) := by decide +kernel
theorem dX9_restoreSnapshot_12 : decode cX9_restoreSnapshot 12 = .ok (.aload_n 2, 1) := by decide +kernel
theorem dX9_restoreSnapshot_13 : decode cX9_restoreSnapshot 13 = .ok (.ifnull 12, 3) := by decide +kernel
theorem dX9_restoreSnapshot_16 : decode cX9_restoreSnapshot 16 = .ok (.aload_n 0, 1) := by decide +kernel
theorem dX9_restoreSnapshot_17 : decode cX9_restoreSnapshot 17 = .ok (.getfield 67, 3) := by decide +kernel
theorem dX9_restoreSnapshot_20 : decode cX9_restoreSnapshot 20 = .ok (.iload_n 1, 1) := by decide +kernel
theorem dX9_restoreSnapshot_21 : decode cX9_restoreSnapshot 21 = .ok (.baload, 1) := by decide +kernel
theorem dX9_restoreSnapshot_22 : decode cX9_restoreSnapshot 22 = .ok (.ifCond .ne 14, 3) := by decide +kernel
theorem dX9_restoreSnapshot_25 : decode cX9_restoreSnapshot 25 = .ok (.new 387, 3) := by decide +kernel
theorem dX9_restoreSnapshot_28 : decode cX9_restoreSnapshot 28 = .ok (.dup, 1) := by decide +kernel
theorem dX9_restoreSnapshot_29 : decode cX9_restoreSnapshot 29 = .ok (.ldc_w 389, 3) := by decide +kernel
theorem dX9_restoreSnapshot_32 : decode cX9_restoreSnapshot 32 = .ok (.invokespecial 391, 3) := by decide +kernel
theorem dX9_restoreSnapshot_35 : decode cX9_restoreSnapshot 35 = .ok (.athrow, 1) := by decide +kernel
theorem dX9_restoreSnapshot_36 : decode cX9_restoreSnapshot 36 = .ok (.aload_n 0, 1) := by decide +kernel
theorem dX9_restoreSnapshot_37 : decode cX9_restoreSnapshot 37 = .ok (.getfield 49, 3) := by decide +kernel
theorem dX9_restoreSnapshot_40 : decode cX9_restoreSnapshot 40 = .ok (.aload_n 2, 1) := by decide +kernel
theorem dX9_restoreSnapshot_41 : decode cX9_restoreSnapshot 41 = .ok (.invokevirtual 350, 3) := by decide +kernel
theorem dX9_restoreSnapshot_44 : decode cX9_restoreSnapshot 44 = .ok (.aload_n 0, 1) := by decide +kernel
theorem dX9_restoreSnapshot_45 : decode cX9_restoreSnapshot 45 = .ok (.getfield 59, 3) := by decide +kernel
theorem dX9_restoreSnapshot_48 : decode cX9_restoreSnapshot 48 = .ok (.iconst 0, 1) := by decide +kernel
theorem dX9_restoreSnapshot_49 : decode cX9_restoreSnapshot 49 = .ok (.putfield 193, 3) := by decide +kernel
theorem dX9_restoreSnapshot_52 : decode cX9_restoreSnapshot 52 = .ok (.aload_n 0, 1) := by decide +kernel
theorem dX9_restoreSnapshot_53 : decode cX9_restoreSnapshot 53 = .ok (.invokevirtual 378, 3) := by decide +kernel
theorem dX9_restoreSnapshot_56 : decode cX9_restoreSnapshot 56 = .ok (.aload_n 0, 1) := by decide +kernel
theorem dX9_restoreSnapshot_57 : decode cX9_restoreSnapshot 57 = .ok (.getfield 49, 3) := by decide +kernel
theorem dX9_restoreSnapshot_60 : decode cX9_restoreSnapshot 60 = .ok (.getfield 172, 3) := by decide +kernel
theorem dX9_restoreSnapshot_63 : decode cX9_restoreSnapshot 63 = .ok (.ireturn, 1) := by decide +kernel
theorem dX9_askInput_0 : decode cX9_askInput 0 = .ok (.iload_n 1, 1) := by decide +kernel
theorem dX9_askInput_1 : decode cX9_askInput 1 = .ok (.ifCond .lt 14, 3) := by decide +kernel
theorem dX9_askInput_4 : decode cX9_askInput 4 = .ok (.iload_n 1, 1) := by decide +kernel
theorem dX9_askInput_5 : decode cX9_askInput 5 = .ok (.aload_n 0, 1) := by decide +kernel
theorem dX9_askInput_6 : decode cX9_askInput 6 = .ok (.getfield 12, 3) := by decide +kernel
theorem dX9_askInput_9 : decode cX9_askInput 9 = .ok (.getfield 110, 3) := by decide +kernel
theorem dX9_askInput_12 : decode cX9_askInput 12 = .ok (.if_icmp .le 14, 3) := by decide +kernel
theorem dX9_askInput_15 : decode cX9_askInput 15 = .ok (.new 202, 3) := by decide +kernel
theorem dX9_askInput_18 : decode cX9_askInput 18 = .ok (.dup, 1) := by decide +kernel
theorem dX9_askInput_19 : decode cX9_askInput 19 = .ok (.ldc_w 392, 3) := by decide +kernel
theorem dX9_askInput_22 : decode cX9_askInput 22 = .ok (.invokespecial 206, 3) := by decide +kernel
theorem dX9_askInput_25 : decode cX9_askInput 25 = .ok (.athrow, 1) := by decide +kernel
theorem dX9_askInput_26 : decode cX9_askInput 26 = .ok (.return_, 1) := by decide +kernel
theorem dX9_askByte_0 : decode cX9_askByte 0 = .ok (.aload_n 0, 1) := by decide +kernel
theorem dX9_askByte_1 : decode cX9_askByte 1 = .ok (.getfield 49, 3) := by decide +kernel
theorem dX9_askByte_4 : decode cX9_askByte 4 = .ok (.iload_n 1, 1) := by decide +kernel
theorem dX9_askByte_5 : decode cX9_askByte 5 = .ok (.invokevirtual 394, 3) := by decide +kernel
theorem dX9_askByte_8 : decode cX9_askByte 8 = .ok (.ifCond .ne 14, 3) := by decide +kernel
theorem dX9_askByte_11 : decode cX9_askByte 11 = .ok (.new 397, 3) := by decide +kernel
theorem dX9_askByte_14 : decode cX9_askByte 14 = .ok (.dup, 1) := by decide +kernel
theorem dX9_askByte_15 : decode cX9_askByte 15 = .ok (.ldc_w 399, 3) := by decide +kernel
theorem dX9_askByte_18 : decode cX9_askByte 18 = .ok (.invokespecial 401, 3) := by decide +kernel
theorem dX9_askByte_21 : decode cX9_askByte 21 = .ok (.athrow, 1) := by decide +kernel
theorem dX9_askByte_22 : decode cX9_askByte 22 = .ok (.return_, 1) := by decide +kernel
theorem dX9_askPlace_0 : decode cX9_askPlace 0 = .ok (.aload_n 0, 1) := by decide +kernel
theorem dX9_askPlace_1 : decode cX9_askPlace 1 = .ok (.getfield 49, 3) := by decide +kernel
theorem dX9_askPlace_4 : decode cX9_askPlace 4 = .ok (.iload_n 1, 1) := by decide +kernel
theorem dX9_askPlace_5 : decode cX9_askPlace 5 = .ok (.invokevirtual 402, 3) := by decide +kernel
theorem dX9_askPlace_8 : decode cX9_askPlace 8 = .ok (.ifCond .ne 14, 3) := by decide +kernel
theorem dX9_askPlace_11 : decode cX9_askPlace 11 = .ok (.new 397, 3) := by decide +kernel
theorem dX9_askPlace_14 : decode cX9_askPlace 14 = .ok (.dup, 1) := by decide +kernel
theorem dX9_askPlace_15 : decode cX9_askPlace 15 = .ok (.ldc_w 405, 3) := by decide +kernel
theorem dX9_askPlace_18 : decode cX9_askPlace 18 = .ok (.invokespecial 401, 3) := by decide +kernel
theorem dX9_askPlace_21 : decode cX9_askPlace 21 = .ok (.athrow, 1) := by decide +kernel
theorem dX9_askPlace_22 : decode cX9_askPlace 22 = .ok (.return_, 1) := by decide +kernel
theorem dX9_askRange_0 : decode cX9_askRange 0 = .ok (.aload_n 0, 1) := by decide +kernel
theorem dX9_askRange_1 : decode cX9_askRange 1 = .ok (.getfield 49, 3) := by decide +kernel
theorem dX9_askRange_4 : decode cX9_askRange 4 = .ok (.iload_n 1, 1) := by decide +kernel
theorem dX9_askRange_5 : decode cX9_askRange 5 = .ok (.iload_n 2, 1) := by decide +kernel
theorem dX9_askRange_6 : decode cX9_askRange 6 = .ok (.invokevirtual 407, 3) := by decide +kernel
theorem dX9_askRange_9 : decode cX9_askRange 9 = .ok (.ifCond .ne 14, 3) := by decide +kernel
theorem dX9_askRange_12 : decode cX9_askRange 12 = .ok (.new 397, 3) := by decide +kernel
theorem dX9_askRange_15 : decode cX9_askRange 15 = .ok (.dup, 1) := by decide +kernel
theorem dX9_askRange_16 : decode cX9_askRange 16 = .ok (.ldc_w 411, 3) := by decide +kernel
theorem dX9_askRange_19 : decode cX9_askRange 19 = .ok (.invokespecial 401, 3) := by decide +kernel
theorem dX9_askRange_22 : decode cX9_askRange 22 = .ok (.athrow, 1) := by decide +kernel
theorem dX9_askRange_23 : decode cX9_askRange 23 = .ok (.return_, 1) := by decide +kernel
theorem dX9_askKind_0 : decode cX9_askKind 0 = .ok (.aload_n 0, 1) := by decide +kernel
theorem dX9_askKind_1 : decode cX9_askKind 1 = .ok (.getfield 42, 3) := by decide +kernel
theorem dX9_askKind_4 : decode cX9_askKind 4 = .ok (.iload_n 1, 1) := by decide +kernel
theorem dX9_askKind_5 : decode cX9_askKind 5 = .ok (.invokevirtual 413, 3) := by decide +kernel
theorem dX9_askKind_8 : decode cX9_askKind 8 = .ok (.ifCond .ne 14, 3) := by decide +kernel
theorem dX9_askKind_11 : decode cX9_askKind 11 = .ok (.new 397, 3) := by decide +kernel
theorem dX9_askKind_14 : decode cX9_askKind 14 = .ok (.dup, 1) := by decide +kernel
theorem dX9_askKind_15 : decode cX9_askKind 15 = .ok (.ldc_w 416, 3) := by decide +kernel
theorem dX9_askKind_18 : decode cX9_askKind 18 = .ok (.invokespecial 401, 3) := by decide +kernel
theorem dX9_askKind_21 : decode cX9_askKind 21 = .ok (.athrow, 1) := by decide +kernel
theorem dX9_askKind_22 : decode cX9_askKind 22 = .ok (.return_, 1) := by decide +kernel
theorem dX9_askMark_0 : decode cX9_askMark 0 = .ok (.iload_n 1, 1) := by decide +kernel
theorem dX9_askMark_1 : decode cX9_askMark 1 = .ok (.ifCond .lt 14, 3) := by decide +kernel
theorem dX9_askMark_4 : decode cX9_askMark 4 = .ok (.iload_n 1, 1) := by decide +kernel
theorem dX9_askMark_5 : decode cX9_askMark 5 = .ok (.aload_n 0, 1) := by decide +kernel
theorem dX9_askMark_6 : decode cX9_askMark 6 = .ok (.getfield 49, 3) := by decide +kernel
theorem dX9_askMark_9 : decode cX9_askMark 9 = .ok (.getfield 190, 3) := by decide +kernel
theorem dX9_askMark_12 : decode cX9_askMark 12 = .ok (.if_icmp .lt 14, 3) := by decide +kernel
theorem dX9_askMark_15 : decode cX9_askMark 15 = .ok (.new 397, 3) := by decide +kernel
theorem dX9_askMark_18 : decode cX9_askMark 18 = .ok (.dup, 1) := by decide +kernel
theorem dX9_askMark_19 : decode cX9_askMark 19 = .ok (.ldc_w 418, 3) := by decide +kernel
theorem dX9_askMark_22 : decode cX9_askMark 22 = .ok (.invokespecial 401, 3) := by decide +kernel
theorem dX9_askMark_25 : decode cX9_askMark 25 = .ok (.athrow, 1) := by decide +kernel
theorem dX9_askMark_26 : decode cX9_askMark 26 = .ok (.return_, 1) := by decide +kernel
theorem dX9_askSlot_0 : decode cX9_askSlot 0 = .ok (.iload_n 1, 1) := by decide +kernel
theorem dX9_askSlot_1 : decode cX9_askSlot 1 = .ok (.ifCond .lt 8, 3) := by decide +kernel
theorem dX9_askSlot_4 : decode cX9_askSlot 4 = .ok (.iload_n 1, 1) := by decide +kernel
theorem dX9_askSlot_5 : decode cX9_askSlot 5 = .ok (.iconst 2, 1) := by decide +kernel
theorem dX9_askSlot_6 : decode cX9_askSlot 6 = .ok (.if_icmp .lt 14, 3) := by decide +kernel
theorem dX9_askSlot_9 : decode cX9_askSlot 9 = .ok (.new 397, 3) := by decide +kernel
theorem dX9_askSlot_12 : decode cX9_askSlot 12 = .ok (.dup, 1) := by decide +kernel
theorem dX9_askSlot_13 : decode cX9_askSlot 13 = .ok (.ldc_w 420, 3) := by decide +kernel
theorem dX9_askSlot_16 : decode cX9_askSlot 16 = .ok (.invokespecial 401, 3) := by decide +kernel
theorem dX9_askSlot_19 : decode cX9_askSlot 19 = .ok (.athrow, 1) := by decide +kernel
theorem dX9_askSlot_20 : decode cX9_askSlot 20 = .ok (.return_, 1) := by decide +kernel
theorem dX9_askPaired_0 : decode cX9_askPaired 0 = .ok (.aload_n 0, 1) := by decide +kernel
theorem dX9_askPaired_1 : decode cX9_askPaired 1 = .ok (.invokevirtual 165, 3) := by decide +kernel
theorem dX9_askPaired_4 : decode cX9_askPaired 4 = .ok (.iload_n 1, 1) := by decide +kernel
theorem dX9_askPaired_5 : decode cX9_askPaired 5 = .ok (.invokevirtual 221, 3) := by decide +kernel
theorem dX9_askPaired_8 : decode cX9_askPaired 8 = .ok (.iconst (-1), 1) := by decide +kernel
theorem dX9_askPaired_9 : decode cX9_askPaired 9 = .ok (.if_icmp .ne 14, 3) := by decide +kernel
theorem dX9_askPaired_12 : decode cX9_askPaired 12 = .ok (.new 284, 3) := by decide +kernel
theorem dX9_askPaired_15 : decode cX9_askPaired 15 = .ok (.dup, 1) := by decide +kernel
theorem dX9_askPaired_16 : decode cX9_askPaired 16 = .ok (.ldc_w 422, 3) := by decide +kernel
theorem dX9_askPaired_19 : decode cX9_askPaired 19 = .ok (.invokespecial 288, 3) := by decide +kernel
theorem dX9_askPaired_22 : decode cX9_askPaired 22 = .ok (.athrow, 1) := by decide +kernel
theorem dX9_askPaired_23 : decode cX9_askPaired 23 = .ok (.return_, 1) := by decide +kernel
theorem dX9_isCost_0 : decode cX9_isCost 0 = .ok (.iload_n 0, 1) := by decide +kernel
theorem dX9_isCost_1 : decode cX9_isCost 1 = .ok (.iconst 1, 1) := by decide +kernel
theorem dX9_isCost_2 : decode cX9_isCost 2 = .ok (.if_icmp .lt 13, 3) := by decide +kernel
theorem dX9_isCost_5 : decode cX9_isCost 5 = .ok (.iload_n 0, 1) := by decide +kernel
theorem dX9_isCost_6 : decode cX9_isCost 6 = .ok (.bipush 99, 2) := by decide +kernel
theorem dX9_isCost_8 : decode cX9_isCost 8 = .ok (.if_icmp .gt 7, 3) := by decide +kernel
theorem dX9_isCost_11 : decode cX9_isCost 11 = .ok (.iconst 1, 1) := by decide +kernel
theorem dX9_isCost_12 : decode cX9_isCost 12 = .ok (.goto 4, 3) := by decide +kernel
theorem dX9_isCost_15 : decode cX9_isCost 15 = .ok (.iconst 0, 1) := by decide +kernel
theorem dX9_isCost_16 : decode cX9_isCost 16 = .ok (.ireturn, 1) := by decide +kernel
theorem dX9_isTextByte_0 : decode cX9_isTextByte 0 = .ok (.iload_n 0, 1) := by decide +kernel
theorem dX9_isTextByte_1 : decode cX9_isTextByte 1 = .ok (.bipush 10, 2) := by decide +kernel
theorem dX9_isTextByte_3 : decode cX9_isTextByte 3 = .ok (.if_icmp .eq 15, 3) := by decide +kernel
theorem dX9_isTextByte_6 : decode cX9_isTextByte 6 = .ok (.iload_n 0, 1) := by decide +kernel
theorem dX9_isTextByte_7 : decode cX9_isTextByte 7 = .ok (.bipush 32, 2) := by decide +kernel
theorem dX9_isTextByte_9 : decode cX9_isTextByte 9 = .ok (.if_icmp .lt 13, 3) := by decide +kernel
theorem dX9_isTextByte_12 : decode cX9_isTextByte 12 = .ok (.iload_n 0, 1) := by decide +kernel
theorem dX9_isTextByte_13 : decode cX9_isTextByte 13 = .ok (.bipush 126, 2) := by decide +kernel
theorem dX9_isTextByte_15 : decode cX9_isTextByte 15 = .ok (.if_icmp .gt 7, 3) := by decide +kernel
theorem dX9_isTextByte_18 : decode cX9_isTextByte 18 = .ok (.iconst 1, 1) := by decide +kernel
theorem dX9_isTextByte_19 : decode cX9_isTextByte 19 = .ok (.goto 4, 3) := by decide +kernel
theorem dX9_isTextByte_22 : decode cX9_isTextByte 22 = .ok (.iconst 0, 1) := by decide +kernel
theorem dX9_isTextByte_23 : decode cX9_isTextByte 23 = .ok (.ireturn, 1) := by decide +kernel
theorem dX9_refusalOf_0 : decode cX9_refusalOf 0 = .ok (.iload_n 1, 1) := by decide +kernel
theorem dX9_refusalOf_1 : decode cX9_refusalOf 1 = .ok (.iload_n 2, 1) := by decide +kernel
theorem dX9_refusalOf_2 : decode cX9_refusalOf 2 = .ok (.iadd, 1) := by decide +kernel
theorem dX9_refusalOf_3 : decode cX9_refusalOf 3 = .ok (.sipush 240, 3) := by decide +kernel
theorem dX9_refusalOf_6 : decode cX9_refusalOf 6 = .ok (.if_icmp .le 6, 3) := by decide +kernel
theorem dX9_refusalOf_9 : decode cX9_refusalOf 9 = .ok (.bipush (-2), 2) := by decide +kernel
theorem dX9_refusalOf_11 : decode cX9_refusalOf 11 = .ok (.ireturn, 1) := by decide +kernel
theorem dX9_refusalOf_12 : decode cX9_refusalOf 12 = .ok (.aload_n 0, 1) := by decide +kernel
theorem dX9_refusalOf_13 : decode cX9_refusalOf 13 = .ok (.getfield 12, 3) := by decide +kernel
theorem dX9_refusalOf_16 : decode cX9_refusalOf 16 = .ok (.iload_n 1, 1) := by decide +kernel
theorem dX9_refusalOf_17 : decode cX9_refusalOf 17 = .ok (.invokevirtual 424, 3) := by decide +kernel
theorem dX9_refusalOf_20 : decode cX9_refusalOf 20 = .ok (.ifCond .eq 7, 3) := by decide +kernel
theorem dX9_refusalOf_23 : decode cX9_refusalOf 23 = .ok (.iconst 0, 1) := by decide +kernel
theorem dX9_refusalOf_24 : decode cX9_refusalOf 24 = .ok (.goto 5, 3) := by decide +kernel
theorem dX9_refusalOf_27 : decode cX9_refusalOf 27 = .ok (.bipush (-3), 2) := by decide +kernel
theorem dX9_refusalOf_29 : decode cX9_refusalOf 29 = .ok (.ireturn, 1) := by decide +kernel
theorem dX9_textTouched_0 : decode cX9_textTouched 0 = .ok (.aload_n 0, 1) := by decide +kernel
theorem dX9_textTouched_1 : decode cX9_textTouched 1 = .ok (.iconst 1, 1) := by decide +kernel
theorem dX9_textTouched_2 : decode cX9_textTouched 2 = .ok (.putfield 99, 3) := by decide +kernel
theorem dX9_textTouched_5 : decode cX9_textTouched 5 = .ok (.aload_n 0, 1) := by decide +kernel
theorem dX9_textTouched_6 : decode cX9_textTouched 6 = .ok (.iconst 1, 1) := by decide +kernel
theorem dX9_textTouched_7 : decode cX9_textTouched 7 = .ok (.putfield 103, 3) := by decide +kernel
theorem dX9_textTouched_10 : decode cX9_textTouched 10 = .ok (.return_, 1) := by decide +kernel
theorem dX9_readNow_0 : decode cX9_readNow 0 = .ok (.aload_n 0, 1) := by decide +kernel
theorem dX9_readNow_1 : decode cX9_readNow 1 = .ok (.getfield 99, 3) := by decide +kernel
theorem dX9_readNow_4 : decode cX9_readNow 4 = .ok (.ifCond .eq 38, 3) := by decide +kernel
theorem dX9_readNow_7 : decode cX9_readNow 7 = .ok (.aload_n 0, 1) := by decide +kernel
theorem dX9_readNow_8 : decode cX9_readNow 8 = .ok (.getfield 74, 3) := by decide +kernel
theorem dX9_readNow_11 : decode cX9_readNow 11 = .ok (.aload_n 0, 1) := by decide +kernel
theorem dX9_readNow_12 : decode cX9_readNow 12 = .ok (.getfield 49, 3) := by decide +kernel
theorem dX9_readNow_15 : decode cX9_readNow 15 = .ok (.aload_n 0, 1) := by decide +kernel
theorem dX9_readNow_16 : decode cX9_readNow 16 = .ok (.getfield 42, 3) := by decide +kernel
theorem dX9_readNow_19 : decode cX9_readNow 19 = .ok (.iconst (-1), 1) := by decide +kernel
theorem dX9_readNow_20 : decode cX9_readNow 20 = .ok (.invokevirtual 427, 3) := by decide +kernel
theorem dX9_readNow_23 : decode cX9_readNow 23 = .ok (.aload_n 0, 1) := by decide +kernel
theorem dX9_readNow_24 : decode cX9_readNow 24 = .ok (.getfield 74, 3) := by decide +kernel
theorem dX9_readNow_27 : decode cX9_readNow 27 = .ok (.invokevirtual 431, 3) := by decide +kernel
theorem dX9_readNow_30 : decode cX9_readNow 30 = .ok (.aload_n 0, 1) := by decide +kernel
theorem dX9_readNow_31 : decode cX9_readNow 31 = .ok (.getfield 74, 3) := by decide +kernel
theorem dX9_readNow_34 : decode cX9_readNow 34 = .ok (.invokevirtual 434, 3) := by decide +kernel
theorem dX9_readNow_37 : decode cX9_readNow 37 = .ok (.aload_n 0, 1) := by decide +kernel
theorem dX9_readNow_38 : decode cX9_readNow 38 = .ok (.iconst 0, 1) := by decide +kernel
theorem dX9_readNow_39 : decode cX9_readNow 39 = .ok (.putfield 99, 3) := by decide +kernel
theorem dX9_readNow_42 : decode cX9_readNow 42 = .ok (.aload_n 0, 1) := by decide +kernel
theorem dX9_readNow_43 : decode cX9_readNow 43 = .ok (.getfield 74, 3) := by decide +kernel
theorem dX9_readNow_46 : decode cX9_readNow 46 = .ok (.areturn, 1) := by decide +kernel
theorem dX9_mendNow_0 : decode cX9_mendNow 0 = .ok (.aload_n 0, 1) := by decide +kernel
theorem dX9_mendNow_1 : decode cX9_mendNow 1 = .ok (.getfield 103, 3) := by decide +kernel
theorem dX9_mendNow_4 : decode cX9_mendNow 4 = .ok (.ifCond .eq 44, 3) := by decide +kernel
theorem dX9_mendNow_7 : decode cX9_mendNow 7 = .ok (.aload_n 0, 1) := by decide +kernel
theorem dX9_mendNow_8 : decode cX9_mendNow 8 = .ok (.getfield 84, 3) := by decide +kernel
theorem dX9_mendNow_11 : decode cX9_mendNow 11 = .ok (.aload_n 0, 1) := by decide +kernel
theorem dX9_mendNow_12 : decode cX9_mendNow 12 = .ok (.getfield 49, 3) := by decide +kernel
theorem dX9_mendNow_15 : decode cX9_mendNow 15 = .ok (.invokevirtual 437, 3) := by decide +kernel
theorem dX9_mendNow_18 : decode cX9_mendNow 18 = .ok (.aload_n 0, 1) := by decide +kernel
theorem dX9_mendNow_19 : decode cX9_mendNow 19 = .ok (.getfield 84, 3) := by decide +kernel
theorem dX9_mendNow_22 : decode cX9_mendNow 22 = .ok (.aload_n 0, 1) := by decide +kernel
theorem dX9_mendNow_23 : decode cX9_mendNow 23 = .ok (.getfield 84, 3) := by decide +kernel
theorem dX9_mendNow_26 : decode cX9_mendNow 26 = .ok (.aload_n 0, 1) := by decide +kernel
theorem dX9_mendNow_27 : decode cX9_mendNow 27 = .ok (.invokevirtual 165, 3) := by decide +kernel
theorem dX9_mendNow_30 : decode cX9_mendNow 30 = .ok (.invokevirtual 439, 3) := by decide +kernel
theorem dX9_mendNow_33 : decode cX9_mendNow 33 = .ok (.putfield 278, 3) := by decide +kernel
theorem dX9_mendNow_36 : decode cX9_mendNow 36 = .ok (.aload_n 0, 1) := by decide +kernel
theorem dX9_mendNow_37 : decode cX9_mendNow 37 = .ok (.getfield 84, 3) := by decide +kernel
theorem dX9_mendNow_40 : decode cX9_mendNow 40 = .ok (.invokevirtual 442, 3) := by decide +kernel
theorem dX9_mendNow_43 : decode cX9_mendNow 43 = .ok (.aload_n 0, 1) := by decide +kernel
theorem dX9_mendNow_44 : decode cX9_mendNow 44 = .ok (.iconst 0, 1) := by decide +kernel
theorem dX9_mendNow_45 : decode cX9_mendNow 45 = .ok (.putfield 103, 3) := by decide +kernel
theorem dX9_mendNow_48 : decode cX9_mendNow 48 = .ok (.aload_n 0, 1) := by decide +kernel
theorem dX9_mendNow_49 : decode cX9_mendNow 49 = .ok (.getfield 84, 3) := by decide +kernel
theorem dX9_mendNow_52 : decode cX9_mendNow 52 = .ok (.areturn, 1) := by decide +kernel
theorem dX9_colourOf_0 : decode cX9_colourOf 0 = .ok (.aload_n 0, 1) := by decide +kernel
theorem dX9_colourOf_1 : decode cX9_colourOf 1 = .ok (.invokevirtual 165, 3) := by decide +kernel
theorem dX9_colourOf_4 : decode cX9_colourOf 4 = .ok (.iload_n 1, 1) := by decide +kernel
theorem dX9_colourOf_5 : decode cX9_colourOf 5 = .ok (.invokevirtual 221, 3) := by decide +kernel
theorem dX9_colourOf_8 : decode cX9_colourOf 8 = .ok (.iconst (-1), 1) := by decide +kernel
theorem dX9_colourOf_9 : decode cX9_colourOf 9 = .ok (.if_icmp .eq 14, 3) := by decide +kernel
theorem dX9_colourOf_12 : decode cX9_colourOf 12 = .ok (.aload_n 0, 1) := by decide +kernel
theorem dX9_colourOf_13 : decode cX9_colourOf 13 = .ok (.getfield 49, 3) := by decide +kernel
theorem dX9_colourOf_16 : decode cX9_colourOf 16 = .ok (.getfield 141, 3) := by decide +kernel
theorem dX9_colourOf_19 : decode cX9_colourOf 19 = .ok (.iconst 1, 1) := by decide +kernel
theorem dX9_colourOf_20 : decode cX9_colourOf 20 = .ok (.if_icmp .ge 5, 3) := by decide +kernel
theorem dX9_colourOf_23 : decode cX9_colourOf 23 = .ok (.iconst (-1), 1) := by decide +kernel
theorem dX9_colourOf_24 : decode cX9_colourOf 24 = .ok (.ireturn, 1) := by decide +kernel
theorem dX9_colourOf_25 : decode cX9_colourOf 25 = .ok (.aload_n 0, 1) := by decide +kernel
theorem dX9_colourOf_26 : decode cX9_colourOf 26 = .ok (.invokevirtual 165, 3) := by decide +kernel
theorem dX9_colourOf_29 : decode cX9_colourOf 29 = .ok (.iload_n 1, 1) := by decide +kernel
theorem dX9_colourOf_30 : decode cX9_colourOf 30 = .ok (.invokevirtual 224, 3) := by decide +kernel
theorem dX9_colourOf_33 : decode cX9_colourOf 33 = .ok (.aload_n 0, 1) := by decide +kernel
theorem dX9_colourOf_34 : decode cX9_colourOf 34 = .ok (.getfield 49, 3) := by decide +kernel
theorem dX9_colourOf_37 : decode cX9_colourOf 37 = .ok (.getfield 141, 3) := by decide +kernel
theorem dX9_colourOf_40 : decode cX9_colourOf 40 = .ok (.irem, 1) := by decide +kernel
theorem dX9_colourOf_41 : decode cX9_colourOf 41 = .ok (.ireturn, 1) := by decide +kernel
theorem dX9_costSkipping_0 : decode cX9_costSkipping 0 = .ok (.aload_n 0, 1) := by decide +kernel
theorem dX9_costSkipping_1 : decode cX9_costSkipping 1 = .ok (.invokevirtual 274, 3) := by decide +kernel
theorem dX9_costSkipping_4 : decode cX9_costSkipping 4 = .ok (.getfield 278, 3) := by decide +kernel
theorem dX9_costSkipping_7 : decode cX9_costSkipping 7 = .ok (.istore_n 2, 1) := by decide +kernel
theorem dX9_costSkipping_8 : decode cX9_costSkipping 8 = .ok (.aload_n 0, 1) := by decide +kernel
theorem dX9_costSkipping_9 : decode cX9_costSkipping 9 = .ok (.getfield 78, 3) := by decide +kernel
theorem dX9_costSkipping_12 : decode cX9_costSkipping 12 = .ok (.aload_n 0, 1) := by decide +kernel
theorem dX9_costSkipping_13 : decode cX9_costSkipping 13 = .ok (.getfield 49, 3) := by decide +kernel
theorem dX9_costSkipping_16 : decode cX9_costSkipping 16 = .ok (.aload_n 0, 1) := by decide +kernel
theorem dX9_costSkipping_17 : decode cX9_costSkipping 17 = .ok (.getfield 42, 3) := by decide +kernel
theorem dX9_costSkipping_20 : decode cX9_costSkipping 20 = .ok (.iload_n 1, 1) := by decide +kernel
theorem dX9_costSkipping_21 : decode cX9_costSkipping 21 = .ok (.invokevirtual 427, 3) := by decide +kernel
theorem dX9_costSkipping_24 : decode cX9_costSkipping 24 = .ok (.aload_n 0, 1) := by decide +kernel
theorem dX9_costSkipping_25 : decode cX9_costSkipping 25 = .ok (.getfield 78, 3) := by decide +kernel
theorem dX9_costSkipping_28 : decode cX9_costSkipping 28 = .ok (.aload_n 0, 1) := by decide +kernel
theorem dX9_costSkipping_29 : decode cX9_costSkipping 29 = .ok (.invokevirtual 165, 3) := by decide +kernel
theorem dX9_costSkipping_32 : decode cX9_costSkipping 32 = .ok (.invokevirtual 445, 3) := by decide +kernel
theorem dX9_costSkipping_35 : decode cX9_costSkipping 35 = .ok (.ifCond .eq 7, 3) := by decide +kernel
theorem dX9_costSkipping_38 : decode cX9_costSkipping 38 = .ok (.iload_n 2, 1) := by decide +kernel
theorem dX9_costSkipping_39 : decode cX9_costSkipping 39 = .ok (.goto 14, 3) := by decide +kernel
theorem dX9_costSkipping_42 : decode cX9_costSkipping 42 = .ok (.aload_n 0, 1) := by decide +kernel
theorem dX9_costSkipping_43 : decode cX9_costSkipping 43 = .ok (.getfield 84, 3) := by decide +kernel
theorem dX9_costSkipping_46 : decode cX9_costSkipping 46 = .ok (.aload_n 0, 1) := by decide +kernel
theorem dX9_costSkipping_47 : decode cX9_costSkipping 47 = .ok (.getfield 78, 3) := by decide +kernel
theorem dX9_costSkipping_50 : decode cX9_costSkipping 50 = .ok (.invokevirtual 439, 3) := by decide +kernel
theorem dX9_costSkipping_53 : decode cX9_costSkipping 53 = .ok (.ireturn, 1) := by decide +kernel
theorem dX9_reportSign_0 : decode cX9_reportSign 0 = .ok (.aload_n 0, 1) := by decide +kernel
theorem dX9_reportSign_1 : decode cX9_reportSign 1 = .ok (.getfield 49, 3) := by decide +kernel
theorem dX9_reportSign_4 : decode cX9_reportSign 4 = .ok (.iload_n 1, 1) := by decide +kernel
theorem dX9_reportSign_5 : decode cX9_reportSign 5 = .ok (.invokevirtual 212, 3) := by decide +kernel
theorem dX9_reportSign_8 : decode cX9_reportSign 8 = .ok (.bipush 10, 2) := by decide +kernel
theorem dX9_reportSign_10 : decode cX9_reportSign 10 = .ok (.if_icmp .ne 6, 3) := by decide +kernel
theorem dX9_reportSign_13 : decode cX9_reportSign 13 = .ok (.bipush 10, 2) := by decide +kernel
theorem dX9_reportSign_15 : decode cX9_reportSign 15 = .ok (.ireturn, 1) := by decide +kernel
theorem dX9_reportSign_16 : decode cX9_reportSign 16 = .ok (.aload_n 0, 1) := by decide +kernel
theorem dX9_reportSign_17 : decode cX9_reportSign 17 = .ok (.invokevirtual 165, 3) := by decide +kernel
theorem dX9_reportSign_20 : decode cX9_reportSign 20 = .ok (.iload_n 1, 1) := by decide +kernel
theorem dX9_reportSign_21 : decode cX9_reportSign 21 = .ok (.invokevirtual 230, 3) := by decide +kernel
theorem dX9_reportSign_24 : decode cX9_reportSign 24 = .ok (.ifCond .eq 6, 3) := by decide +kernel
theorem dX9_reportSign_27 : decode cX9_reportSign 27 = .ok (.bipush 35, 2) := by decide +kernel
theorem dX9_reportSign_29 : decode cX9_reportSign 29 = .ok (.ireturn, 1) := by decide +kernel
theorem dX9_reportSign_30 : decode cX9_reportSign 30 = .ok (.aload_n 0, 1) := by decide +kernel
theorem dX9_reportSign_31 : decode cX9_reportSign 31 = .ok (.invokevirtual 165, 3) := by decide +kernel
theorem dX9_reportSign_34 : decode cX9_reportSign 34 = .ok (.iload_n 1, 1) := by decide +kernel
theorem dX9_reportSign_35 : decode cX9_reportSign 35 = .ok (.invokevirtual 215, 3) := by decide +kernel
theorem dX9_reportSign_38 : decode cX9_reportSign 38 = .ok (.iconst (-1), 1) := by decide +kernel
theorem dX9_reportSign_39 : decode cX9_reportSign 39 = .ok (.if_icmp .ne 6, 3) := by decide +kernel
theorem dX9_reportSign_42 : decode cX9_reportSign 42 = .ok (.bipush 46, 2) := by decide +kernel
theorem dX9_reportSign_44 : decode cX9_reportSign 44 = .ok (.ireturn, 1) := by decide +kernel
theorem dX9_reportSign_45 : decode cX9_reportSign 45 = .ok (.aload_n 0, 1) := by decide +kernel
theorem dX9_reportSign_46 : decode cX9_reportSign 46 = .ok (.iload_n 1, 1) := by decide +kernel
theorem dX9_reportSign_47 : decode cX9_reportSign 47 = .ok (.invokevirtual 227, 3) := by decide +kernel
theorem dX9_reportSign_50 : decode cX9_reportSign 50 = .ok (.istore_n 2, 1) := by decide +kernel
theorem dX9_reportSign_51 : decode cX9_reportSign 51 = .ok (.iload_n 2, 1) := by decide +kernel
theorem dX9_reportSign_52 : decode cX9_reportSign 52 = .ok (.iconst (-1), 1) := by decide +kernel
theorem dX9_reportSign_53 : decode cX9_reportSign 53 = .ok (.if_icmp .ne 8, 3) := by decide +kernel
theorem dX9_reportSign_56 : decode cX9_reportSign 56 = .ok (.bipush 33, 2) := by decide +kernel
theorem dX9_reportSign_58 : decode cX9_reportSign 58 = .ok (.goto 7, 3) := by decide +kernel
theorem dX9_reportSign_61 : decode cX9_reportSign 61 = .ok (.bipush 48, 2) := by decide +kernel
theorem dX9_reportSign_63 : decode cX9_reportSign 63 = .ok (.iload_n 2, 1) := by decide +kernel
theorem dX9_reportSign_64 : decode cX9_reportSign 64 = .ok (.iadd, 1) := by decide +kernel
theorem dX9_reportSign_65 : decode cX9_reportSign 65 = .ok (.ireturn, 1) := by decide +kernel
theorem dX9_noteError_0 : decode cX9_noteError 0 = .ok (.aload_n 0, 1) := by decide +kernel
theorem dX9_noteError_1 : decode cX9_noteError 1 = .ok (.iload_n 1, 1) := by decide +kernel
theorem dX9_noteError_2 : decode cX9_noteError 2 = .ok (.ifCond .ne 7, 3) := by decide +kernel
theorem dX9_noteError_5 : decode cX9_noteError 5 = .ok (.iconst (-1), 1) := by decide +kernel
theorem dX9_noteError_6 : decode cX9_noteError 6 = .ok (.goto 10, 3) := by decide +kernel
theorem dX9_noteError_9 : decode cX9_noteError 9 = .ok (.aload_n 0, 1) := by decide +kernel
theorem dX9_noteError_10 : decode cX9_noteError 10 = .ok (.getfield 21, 3) := by decide +kernel
theorem dX9_noteError_13 : decode cX9_noteError 13 = .ok (.getfield 449, 3) := by decide +kernel
theorem dX9_noteError_16 : decode cX9_noteError 16 = .ok (.putfield 96, 3) := by decide +kernel
theorem dX9_noteError_19 : decode cX9_noteError 19 = .ok (.return_, 1) := by decide +kernel
theorem dX9_startAnew_0 : decode cX9_startAnew 0 = .ok (.aload_n 0, 1) := by decide +kernel
theorem dX9_startAnew_1 : decode cX9_startAnew 1 = .ok (.getfield 59, 3) := by decide +kernel
theorem dX9_startAnew_4 : decode cX9_startAnew 4 = .ok (.iconst 0, 1) := by decide +kernel
theorem dX9_startAnew_5 : decode cX9_startAnew 5 = .ok (.putfield 193, 3) := by decide +kernel
theorem dX9_startAnew_8 : decode cX9_startAnew 8 = .ok (.iconst 0, 1) := by decide +kernel
theorem dX9_startAnew_9 : decode cX9_startAnew 9 = .ok (.istore_n 1, 1) := by decide +kernel
theorem dX9_startAnew_10 : decode cX9_startAnew 10 = .ok (.iload_n 1, 1) := by decide +kernel
theorem dX9_startAnew_11 : decode cX9_startAnew 11 = .ok (.iconst 2, 1) := by decide +kernel
theorem dX9_startAnew_12 : decode cX9_startAnew 12 = .ok (.if_icmp .ge 16, 3) := by decide +kernel
theorem dX9_startAnew_15 : decode cX9_startAnew 15 = .ok (.aload_n 0, 1) := by decide +kernel
theorem dX9_startAnew_16 : decode cX9_startAnew 16 = .ok (.getfield 67, 3) := by decide +kernel
theorem dX9_startAnew_19 : decode cX9_startAnew 19 = .ok (.iload_n 1, 1) := by decide +kernel
theorem dX9_startAnew_20 : decode cX9_startAnew 20 = .ok (.iconst 0, 1) := by decide +kernel
theorem dX9_startAnew_21 : decode cX9_startAnew 21 = .ok (.bastore, 1) := by decide +kernel
theorem dX9_startAnew_22 : decode cX9_startAnew 22 = .ok (.iinc 1 1, 3) := by decide +kernel
theorem dX9_startAnew_25 : decode cX9_startAnew 25 = .ok (.goto (-15), 3) := by decide +kernel
theorem dX9_startAnew_28 : decode cX9_startAnew 28 = .ok (.aload_n 0, 1) := by decide +kernel
theorem dX9_startAnew_29 : decode cX9_startAnew 29 = .ok (.invokevirtual 378, 3) := by decide +kernel
theorem dX9_startAnew_32 : decode cX9_startAnew 32 = .ok (.return_, 1) := by decide +kernel
theorem dX9_beginChange_0 : decode cX9_beginChange 0 = .ok (.aload_n 0, 1) := by decide +kernel
theorem dX9_beginChange_1 : decode cX9_beginChange 1 = .ok (.getfield 59, 3) := by decide +kernel
theorem dX9_beginChange_4 : decode cX9_beginChange 4 = .ok (.aload_n 0, 1) := by decide +kernel
theorem dX9_beginChange_5 : decode cX9_beginChange 5 = .ok (.getfield 49, 3) := by decide +kernel
theorem dX9_beginChange_8 : decode cX9_beginChange 8 = .ok (.invokevirtual 357, 3) := by decide +kernel
theorem dX9_beginChange_11 : decode cX9_beginChange 11 = .ok (.aload_n 0, 1) := by decide +kernel
theorem dX9_beginChange_12 : decode cX9_beginChange 12 = .ok (.invokevirtual 378, 3) := by decide +kernel
theorem dX9_beginChange_15 : decode cX9_beginChange 15 = .ok (.return_, 1) := by decide +kernel
theorem dX9_putPair_0 : decode cX9_putPair 0 = .ok (.aload_n 0, 1) := by decide +kernel
theorem dX9_putPair_1 : decode cX9_putPair 1 = .ok (.getfield 49, 3) := by decide +kernel
theorem dX9_putPair_4 : decode cX9_putPair 4 = .ok (.iload_n 2, 1) := by decide +kernel
theorem dX9_putPair_5 : decode cX9_putPair 5 = .ok (.aload_n 0, 1) := by decide +kernel
theorem dX9_putPair_6 : decode cX9_putPair 6 = .ok (.getfield 42, 3) := by decide +kernel
theorem dX9_putPair_9 : decode cX9_putPair 9 = .ok (.iload_n 3, 1) := by decide +kernel
theorem dX9_putPair_10 : decode cX9_putPair 10 = .ok (.invokevirtual 452, 3) := by decide +kernel
theorem dX9_putPair_13 : decode cX9_putPair 13 = .ok (.invokevirtual 455, 3) := by decide +kernel
theorem dX9_putPair_16 : decode cX9_putPair 16 = .ok (.aload_n 0, 1) := by decide +kernel
theorem dX9_putPair_17 : decode cX9_putPair 17 = .ok (.getfield 49, 3) := by decide +kernel
theorem dX9_putPair_20 : decode cX9_putPair 20 = .ok (.iload_n 1, 1) := by decide +kernel
theorem dX9_putPair_21 : decode cX9_putPair 21 = .ok (.aload_n 0, 1) := by decide +kernel
theorem dX9_putPair_22 : decode cX9_putPair 22 = .ok (.getfield 42, 3) := by decide +kernel
theorem dX9_putPair_25 : decode cX9_putPair 25 = .ok (.iload_n 3, 1) := by decide +kernel
theorem dX9_putPair_26 : decode cX9_putPair 26 = .ok (.invokevirtual 458, 3) := by decide +kernel
theorem dX9_putPair_29 : decode cX9_putPair 29 = .ok (.invokevirtual 455, 3) := by decide +kernel
theorem dX9_putPair_32 : decode cX9_putPair 32 = .ok (.aload_n 0, 1) := by decide +kernel
theorem dX9_putPair_33 : decode cX9_putPair 33 = .ok (.invokevirtual 378, 3) := by decide +kernel
theorem dX9_putPair_36 : decode cX9_putPair 36 = .ok (.return_, 1) := by decide +kernel
theorem dX9_mendText_0 : decode cX9_mendText 0 = .ok (.aload_n 0, 1) := by decide +kernel
theorem dX9_mendText_1 : decode cX9_mendText 1 = .ok (.getfield 49, 3) := by decide +kernel
theorem dX9_mendText_4 : decode cX9_mendText 4 = .ok (.aload_n 0, 1) := by decide +kernel
theorem dX9_mendText_5 : decode cX9_mendText 5 = .ok (.getfield 84, 3) := by decide +kernel
theorem dX9_mendText_8 : decode cX9_mendText 8 = .ok (.invokevirtual 459, 3) := by decide +kernel
theorem dX9_mendText_11 : decode cX9_mendText 11 = .ok (.invokevirtual 343, 3) := by decide +kernel
theorem dX9_mendText_14 : decode cX9_mendText 14 = .ok (.ifCond .ne 5, 3) := by decide +kernel
theorem dX9_mendText_17 : decode cX9_mendText 17 = .ok (.iconst 0, 1) := by decide +kernel
theorem dX9_mendText_18 : decode cX9_mendText 18 = .ok (.ireturn, 1) := by decide +kernel
theorem dX9_mendText_19 : decode cX9_mendText 19 = .ok (.aload_n 0, 1) := by decide +kernel
theorem dX9_mendText_20 : decode cX9_mendText 20 = .ok (.getfield 84, 3) := by decide +kernel
theorem dX9_mendText_23 : decode cX9_mendText 23 = .ok (.getfield 281, 3) := by decide +kernel
theorem dX9_mendText_26 : decode cX9_mendText 26 = .ok (.iconst 1, 1) := by decide +kernel
theorem dX9_mendText_27 : decode cX9_mendText 27 = .ok (.isub, 1) := by decide +kernel
theorem dX9_mendText_28 : decode cX9_mendText 28 = .ok (.istore_n 1, 1) := by decide +kernel
theorem dX9_mendText_29 : decode cX9_mendText 29 = .ok (.iload_n 1, 1) := by decide +kernel
theorem dX9_mendText_30 : decode cX9_mendText 30 = .ok (.ifCond .lt 37, 3) := by decide +kernel
theorem dX9_mendText_33 : decode cX9_mendText 33 = .ok (.aload_n 0, 1) := by decide +kernel
theorem dX9_mendText_34 : decode cX9_mendText 34 = .ok (.aload_n 0, 1) := by decide +kernel
theorem dX9_mendText_35 : decode cX9_mendText 35 = .ok (.getfield 84, 3) := by decide +kernel
theorem dX9_mendText_38 : decode cX9_mendText 38 = .ok (.iload_n 1, 1) := by decide +kernel
theorem dX9_mendText_39 : decode cX9_mendText 39 = .ok (.invokevirtual 289, 3) := by decide +kernel
theorem dX9_mendText_42 : decode cX9_mendText 42 = .ok (.aload_n 0, 1) := by decide +kernel
theorem dX9_mendText_43 : decode cX9_mendText 43 = .ok (.getfield 84, 3) := by decide +kernel
theorem dX9_mendText_46 : decode cX9_mendText 46 = .ok (.iload_n 1, 1) := by decide +kernel
theorem dX9_mendText_47 : decode cX9_mendText 47 = .ok (.invokevirtual 292, 3) := by decide +kernel
theorem dX9_mendText_50 : decode cX9_mendText 50 = .ok (.aload_n 0, 1) := by decide +kernel
theorem dX9_mendText_51 : decode cX9_mendText 51 = .ok (.getfield 84, 3) := by decide +kernel
theorem dX9_mendText_54 : decode cX9_mendText 54 = .ok (.iload_n 1, 1) := by decide +kernel
theorem dX9_mendText_55 : decode cX9_mendText 55 = .ok (.invokevirtual 295, 3) := by decide +kernel
theorem dX9_mendText_58 : decode cX9_mendText 58 = .ok (.invokevirtual 462, 3) := by decide +kernel
theorem dX9_mendText_61 : decode cX9_mendText 61 = .ok (.iinc 1 (-1), 3) := by decide +kernel
theorem dX9_mendText_64 : decode cX9_mendText 64 = .ok (.goto (-35), 3) := by decide +kernel
theorem dX9_mendText_67 : decode cX9_mendText 67 = .ok (.aload_n 0, 1) := by decide +kernel
theorem dX9_mendText_68 : decode cX9_mendText 68 = .ok (.invokevirtual 378, 3) := by decide +kernel
theorem dX9_mendText_71 : decode cX9_mendText 71 = .ok (.iconst 1, 1) := by decide +kernel
theorem dX9_mendText_72 : decode cX9_mendText 72 = .ok (.ireturn, 1) := by decide +kernel
theorem dX9_mendBracket_0 : decode cX9_mendBracket 0 = .ok (.iload_n 1, 1) := by decide +kernel
theorem dX9_mendBracket_1 : decode cX9_mendBracket 1 = .ok (.ifCond .ne 17, 3) := by decide +kernel
theorem dX9_mendBracket_4 : decode cX9_mendBracket 4 = .ok (.aload_n 0, 1) := by decide +kernel
theorem dX9_mendBracket_5 : decode cX9_mendBracket 5 = .ok (.getfield 49, 3) := by decide +kernel
theorem dX9_mendBracket_8 : decode cX9_mendBracket 8 = .ok (.iload_n 2, 1) := by decide +kernel
theorem dX9_mendBracket_9 : decode cX9_mendBracket 9 = .ok (.iload_n 2, 1) := by decide +kernel
theorem dX9_mendBracket_10 : decode cX9_mendBracket 10 = .ok (.iconst 1, 1) := by decide +kernel
theorem dX9_mendBracket_11 : decode cX9_mendBracket 11 = .ok (.iadd, 1) := by decide +kernel
theorem dX9_mendBracket_12 : decode cX9_mendBracket 12 = .ok (.invokevirtual 340, 3) := by decide +kernel
theorem dX9_mendBracket_15 : decode cX9_mendBracket 15 = .ok (.goto 76, 3) := by decide +kernel
theorem dX9_mendBracket_18 : decode cX9_mendBracket 18 = .ok (.iload_n 1, 1) := by decide +kernel
theorem dX9_mendBracket_19 : decode cX9_mendBracket 19 = .ok (.iconst 2, 1) := by decide +kernel
theorem dX9_mendBracket_20 : decode cX9_mendBracket 20 = .ok (.if_icmp .ne 24, 3) := by decide +kernel
theorem dX9_mendBracket_23 : decode cX9_mendBracket 23 = .ok (.aload_n 0, 1) := by decide +kernel
theorem dX9_mendBracket_24 : decode cX9_mendBracket 24 = .ok (.getfield 49, 3) := by decide +kernel
theorem dX9_mendBracket_27 : decode cX9_mendBracket 27 = .ok (.iload_n 2, 1) := by decide +kernel
theorem dX9_mendBracket_28 : decode cX9_mendBracket 28 = .ok (.aload_n 0, 1) := by decide +kernel
theorem dX9_mendBracket_29 : decode cX9_mendBracket 29 = .ok (.getfield 42, 3) := by decide +kernel
theorem dX9_mendBracket_32 : decode cX9_mendBracket 32 = .ok (.iload_n 3, 1) := by decide +kernel
theorem dX9_mendBracket_33 : decode cX9_mendBracket 33 = .ok (.iconst 2, 1) := by decide +kernel
theorem dX9_mendBracket_34 : decode cX9_mendBracket 34 = .ok (.idiv, 1) := by decide +kernel
theorem dX9_mendBracket_35 : decode cX9_mendBracket 35 = .ok (.invokevirtual 452, 3) := by decide +kernel
theorem dX9_mendBracket_38 : decode cX9_mendBracket 38 = .ok (.invokevirtual 465, 3) := by decide +kernel
theorem dX9_mendBracket_41 : decode cX9_mendBracket 41 = .ok (.goto 50, 3) := by decide +kernel
theorem dX9_mendBracket_44 : decode cX9_mendBracket 44 = .ok (.iload_n 3, 1) := by decide +kernel
theorem dX9_mendBracket_45 : decode cX9_mendBracket 45 = .ok (.iconst 2, 1) := by decide +kernel
theorem dX9_mendBracket_46 : decode cX9_mendBracket 46 = .ok (.irem, 1) := by decide +kernel
theorem dX9_mendBracket_47 : decode cX9_mendBracket 47 = .ok (.ifCond .ne 26, 3) := by decide +kernel
theorem dX9_mendBracket_50 : decode cX9_mendBracket 50 = .ok (.aload_n 0, 1) := by decide +kernel
theorem dX9_mendBracket_51 : decode cX9_mendBracket 51 = .ok (.getfield 49, 3) := by decide +kernel
theorem dX9_mendBracket_54 : decode cX9_mendBracket 54 = .ok (.iload_n 2, 1) := by decide +kernel
theorem dX9_mendBracket_55 : decode cX9_mendBracket 55 = .ok (.iconst 1, 1) := by decide +kernel
theorem dX9_mendBracket_56 : decode cX9_mendBracket 56 = .ok (.iadd, 1) := by decide +kernel
theorem dX9_mendBracket_57 : decode cX9_mendBracket 57 = .ok (.aload_n 0, 1) := by decide +kernel
theorem dX9_mendBracket_58 : decode cX9_mendBracket 58 = .ok (.getfield 42, 3) := by decide +kernel
theorem dX9_mendBracket_61 : decode cX9_mendBracket 61 = .ok (.iload_n 3, 1) := by decide +kernel
theorem dX9_mendBracket_62 : decode cX9_mendBracket 62 = .ok (.iconst 2, 1) := by decide +kernel
theorem dX9_mendBracket_63 : decode cX9_mendBracket 63 = .ok (.idiv, 1) := by decide +kernel
theorem dX9_mendBracket_64 : decode cX9_mendBracket 64 = .ok (.invokevirtual 452, 3) := by decide +kernel
theorem dX9_mendBracket_67 : decode cX9_mendBracket 67 = .ok (.invokevirtual 455, 3) := by decide +kernel
theorem dX9_mendBracket_70 : decode cX9_mendBracket 70 = .ok (.goto 21, 3) := by decide +kernel
theorem dX9_mendBracket_73 : decode cX9_mendBracket 73 = .ok (.aload_n 0, 1) := by decide +kernel
theorem dX9_mendBracket_74 : decode cX9_mendBracket 74 = .ok (.getfield 49, 3) := by decide +kernel
theorem dX9_mendBracket_77 : decode cX9_mendBracket 77 = .ok (.iload_n 2, 1) := by decide +kernel
theorem dX9_mendBracket_78 : decode cX9_mendBracket 78 = .ok (.aload_n 0, 1) := by decide +kernel
theorem dX9_mendBracket_79 : decode cX9_mendBracket 79 = .ok (.getfield 42, 3) := by decide +kernel
theorem dX9_mendBracket_82 : decode cX9_mendBracket 82 = .ok (.iload_n 3, 1) := by decide +kernel
theorem dX9_mendBracket_83 : decode cX9_mendBracket 83 = .ok (.iconst 2, 1) := by decide +kernel
theorem dX9_mendBracket_84 : decode cX9_mendBracket 84 = .ok (.idiv, 1) := by decide +kernel
theorem dX9_mendBracket_85 : decode cX9_mendBracket 85 = .ok (.invokevirtual 458, 3) := by decide +kernel
theorem dX9_mendBracket_88 : decode cX9_mendBracket 88 = .ok (.invokevirtual 455, 3) := by decide +kernel
theorem dX9_mendBracket_91 : decode cX9_mendBracket 91 = .ok (.return_, 1) := by decide +kernel
theorem dX9_follow_0 : decode cX9_follow 0 = .ok (.aload_n 0, 1) := by decide +kernel
theorem dX9_follow_1 : decode cX9_follow 1 = .ok (.getfield 35, 3) := by decide +kernel
theorem dX9_follow_4 : decode cX9_follow 4 = .ok (.iload_n 1, 1) := by decide +kernel
theorem dX9_follow_5 : decode cX9_follow 5 = .ok (.iconst 0, 1) := by decide +kernel
theorem dX9_follow_6 : decode cX9_follow 6 = .ok (.invokevirtual 468, 3) := by decide +kernel
theorem dX9_follow_9 : decode cX9_follow 9 = .ok (.istore_n 2, 1) := by decide +kernel
theorem dX9_follow_10 : decode cX9_follow 10 = .ok (.aload_n 0, 1) := by decide +kernel
theorem dX9_follow_11 : decode cX9_follow 11 = .ok (.getfield 35, 3) := by decide +kernel
theorem dX9_follow_14 : decode cX9_follow 14 = .ok (.iload_n 1, 1) := by decide +kernel
theorem dX9_follow_15 : decode cX9_follow 15 = .ok (.iconst 1, 1) := by decide +kernel
theorem dX9_follow_16 : decode cX9_follow 16 = .ok (.invokevirtual 468, 3) := by decide +kernel
theorem dX9_follow_19 : decode cX9_follow 19 = .ok (.istore_n 3, 1) := by decide +kernel
theorem dX9_follow_20 : decode cX9_follow 20 = .ok (.aload_n 0, 1) := by decide +kernel
theorem dX9_follow_21 : decode cX9_follow 21 = .ok (.getfield 35, 3) := by decide +kernel
theorem dX9_follow_24 : decode cX9_follow 24 = .ok (.iload_n 1, 1) := by decide +kernel
theorem dX9_follow_25 : decode cX9_follow 25 = .ok (.invokevirtual 471, 3) := by decide +kernel
theorem dX9_follow_28 : decode cX9_follow 28 = .ok (.tableswitch 83 0 4 #[36, 43, 50, 57, 73], 36) := by decide +kernel
theorem dX9_follow_64 : decode cX9_follow 64 = .ok (.aload_n 0, 1) := by decide +kernel
theorem dX9_follow_65 : decode cX9_follow 65 = .ok (.iload_n 2, 1) := by decide +kernel
theorem dX9_follow_66 : decode cX9_follow 66 = .ok (.iload_n 3, 1) := by decide +kernel
theorem dX9_follow_67 : decode cX9_follow 67 = .ok (.invokevirtual 474, 3) := by decide +kernel
theorem dX9_follow_70 : decode cX9_follow 70 = .ok (.ireturn, 1) := by decide +kernel
theorem dX9_follow_71 : decode cX9_follow 71 = .ok (.aload_n 0, 1) := by decide +kernel
theorem dX9_follow_72 : decode cX9_follow 72 = .ok (.iload_n 2, 1) := by decide +kernel
theorem dX9_follow_73 : decode cX9_follow 73 = .ok (.iload_n 3, 1) := by decide +kernel
theorem dX9_follow_74 : decode cX9_follow 74 = .ok (.invokevirtual 477, 3) := by decide +kernel
theorem dX9_follow_77 : decode cX9_follow 77 = .ok (.ireturn, 1) := by decide +kernel
theorem dX9_follow_78 : decode cX9_follow 78 = .ok (.aload_n 0, 1) := by decide +kernel
theorem dX9_follow_79 : decode cX9_follow 79 = .ok (.iload_n 2, 1) := by decide +kernel
theorem dX9_follow_80 : decode cX9_follow 80 = .ok (.iload_n 3, 1) := by decide +kernel
theorem dX9_follow_81 : decode cX9_follow 81 = .ok (.invokevirtual 480, 3) := by decide +kernel
theorem dX9_follow_84 : decode cX9_follow 84 = .ok (.ireturn, 1) := by decide +kernel
theorem dX9_follow_85 : decode cX9_follow 85 = .ok (.aload_n 0, 1) := by decide +kernel
theorem dX9_follow_86 : decode cX9_follow 86 = .ok (.iload_n 2, 1) := by decide +kernel
theorem dX9_follow_87 : decode cX9_follow 87 = .ok (.iload_n 3, 1) := by decide +kernel
theorem dX9_follow_88 : decode cX9_follow 88 = .ok (.aload_n 0, 1) := by decide +kernel
theorem dX9_follow_89 : decode cX9_follow 89 = .ok (.getfield 35, 3) := by decide +kernel
theorem dX9_follow_92 : decode cX9_follow 92 = .ok (.iload_n 1, 1) := by decide +kernel
theorem dX9_follow_93 : decode cX9_follow 93 = .ok (.iconst 2, 1) := by decide +kernel
theorem dX9_follow_94 : decode cX9_follow 94 = .ok (.invokevirtual 468, 3) := by decide +kernel
theorem dX9_follow_97 : decode cX9_follow 97 = .ok (.invokevirtual 483, 3) := by decide +kernel
theorem dX9_follow_100 : decode cX9_follow 100 = .ok (.ireturn, 1) := by decide +kernel
theorem dX9_follow_101 : decode cX9_follow 101 = .ok (.aload_n 0, 1) := by decide +kernel
theorem dX9_follow_102 : decode cX9_follow 102 = .ok (.invokevirtual 274, 3) := by decide +kernel
theorem dX9_follow_105 : decode cX9_follow 105 = .ok (.pop, 1) := by decide +kernel
theorem dX9_follow_106 : decode cX9_follow 106 = .ok (.aload_n 0, 1) := by decide +kernel
theorem dX9_follow_107 : decode cX9_follow 107 = .ok (.invokevirtual 353, 3) := by decide +kernel
theorem dX9_follow_110 : decode cX9_follow 110 = .ok (.ireturn, 1) := by decide +kernel
theorem dX9_follow_111 : decode cX9_follow 111 = .ok (.aload_n 0, 1) := by decide +kernel
theorem dX9_follow_112 : decode cX9_follow 112 = .ok (.invokevirtual 165, 3) := by decide +kernel
theorem dX9_follow_115 : decode cX9_follow 115 = .ok (.invokevirtual 176, 3) := by decide +kernel
theorem dX9_follow_118 : decode cX9_follow 118 = .ok (.iload_n 2, 1) := by decide +kernel
theorem dX9_follow_119 : decode cX9_follow 119 = .ok (.if_icmp .ne 7, 3) := by decide +kernel
theorem dX9_follow_122 : decode cX9_follow 122 = .ok (.iconst 1, 1) := by decide +kernel
theorem dX9_follow_123 : decode cX9_follow 123 = .ok (.goto 4, 3) := by decide +kernel
theorem dX9_follow_126 : decode cX9_follow 126 = .ok (.iconst 0, 1) := by decide +kernel
theorem dX9_follow_127 : decode cX9_follow 127 = .ok (.ireturn, 1) := by decide +kernel
theorem dX9_followErase_0 : decode cX9_followErase 0 = .ok (.aload_n 0, 1) := by decide +kernel
theorem dX9_followErase_1 : decode cX9_followErase 1 = .ok (.getfield 49, 3) := by decide +kernel
theorem dX9_followErase_4 : decode cX9_followErase 4 = .ok (.iload_n 1, 1) := by decide +kernel
theorem dX9_followErase_5 : decode cX9_followErase 5 = .ok (.iload_n 2, 1) := by decide +kernel
theorem dX9_followErase_6 : decode cX9_followErase 6 = .ok (.invokevirtual 407, 3) := by decide +kernel
theorem dX9_followErase_9 : decode cX9_followErase 9 = .ok (.ifCond .ne 5, 3) := by decide +kernel
theorem dX9_followErase_12 : decode cX9_followErase 12 = .ok (.iconst 0, 1) := by decide +kernel
theorem dX9_followErase_13 : decode cX9_followErase 13 = .ok (.ireturn, 1) := by decide +kernel
theorem dX9_followErase_14 : decode cX9_followErase 14 = .ok (.aload_n 0, 1) := by decide +kernel
theorem dX9_followErase_15 : decode cX9_followErase 15 = .ok (.getfield 49, 3) := by decide +kernel
theorem dX9_followErase_18 : decode cX9_followErase 18 = .ok (.iload_n 1, 1) := by decide +kernel
theorem dX9_followErase_19 : decode cX9_followErase 19 = .ok (.iload_n 2, 1) := by decide +kernel
theorem dX9_followErase_20 : decode cX9_followErase 20 = .ok (.invokevirtual 340, 3) := by decide +kernel
theorem dX9_followErase_23 : decode cX9_followErase 23 = .ok (.aload_n 0, 1) := by decide +kernel
theorem dX9_followErase_24 : decode cX9_followErase 24 = .ok (.invokevirtual 378, 3) := by decide +kernel
theorem dX9_followErase_27 : decode cX9_followErase 27 = .ok (.iconst 1, 1) := by decide +kernel
theorem dX9_followErase_28 : decode cX9_followErase 28 = .ok (.ireturn, 1) := by decide +kernel
theorem dX9_followPut_0 : decode cX9_followPut 0 = .ok (.aload_n 0, 1) := by decide +kernel
theorem dX9_followPut_1 : decode cX9_followPut 1 = .ok (.getfield 49, 3) := by decide +kernel
theorem dX9_followPut_4 : decode cX9_followPut 4 = .ok (.iload_n 1, 1) := by decide +kernel
theorem dX9_followPut_5 : decode cX9_followPut 5 = .ok (.invokevirtual 402, 3) := by decide +kernel
theorem dX9_followPut_8 : decode cX9_followPut 8 = .ok (.ifCond .eq 21, 3) := by decide +kernel
theorem dX9_followPut_11 : decode cX9_followPut 11 = .ok (.iload_n 2, 1) := by decide +kernel
theorem dX9_followPut_12 : decode cX9_followPut 12 = .ok (.invokestatic 487, 3) := by decide +kernel
theorem dX9_followPut_15 : decode cX9_followPut 15 = .ok (.ifCond .eq 14, 3) := by decide +kernel
theorem dX9_followPut_18 : decode cX9_followPut 18 = .ok (.aload_n 0, 1) := by decide +kernel
theorem dX9_followPut_19 : decode cX9_followPut 19 = .ok (.getfield 49, 3) := by decide +kernel
theorem dX9_followPut_22 : decode cX9_followPut 22 = .ok (.iconst 1, 1) := by decide +kernel
theorem dX9_followPut_23 : decode cX9_followPut 23 = .ok (.invokevirtual 343, 3) := by decide +kernel
theorem dX9_followPut_26 : decode cX9_followPut 26 = .ok (.ifCond .ne 5, 3) := by decide +kernel
theorem dX9_followPut_29 : decode cX9_followPut 29 = .ok (.iconst 0, 1) := by decide +kernel
theorem dX9_followPut_30 : decode cX9_followPut 30 = .ok (.ireturn, 1) := by decide +kernel
theorem dX9_followPut_31 : decode cX9_followPut 31 = .ok (.aload_n 0, 1) := by decide +kernel
theorem dX9_followPut_32 : decode cX9_followPut 32 = .ok (.getfield 49, 3) := by decide +kernel
theorem dX9_followPut_35 : decode cX9_followPut 35 = .ok (.iload_n 1, 1) := by decide +kernel
theorem dX9_followPut_36 : decode cX9_followPut 36 = .ok (.iload_n 2, 1) := by decide +kernel
theorem dX9_followPut_37 : decode cX9_followPut 37 = .ok (.invokevirtual 455, 3) := by decide +kernel
theorem dX9_followPut_40 : decode cX9_followPut 40 = .ok (.aload_n 0, 1) := by decide +kernel
theorem dX9_followPut_41 : decode cX9_followPut 41 = .ok (.invokevirtual 378, 3) := by decide +kernel
theorem dX9_followPut_44 : decode cX9_followPut 44 = .ok (.iconst 1, 1) := by decide +kernel
theorem dX9_followPut_45 : decode cX9_followPut 45 = .ok (.ireturn, 1) := by decide +kernel
theorem dX9_followSwap_0 : decode cX9_followSwap 0 = .ok (.aload_n 0, 1) := by decide +kernel
theorem dX9_followSwap_1 : decode cX9_followSwap 1 = .ok (.getfield 49, 3) := by decide +kernel
theorem dX9_followSwap_4 : decode cX9_followSwap 4 = .ok (.iload_n 1, 1) := by decide +kernel
theorem dX9_followSwap_5 : decode cX9_followSwap 5 = .ok (.invokevirtual 394, 3) := by decide +kernel
theorem dX9_followSwap_8 : decode cX9_followSwap 8 = .ok (.ifCond .eq 14, 3) := by decide +kernel
theorem dX9_followSwap_11 : decode cX9_followSwap 11 = .ok (.aload_n 0, 1) := by decide +kernel
theorem dX9_followSwap_12 : decode cX9_followSwap 12 = .ok (.getfield 49, 3) := by decide +kernel
theorem dX9_followSwap_15 : decode cX9_followSwap 15 = .ok (.iload_n 2, 1) := by decide +kernel
theorem dX9_followSwap_16 : decode cX9_followSwap 16 = .ok (.invokevirtual 394, 3) := by decide +kernel
theorem dX9_followSwap_19 : decode cX9_followSwap 19 = .ok (.ifCond .ne 5, 3) := by decide +kernel
theorem dX9_followSwap_22 : decode cX9_followSwap 22 = .ok (.iconst 0, 1) := by decide +kernel
theorem dX9_followSwap_23 : decode cX9_followSwap 23 = .ok (.ireturn, 1) := by decide +kernel
theorem dX9_followSwap_24 : decode cX9_followSwap 24 = .ok (.aload_n 0, 1) := by decide +kernel
theorem dX9_followSwap_25 : decode cX9_followSwap 25 = .ok (.getfield 49, 3) := by decide +kernel
theorem dX9_followSwap_28 : decode cX9_followSwap 28 = .ok (.iload_n 1, 1) := by decide +kernel
theorem dX9_followSwap_29 : decode cX9_followSwap 29 = .ok (.invokevirtual 212, 3) := by decide +kernel
theorem dX9_followSwap_32 : decode cX9_followSwap 32 = .ok (.istore_n 3, 1) := by decide +kernel
theorem dX9_followSwap_33 : decode cX9_followSwap 33 = .ok (.aload_n 0, 1) := by decide +kernel
theorem dX9_followSwap_34 : decode cX9_followSwap 34 = .ok (.getfield 49, 3) := by decide +kernel
theorem dX9_followSwap_37 : decode cX9_followSwap 37 = .ok (.iload_n 1, 1) := by decide +kernel
theorem dX9_followSwap_38 : decode cX9_followSwap 38 = .ok (.aload_n 0, 1) := by decide +kernel
theorem dX9_followSwap_39 : decode cX9_followSwap 39 = .ok (.getfield 49, 3) := by decide +kernel
theorem dX9_followSwap_42 : decode cX9_followSwap 42 = .ok (.iload_n 2, 1) := by decide +kernel
theorem dX9_followSwap_43 : decode cX9_followSwap 43 = .ok (.invokevirtual 212, 3) := by decide +kernel
theorem dX9_followSwap_46 : decode cX9_followSwap 46 = .ok (.invokevirtual 465, 3) := by decide +kernel
theorem dX9_followSwap_49 : decode cX9_followSwap 49 = .ok (.aload_n 0, 1) := by decide +kernel
theorem dX9_followSwap_50 : decode cX9_followSwap 50 = .ok (.getfield 49, 3) := by decide +kernel
theorem dX9_followSwap_53 : decode cX9_followSwap 53 = .ok (.iload_n 2, 1) := by decide +kernel
theorem dX9_followSwap_54 : decode cX9_followSwap 54 = .ok (.iload_n 3, 1) := by decide +kernel
theorem dX9_followSwap_55 : decode cX9_followSwap 55 = .ok (.invokevirtual 465, 3) := by decide +kernel
theorem dX9_followSwap_58 : decode cX9_followSwap 58 = .ok (.aload_n 0, 1) := by decide +kernel
theorem dX9_followSwap_59 : decode cX9_followSwap 59 = .ok (.invokevirtual 378, 3) := by decide +kernel
theorem dX9_followSwap_62 : decode cX9_followSwap 62 = .ok (.iconst 1, 1) := by decide +kernel
theorem dX9_followSwap_63 : decode cX9_followSwap 63 = .ok (.ireturn, 1) := by decide +kernel
theorem dX9_followWrap_0 : decode cX9_followWrap 0 = .ok (.aload_n 0, 1) := by decide +kernel
theorem dX9_followWrap_1 : decode cX9_followWrap 1 = .ok (.getfield 49, 3) := by decide +kernel
theorem dX9_followWrap_4 : decode cX9_followWrap 4 = .ok (.iload_n 1, 1) := by decide +kernel
theorem dX9_followWrap_5 : decode cX9_followWrap 5 = .ok (.iload_n 2, 1) := by decide +kernel
theorem dX9_followWrap_6 : decode cX9_followWrap 6 = .ok (.invokevirtual 407, 3) := by decide +kernel
theorem dX9_followWrap_9 : decode cX9_followWrap 9 = .ok (.ifCond .eq 25, 3) := by decide +kernel
theorem dX9_followWrap_12 : decode cX9_followWrap 12 = .ok (.aload_n 0, 1) := by decide +kernel
theorem dX9_followWrap_13 : decode cX9_followWrap 13 = .ok (.getfield 42, 3) := by decide +kernel
theorem dX9_followWrap_16 : decode cX9_followWrap 16 = .ok (.iload_n 3, 1) := by decide +kernel
theorem dX9_followWrap_17 : decode cX9_followWrap 17 = .ok (.invokevirtual 413, 3) := by decide +kernel
theorem dX9_followWrap_20 : decode cX9_followWrap 20 = .ok (.ifCond .eq 14, 3) := by decide +kernel
theorem dX9_followWrap_23 : decode cX9_followWrap 23 = .ok (.aload_n 0, 1) := by decide +kernel
theorem dX9_followWrap_24 : decode cX9_followWrap 24 = .ok (.getfield 49, 3) := by decide +kernel
theorem dX9_followWrap_27 : decode cX9_followWrap 27 = .ok (.iconst 2, 1) := by decide +kernel
theorem dX9_followWrap_28 : decode cX9_followWrap 28 = .ok (.invokevirtual 343, 3) := by decide +kernel
theorem dX9_followWrap_31 : decode cX9_followWrap 31 = .ok (.ifCond .ne 5, 3) := by decide +kernel
theorem dX9_followWrap_34 : decode cX9_followWrap 34 = .ok (.iconst 0, 1) := by decide +kernel
theorem dX9_followWrap_35 : decode cX9_followWrap 35 = .ok (.ireturn, 1) := by decide +kernel
theorem dX9_followWrap_36 : decode cX9_followWrap 36 = .ok (.aload_n 0, 1) := by decide +kernel
theorem dX9_followWrap_37 : decode cX9_followWrap 37 = .ok (.iload_n 1, 1) := by decide +kernel
theorem dX9_followWrap_38 : decode cX9_followWrap 38 = .ok (.iload_n 2, 1) := by decide +kernel
theorem dX9_followWrap_39 : decode cX9_followWrap 39 = .ok (.iload_n 3, 1) := by decide +kernel
theorem dX9_followWrap_40 : decode cX9_followWrap 40 = .ok (.invokevirtual 347, 3) := by decide +kernel
theorem dX9_followWrap_43 : decode cX9_followWrap 43 = .ok (.iconst 1, 1) := by decide +kernel
theorem dX9_followWrap_44 : decode cX9_followWrap 44 = .ok (.ireturn, 1) := by decide +kernel
theorem dX10_init_0 : decode cX10_init 0 = .ok (.aload_n 0, 1) := by decide +kernel
theorem dX10_init_1 : decode cX10_init 1 = .ok (.invokespecial 1, 3) := by decide +kernel
theorem dX10_init_4 : decode cX10_init 4 = .ok (.aload_n 0, 1) := by decide +kernel
theorem dX10_init_5 : decode cX10_init 5 = .ok (.iconst 4, 1) := by decide +kernel
theorem dX10_init_6 : decode cX10_init 6 = .ok (.newarray .int, 2) := by decide +kernel
theorem dX10_init_8 : decode cX10_init 8 = .ok (.putfield 7, 3) := by decide +kernel
theorem dX10_init_11 : decode cX10_init 11 = .ok (.aload_n 0, 1) := by decide +kernel
theorem dX10_init_12 : decode cX10_init 12 = .ok (.iconst 4, 1) := by decide +kernel
theorem dX10_init_13 : decode cX10_init 13 = .ok (.newarray .int, 2) := by decide +kernel
theorem dX10_init_15 : decode cX10_init 15 = .ok (.putfield 13, 3) := by decide +kernel
theorem dX10_init_18 : decode cX10_init 18 = .ok (.aload_n 0, 1) := by decide +kernel
theorem dX10_init_19 : decode cX10_init 19 = .ok (.iconst (-1), 1) := by decide +kernel
theorem dX10_init_20 : decode cX10_init 20 = .ok (.putfield 16, 3) := by decide +kernel
theorem dX10_init_23 : decode cX10_init 23 = .ok (.aload_n 0, 1) := by decide +kernel
theorem dX10_init_24 : decode cX10_init 24 = .ok (.iconst (-1), 1) := by decide +kernel
theorem dX10_init_25 : decode cX10_init 25 = .ok (.putfield 20, 3) := by decide +kernel
theorem dX10_init_28 : decode cX10_init 28 = .ok (.aload_n 0, 1) := by decide +kernel
theorem dX10_init_29 : decode cX10_init 29 = .ok (.iconst (-1), 1) := by decide +kernel
theorem dX10_init_30 : decode cX10_init 30 = .ok (.putfield 23, 3) := by decide +kernel
theorem dX10_init_33 : decode cX10_init 33 = .ok (.aload_n 0, 1) := by decide +kernel
theorem dX10_init_34 : decode cX10_init 34 = .ok (.iconst 4, 1) := by decide +kernel
theorem dX10_init_35 : decode cX10_init 35 = .ok (.newarray .int, 2) := by decide +kernel
theorem dX10_init_37 : decode cX10_init 37 = .ok (.putfield 26, 3) := by decide +kernel
theorem dX10_init_40 : decode cX10_init 40 = .ok (.aload_n 0, 1) := by decide +kernel
theorem dX10_init_41 : decode cX10_init 41 = .ok (.iconst 4, 1) := by decide +kernel
theorem dX10_init_42 : decode cX10_init 42 = .ok (.newarray .int, 2) := by decide +kernel
theorem dX10_init_44 : decode cX10_init 44 = .ok (.putfield 29, 3) := by decide +kernel
theorem dX10_init_47 : decode cX10_init 47 = .ok (.aload_n 0, 1) := by decide +kernel
theorem dX10_init_48 : decode cX10_init 48 = .ok (.sipush 254, 3) := by decide +kernel
theorem dX10_init_51 : decode cX10_init 51 = .ok (.newarray .int, 2) := by decide +kernel
theorem dX10_init_53 : decode cX10_init 53 = .ok (.putfield 32, 3) := by decide +kernel
theorem dX10_init_56 : decode cX10_init 56 = .ok (.aload_n 0, 1) := by decide +kernel
theorem dX10_init_57 : decode cX10_init 57 = .ok (.sipush 254, 3) := by decide +kernel
theorem dX10_init_60 : decode cX10_init 60 = .ok (.newarray .int, 2) := by decide +kernel
theorem dX10_init_62 : decode cX10_init 62 = .ok (.putfield 35, 3) := by decide +kernel
theorem dX10_init_65 : decode cX10_init 65 = .ok (.aload_n 0, 1) := by decide +kernel
theorem dX10_init_66 : decode cX10_init 66 = .ok (.sipush 600, 3) := by decide +kernel
theorem dX10_init_69 : decode cX10_init 69 = .ok (.newarray .byte, 2) := by decide +kernel
theorem dX10_init_71 : decode cX10_init 71 = .ok (.putfield 38, 3) := by decide +kernel
theorem dX10_init_74 : decode cX10_init 74 = .ok (.aload_n 0, 1) := by decide +kernel
theorem dX10_init_75 : decode cX10_init 75 = .ok (.iconst (-1), 1) := by decide +kernel
theorem dX10_init_76 : decode cX10_init 76 = .ok (.putfield 42, 3) := by decide +kernel
theorem dX10_init_79 : decode cX10_init 79 = .ok (.aload_n 0, 1) := by decide +kernel
theorem dX10_init_80 : decode cX10_init 80 = .ok (.sipush 240, 3) := by decide +kernel
theorem dX10_init_83 : decode cX10_init 83 = .ok (.newarray .int, 2) := by decide +kernel
theorem dX10_init_85 : decode cX10_init 85 = .ok (.putfield 45, 3) := by decide +kernel
theorem dX10_init_88 : decode cX10_init 88 = .ok (.aload_n 0, 1) := by decide +kernel
theorem dX10_init_89 : decode cX10_init 89 = .ok (.sipush 240, 3) := by decide +kernel
theorem dX10_init_92 : decode cX10_init 92 = .ok (.newarray .int, 2) := by decide +kernel
theorem dX10_init_94 : decode cX10_init 94 = .ok (.putfield 48, 3) := by decide +kernel
theorem dX10_init_97 : decode cX10_init 97 = .ok (.aload_n 0, 1) := by decide +kernel
theorem dX10_init_98 : decode cX10_init 98 = .ok (.sipush 240, 3) := by decide +kernel
theorem dX10_init_101 : decode cX10_init 101 = .ok (.newarray .int, 2) := by decide +kernel
theorem dX10_init_103 : decode cX10_init 103 = .ok (.putfield 51, 3) := by decide +kernel
theorem dX10_init_106 : decode cX10_init 106 = .ok (.aload_n 0, 1) := by decide +kernel
theorem dX10_init_107 : decode cX10_init 107 = .ok (.sipush 240, 3) := by decide +kernel
theorem dX10_init_110 : decode cX10_init 110 = .ok (.newarray .boolean, 2) := by decide +kernel
theorem dX10_init_112 : decode cX10_init 112 = .ok (.putfield 54, 3) := by decide +kernel
theorem dX10_init_115 : decode cX10_init 115 = .ok (.aload_n 0, 1) := by decide +kernel
theorem dX10_init_116 : decode cX10_init 116 = .ok (.sipush 240, 3) := by decide +kernel
theorem dX10_init_119 : decode cX10_init 119 = .ok (.newarray .int, 2) := by decide +kernel
theorem dX10_init_121 : decode cX10_init 121 = .ok (.putfield 58, 3) := by decide +kernel
theorem dX10_init_124 : decode cX10_init 124 = .ok (.aload_n 0, 1) := by decide +kernel
theorem dX10_init_125 : decode cX10_init 125 = .ok (.sipush 240, 3) := by decide +kernel
theorem dX10_init_128 : decode cX10_init 128 = .ok (.newarray .int, 2) := by decide +kernel
theorem dX10_init_130 : decode cX10_init 130 = .ok (.putfield 61, 3) := by decide +kernel
theorem dX10_init_133 : decode cX10_init 133 = .ok (.aload_n 0, 1) := by decide +kernel
theorem dX10_init_134 : decode cX10_init 134 = .ok (.ldc 64, 2) := by decide +kernel
theorem dX10_init_136 : decode cX10_init 136 = .ok (.newarray .int, 2) := by decide +kernel
theorem dX10_init_138 : decode cX10_init 138 = .ok (.putfield 65, 3) := by decide +kernel
theorem dX10_init_141 : decode cX10_init 141 = .ok (.aload_n 0, 1) := by decide +kernel
theorem dX10_init_142 : decode cX10_init 142 = .ok (.ldc 64, 2) := by decide +kernel
theorem dX10_init_144 : decode cX10_init 144 = .ok (.newarray .int, 2) := by decide +kernel
theorem dX10_init_146 : decode cX10_init 146 = .ok (.putfield 68, 3) := by decide +kernel
theorem dX10_init_149 : decode cX10_init 149 = .ok (.aload_n 0, 1) := by decide +kernel
theorem dX10_init_150 : decode cX10_init 150 = .ok (.sipush 240, 3) := by decide +kernel
theorem dX10_init_153 : decode cX10_init 153 = .ok (.newarray .int, 2) := by decide +kernel
theorem dX10_init_155 : decode cX10_init 155 = .ok (.putfield 71, 3) := by decide +kernel
theorem dX10_init_158 : decode cX10_init 158 = .ok (.aload_n 0, 1) := by decide +kernel
theorem dX10_init_159 : decode cX10_init 159 = .ok (.sipush 240, 3) := by decide +kernel
theorem dX10_init_162 : decode cX10_init 162 = .ok (.newarray .int, 2) := by decide +kernel
theorem dX10_init_164 : decode cX10_init 164 = .ok (.putfield 74, 3) := by decide +kernel
theorem dX10_init_167 : decode cX10_init 167 = .ok (.aload_n 0, 1) := by decide +kernel
theorem dX10_init_168 : decode cX10_init 168 = .ok (.sipush 500, 3) := by decide +kernel
theorem dX10_init_171 : decode cX10_init 171 = .ok (.newarray .int, 2) := by decide +kernel
theorem dX10_init_173 : decode cX10_init 173 = .ok (.putfield 77, 3) := by decide +kernel
theorem dX10_init_176 : decode cX10_init 176 = .ok (.aload_n 0, 1) := by decide +kernel
theorem dX10_init_177 : decode cX10_init 177 = .ok (.sipush 500, 3) := by decide +kernel
theorem dX10_init_180 : decode cX10_init 180 = .ok (.newarray .int, 2) := by decide +kernel
theorem dX10_init_182 : decode cX10_init 182 = .ok (.putfield 80, 3) := by decide +kernel
theorem dX10_init_185 : decode cX10_init 185 = .ok (.aload_n 0, 1) := by decide +kernel
theorem dX10_init_186 : decode cX10_init 186 = .ok (.sipush 240, 3) := by decide +kernel
theorem dX10_init_189 : decode cX10_init 189 = .ok (.newarray .int, 2) := by decide +kernel
theorem dX10_init_191 : decode cX10_init 191 = .ok (.putfield 83, 3) := by decide +kernel
theorem dX10_init_194 : decode cX10_init 194 = .ok (.aload_n 0, 1) := by decide +kernel
theorem dX10_init_195 : decode cX10_init 195 = .ok (.sipush 200, 3) := by decide +kernel
theorem dX10_init_198 : decode cX10_init 198 = .ok (.newarray .int, 2) := by decide +kernel
theorem dX10_init_200 : decode cX10_init 200 = .ok (.putfield 86, 3) := by decide +kernel
theorem dX10_init_203 : decode cX10_init 203 = .ok (.aload_n 0, 1) := by decide +kernel
theorem dX10_init_204 : decode cX10_init 204 = .ok (.sipush 200, 3) := by decide +kernel
theorem dX10_init_207 : decode cX10_init 207 = .ok (.newarray .int, 2) := by decide +kernel
theorem dX10_init_209 : decode cX10_init 209 = .ok (.putfield 89, 3) := by decide +kernel
theorem dX10_init_212 : decode cX10_init 212 = .ok (.aload_n 0, 1) := by decide +kernel
theorem dX10_init_213 : decode cX10_init 213 = .ok (.sipush 200, 3) := by decide +kernel
theorem dX10_init_216 : decode cX10_init 216 = .ok (.newarray .int, 2) := by decide +kernel
theorem dX10_init_218 : decode cX10_init 218 = .ok (.putfield 92, 3) := by decide +kernel
theorem dX10_init_221 : decode cX10_init 221 = .ok (.aload_n 0, 1) := by decide +kernel
theorem dX10_init_222 : decode cX10_init 222 = .ok (.sipush 200, 3) := by decide +kernel
theorem dX10_init_225 : decode cX10_init 225 = .ok (.newarray .int, 2) := by decide +kernel
theorem dX10_init_227 : decode cX10_init 227 = .ok (.putfield 95, 3) := by decide +kernel
theorem dX10_init_230 : decode cX10_init 230 = .ok (.aload_n 0, 1) := by decide +kernel
theorem dX10_init_231 : decode cX10_init 231 = .ok (.sipush 254, 3) := by decide +kernel
theorem dX10_init_234 : decode cX10_init 234 = .ok (.newarray .int, 2) := by decide +kernel
theorem dX10_init_236 : decode cX10_init 236 = .ok (.putfield 98, 3) := by decide +kernel
theorem dX10_init_239 : decode cX10_init 239 = .ok (.aload_n 0, 1) := by decide +kernel
theorem dX10_init_240 : decode cX10_init 240 = .ok (.sipush 2540, 3) := by decide +kernel
theorem dX10_init_243 : decode cX10_init 243 = .ok (.newarray .int, 2) := by decide +kernel
theorem dX10_init_245 : decode cX10_init 245 = .ok (.putfield 101, 3) := by decide +kernel
theorem dX10_init_248 : decode cX10_init 248 = .ok (.aload_n 0, 1) := by decide +kernel
theorem dX10_init_249 : decode cX10_init 249 = .ok (.sipush 508, 3) := by decide +kernel
theorem dX10_init_252 : decode cX10_init 252 = .ok (.newarray .int, 2) := by decide +kernel
theorem dX10_init_254 : decode cX10_init 254 = .ok (.putfield 104, 3) := by decide +kernel
theorem dX10_init_257 : decode cX10_init 257 = .ok (.aload_n 0, 1) := by decide +kernel
theorem dX10_init_258 : decode cX10_init 258 = .ok (.iconst 2, 1) := by decide +kernel
theorem dX10_init_259 : decode cX10_init 259 = .ok (.newarray .boolean, 2) := by decide +kernel
theorem dX10_init_261 : decode cX10_init 261 = .ok (.putfield 107, 3) := by decide +kernel
theorem dX10_init_264 : decode cX10_init 264 = .ok (.aload_n 0, 1) := by decide +kernel
theorem dX10_init_265 : decode cX10_init 265 = .ok (.iconst 1, 1) := by decide +kernel
theorem dX10_init_266 : decode cX10_init 266 = .ok (.putfield 110, 3) := by decide +kernel
theorem dX10_init_269 : decode cX10_init 269 = .ok (.aload_n 0, 1) := by decide +kernel
theorem dX10_init_270 : decode cX10_init 270 = .ok (.getfield 7, 3) := by decide +kernel
theorem dX10_init_273 : decode cX10_init 273 = .ok (.iconst 0, 1) := by decide +kernel
theorem dX10_init_274 : decode cX10_init 274 = .ok (.bipush 40, 2) := by decide +kernel
theorem dX10_init_276 : decode cX10_init 276 = .ok (.iastore, 1) := by decide +kernel
theorem dX10_init_277 : decode cX10_init 277 = .ok (.aload_n 0, 1) := by decide +kernel
theorem dX10_init_278 : decode cX10_init 278 = .ok (.getfield 13, 3) := by decide +kernel
theorem dX10_init_281 : decode cX10_init 281 = .ok (.iconst 0, 1) := by decide +kernel
theorem dX10_init_282 : decode cX10_init 282 = .ok (.bipush 41, 2) := by decide +kernel
theorem dX10_init_284 : decode cX10_init 284 = .ok (.iastore, 1) := by decide +kernel
theorem dX10_init_285 : decode cX10_init 285 = .ok (.aload_n 0, 1) := by decide +kernel
theorem dX10_init_286 : decode cX10_init 286 = .ok (.getfield 35, 3) := by decide +kernel
theorem dX10_init_289 : decode cX10_init 289 = .ok (.invokestatic 113, 3) := by decide +kernel
theorem dX10_init_292 : decode cX10_init 292 = .ok (.return_, 1) := by decide +kernel
theorem dX10_thrown_0 : decode cX10_thrown 0 = .ok (.aload_n 0, 1) := by decide +kernel
theorem dX10_thrown_1 : decode cX10_thrown 1 = .ok (.getfield 117, 3) := by decide +kernel
theorem dX10_thrown_4 : decode cX10_thrown 4 = .ok (.ireturn, 1) := by decide +kernel
theorem dX10_isIn_0 : decode cX10_isIn 0 = .ok (.iload_n 0, 1) := by decide +kernel
theorem dX10_isIn_1 : decode cX10_isIn 1 = .ok (.iload_n 1, 1) := by decide +kernel
theorem dX10_isIn_2 : decode cX10_isIn 2 = .ok (.if_icmp .lt 12, 3) := by decide +kernel
theorem dX10_isIn_5 : decode cX10_isIn 5 = .ok (.iload_n 0, 1) := by decide +kernel
theorem dX10_isIn_6 : decode cX10_isIn 6 = .ok (.iload_n 2, 1) := by decide +kernel
theorem dX10_isIn_7 : decode cX10_isIn 7 = .ok (.if_icmp .gt 7, 3) := by decide +kernel
theorem dX10_isIn_10 : decode cX10_isIn 10 = .ok (.iconst 1, 1) := by decide +kernel
theorem dX10_isIn_11 : decode cX10_isIn 11 = .ok (.goto 4, 3) := by decide +kernel
theorem dX10_isIn_14 : decode cX10_isIn 14 = .ok (.iconst 0, 1) := by decide +kernel
theorem dX10_isIn_15 : decode cX10_isIn 15 = .ok (.ireturn, 1) := by decide +kernel
theorem dX10_throwsIf_0 : decode cX10_throwsIf 0 = .ok (.aload_n 0, 1) := by decide +kernel
theorem dX10_throwsIf_1 : decode cX10_throwsIf 1 = .ok (.getfield 117, 3) := by decide +kernel
theorem dX10_throwsIf_4 : decode cX10_throwsIf 4 = .ok (.ifCond .ne 12, 3) := by decide +kernel
theorem dX10_throwsIf_7 : decode cX10_throwsIf 7 = .ok (.iload_n 1, 1) := by decide +kernel
theorem dX10_throwsIf_8 : decode cX10_throwsIf 8 = .ok (.ifCond .eq 8, 3) := by decide +kernel
theorem dX10_throwsIf_11 : decode cX10_throwsIf 11 = .ok (.aload_n 0, 1) := by decide +kernel
theorem dX10_throwsIf_12 : decode cX10_throwsIf 12 = .ok (.iload_n 2, 1) := by decide +kernel
theorem dX10_throwsIf_13 : decode cX10_throwsIf 13 = .ok (.putfield 117, 3) := by decide +kernel
theorem dX10_throwsIf_16 : decode cX10_throwsIf 16 = .ok (.aload_n 0, 1) := by decide +kernel
theorem dX10_throwsIf_17 : decode cX10_throwsIf 17 = .ok (.getfield 117, 3) := by decide +kernel
theorem dX10_throwsIf_20 : decode cX10_throwsIf 20 = .ok (.ifCond .le 7, 3) := by decide +kernel
theorem dX10_throwsIf_23 : decode cX10_throwsIf 23 = .ok (.iconst 1, 1) := by decide +kernel
theorem dX10_throwsIf_24 : decode cX10_throwsIf 24 = .ok (.goto 4, 3) := by decide +kernel
theorem dX10_throwsIf_27 : decode cX10_throwsIf 27 = .ok (.iconst 0, 1) := by decide +kernel
theorem dX10_throwsIf_28 : decode cX10_throwsIf 28 = .ok (.ireturn, 1) := by decide +kernel
theorem dX10_empties_0 : decode cX10_empties 0 = .ok (.iconst 0, 1) := by decide +kernel
theorem dX10_empties_1 : decode cX10_empties 1 = .ok (.istore_n 1, 1) := by decide +kernel
theorem dX10_empties_2 : decode cX10_empties 2 = .ok (.iload_n 1, 1) := by decide +kernel
theorem dX10_empties_3 : decode cX10_empties 3 = .ok (.sipush 254, 3) := by decide +kernel
theorem dX10_empties_6 : decode cX10_empties 6 = .ok (.if_icmp .ge 13, 3) := by decide +kernel
theorem dX10_empties_9 : decode cX10_empties 9 = .ok (.aload_n 0, 1) := by decide +kernel
theorem dX10_empties_10 : decode cX10_empties 10 = .ok (.iload_n 1, 1) := by decide +kernel
theorem dX10_empties_11 : decode cX10_empties 11 = .ok (.iconst 0, 1) := by decide +kernel
theorem dX10_empties_12 : decode cX10_empties 12 = .ok (.iastore, 1) := by decide +kernel
theorem dX10_empties_13 : decode cX10_empties 13 = .ok (.iinc 1 1, 3) := by decide +kernel
theorem dX10_empties_16 : decode cX10_empties 16 = .ok (.goto (-14), 3) := by decide +kernel
theorem dX10_empties_19 : decode cX10_empties 19 = .ok (.aload_n 0, 1) := by decide +kernel
theorem dX10_empties_20 : decode cX10_empties 20 = .ok (.bipush 10, 2) := by decide +kernel
theorem dX10_empties_22 : decode cX10_empties 22 = .ok (.iconst 3, 1) := by decide +kernel
theorem dX10_empties_23 : decode cX10_empties 23 = .ok (.iastore, 1) := by decide +kernel
theorem dX10_empties_24 : decode cX10_empties 24 = .ok (.aload_n 0, 1) := by decide +kernel
theorem dX10_empties_25 : decode cX10_empties 25 = .ok (.bipush 11, 2) := by decide +kernel
theorem dX10_empties_27 : decode cX10_empties 27 = .ok (.iconst 2, 1) := by decide +kernel
theorem dX10_empties_28 : decode cX10_empties 28 = .ok (.iastore, 1) := by decide +kernel
theorem dX10_empties_29 : decode cX10_empties 29 = .ok (.aload_n 0, 1) := by decide +kernel
theorem dX10_empties_30 : decode cX10_empties 30 = .ok (.bipush 12, 2) := by decide +kernel
theorem dX10_empties_32 : decode cX10_empties 32 = .ok (.iconst 3, 1) := by decide +kernel
theorem dX10_empties_33 : decode cX10_empties 33 = .ok (.iastore, 1) := by decide +kernel
theorem dX10_empties_34 : decode cX10_empties 34 = .ok (.aload_n 0, 1) := by decide +kernel
theorem dX10_empties_35 : decode cX10_empties 35 = .ok (.bipush 13, 2) := by decide +kernel
theorem dX10_empties_37 : decode cX10_empties 37 = .ok (.iconst 4, 1) := by decide +kernel
theorem dX10_empties_38 : decode cX10_empties 38 = .ok (.iastore, 1) := by decide +kernel
theorem dX10_empties_39 : decode cX10_empties 39 = .ok (.return_, 1) := by decide +kernel
theorem dX10_append_0 : decode cX10_append 0 = .ok (.aload_n 0, 1) := by decide +kernel
theorem dX10_append_1 : decode cX10_append 1 = .ok (.iconst 0, 1) := by decide +kernel
theorem dX10_append_2 : decode cX10_append 2 = .ok (.putfield 117, 3) := by decide +kernel
theorem dX10_append_5 : decode cX10_append 5 = .ok (.aload_n 0, 1) := by decide +kernel
theorem dX10_append_6 : decode cX10_append 6 = .ok (.getfield 120, 3) := by decide +kernel
theorem dX10_append_9 : decode cX10_append 9 = .ok (.bipush 20, 2) := by decide +kernel
theorem dX10_append_11 : decode cX10_append 11 = .ok (.iadd, 1) := by decide +kernel
theorem dX10_append_12 : decode cX10_append 12 = .ok (.sipush 600, 3) := by decide +kernel
theorem dX10_append_15 : decode cX10_append 15 = .ok (.if_icmp .le 5, 3) := by decide +kernel
theorem dX10_append_18 : decode cX10_append 18 = .ok (.iconst (-1), 1) := by decide +kernel
theorem dX10_append_19 : decode cX10_append 19 = .ok (.ireturn, 1) := by decide +kernel
theorem dX10_append_20 : decode cX10_append 20 = .ok (.aload_n 0, 1) := by decide +kernel
theorem dX10_append_21 : decode cX10_append 21 = .ok (.iload_n 1, 1) := by decide +kernel
theorem dX10_append_22 : decode cX10_append 22 = .ok (.invokevirtual 123, 3) := by decide +kernel
theorem dX10_append_25 : decode cX10_append 25 = .ok (.aload_n 0, 1) := by decide +kernel
theorem dX10_append_26 : decode cX10_append 26 = .ok (.iload_n 2, 1) := by decide +kernel
theorem dX10_append_27 : decode cX10_append 27 = .ok (.invokevirtual 123, 3) := by decide +kernel
theorem dX10_append_30 : decode cX10_append 30 = .ok (.aload_n 0, 1) := by decide +kernel
theorem dX10_append_31 : decode cX10_append 31 = .ok (.iload_n 3, 1) := by decide +kernel
theorem dX10_append_32 : decode cX10_append 32 = .ok (.invokevirtual 123, 3) := by decide +kernel
theorem dX10_append_35 : decode cX10_append 35 = .ok (.aload_n 0, 1) := by decide +kernel
theorem dX10_append_36 : decode cX10_append 36 = .ok (.iload 4, 2) := by decide +kernel
theorem dX10_append_38 : decode cX10_append 38 = .ok (.invokevirtual 123, 3) := by decide +kernel
theorem dX10_append_41 : decode cX10_append 41 = .ok (.aload_n 0, 1) := by decide +kernel
theorem dX10_append_42 : decode cX10_append 42 = .ok (.iload 5, 2) := by decide +kernel
theorem dX10_append_44 : decode cX10_append 44 = .ok (.invokevirtual 123, 3) := by decide +kernel
theorem dX10_append_47 : decode cX10_append 47 = .ok (.aload_n 0, 1) := by decide +kernel
theorem dX10_append_48 : decode cX10_append 48 = .ok (.getfield 120, 3) := by decide +kernel
theorem dX10_append_51 : decode cX10_append 51 = .ok (.ireturn, 1) := by decide +kernel
theorem dX10_bytesOf_0 : decode cX10_bytesOf 0 = .ok (.bipush 24, 2) := by decide +kernel
theorem dX10_bytesOf_2 : decode cX10_bytesOf 2 = .ok (.istore_n 2, 1) := by decide +kernel
theorem dX10_bytesOf_3 : decode cX10_bytesOf 3 = .ok (.iload_n 2, 1) := by decide +kernel
theorem dX10_bytesOf_4 : decode cX10_bytesOf 4 = .ok (.ifCond .lt 32, 3) := by decide +kernel
theorem dX10_bytesOf_7 : decode cX10_bytesOf 7 = .ok (.aload_n 0, 1) := by decide +kernel
theorem dX10_bytesOf_8 : decode cX10_bytesOf 8 = .ok (.getfield 38, 3) := by decide +kernel
theorem dX10_bytesOf_11 : decode cX10_bytesOf 11 = .ok (.aload_n 0, 1) := by decide +kernel
theorem dX10_bytesOf_12 : decode cX10_bytesOf 12 = .ok (.getfield 120, 3) := by decide +kernel
theorem dX10_bytesOf_15 : decode cX10_bytesOf 15 = .ok (.iload_n 1, 1) := by decide +kernel
theorem dX10_bytesOf_16 : decode cX10_bytesOf 16 = .ok (.iload_n 2, 1) := by decide +kernel
theorem dX10_bytesOf_17 : decode cX10_bytesOf 17 = .ok (.ishr, 1) := by decide +kernel
theorem dX10_bytesOf_18 : decode cX10_bytesOf 18 = .ok (.i2b, 1) := by decide +kernel
theorem dX10_bytesOf_19 : decode cX10_bytesOf 19 = .ok (.bastore, 1) := by decide +kernel
theorem dX10_bytesOf_20 : decode cX10_bytesOf 20 = .ok (.aload_n 0, 1) := by decide +kernel
theorem dX10_bytesOf_21 : decode cX10_bytesOf 21 = .ok (.dup, 1) := by decide +kernel
theorem dX10_bytesOf_22 : decode cX10_bytesOf 22 = .ok (.getfield 120, 3) := by decide +kernel
theorem dX10_bytesOf_25 : decode cX10_bytesOf 25 = .ok (.iconst 1, 1) := by decide +kernel
theorem dX10_bytesOf_26 : decode cX10_bytesOf 26 = .ok (.iadd, 1) := by decide +kernel
theorem dX10_bytesOf_27 : decode cX10_bytesOf 27 = .ok (.putfield 120, 3) := by decide +kernel
theorem dX10_bytesOf_30 : decode cX10_bytesOf 30 = .ok (.iinc 2 (-8), 3) := by decide +kernel
theorem dX10_bytesOf_33 : decode cX10_bytesOf 33 = .ok (.goto (-30), 3) := by decide +kernel
theorem dX10_bytesOf_36 : decode cX10_bytesOf 36 = .ok (.return_, 1) := by decide +kernel
theorem dX10_byteAt_0 : decode cX10_byteAt 0 = .ok (.iload_n 1, 1) := by decide +kernel
theorem dX10_byteAt_1 : decode cX10_byteAt 1 = .ok (.aload_n 0, 1) := by decide +kernel
theorem dX10_byteAt_2 : decode cX10_byteAt 2 = .ok (.getfield 127, 3) := by decide +kernel
theorem dX10_byteAt_5 : decode cX10_byteAt 5 = .ok (.if_icmp .ge 16, 3) := by decide +kernel
theorem dX10_byteAt_8 : decode cX10_byteAt 8 = .ok (.aload_n 0, 1) := by decide +kernel
theorem dX10_byteAt_9 : decode cX10_byteAt 9 = .ok (.getfield 38, 3) := by decide +kernel
theorem dX10_byteAt_12 : decode cX10_byteAt 12 = .ok (.iload_n 1, 1) := by decide +kernel
theorem dX10_byteAt_13 : decode cX10_byteAt 13 = .ok (.baload, 1) := by decide +kernel
theorem dX10_byteAt_14 : decode cX10_byteAt 14 = .ok (.sipush 255, 3) := by decide +kernel
theorem dX10_byteAt_17 : decode cX10_byteAt 17 = .ok (.iand, 1) := by decide +kernel
theorem dX10_byteAt_18 : decode cX10_byteAt 18 = .ok (.goto 4, 3) := by decide +kernel
theorem dX10_byteAt_21 : decode cX10_byteAt 21 = .ok (.iconst (-1), 1) := by decide +kernel
theorem dX10_byteAt_22 : decode cX10_byteAt 22 = .ok (.ireturn, 1) := by decide +kernel
theorem dX10_isLetter_0 : decode cX10_isLetter 0 = .ok (.iload_n 0, 1) := by decide +kernel
theorem dX10_isLetter_1 : decode cX10_isLetter 1 = .ok (.bipush 97, 2) := by decide +kernel
theorem dX10_isLetter_3 : decode cX10_isLetter 3 = .ok (.bipush 122, 2) := by decide +kernel
theorem dX10_isLetter_5 : decode cX10_isLetter 5 = .ok (.invokestatic 130, 3) := by decide +kernel
theorem dX10_isLetter_8 : decode cX10_isLetter 8 = .ok (.ireturn, 1) := by decide +kernel
theorem dX10_isDigit_0 : decode cX10_isDigit 0 = .ok (.iload_n 0, 1) := by decide +kernel
theorem dX10_isDigit_1 : decode cX10_isDigit 1 = .ok (.bipush 48, 2) := by decide +kernel
theorem dX10_isDigit_3 : decode cX10_isDigit 3 = .ok (.bipush 57, 2) := by decide +kernel
theorem dX10_isDigit_5 : decode cX10_isDigit 5 = .ok (.invokestatic 130, 3) := by decide +kernel
theorem dX10_isDigit_8 : decode cX10_isDigit 8 = .ok (.ireturn, 1) := by decide +kernel
theorem dX10_isSign_0 : decode cX10_isSign 0 = .ok (.iload_n 0, 1) := by decide +kernel
theorem dX10_isSign_1 : decode cX10_isSign 1 = .ok (.bipush 33, 2) := by decide +kernel
theorem dX10_isSign_3 : decode cX10_isSign 3 = .ok (.bipush 126, 2) := by decide +kernel
theorem dX10_isSign_5 : decode cX10_isSign 5 = .ok (.invokestatic 130, 3) := by decide +kernel
theorem dX10_isSign_8 : decode cX10_isSign 8 = .ok (.ifCond .eq 27, 3) := by decide +kernel
theorem dX10_isSign_11 : decode cX10_isSign 11 = .ok (.iload_n 0, 1) := by decide +kernel
theorem dX10_isSign_12 : decode cX10_isSign 12 = .ok (.invokestatic 134, 3) := by decide +kernel
theorem dX10_isSign_15 : decode cX10_isSign 15 = .ok (.ifCond .ne 20, 3) := by decide +kernel
theorem dX10_isSign_18 : decode cX10_isSign 18 = .ok (.iload_n 0, 1) := by decide +kernel
theorem dX10_isSign_19 : decode cX10_isSign 19 = .ok (.invokestatic 138, 3) := by decide +kernel
theorem dX10_isSign_22 : decode cX10_isSign 22 = .ok (.ifCond .ne 13, 3) := by decide +kernel
theorem dX10_isSign_25 : decode cX10_isSign 25 = .ok (.iload_n 0, 1) := by decide +kernel
theorem dX10_isSign_26 : decode cX10_isSign 26 = .ok (.bipush 59, 2) := by decide +kernel
theorem dX10_isSign_28 : decode cX10_isSign 28 = .ok (.if_icmp .eq 7, 3) := by decide +kernel
theorem dX10_isSign_31 : decode cX10_isSign 31 = .ok (.iconst 1, 1) := by decide +kernel
theorem dX10_isSign_32 : decode cX10_isSign 32 = .ok (.goto 4, 3) := by decide +kernel
theorem dX10_isSign_35 : decode cX10_isSign 35 = .ok (.iconst 0, 1) := by decide +kernel
theorem dX10_isSign_36 : decode cX10_isSign 36 = .ok (.ireturn, 1) := by decide +kernel
theorem dX10_advance_0 : decode cX10_advance 0 = .ok (.aload_n 0, 1) := by decide +kernel
theorem dX10_advance_1 : decode cX10_advance 1 = .ok (.aload_n 0, 1) := by decide +kernel
theorem dX10_advance_2 : decode cX10_advance 2 = .ok (.getfield 141, 3) := by decide +kernel
theorem dX10_advance_5 : decode cX10_advance 5 = .ok (.invokevirtual 144, 3) := by decide +kernel
theorem dX10_advance_8 : decode cX10_advance 8 = .ok (.bipush 32, 2) := by decide +kernel
theorem dX10_advance_10 : decode cX10_advance 10 = .ok (.if_icmp .eq 16, 3) := by decide +kernel
theorem dX10_advance_13 : decode cX10_advance 13 = .ok (.aload_n 0, 1) := by decide +kernel
theorem dX10_advance_14 : decode cX10_advance 14 = .ok (.aload_n 0, 1) := by decide +kernel
theorem dX10_advance_15 : decode cX10_advance 15 = .ok (.getfield 141, 3) := by decide +kernel
theorem dX10_advance_18 : decode cX10_advance 18 = .ok (.invokevirtual 144, 3) := by decide +kernel
theorem dX10_advance_21 : decode cX10_advance 21 = .ok (.bipush 10, 2) := by decide +kernel
theorem dX10_advance_23 : decode cX10_advance 23 = .ok (.if_icmp .ne 16, 3) := by decide +kernel
theorem dX10_advance_26 : decode cX10_advance 26 = .ok (.aload_n 0, 1) := by decide +kernel
theorem dX10_advance_27 : decode cX10_advance 27 = .ok (.dup, 1) := by decide +kernel
theorem dX10_advance_28 : decode cX10_advance 28 = .ok (.getfield 141, 3) := by decide +kernel
theorem dX10_advance_31 : decode cX10_advance 31 = .ok (.iconst 1, 1) := by decide +kernel
theorem dX10_advance_32 : decode cX10_advance 32 = .ok (.iadd, 1) := by decide +kernel
theorem dX10_advance_33 : decode cX10_advance 33 = .ok (.putfield 141, 3) := by decide +kernel
theorem dX10_advance_36 : decode cX10_advance 36 = .ok (.goto (-36), 3) := by decide +kernel
theorem dX10_advance_39 : decode cX10_advance 39 = .ok (.aload_n 0, 1) := by decide +kernel
theorem dX10_advance_40 : decode cX10_advance 40 = .ok (.aload_n 0, 1) := by decide +kernel
theorem dX10_advance_41 : decode cX10_advance 41 = .ok (.getfield 141, 3) := by decide +kernel
theorem dX10_advance_44 : decode cX10_advance 44 = .ok (.putfield 148, 3) := by decide +kernel
theorem dX10_advance_47 : decode cX10_advance 47 = .ok (.aload_n 0, 1) := by decide +kernel
theorem dX10_advance_48 : decode cX10_advance 48 = .ok (.iconst 0, 1) := by decide +kernel
theorem dX10_advance_49 : decode cX10_advance 49 = .ok (.putfield 151, 3) := by decide +kernel
theorem dX10_advance_52 : decode cX10_advance 52 = .ok (.aload_n 0, 1) := by decide +kernel
theorem dX10_advance_53 : decode cX10_advance 53 = .ok (.aload_n 0, 1) := by decide +kernel
theorem dX10_advance_54 : decode cX10_advance 54 = .ok (.getfield 141, 3) := by decide +kernel
theorem dX10_advance_57 : decode cX10_advance 57 = .ok (.invokevirtual 144, 3) := by decide +kernel
theorem dX10_advance_60 : decode cX10_advance 60 = .ok (.istore_n 1, 1) := by decide +kernel
theorem dX10_advance_61 : decode cX10_advance 61 = .ok (.iload_n 1, 1) := by decide +kernel
theorem dX10_advance_62 : decode cX10_advance 62 = .ok (.iconst (-1), 1) := by decide +kernel
theorem dX10_advance_63 : decode cX10_advance 63 = .ok (.if_icmp .ne 11, 3) := by decide +kernel
theorem dX10_advance_66 : decode cX10_advance 66 = .ok (.aload_n 0, 1) := by decide +kernel
theorem dX10_advance_67 : decode cX10_advance 67 = .ok (.iconst 0, 1) := by decide +kernel
theorem dX10_advance_68 : decode cX10_advance 68 = .ok (.putfield 154, 3) := by decide +kernel
theorem dX10_advance_71 : decode cX10_advance 71 = .ok (.goto 270, 3) := by decide +kernel
theorem dX10_advance_74 : decode cX10_advance 74 = .ok (.iload_n 1, 1) := by decide +kernel
theorem dX10_advance_75 : decode cX10_advance 75 = .ok (.invokestatic 134, 3) := by decide +kernel
theorem dX10_advance_78 : decode cX10_advance 78 = .ok (.ifCond .eq 57, 3) := by decide +kernel
theorem dX10_advance_81 : decode cX10_advance 81 = .ok (.aload_n 0, 1) := by decide +kernel
theorem dX10_advance_82 : decode cX10_advance 82 = .ok (.aload_n 0, 1) := by decide +kernel
theorem dX10_advance_83 : decode cX10_advance 83 = .ok (.getfield 141, 3) := by decide +kernel
theorem dX10_advance_86 : decode cX10_advance 86 = .ok (.invokevirtual 144, 3) := by decide +kernel
theorem dX10_advance_89 : decode cX10_advance 89 = .ok (.invokestatic 134, 3) := by decide +kernel
theorem dX10_advance_92 : decode cX10_advance 92 = .ok (.ifCond .eq 16, 3) := by decide +kernel
theorem dX10_advance_95 : decode cX10_advance 95 = .ok (.aload_n 0, 1) := by decide +kernel
theorem dX10_advance_96 : decode cX10_advance 96 = .ok (.dup, 1) := by decide +kernel
theorem dX10_advance_97 : decode cX10_advance 97 = .ok (.getfield 141, 3) := by decide +kernel
theorem dX10_advance_100 : decode cX10_advance 100 = .ok (.iconst 1, 1) := by decide +kernel
theorem dX10_advance_101 : decode cX10_advance 101 = .ok (.iadd, 1) := by decide +kernel
theorem dX10_advance_102 : decode cX10_advance 102 = .ok (.putfield 141, 3) := by decide +kernel
theorem dX10_advance_105 : decode cX10_advance 105 = .ok (.goto (-24), 3) := by decide +kernel
theorem dX10_advance_108 : decode cX10_advance 108 = .ok (.aload_n 0, 1) := by decide +kernel
theorem dX10_advance_109 : decode cX10_advance 109 = .ok (.aload_n 0, 1) := by decide +kernel
theorem dX10_advance_110 : decode cX10_advance 110 = .ok (.getfield 141, 3) := by decide +kernel
theorem dX10_advance_113 : decode cX10_advance 113 = .ok (.aload_n 0, 1) := by decide +kernel
theorem dX10_advance_114 : decode cX10_advance 114 = .ok (.getfield 148, 3) := by decide +kernel
theorem dX10_advance_117 : decode cX10_advance 117 = .ok (.isub, 1) := by decide +kernel
theorem dX10_advance_118 : decode cX10_advance 118 = .ok (.bipush 7, 2) := by decide +kernel
theorem dX10_advance_120 : decode cX10_advance 120 = .ok (.if_icmp .le 8, 3) := by decide +kernel
theorem dX10_advance_123 : decode cX10_advance 123 = .ok (.bipush 6, 2) := by decide +kernel
theorem dX10_advance_125 : decode cX10_advance 125 = .ok (.goto 4, 3) := by decide +kernel
theorem dX10_advance_128 : decode cX10_advance 128 = .ok (.iconst 1, 1) := by decide +kernel
theorem dX10_advance_129 : decode cX10_advance 129 = .ok (.putfield 154, 3) := by decide +kernel
theorem dX10_advance_132 : decode cX10_advance 132 = .ok (.goto 209, 3) := by decide +kernel
theorem dX10_advance_135 : decode cX10_advance 135 = .ok (.iload_n 1, 1) := by decide +kernel
theorem dX10_advance_136 : decode cX10_advance 136 = .ok (.invokestatic 138, 3) := by decide +kernel
theorem dX10_advance_139 : decode cX10_advance 139 = .ok (.ifCond .eq 99, 3) := by decide +kernel
theorem dX10_advance_142 : decode cX10_advance 142 = .ok (.aload_n 0, 1) := by decide +kernel
theorem dX10_advance_143 : decode cX10_advance 143 = .ok (.aload_n 0, 1) := by decide +kernel
theorem dX10_advance_144 : decode cX10_advance 144 = .ok (.getfield 141, 3) := by decide +kernel
theorem dX10_advance_147 : decode cX10_advance 147 = .ok (.invokevirtual 144, 3) := by decide +kernel
theorem dX10_advance_150 : decode cX10_advance 150 = .ok (.invokestatic 138, 3) := by decide +kernel
theorem dX10_advance_153 : decode cX10_advance 153 = .ok (.ifCond .eq 59, 3) := by decide +kernel
theorem dX10_advance_156 : decode cX10_advance 156 = .ok (.aload_n 0, 1) := by decide +kernel
theorem dX10_advance_157 : decode cX10_advance 157 = .ok (.aload_n 0, 1) := by decide +kernel
theorem dX10_advance_158 : decode cX10_advance 158 = .ok (.getfield 141, 3) := by decide +kernel
theorem dX10_advance_161 : decode cX10_advance 161 = .ok (.aload_n 0, 1) := by decide +kernel
theorem dX10_advance_162 : decode cX10_advance 162 = .ok (.getfield 148, 3) := by decide +kernel
theorem dX10_advance_165 : decode cX10_advance 165 = .ok (.isub, 1) := by decide +kernel
theorem dX10_advance_166 : decode cX10_advance 166 = .ok (.iconst 3, 1) := by decide +kernel
theorem dX10_advance_167 : decode cX10_advance 167 = .ok (.if_icmp .ge 25, 3) := by decide +kernel
theorem dX10_advance_170 : decode cX10_advance 170 = .ok (.bipush 10, 2) := by decide +kernel
theorem dX10_advance_172 : decode cX10_advance 172 = .ok (.aload_n 0, 1) := by decide +kernel
theorem dX10_advance_173 : decode cX10_advance 173 = .ok (.getfield 151, 3) := by decide +kernel
theorem dX10_advance_176 : decode cX10_advance 176 = .ok (.imul, 1) := by decide +kernel
theorem dX10_advance_177 : decode cX10_advance 177 = .ok (.aload_n 0, 1) := by decide +kernel
theorem dX10_advance_178 : decode cX10_advance 178 = .ok (.aload_n 0, 1) := by decide +kernel
theorem dX10_advance_179 : decode cX10_advance 179 = .ok (.getfield 141, 3) := by decide +kernel
theorem dX10_advance_182 : decode cX10_advance 182 = .ok (.invokevirtual 144, 3) := by decide +kernel
theorem dX10_advance_185 : decode cX10_advance 185 = .ok (.iadd, 1) := by decide +kernel
theorem dX10_advance_186 : decode cX10_advance 186 = .ok (.bipush 48, 2) := by decide +kernel
theorem dX10_advance_188 : decode cX10_advance 188 = .ok (.isub, 1) := by decide +kernel
theorem dX10_advance_189 : decode cX10_advance 189 = .ok (.goto 7, 3) := by decide +kernel
theorem dX10_advance_192 : decode cX10_advance 192 = .ok (.aload_n 0, 1) := by decide +kernel
theorem dX10_advance_193 : decode cX10_advance 193 = .ok (.getfield 151, 3) := by decide +kernel
theorem dX10_advance_196 : decode cX10_advance 196 = .ok (.putfield 151, 3) := by decide +kernel
theorem dX10_advance_199 : decode cX10_advance 199 = .ok (.aload_n 0, 1) := by decide +kernel
theorem dX10_advance_200 : decode cX10_advance 200 = .ok (.dup, 1) := by decide +kernel
theorem dX10_advance_201 : decode cX10_advance 201 = .ok (.getfield 141, 3) := by decide +kernel
theorem dX10_advance_204 : decode cX10_advance 204 = .ok (.iconst 1, 1) := by decide +kernel
theorem dX10_advance_205 : decode cX10_advance 205 = .ok (.iadd, 1) := by decide +kernel
theorem dX10_advance_206 : decode cX10_advance 206 = .ok (.putfield 141, 3) := by decide +kernel
theorem dX10_advance_209 : decode cX10_advance 209 = .ok (.goto (-67), 3) := by decide +kernel
theorem dX10_advance_212 : decode cX10_advance 212 = .ok (.aload_n 0, 1) := by decide +kernel
theorem dX10_advance_213 : decode cX10_advance 213 = .ok (.aload_n 0, 1) := by decide +kernel
theorem dX10_advance_214 : decode cX10_advance 214 = .ok (.getfield 141, 3) := by decide +kernel
theorem dX10_advance_217 : decode cX10_advance 217 = .ok (.aload_n 0, 1) := by decide +kernel
theorem dX10_advance_218 : decode cX10_advance 218 = .ok (.getfield 148, 3) := by decide +kernel
theorem dX10_advance_221 : decode cX10_advance 221 = .ok (.isub, 1) := by decide +kernel
theorem dX10_advance_222 : decode cX10_advance 222 = .ok (.iconst 3, 1) := by decide +kernel
theorem dX10_advance_223 : decode cX10_advance 223 = .ok (.if_icmp .le 8, 3) := by decide +kernel
theorem dX10_advance_226 : decode cX10_advance 226 = .ok (.bipush 6, 2) := by decide +kernel
theorem dX10_advance_228 : decode cX10_advance 228 = .ok (.goto 4, 3) := by decide +kernel
theorem dX10_advance_231 : decode cX10_advance 231 = .ok (.iconst 2, 1) := by decide +kernel
theorem dX10_advance_232 : decode cX10_advance 232 = .ok (.putfield 154, 3) := by decide +kernel
theorem dX10_advance_235 : decode cX10_advance 235 = .ok (.goto 106, 3) := by decide +kernel
theorem dX10_advance_238 : decode cX10_advance 238 = .ok (.iload_n 1, 1) := by decide +kernel
theorem dX10_advance_239 : decode cX10_advance 239 = .ok (.invokestatic 157, 3) := by decide +kernel
theorem dX10_advance_242 : decode cX10_advance 242 = .ok (.ifCond .eq 73, 3) := by decide +kernel
theorem dX10_advance_245 : decode cX10_advance 245 = .ok (.aload_n 0, 1) := by decide +kernel
theorem dX10_advance_246 : decode cX10_advance 246 = .ok (.aload_n 0, 1) := by decide +kernel
theorem dX10_advance_247 : decode cX10_advance 247 = .ok (.getfield 141, 3) := by decide +kernel
theorem dX10_advance_250 : decode cX10_advance 250 = .ok (.invokevirtual 144, 3) := by decide +kernel
theorem dX10_advance_253 : decode cX10_advance 253 = .ok (.invokestatic 157, 3) := by decide +kernel
theorem dX10_advance_256 : decode cX10_advance 256 = .ok (.ifCond .eq 16, 3) := by decide +kernel
theorem dX10_advance_259 : decode cX10_advance 259 = .ok (.aload_n 0, 1) := by decide +kernel
theorem dX10_advance_260 : decode cX10_advance 260 = .ok (.dup, 1) := by decide +kernel
theorem dX10_advance_261 : decode cX10_advance 261 = .ok (.getfield 141, 3) := by decide +kernel
theorem dX10_advance_264 : decode cX10_advance 264 = .ok (.iconst 1, 1) := by decide +kernel
theorem dX10_advance_265 : decode cX10_advance 265 = .ok (.iadd, 1) := by decide +kernel
theorem dX10_advance_266 : decode cX10_advance 266 = .ok (.putfield 141, 3) := by decide +kernel
theorem dX10_advance_269 : decode cX10_advance 269 = .ok (.goto (-24), 3) := by decide +kernel
theorem dX10_advance_272 : decode cX10_advance 272 = .ok (.aload_n 0, 1) := by decide +kernel
theorem dX10_advance_273 : decode cX10_advance 273 = .ok (.aload_n 0, 1) := by decide +kernel
theorem dX10_advance_274 : decode cX10_advance 274 = .ok (.getfield 141, 3) := by decide +kernel
theorem dX10_advance_277 : decode cX10_advance 277 = .ok (.aload_n 0, 1) := by decide +kernel
theorem dX10_advance_278 : decode cX10_advance 278 = .ok (.getfield 148, 3) := by decide +kernel
theorem dX10_advance_281 : decode cX10_advance 281 = .ok (.isub, 1) := by decide +kernel
theorem dX10_advance_282 : decode cX10_advance 282 = .ok (.iconst 1, 1) := by decide +kernel
theorem dX10_advance_283 : decode cX10_advance 283 = .ok (.if_icmp .ne 7, 3) := by decide +kernel
theorem dX10_advance_286 : decode cX10_advance 286 = .ok (.iconst 4, 1) := by decide +kernel
theorem dX10_advance_287 : decode cX10_advance 287 = .ok (.goto 22, 3) := by decide +kernel
theorem dX10_advance_290 : decode cX10_advance 290 = .ok (.aload_n 0, 1) := by decide +kernel
theorem dX10_advance_291 : decode cX10_advance 291 = .ok (.getfield 141, 3) := by decide +kernel
theorem dX10_advance_294 : decode cX10_advance 294 = .ok (.aload_n 0, 1) := by decide +kernel
theorem dX10_advance_295 : decode cX10_advance 295 = .ok (.getfield 148, 3) := by decide +kernel
theorem dX10_advance_298 : decode cX10_advance 298 = .ok (.isub, 1) := by decide +kernel
theorem dX10_advance_299 : decode cX10_advance 299 = .ok (.iconst 2, 1) := by decide +kernel
theorem dX10_advance_300 : decode cX10_advance 300 = .ok (.if_icmp .ne 7, 3) := by decide +kernel
theorem dX10_advance_303 : decode cX10_advance 303 = .ok (.iconst 5, 1) := by decide +kernel
theorem dX10_advance_304 : decode cX10_advance 304 = .ok (.goto 5, 3) := by decide +kernel
theorem dX10_advance_307 : decode cX10_advance 307 = .ok (.bipush 6, 2) := by decide +kernel
theorem dX10_advance_309 : decode cX10_advance 309 = .ok (.putfield 154, 3) := by decide +kernel
theorem dX10_advance_312 : decode cX10_advance 312 = .ok (.goto 29, 3) := by decide +kernel
theorem dX10_advance_315 : decode cX10_advance 315 = .ok (.aload_n 0, 1) := by decide +kernel
theorem dX10_advance_316 : decode cX10_advance 316 = .ok (.dup, 1) := by decide +kernel
theorem dX10_advance_317 : decode cX10_advance 317 = .ok (.getfield 141, 3) := by decide +kernel
theorem dX10_advance_320 : decode cX10_advance 320 = .ok (.iconst 1, 1) := by decide +kernel
theorem dX10_advance_321 : decode cX10_advance 321 = .ok (.iadd, 1) := by decide +kernel
theorem dX10_advance_322 : decode cX10_advance 322 = .ok (.putfield 141, 3) := by decide +kernel
theorem dX10_advance_325 : decode cX10_advance 325 = .ok (.aload_n 0, 1) := by decide +kernel
theorem dX10_advance_326 : decode cX10_advance 326 = .ok (.iload_n 1, 1) := by decide +kernel
theorem dX10_advance_327 : decode cX10_advance 327 = .ok (.bipush 59, 2) := by decide +kernel
theorem dX10_advance_329 : decode cX10_advance 329 = .ok (.if_icmp .ne 7, 3) := by decide +kernel
theorem dX10_advance_332 : decode cX10_advance 332 = .ok (.iconst 3, 1) := by decide +kernel
theorem dX10_advance_333 : decode cX10_advance 333 = .ok (.goto 5, 3) := by decide +kernel
theorem dX10_advance_336 : decode cX10_advance 336 = .ok (.bipush 6, 2) := by decide +kernel
theorem dX10_advance_338 : decode cX10_advance 338 = .ok (.putfield 154, 3) := by decide +kernel
theorem dX10_advance_341 : decode cX10_advance 341 = .ok (.return_, 1) := by decide +kernel
theorem dX10_isWord_0 : decode cX10_isWord 0 = .ok (.aload_n 0, 1) := by decide +kernel
theorem dX10_isWord_1 : decode cX10_isWord 1 = .ok (.getfield 154, 3) := by decide +kernel
theorem dX10_isWord_4 : decode cX10_isWord 4 = .ok (.iconst 1, 1) := by decide +kernel
theorem dX10_isWord_5 : decode cX10_isWord 5 = .ok (.if_icmp .ne 23, 3) := by decide +kernel
theorem dX10_isWord_8 : decode cX10_isWord 8 = .ok (.aload_n 0, 1) := by decide +kernel
theorem dX10_isWord_9 : decode cX10_isWord 9 = .ok (.getfield 141, 3) := by decide +kernel
theorem dX10_isWord_12 : decode cX10_isWord 12 = .ok (.aload_n 0, 1) := by decide +kernel
theorem dX10_isWord_13 : decode cX10_isWord 13 = .ok (.getfield 148, 3) := by decide +kernel
theorem dX10_isWord_16 : decode cX10_isWord 16 = .ok (.isub, 1) := by decide +kernel
theorem dX10_isWord_17 : decode cX10_isWord 17 = .ok (.aload_n 1, 1) := by decide +kernel
theorem dX10_isWord_18 : decode cX10_isWord 18 = .ok (.invokevirtual 160, 3) := by decide +kernel
theorem dX10_isWord_21 : decode cX10_isWord 21 = .ok (.if_icmp .ne 7, 3) := by decide +kernel
theorem dX10_isWord_24 : decode cX10_isWord 24 = .ok (.iconst 1, 1) := by decide +kernel
theorem dX10_isWord_25 : decode cX10_isWord 25 = .ok (.goto 4, 3) := by decide +kernel
theorem dX10_isWord_28 : decode cX10_isWord 28 = .ok (.iconst 0, 1) := by decide +kernel
theorem dX10_isWord_29 : decode cX10_isWord 29 = .ok (.istore_n 2, 1) := by decide +kernel
theorem dX10_isWord_30 : decode cX10_isWord 30 = .ok (.iconst 0, 1) := by decide +kernel
theorem dX10_isWord_31 : decode cX10_isWord 31 = .ok (.istore_n 3, 1) := by decide +kernel
theorem dX10_isWord_32 : decode cX10_isWord 32 = .ok (.iload_n 3, 1) := by decide +kernel
theorem dX10_isWord_33 : decode cX10_isWord 33 = .ok (.aload_n 1, 1) := by decide +kernel
theorem dX10_isWord_34 : decode cX10_isWord 34 = .ok (.invokevirtual 160, 3) := by decide +kernel
theorem dX10_isWord_37 : decode cX10_isWord 37 = .ok (.if_icmp .ge 38, 3) := by decide +kernel
theorem dX10_isWord_40 : decode cX10_isWord 40 = .ok (.iload_n 2, 1) := by decide +kernel
theorem dX10_isWord_41 : decode cX10_isWord 41 = .ok (.ifCond .eq 34, 3) := by decide +kernel
theorem dX10_isWord_44 : decode cX10_isWord 44 = .ok (.aload_n 0, 1) := by decide +kernel
theorem dX10_isWord_45 : decode cX10_isWord 45 = .ok (.getfield 38, 3) := by decide +kernel
theorem dX10_isWord_48 : decode cX10_isWord 48 = .ok (.aload_n 0, 1) := by decide +kernel
theorem dX10_isWord_49 : decode cX10_isWord 49 = .ok (.getfield 148, 3) := by decide +kernel
theorem dX10_isWord_52 : decode cX10_isWord 52 = .ok (.iload_n 3, 1) := by decide +kernel
theorem dX10_isWord_53 : decode cX10_isWord 53 = .ok (.iadd, 1) := by decide +kernel
theorem dX10_isWord_54 : decode cX10_isWord 54 = .ok (.baload, 1) := by decide +kernel
theorem dX10_isWord_55 : decode cX10_isWord 55 = .ok (.aload_n 1, 1) := by decide +kernel
theorem dX10_isWord_56 : decode cX10_isWord 56 = .ok (.iload_n 3, 1) := by decide +kernel
theorem dX10_isWord_57 : decode cX10_isWord 57 = .ok (.invokevirtual 165, 3) := by decide +kernel
theorem dX10_isWord_60 : decode cX10_isWord 60 = .ok (.if_icmp .ne 7, 3) := by decide +kernel
theorem dX10_isWord_63 : decode cX10_isWord 63 = .ok (.iconst 1, 1) := by decide +kernel
theorem dX10_isWord_64 : decode cX10_isWord 64 = .ok (.goto 4, 3) := by decide +kernel
theorem dX10_isWord_67 : decode cX10_isWord 67 = .ok (.iconst 0, 1) := by decide +kernel
theorem dX10_isWord_68 : decode cX10_isWord 68 = .ok (.istore_n 2, 1) := by decide +kernel
theorem dX10_isWord_69 : decode cX10_isWord 69 = .ok (.iinc 3 1, 3) := by decide +kernel
theorem dX10_isWord_72 : decode cX10_isWord 72 = .ok (.goto (-40), 3) := by decide +kernel
theorem dX10_isWord_75 : decode cX10_isWord 75 = .ok (.iload_n 2, 1) := by decide +kernel
theorem dX10_isWord_76 : decode cX10_isWord 76 = .ok (.ireturn, 1) := by decide +kernel
theorem dX10_fails_0 : decode cX10_fails 0 = .ok (.aload_n 0, 1) := by decide +kernel
theorem dX10_fails_1 : decode cX10_fails 1 = .ok (.getfield 169, 3) := by decide +kernel
theorem dX10_fails_4 : decode cX10_fails 4 = .ok (.ifCond .ne 16, 3) := by decide +kernel
theorem dX10_fails_7 : decode cX10_fails 7 = .ok (.aload_n 0, 1) := by decide +kernel
theorem dX10_fails_8 : decode cX10_fails 8 = .ok (.iload_n 1, 1) := by decide +kernel
theorem dX10_fails_9 : decode cX10_fails 9 = .ok (.putfield 169, 3) := by decide +kernel
theorem dX10_fails_12 : decode cX10_fails 12 = .ok (.aload_n 0, 1) := by decide +kernel
theorem dX10_fails_13 : decode cX10_fails 13 = .ok (.aload_n 0, 1) := by decide +kernel
theorem dX10_fails_14 : decode cX10_fails 14 = .ok (.getfield 148, 3) := by decide +kernel
theorem dX10_fails_17 : decode cX10_fails 17 = .ok (.putfield 42, 3) := by decide +kernel
theorem dX10_fails_20 : decode cX10_fails 20 = .ok (.iconst 0, 1) := by decide +kernel
theorem dX10_fails_21 : decode cX10_fails 21 = .ok (.ireturn, 1) := by decide +kernel
theorem dX10_starts_0 : decode cX10_starts 0 = .ok (.iload_n 2, 1) := by decide +kernel
theorem dX10_starts_1 : decode cX10_starts 1 = .ok (.ifCond .ne 9, 3) := by decide +kernel
theorem dX10_starts_4 : decode cX10_starts 4 = .ok (.aload_n 0, 1) := by decide +kernel
theorem dX10_starts_5 : decode cX10_starts 5 = .ok (.iload_n 1, 1) := by decide +kernel
theorem dX10_starts_6 : decode cX10_starts 6 = .ok (.invokevirtual 172, 3) := by decide +kernel
theorem dX10_starts_9 : decode cX10_starts 9 = .ok (.ireturn, 1) := by decide +kernel
theorem dX10_starts_10 : decode cX10_starts 10 = .ok (.aload_n 0, 1) := by decide +kernel
theorem dX10_starts_11 : decode cX10_starts 11 = .ok (.invokevirtual 175, 3) := by decide +kernel
theorem dX10_starts_14 : decode cX10_starts 14 = .ok (.iconst 1, 1) := by decide +kernel
theorem dX10_starts_15 : decode cX10_starts 15 = .ok (.ireturn, 1) := by decide +kernel
theorem dX10_takes_0 : decode cX10_takes 0 = .ok (.aload_n 0, 1) := by decide +kernel
theorem dX10_takes_1 : decode cX10_takes 1 = .ok (.getfield 154, 3) := by decide +kernel
theorem dX10_takes_4 : decode cX10_takes 4 = .ok (.iconst 2, 1) := by decide +kernel
theorem dX10_takes_5 : decode cX10_takes 5 = .ok (.if_icmp .eq 9, 3) := by decide +kernel
theorem dX10_takes_8 : decode cX10_takes 8 = .ok (.aload_n 0, 1) := by decide +kernel
theorem dX10_takes_9 : decode cX10_takes 9 = .ok (.iconst 1, 1) := by decide +kernel
theorem dX10_takes_10 : decode cX10_takes 10 = .ok (.invokevirtual 172, 3) := by decide +kernel
theorem dX10_takes_13 : decode cX10_takes 13 = .ok (.ireturn, 1) := by decide +kernel
theorem dX10_takes_14 : decode cX10_takes 14 = .ok (.aload_n 0, 1) := by decide +kernel
theorem dX10_takes_15 : decode cX10_takes 15 = .ok (.aload_n 0, 1) := by decide +kernel
theorem dX10_takes_16 : decode cX10_takes 16 = .ok (.getfield 151, 3) := by decide +kernel
theorem dX10_takes_19 : decode cX10_takes 19 = .ok (.putfield 178, 3) := by decide +kernel
theorem dX10_takes_22 : decode cX10_takes 22 = .ok (.aload_n 0, 1) := by decide +kernel
theorem dX10_takes_23 : decode cX10_takes 23 = .ok (.iconst 2, 1) := by decide +kernel
theorem dX10_takes_24 : decode cX10_takes 24 = .ok (.aload_n 0, 1) := by decide +kernel
theorem dX10_takes_25 : decode cX10_takes 25 = .ok (.getfield 151, 3) := by decide +kernel
theorem dX10_takes_28 : decode cX10_takes 28 = .ok (.iload_n 1, 1) := by decide +kernel
theorem dX10_takes_29 : decode cX10_takes 29 = .ok (.iload_n 2, 1) := by decide +kernel
theorem dX10_takes_30 : decode cX10_takes 30 = .ok (.invokestatic 130, 3) := by decide +kernel
theorem dX10_takes_33 : decode cX10_takes 33 = .ok (.invokevirtual 181, 3) := by decide +kernel
theorem dX10_takes_36 : decode cX10_takes 36 = .ok (.ireturn, 1) := by decide +kernel
theorem dX10_semicolon_0 : decode cX10_semicolon 0 = .ok (.aload_n 0, 1) := by decide +kernel
theorem dX10_semicolon_1 : decode cX10_semicolon 1 = .ok (.iconst 1, 1) := by decide +kernel
theorem dX10_semicolon_2 : decode cX10_semicolon 2 = .ok (.aload_n 0, 1) := by decide +kernel
theorem dX10_semicolon_3 : decode cX10_semicolon 3 = .ok (.getfield 154, 3) := by decide +kernel
theorem dX10_semicolon_6 : decode cX10_semicolon 6 = .ok (.iconst 3, 1) := by decide +kernel
theorem dX10_semicolon_7 : decode cX10_semicolon 7 = .ok (.if_icmp .ne 7, 3) := by decide +kernel
theorem dX10_semicolon_10 : decode cX10_semicolon 10 = .ok (.iconst 1, 1) := by decide +kernel
theorem dX10_semicolon_11 : decode cX10_semicolon 11 = .ok (.goto 4, 3) := by decide +kernel
theorem dX10_semicolon_14 : decode cX10_semicolon 14 = .ok (.iconst 0, 1) := by decide +kernel
theorem dX10_semicolon_15 : decode cX10_semicolon 15 = .ok (.invokevirtual 181, 3) := by decide +kernel
theorem dX10_semicolon_18 : decode cX10_semicolon 18 = .ok (.ireturn, 1) := by decide +kernel
theorem dX10_beginsText_0 : decode cX10_beginsText 0 = .ok (.aload_n 0, 1) := by decide +kernel
theorem dX10_beginsText_1 : decode cX10_beginsText 1 = .ok (.iload_n 1, 1) := by decide +kernel
theorem dX10_beginsText_2 : decode cX10_beginsText 2 = .ok (.putfield 127, 3) := by decide +kernel
theorem dX10_beginsText_5 : decode cX10_beginsText 5 = .ok (.aload_n 0, 1) := by decide +kernel
theorem dX10_beginsText_6 : decode cX10_beginsText 6 = .ok (.iconst 0, 1) := by decide +kernel
theorem dX10_beginsText_7 : decode cX10_beginsText 7 = .ok (.putfield 120, 3) := by decide +kernel
theorem dX10_beginsText_10 : decode cX10_beginsText 10 = .ok (.aload_n 0, 1) := by decide +kernel
theorem dX10_beginsText_11 : decode cX10_beginsText 11 = .ok (.iconst 0, 1) := by decide +kernel
theorem dX10_beginsText_12 : decode cX10_beginsText 12 = .ok (.putfield 141, 3) := by decide +kernel
theorem dX10_beginsText_15 : decode cX10_beginsText 15 = .ok (.aload_n 0, 1) := by decide +kernel
theorem dX10_beginsText_16 : decode cX10_beginsText 16 = .ok (.iconst 0, 1) := by decide +kernel
theorem dX10_beginsText_17 : decode cX10_beginsText 17 = .ok (.putfield 169, 3) := by decide +kernel
theorem dX10_beginsText_20 : decode cX10_beginsText 20 = .ok (.aload_n 0, 1) := by decide +kernel
theorem dX10_beginsText_21 : decode cX10_beginsText 21 = .ok (.iconst (-1), 1) := by decide +kernel
theorem dX10_beginsText_22 : decode cX10_beginsText 22 = .ok (.putfield 42, 3) := by decide +kernel
theorem dX10_beginsText_25 : decode cX10_beginsText 25 = .ok (.aload_n 0, 1) := by decide +kernel
theorem dX10_beginsText_26 : decode cX10_beginsText 26 = .ok (.invokevirtual 175, 3) := by decide +kernel
theorem dX10_beginsText_29 : decode cX10_beginsText 29 = .ok (.return_, 1) := by decide +kernel
theorem dX10_isTold_0 : decode cX10_isTold 0 = .ok (.iload_n 1, 1) := by decide +kernel
theorem dX10_isTold_1 : decode cX10_isTold 1 = .ok (.aload_n 0, 1) := by decide +kernel
theorem dX10_isTold_2 : decode cX10_isTold 2 = .ok (.getfield 185, 3) := by decide +kernel
theorem dX10_isTold_5 : decode cX10_isTold 5 = .ok (.if_icmp .eq 19, 3) := by decide +kernel
theorem dX10_isTold_8 : decode cX10_isTold 8 = .ok (.iload_n 1, 1) := by decide +kernel
theorem dX10_isTold_9 : decode cX10_isTold 9 = .ok (.aload_n 0, 1) := by decide +kernel
theorem dX10_isTold_10 : decode cX10_isTold 10 = .ok (.getfield 188, 3) := by decide +kernel
theorem dX10_isTold_13 : decode cX10_isTold 13 = .ok (.if_icmp .eq 11, 3) := by decide +kernel
theorem dX10_isTold_16 : decode cX10_isTold 16 = .ok (.iload_n 1, 1) := by decide +kernel
theorem dX10_isTold_17 : decode cX10_isTold 17 = .ok (.aload_n 0, 1) := by decide +kernel
theorem dX10_isTold_18 : decode cX10_isTold 18 = .ok (.getfield 191, 3) := by decide +kernel
theorem dX10_isTold_21 : decode cX10_isTold 21 = .ok (.if_icmp .ne 7, 3) := by decide +kernel
theorem dX10_isTold_24 : decode cX10_isTold 24 = .ok (.iconst 1, 1) := by decide +kernel
theorem dX10_isTold_25 : decode cX10_isTold 25 = .ok (.goto 4, 3) := by decide +kernel
theorem dX10_isTold_28 : decode cX10_isTold 28 = .ok (.iconst 0, 1) := by decide +kernel
theorem dX10_isTold_29 : decode cX10_isTold 29 = .ok (.istore_n 2, 1) := by decide +kernel
theorem dX10_isTold_30 : decode cX10_isTold 30 = .ok (.iconst 0, 1) := by decide +kernel
theorem dX10_isTold_31 : decode cX10_isTold 31 = .ok (.istore_n 3, 1) := by decide +kernel
theorem dX10_isTold_32 : decode cX10_isTold 32 = .ok (.iload_n 3, 1) := by decide +kernel
theorem dX10_isTold_33 : decode cX10_isTold 33 = .ok (.aload_n 0, 1) := by decide +kernel
theorem dX10_isTold_34 : decode cX10_isTold 34 = .ok (.getfield 194, 3) := by decide +kernel
theorem dX10_isTold_37 : decode cX10_isTold 37 = .ok (.if_icmp .ge 39, 3) := by decide +kernel
theorem dX10_isTold_40 : decode cX10_isTold 40 = .ok (.iload_n 2, 1) := by decide +kernel
theorem dX10_isTold_41 : decode cX10_isTold 41 = .ok (.ifCond .ne 23, 3) := by decide +kernel
theorem dX10_isTold_44 : decode cX10_isTold 44 = .ok (.iload_n 1, 1) := by decide +kernel
theorem dX10_isTold_45 : decode cX10_isTold 45 = .ok (.aload_n 0, 1) := by decide +kernel
theorem dX10_isTold_46 : decode cX10_isTold 46 = .ok (.getfield 26, 3) := by decide +kernel
theorem dX10_isTold_49 : decode cX10_isTold 49 = .ok (.iload_n 3, 1) := by decide +kernel
theorem dX10_isTold_50 : decode cX10_isTold 50 = .ok (.iaload, 1) := by decide +kernel
theorem dX10_isTold_51 : decode cX10_isTold 51 = .ok (.if_icmp .eq 13, 3) := by decide +kernel
theorem dX10_isTold_54 : decode cX10_isTold 54 = .ok (.iload_n 1, 1) := by decide +kernel
theorem dX10_isTold_55 : decode cX10_isTold 55 = .ok (.aload_n 0, 1) := by decide +kernel
theorem dX10_isTold_56 : decode cX10_isTold 56 = .ok (.getfield 29, 3) := by decide +kernel
theorem dX10_isTold_59 : decode cX10_isTold 59 = .ok (.iload_n 3, 1) := by decide +kernel
theorem dX10_isTold_60 : decode cX10_isTold 60 = .ok (.iaload, 1) := by decide +kernel
theorem dX10_isTold_61 : decode cX10_isTold 61 = .ok (.if_icmp .ne 7, 3) := by decide +kernel
theorem dX10_isTold_64 : decode cX10_isTold 64 = .ok (.iconst 1, 1) := by decide +kernel
theorem dX10_isTold_65 : decode cX10_isTold 65 = .ok (.goto 4, 3) := by decide +kernel
theorem dX10_isTold_68 : decode cX10_isTold 68 = .ok (.iconst 0, 1) := by decide +kernel
theorem dX10_isTold_69 : decode cX10_isTold 69 = .ok (.istore_n 2, 1) := by decide +kernel
theorem dX10_isTold_70 : decode cX10_isTold 70 = .ok (.iinc 3 1, 3) := by decide +kernel
