theorem dX10_isTold_73 : decode cX10_isTold 73 = .ok (.goto (-41), 3) := by decide +kernel
theorem dX10_isTold_76 : decode cX10_isTold 76 = .ok (.iload_n 2, 1) := by decide +kernel
theorem dX10_isTold_77 : decode cX10_isTold 77 = .ok (.ireturn, 1) := by decide +kernel
theorem dX10_readKind_0 : decode cX10_readKind 0 = .ok (.aload_n 0, 1) := by decide +kernel
theorem dX10_readKind_1 : decode cX10_readKind 1 = .ok (.getfield 154, 3) := by decide +kernel
theorem dX10_readKind_4 : decode cX10_readKind 4 = .ok (.iconst 5, 1) := by decide +kernel
theorem dX10_readKind_5 : decode cX10_readKind 5 = .ok (.if_icmp .eq 9, 3) := by decide +kernel
theorem dX10_readKind_8 : decode cX10_readKind 8 = .ok (.aload_n 0, 1) := by decide +kernel
theorem dX10_readKind_9 : decode cX10_readKind 9 = .ok (.iconst 1, 1) := by decide +kernel
theorem dX10_readKind_10 : decode cX10_readKind 10 = .ok (.invokevirtual 172, 3) := by decide +kernel
theorem dX10_readKind_13 : decode cX10_readKind 13 = .ok (.ireturn, 1) := by decide +kernel
theorem dX10_readKind_14 : decode cX10_readKind 14 = .ok (.aload_n 0, 1) := by decide +kernel
theorem dX10_readKind_15 : decode cX10_readKind 15 = .ok (.aload_n 0, 1) := by decide +kernel
theorem dX10_readKind_16 : decode cX10_readKind 16 = .ok (.getfield 148, 3) := by decide +kernel
theorem dX10_readKind_19 : decode cX10_readKind 19 = .ok (.invokevirtual 144, 3) := by decide +kernel
theorem dX10_readKind_22 : decode cX10_readKind 22 = .ok (.istore_n 1, 1) := by decide +kernel
theorem dX10_readKind_23 : decode cX10_readKind 23 = .ok (.aload_n 0, 1) := by decide +kernel
theorem dX10_readKind_24 : decode cX10_readKind 24 = .ok (.aload_n 0, 1) := by decide +kernel
theorem dX10_readKind_25 : decode cX10_readKind 25 = .ok (.getfield 148, 3) := by decide +kernel
theorem dX10_readKind_28 : decode cX10_readKind 28 = .ok (.iconst 1, 1) := by decide +kernel
theorem dX10_readKind_29 : decode cX10_readKind 29 = .ok (.iadd, 1) := by decide +kernel
theorem dX10_readKind_30 : decode cX10_readKind 30 = .ok (.invokevirtual 144, 3) := by decide +kernel
theorem dX10_readKind_33 : decode cX10_readKind 33 = .ok (.istore_n 2, 1) := by decide +kernel
theorem dX10_readKind_34 : decode cX10_readKind 34 = .ok (.iload_n 1, 1) := by decide +kernel
theorem dX10_readKind_35 : decode cX10_readKind 35 = .ok (.iload_n 2, 1) := by decide +kernel
theorem dX10_readKind_36 : decode cX10_readKind 36 = .ok (.if_icmp .eq 19, 3) := by decide +kernel
theorem dX10_readKind_39 : decode cX10_readKind 39 = .ok (.aload_n 0, 1) := by decide +kernel
theorem dX10_readKind_40 : decode cX10_readKind 40 = .ok (.iload_n 1, 1) := by decide +kernel
theorem dX10_readKind_41 : decode cX10_readKind 41 = .ok (.invokevirtual 197, 3) := by decide +kernel
theorem dX10_readKind_44 : decode cX10_readKind 44 = .ok (.ifCond .ne 11, 3) := by decide +kernel
theorem dX10_readKind_47 : decode cX10_readKind 47 = .ok (.aload_n 0, 1) := by decide +kernel
theorem dX10_readKind_48 : decode cX10_readKind 48 = .ok (.iload_n 2, 1) := by decide +kernel
theorem dX10_readKind_49 : decode cX10_readKind 49 = .ok (.invokevirtual 197, 3) := by decide +kernel
theorem dX10_readKind_52 : decode cX10_readKind 52 = .ok (.ifCond .eq 9, 3) := by decide +kernel
theorem dX10_readKind_55 : decode cX10_readKind 55 = .ok (.aload_n 0, 1) := by decide +kernel
theorem dX10_readKind_56 : decode cX10_readKind 56 = .ok (.iconst 3, 1) := by decide +kernel
theorem dX10_readKind_57 : decode cX10_readKind 57 = .ok (.invokevirtual 172, 3) := by decide +kernel
theorem dX10_readKind_60 : decode cX10_readKind 60 = .ok (.ireturn, 1) := by decide +kernel
theorem dX10_readKind_61 : decode cX10_readKind 61 = .ok (.aload_n 0, 1) := by decide +kernel
theorem dX10_readKind_62 : decode cX10_readKind 62 = .ok (.getfield 194, 3) := by decide +kernel
theorem dX10_readKind_65 : decode cX10_readKind 65 = .ok (.iconst 4, 1) := by decide +kernel
theorem dX10_readKind_66 : decode cX10_readKind 66 = .ok (.if_icmp .ne 9, 3) := by decide +kernel
theorem dX10_readKind_69 : decode cX10_readKind 69 = .ok (.aload_n 0, 1) := by decide +kernel
theorem dX10_readKind_70 : decode cX10_readKind 70 = .ok (.iconst 4, 1) := by decide +kernel
theorem dX10_readKind_71 : decode cX10_readKind 71 = .ok (.invokevirtual 172, 3) := by decide +kernel
theorem dX10_readKind_74 : decode cX10_readKind 74 = .ok (.ireturn, 1) := by decide +kernel
theorem dX10_readKind_75 : decode cX10_readKind 75 = .ok (.aload_n 0, 1) := by decide +kernel
theorem dX10_readKind_76 : decode cX10_readKind 76 = .ok (.getfield 26, 3) := by decide +kernel
theorem dX10_readKind_79 : decode cX10_readKind 79 = .ok (.aload_n 0, 1) := by decide +kernel
theorem dX10_readKind_80 : decode cX10_readKind 80 = .ok (.getfield 194, 3) := by decide +kernel
theorem dX10_readKind_83 : decode cX10_readKind 83 = .ok (.iload_n 1, 1) := by decide +kernel
theorem dX10_readKind_84 : decode cX10_readKind 84 = .ok (.iastore, 1) := by decide +kernel
theorem dX10_readKind_85 : decode cX10_readKind 85 = .ok (.aload_n 0, 1) := by decide +kernel
theorem dX10_readKind_86 : decode cX10_readKind 86 = .ok (.getfield 29, 3) := by decide +kernel
theorem dX10_readKind_89 : decode cX10_readKind 89 = .ok (.aload_n 0, 1) := by decide +kernel
theorem dX10_readKind_90 : decode cX10_readKind 90 = .ok (.getfield 194, 3) := by decide +kernel
theorem dX10_readKind_93 : decode cX10_readKind 93 = .ok (.iload_n 2, 1) := by decide +kernel
theorem dX10_readKind_94 : decode cX10_readKind 94 = .ok (.iastore, 1) := by decide +kernel
theorem dX10_readKind_95 : decode cX10_readKind 95 = .ok (.aload_n 0, 1) := by decide +kernel
theorem dX10_readKind_96 : decode cX10_readKind 96 = .ok (.dup, 1) := by decide +kernel
theorem dX10_readKind_97 : decode cX10_readKind 97 = .ok (.getfield 194, 3) := by decide +kernel
theorem dX10_readKind_100 : decode cX10_readKind 100 = .ok (.iconst 1, 1) := by decide +kernel
theorem dX10_readKind_101 : decode cX10_readKind 101 = .ok (.iadd, 1) := by decide +kernel
theorem dX10_readKind_102 : decode cX10_readKind 102 = .ok (.putfield 194, 3) := by decide +kernel
theorem dX10_readKind_105 : decode cX10_readKind 105 = .ok (.aload_n 0, 1) := by decide +kernel
theorem dX10_readKind_106 : decode cX10_readKind 106 = .ok (.invokevirtual 175, 3) := by decide +kernel
theorem dX10_readKind_109 : decode cX10_readKind 109 = .ok (.iconst 1, 1) := by decide +kernel
theorem dX10_readKind_110 : decode cX10_readKind 110 = .ok (.ireturn, 1) := by decide +kernel
theorem dX10_takesOne_0 : decode cX10_takesOne 0 = .ok (.aload_n 0, 1) := by decide +kernel
theorem dX10_takesOne_1 : decode cX10_takesOne 1 = .ok (.getfield 154, 3) := by decide +kernel
theorem dX10_takesOne_4 : decode cX10_takesOne 4 = .ok (.iconst 4, 1) := by decide +kernel
theorem dX10_takesOne_5 : decode cX10_takesOne 5 = .ok (.if_icmp .eq 9, 3) := by decide +kernel
theorem dX10_takesOne_8 : decode cX10_takesOne 8 = .ok (.aload_n 0, 1) := by decide +kernel
theorem dX10_takesOne_9 : decode cX10_takesOne 9 = .ok (.iconst 1, 1) := by decide +kernel
theorem dX10_takesOne_10 : decode cX10_takesOne 10 = .ok (.invokevirtual 172, 3) := by decide +kernel
theorem dX10_takesOne_13 : decode cX10_takesOne 13 = .ok (.ireturn, 1) := by decide +kernel
theorem dX10_takesOne_14 : decode cX10_takesOne 14 = .ok (.aload_n 0, 1) := by decide +kernel
theorem dX10_takesOne_15 : decode cX10_takesOne 15 = .ok (.aload_n 0, 1) := by decide +kernel
theorem dX10_takesOne_16 : decode cX10_takesOne 16 = .ok (.aload_n 0, 1) := by decide +kernel
theorem dX10_takesOne_17 : decode cX10_takesOne 17 = .ok (.getfield 148, 3) := by decide +kernel
theorem dX10_takesOne_20 : decode cX10_takesOne 20 = .ok (.invokevirtual 144, 3) := by decide +kernel
theorem dX10_takesOne_23 : decode cX10_takesOne 23 = .ok (.putfield 178, 3) := by decide +kernel
theorem dX10_takesOne_26 : decode cX10_takesOne 26 = .ok (.aload_n 0, 1) := by decide +kernel
theorem dX10_takesOne_27 : decode cX10_takesOne 27 = .ok (.iconst 3, 1) := by decide +kernel
theorem dX10_takesOne_28 : decode cX10_takesOne 28 = .ok (.aload_n 0, 1) := by decide +kernel
theorem dX10_takesOne_29 : decode cX10_takesOne 29 = .ok (.aload_n 0, 1) := by decide +kernel
theorem dX10_takesOne_30 : decode cX10_takesOne 30 = .ok (.getfield 178, 3) := by decide +kernel
theorem dX10_takesOne_33 : decode cX10_takesOne 33 = .ok (.invokevirtual 197, 3) := by decide +kernel
theorem dX10_takesOne_36 : decode cX10_takesOne 36 = .ok (.ifCond .ne 7, 3) := by decide +kernel
theorem dX10_takesOne_39 : decode cX10_takesOne 39 = .ok (.iconst 1, 1) := by decide +kernel
theorem dX10_takesOne_40 : decode cX10_takesOne 40 = .ok (.goto 4, 3) := by decide +kernel
theorem dX10_takesOne_43 : decode cX10_takesOne 43 = .ok (.iconst 0, 1) := by decide +kernel
theorem dX10_takesOne_44 : decode cX10_takesOne 44 = .ok (.invokevirtual 181, 3) := by decide +kernel
theorem dX10_takesOne_47 : decode cX10_takesOne 47 = .ok (.ireturn, 1) := by decide +kernel
theorem dX10_readQuotes_0 : decode cX10_readQuotes 0 = .ok (.aload_n 0, 1) := by decide +kernel
theorem dX10_readQuotes_1 : decode cX10_readQuotes 1 = .ok (.iconst 4, 1) := by decide +kernel
theorem dX10_readQuotes_2 : decode cX10_readQuotes 2 = .ok (.aload_n 0, 1) := by decide +kernel
theorem dX10_readQuotes_3 : decode cX10_readQuotes 3 = .ok (.getfield 185, 3) := by decide +kernel
theorem dX10_readQuotes_6 : decode cX10_readQuotes 6 = .ok (.iconst (-1), 1) := by decide +kernel
theorem dX10_readQuotes_7 : decode cX10_readQuotes 7 = .ok (.if_icmp .ne 7, 3) := by decide +kernel
theorem dX10_readQuotes_10 : decode cX10_readQuotes 10 = .ok (.iconst 1, 1) := by decide +kernel
theorem dX10_readQuotes_11 : decode cX10_readQuotes 11 = .ok (.goto 4, 3) := by decide +kernel
theorem dX10_readQuotes_14 : decode cX10_readQuotes 14 = .ok (.iconst 0, 1) := by decide +kernel
theorem dX10_readQuotes_15 : decode cX10_readQuotes 15 = .ok (.invokevirtual 181, 3) := by decide +kernel
theorem dX10_readQuotes_18 : decode cX10_readQuotes 18 = .ok (.ifCond .eq 10, 3) := by decide +kernel
theorem dX10_readQuotes_21 : decode cX10_readQuotes 21 = .ok (.aload_n 0, 1) := by decide +kernel
theorem dX10_readQuotes_22 : decode cX10_readQuotes 22 = .ok (.invokevirtual 200, 3) := by decide +kernel
theorem dX10_readQuotes_25 : decode cX10_readQuotes 25 = .ok (.ifCond .ne 5, 3) := by decide +kernel
theorem dX10_readQuotes_28 : decode cX10_readQuotes 28 = .ok (.iconst 0, 1) := by decide +kernel
theorem dX10_readQuotes_29 : decode cX10_readQuotes 29 = .ok (.ireturn, 1) := by decide +kernel
theorem dX10_readQuotes_30 : decode cX10_readQuotes 30 = .ok (.aload_n 0, 1) := by decide +kernel
theorem dX10_readQuotes_31 : decode cX10_readQuotes 31 = .ok (.aload_n 0, 1) := by decide +kernel
theorem dX10_readQuotes_32 : decode cX10_readQuotes 32 = .ok (.getfield 178, 3) := by decide +kernel
theorem dX10_readQuotes_35 : decode cX10_readQuotes 35 = .ok (.putfield 185, 3) := by decide +kernel
theorem dX10_readQuotes_38 : decode cX10_readQuotes 38 = .ok (.aload_n 0, 1) := by decide +kernel
theorem dX10_readQuotes_39 : decode cX10_readQuotes 39 = .ok (.ldc 204, 2) := by decide +kernel
theorem dX10_readQuotes_41 : decode cX10_readQuotes 41 = .ok (.invokevirtual 205, 3) := by decide +kernel
theorem dX10_readQuotes_44 : decode cX10_readQuotes 44 = .ok (.ifCond .eq 24, 3) := by decide +kernel
theorem dX10_readQuotes_47 : decode cX10_readQuotes 47 = .ok (.aload_n 0, 1) := by decide +kernel
theorem dX10_readQuotes_48 : decode cX10_readQuotes 48 = .ok (.invokevirtual 175, 3) := by decide +kernel
theorem dX10_readQuotes_51 : decode cX10_readQuotes 51 = .ok (.aload_n 0, 1) := by decide +kernel
theorem dX10_readQuotes_52 : decode cX10_readQuotes 52 = .ok (.invokevirtual 200, 3) := by decide +kernel
theorem dX10_readQuotes_55 : decode cX10_readQuotes 55 = .ok (.ifCond .ne 5, 3) := by decide +kernel
theorem dX10_readQuotes_58 : decode cX10_readQuotes 58 = .ok (.iconst 0, 1) := by decide +kernel
theorem dX10_readQuotes_59 : decode cX10_readQuotes 59 = .ok (.ireturn, 1) := by decide +kernel
theorem dX10_readQuotes_60 : decode cX10_readQuotes 60 = .ok (.aload_n 0, 1) := by decide +kernel
theorem dX10_readQuotes_61 : decode cX10_readQuotes 61 = .ok (.aload_n 0, 1) := by decide +kernel
theorem dX10_readQuotes_62 : decode cX10_readQuotes 62 = .ok (.getfield 178, 3) := by decide +kernel
theorem dX10_readQuotes_65 : decode cX10_readQuotes 65 = .ok (.putfield 188, 3) := by decide +kernel
theorem dX10_readQuotes_68 : decode cX10_readQuotes 68 = .ok (.iconst 1, 1) := by decide +kernel
theorem dX10_readQuotes_69 : decode cX10_readQuotes 69 = .ok (.ireturn, 1) := by decide +kernel
theorem dX10_readNotes_0 : decode cX10_readNotes 0 = .ok (.aload_n 0, 1) := by decide +kernel
theorem dX10_readNotes_1 : decode cX10_readNotes 1 = .ok (.iconst 4, 1) := by decide +kernel
theorem dX10_readNotes_2 : decode cX10_readNotes 2 = .ok (.aload_n 0, 1) := by decide +kernel
theorem dX10_readNotes_3 : decode cX10_readNotes 3 = .ok (.getfield 191, 3) := by decide +kernel
theorem dX10_readNotes_6 : decode cX10_readNotes 6 = .ok (.iconst (-1), 1) := by decide +kernel
theorem dX10_readNotes_7 : decode cX10_readNotes 7 = .ok (.if_icmp .ne 7, 3) := by decide +kernel
theorem dX10_readNotes_10 : decode cX10_readNotes 10 = .ok (.iconst 1, 1) := by decide +kernel
theorem dX10_readNotes_11 : decode cX10_readNotes 11 = .ok (.goto 4, 3) := by decide +kernel
theorem dX10_readNotes_14 : decode cX10_readNotes 14 = .ok (.iconst 0, 1) := by decide +kernel
theorem dX10_readNotes_15 : decode cX10_readNotes 15 = .ok (.invokevirtual 181, 3) := by decide +kernel
theorem dX10_readNotes_18 : decode cX10_readNotes 18 = .ok (.ifCond .eq 10, 3) := by decide +kernel
theorem dX10_readNotes_21 : decode cX10_readNotes 21 = .ok (.aload_n 0, 1) := by decide +kernel
theorem dX10_readNotes_22 : decode cX10_readNotes 22 = .ok (.invokevirtual 200, 3) := by decide +kernel
theorem dX10_readNotes_25 : decode cX10_readNotes 25 = .ok (.ifCond .ne 5, 3) := by decide +kernel
theorem dX10_readNotes_28 : decode cX10_readNotes 28 = .ok (.iconst 0, 1) := by decide +kernel
theorem dX10_readNotes_29 : decode cX10_readNotes 29 = .ok (.ireturn, 1) := by decide +kernel
theorem dX10_readNotes_30 : decode cX10_readNotes 30 = .ok (.aload_n 0, 1) := by decide +kernel
theorem dX10_readNotes_31 : decode cX10_readNotes 31 = .ok (.aload_n 0, 1) := by decide +kernel
theorem dX10_readNotes_32 : decode cX10_readNotes 32 = .ok (.getfield 178, 3) := by decide +kernel
theorem dX10_readNotes_35 : decode cX10_readNotes 35 = .ok (.putfield 191, 3) := by decide +kernel
theorem dX10_readNotes_38 : decode cX10_readNotes 38 = .ok (.iconst 1, 1) := by decide +kernel
theorem dX10_readNotes_39 : decode cX10_readNotes 39 = .ok (.ireturn, 1) := by decide +kernel
theorem dX10_takesInto_0 : decode cX10_takesInto 0 = .ok (.aload_n 0, 1) := by decide +kernel
theorem dX10_takesInto_1 : decode cX10_takesInto 1 = .ok (.iload_n 2, 1) := by decide +kernel
theorem dX10_takesInto_2 : decode cX10_takesInto 2 = .ok (.iload_n 3, 1) := by decide +kernel
theorem dX10_takesInto_3 : decode cX10_takesInto 3 = .ok (.invokevirtual 209, 3) := by decide +kernel
theorem dX10_takesInto_6 : decode cX10_takesInto 6 = .ok (.ifCond .ne 5, 3) := by decide +kernel
theorem dX10_takesInto_9 : decode cX10_takesInto 9 = .ok (.iconst 0, 1) := by decide +kernel
theorem dX10_takesInto_10 : decode cX10_takesInto 10 = .ok (.ireturn, 1) := by decide +kernel
theorem dX10_takesInto_11 : decode cX10_takesInto 11 = .ok (.aload_n 0, 1) := by decide +kernel
theorem dX10_takesInto_12 : decode cX10_takesInto 12 = .ok (.getfield 32, 3) := by decide +kernel
theorem dX10_takesInto_15 : decode cX10_takesInto 15 = .ok (.iload_n 1, 1) := by decide +kernel
theorem dX10_takesInto_16 : decode cX10_takesInto 16 = .ok (.aload_n 0, 1) := by decide +kernel
theorem dX10_takesInto_17 : decode cX10_takesInto 17 = .ok (.getfield 178, 3) := by decide +kernel
theorem dX10_takesInto_20 : decode cX10_takesInto 20 = .ok (.iastore, 1) := by decide +kernel
theorem dX10_takesInto_21 : decode cX10_takesInto 21 = .ok (.iconst 1, 1) := by decide +kernel
theorem dX10_takesInto_22 : decode cX10_takesInto 22 = .ok (.ireturn, 1) := by decide +kernel
theorem dX10_readStatement_0 : decode cX10_readStatement 0 = .ok (.aload_n 0, 1) := by decide +kernel
theorem dX10_readStatement_1 : decode cX10_readStatement 1 = .ok (.ldc 213, 2) := by decide +kernel
theorem dX10_readStatement_3 : decode cX10_readStatement 3 = .ok (.invokevirtual 205, 3) := by decide +kernel
theorem dX10_readStatement_6 : decode cX10_readStatement 6 = .ok (.ifCond .eq 8, 3) := by decide +kernel
theorem dX10_readStatement_9 : decode cX10_readStatement 9 = .ok (.aload_n 0, 1) := by decide +kernel
theorem dX10_readStatement_10 : decode cX10_readStatement 10 = .ok (.invokevirtual 214, 3) := by decide +kernel
theorem dX10_readStatement_13 : decode cX10_readStatement 13 = .ok (.ireturn, 1) := by decide +kernel
theorem dX10_readStatement_14 : decode cX10_readStatement 14 = .ok (.aload_n 0, 1) := by decide +kernel
theorem dX10_readStatement_15 : decode cX10_readStatement 15 = .ok (.ldc 217, 2) := by decide +kernel
theorem dX10_readStatement_17 : decode cX10_readStatement 17 = .ok (.invokevirtual 205, 3) := by decide +kernel
theorem dX10_readStatement_20 : decode cX10_readStatement 20 = .ok (.ifCond .eq 8, 3) := by decide +kernel
theorem dX10_readStatement_23 : decode cX10_readStatement 23 = .ok (.aload_n 0, 1) := by decide +kernel
theorem dX10_readStatement_24 : decode cX10_readStatement 24 = .ok (.invokevirtual 218, 3) := by decide +kernel
theorem dX10_readStatement_27 : decode cX10_readStatement 27 = .ok (.ireturn, 1) := by decide +kernel
theorem dX10_readStatement_28 : decode cX10_readStatement 28 = .ok (.aload_n 0, 1) := by decide +kernel
theorem dX10_readStatement_29 : decode cX10_readStatement 29 = .ok (.ldc 221, 2) := by decide +kernel
theorem dX10_readStatement_31 : decode cX10_readStatement 31 = .ok (.invokevirtual 205, 3) := by decide +kernel
theorem dX10_readStatement_34 : decode cX10_readStatement 34 = .ok (.ifCond .eq 17, 3) := by decide +kernel
theorem dX10_readStatement_37 : decode cX10_readStatement 37 = .ok (.aload_n 0, 1) := by decide +kernel
theorem dX10_readStatement_38 : decode cX10_readStatement 38 = .ok (.invokevirtual 175, 3) := by decide +kernel
theorem dX10_readStatement_41 : decode cX10_readStatement 41 = .ok (.aload_n 0, 1) := by decide +kernel
theorem dX10_readStatement_42 : decode cX10_readStatement 42 = .ok (.bipush 10, 2) := by decide +kernel
theorem dX10_readStatement_44 : decode cX10_readStatement 44 = .ok (.iconst 1, 1) := by decide +kernel
theorem dX10_readStatement_45 : decode cX10_readStatement 45 = .ok (.bipush 9, 2) := by decide +kernel
theorem dX10_readStatement_47 : decode cX10_readStatement 47 = .ok (.invokevirtual 223, 3) := by decide +kernel
theorem dX10_readStatement_50 : decode cX10_readStatement 50 = .ok (.ireturn, 1) := by decide +kernel
theorem dX10_readStatement_51 : decode cX10_readStatement 51 = .ok (.aload_n 0, 1) := by decide +kernel
theorem dX10_readStatement_52 : decode cX10_readStatement 52 = .ok (.ldc 226, 2) := by decide +kernel
theorem dX10_readStatement_54 : decode cX10_readStatement 54 = .ok (.invokevirtual 205, 3) := by decide +kernel
theorem dX10_readStatement_57 : decode cX10_readStatement 57 = .ok (.ifCond .eq 49, 3) := by decide +kernel
theorem dX10_readStatement_60 : decode cX10_readStatement 60 = .ok (.aload_n 0, 1) := by decide +kernel
theorem dX10_readStatement_61 : decode cX10_readStatement 61 = .ok (.invokevirtual 175, 3) := by decide +kernel
theorem dX10_readStatement_64 : decode cX10_readStatement 64 = .ok (.aload_n 0, 1) := by decide +kernel
theorem dX10_readStatement_65 : decode cX10_readStatement 65 = .ok (.bipush 11, 2) := by decide +kernel
theorem dX10_readStatement_67 : decode cX10_readStatement 67 = .ok (.iconst 1, 1) := by decide +kernel
theorem dX10_readStatement_68 : decode cX10_readStatement 68 = .ok (.bipush 99, 2) := by decide +kernel
theorem dX10_readStatement_70 : decode cX10_readStatement 70 = .ok (.invokevirtual 223, 3) := by decide +kernel
theorem dX10_readStatement_73 : decode cX10_readStatement 73 = .ok (.ifCond .eq 31, 3) := by decide +kernel
theorem dX10_readStatement_76 : decode cX10_readStatement 76 = .ok (.aload_n 0, 1) := by decide +kernel
theorem dX10_readStatement_77 : decode cX10_readStatement 77 = .ok (.bipush 12, 2) := by decide +kernel
theorem dX10_readStatement_79 : decode cX10_readStatement 79 = .ok (.iconst 1, 1) := by decide +kernel
theorem dX10_readStatement_80 : decode cX10_readStatement 80 = .ok (.bipush 99, 2) := by decide +kernel
theorem dX10_readStatement_82 : decode cX10_readStatement 82 = .ok (.invokevirtual 223, 3) := by decide +kernel
theorem dX10_readStatement_85 : decode cX10_readStatement 85 = .ok (.ifCond .eq 19, 3) := by decide +kernel
theorem dX10_readStatement_88 : decode cX10_readStatement 88 = .ok (.aload_n 0, 1) := by decide +kernel
theorem dX10_readStatement_89 : decode cX10_readStatement 89 = .ok (.bipush 13, 2) := by decide +kernel
theorem dX10_readStatement_91 : decode cX10_readStatement 91 = .ok (.iconst 1, 1) := by decide +kernel
theorem dX10_readStatement_92 : decode cX10_readStatement 92 = .ok (.bipush 99, 2) := by decide +kernel
theorem dX10_readStatement_94 : decode cX10_readStatement 94 = .ok (.invokevirtual 223, 3) := by decide +kernel
theorem dX10_readStatement_97 : decode cX10_readStatement 97 = .ok (.ifCond .eq 7, 3) := by decide +kernel
theorem dX10_readStatement_100 : decode cX10_readStatement 100 = .ok (.iconst 1, 1) := by decide +kernel
theorem dX10_readStatement_101 : decode cX10_readStatement 101 = .ok (.goto 4, 3) := by decide +kernel
theorem dX10_readStatement_104 : decode cX10_readStatement 104 = .ok (.iconst 0, 1) := by decide +kernel
theorem dX10_readStatement_105 : decode cX10_readStatement 105 = .ok (.ireturn, 1) := by decide +kernel
theorem dX10_readStatement_106 : decode cX10_readStatement 106 = .ok (.aload_n 0, 1) := by decide +kernel
theorem dX10_readStatement_107 : decode cX10_readStatement 107 = .ok (.iconst 1, 1) := by decide +kernel
theorem dX10_readStatement_108 : decode cX10_readStatement 108 = .ok (.invokevirtual 172, 3) := by decide +kernel
theorem dX10_readStatement_111 : decode cX10_readStatement 111 = .ok (.ireturn, 1) := by decide +kernel
theorem dX10_setup_0 : decode cX10_setup 0 = .ok (.aload_n 0, 1) := by decide +kernel
theorem dX10_setup_1 : decode cX10_setup 1 = .ok (.iconst 0, 1) := by decide +kernel
theorem dX10_setup_2 : decode cX10_setup 2 = .ok (.putfield 117, 3) := by decide +kernel
theorem dX10_setup_5 : decode cX10_setup 5 = .ok (.aload_n 0, 1) := by decide +kernel
theorem dX10_setup_6 : decode cX10_setup 6 = .ok (.iload_n 1, 1) := by decide +kernel
theorem dX10_setup_7 : decode cX10_setup 7 = .ok (.iconst 0, 1) := by decide +kernel
theorem dX10_setup_8 : decode cX10_setup 8 = .ok (.aload_n 0, 1) := by decide +kernel
theorem dX10_setup_9 : decode cX10_setup 9 = .ok (.getfield 120, 3) := by decide +kernel
theorem dX10_setup_12 : decode cX10_setup 12 = .ok (.invokestatic 130, 3) := by decide +kernel
theorem dX10_setup_15 : decode cX10_setup 15 = .ok (.ifCond .ne 7, 3) := by decide +kernel
theorem dX10_setup_18 : decode cX10_setup 18 = .ok (.iconst 1, 1) := by decide +kernel
theorem dX10_setup_19 : decode cX10_setup 19 = .ok (.goto 4, 3) := by decide +kernel
theorem dX10_setup_22 : decode cX10_setup 22 = .ok (.iconst 0, 1) := by decide +kernel
theorem dX10_setup_23 : decode cX10_setup 23 = .ok (.iconst 1, 1) := by decide +kernel
theorem dX10_setup_24 : decode cX10_setup 24 = .ok (.invokevirtual 227, 3) := by decide +kernel
theorem dX10_setup_27 : decode cX10_setup 27 = .ok (.ifCond .eq 5, 3) := by decide +kernel
theorem dX10_setup_30 : decode cX10_setup 30 = .ok (.iconst 0, 1) := by decide +kernel
theorem dX10_setup_31 : decode cX10_setup 31 = .ok (.ireturn, 1) := by decide +kernel
theorem dX10_setup_32 : decode cX10_setup 32 = .ok (.aload_n 0, 1) := by decide +kernel
theorem dX10_setup_33 : decode cX10_setup 33 = .ok (.iload_n 1, 1) := by decide +kernel
theorem dX10_setup_34 : decode cX10_setup 34 = .ok (.invokevirtual 231, 3) := by decide +kernel
theorem dX10_setup_37 : decode cX10_setup 37 = .ok (.aload_n 0, 1) := by decide +kernel
theorem dX10_setup_38 : decode cX10_setup 38 = .ok (.iconst 0, 1) := by decide +kernel
theorem dX10_setup_39 : decode cX10_setup 39 = .ok (.putfield 194, 3) := by decide +kernel
theorem dX10_setup_42 : decode cX10_setup 42 = .ok (.aload_n 0, 1) := by decide +kernel
theorem dX10_setup_43 : decode cX10_setup 43 = .ok (.iconst (-1), 1) := by decide +kernel
theorem dX10_setup_44 : decode cX10_setup 44 = .ok (.putfield 185, 3) := by decide +kernel
theorem dX10_setup_47 : decode cX10_setup 47 = .ok (.aload_n 0, 1) := by decide +kernel
theorem dX10_setup_48 : decode cX10_setup 48 = .ok (.iconst (-1), 1) := by decide +kernel
theorem dX10_setup_49 : decode cX10_setup 49 = .ok (.putfield 188, 3) := by decide +kernel
theorem dX10_setup_52 : decode cX10_setup 52 = .ok (.aload_n 0, 1) := by decide +kernel
theorem dX10_setup_53 : decode cX10_setup 53 = .ok (.iconst (-1), 1) := by decide +kernel
theorem dX10_setup_54 : decode cX10_setup 54 = .ok (.putfield 191, 3) := by decide +kernel
theorem dX10_setup_57 : decode cX10_setup 57 = .ok (.aload_n 0, 1) := by decide +kernel
theorem dX10_setup_58 : decode cX10_setup 58 = .ok (.getfield 32, 3) := by decide +kernel
theorem dX10_setup_61 : decode cX10_setup 61 = .ok (.invokestatic 113, 3) := by decide +kernel
theorem dX10_setup_64 : decode cX10_setup 64 = .ok (.aload_n 0, 1) := by decide +kernel
theorem dX10_setup_65 : decode cX10_setup 65 = .ok (.iconst 1, 1) := by decide +kernel
theorem dX10_setup_66 : decode cX10_setup 66 = .ok (.aload_n 0, 1) := by decide +kernel
theorem dX10_setup_67 : decode cX10_setup 67 = .ok (.ldc 234, 2) := by decide +kernel
theorem dX10_setup_69 : decode cX10_setup 69 = .ok (.invokevirtual 205, 3) := by decide +kernel
theorem dX10_setup_72 : decode cX10_setup 72 = .ok (.invokevirtual 181, 3) := by decide +kernel
theorem dX10_setup_75 : decode cX10_setup 75 = .ok (.ifCond .eq 14, 3) := by decide +kernel
theorem dX10_setup_78 : decode cX10_setup 78 = .ok (.aload_n 0, 1) := by decide +kernel
theorem dX10_setup_79 : decode cX10_setup 79 = .ok (.invokevirtual 235, 3) := by decide +kernel
theorem dX10_setup_82 : decode cX10_setup 82 = .ok (.ifCond .eq 7, 3) := by decide +kernel
theorem dX10_setup_85 : decode cX10_setup 85 = .ok (.iconst 1, 1) := by decide +kernel
theorem dX10_setup_86 : decode cX10_setup 86 = .ok (.goto 4, 3) := by decide +kernel
theorem dX10_setup_89 : decode cX10_setup 89 = .ok (.iconst 0, 1) := by decide +kernel
theorem dX10_setup_90 : decode cX10_setup 90 = .ok (.istore_n 2, 1) := by decide +kernel
theorem dX10_setup_91 : decode cX10_setup 91 = .ok (.iload_n 2, 1) := by decide +kernel
theorem dX10_setup_92 : decode cX10_setup 92 = .ok (.ifCond .eq 19, 3) := by decide +kernel
theorem dX10_setup_95 : decode cX10_setup 95 = .ok (.aload_n 0, 1) := by decide +kernel
theorem dX10_setup_96 : decode cX10_setup 96 = .ok (.getfield 154, 3) := by decide +kernel
theorem dX10_setup_99 : decode cX10_setup 99 = .ok (.iconst 3, 1) := by decide +kernel
theorem dX10_setup_100 : decode cX10_setup 100 = .ok (.if_icmp .eq 11, 3) := by decide +kernel
theorem dX10_setup_103 : decode cX10_setup 103 = .ok (.aload_n 0, 1) := by decide +kernel
theorem dX10_setup_104 : decode cX10_setup 104 = .ok (.invokevirtual 235, 3) := by decide +kernel
theorem dX10_setup_107 : decode cX10_setup 107 = .ok (.istore_n 2, 1) := by decide +kernel
theorem dX10_setup_108 : decode cX10_setup 108 = .ok (.goto (-17), 3) := by decide +kernel
theorem dX10_setup_111 : decode cX10_setup 111 = .ok (.iload_n 2, 1) := by decide +kernel
theorem dX10_setup_112 : decode cX10_setup 112 = .ok (.ifCond .eq 14, 3) := by decide +kernel
theorem dX10_setup_115 : decode cX10_setup 115 = .ok (.aload_n 0, 1) := by decide +kernel
theorem dX10_setup_116 : decode cX10_setup 116 = .ok (.invokevirtual 238, 3) := by decide +kernel
theorem dX10_setup_119 : decode cX10_setup 119 = .ok (.ifCond .eq 7, 3) := by decide +kernel
theorem dX10_setup_122 : decode cX10_setup 122 = .ok (.iconst 1, 1) := by decide +kernel
theorem dX10_setup_123 : decode cX10_setup 123 = .ok (.goto 4, 3) := by decide +kernel
theorem dX10_setup_126 : decode cX10_setup 126 = .ok (.iconst 0, 1) := by decide +kernel
theorem dX10_setup_127 : decode cX10_setup 127 = .ok (.istore_n 2, 1) := by decide +kernel
theorem dX10_setup_128 : decode cX10_setup 128 = .ok (.iload_n 2, 1) := by decide +kernel
theorem dX10_setup_129 : decode cX10_setup 129 = .ok (.ifCond .eq 33, 3) := by decide +kernel
theorem dX10_setup_132 : decode cX10_setup 132 = .ok (.aload_n 0, 1) := by decide +kernel
theorem dX10_setup_133 : decode cX10_setup 133 = .ok (.getfield 154, 3) := by decide +kernel
theorem dX10_setup_136 : decode cX10_setup 136 = .ok (.ifCond .eq 26, 3) := by decide +kernel
theorem dX10_setup_139 : decode cX10_setup 139 = .ok (.aload_n 0, 1) := by decide +kernel
theorem dX10_setup_140 : decode cX10_setup 140 = .ok (.invokevirtual 241, 3) := by decide +kernel
theorem dX10_setup_143 : decode cX10_setup 143 = .ok (.ifCond .eq 14, 3) := by decide +kernel
theorem dX10_setup_146 : decode cX10_setup 146 = .ok (.aload_n 0, 1) := by decide +kernel
theorem dX10_setup_147 : decode cX10_setup 147 = .ok (.invokevirtual 238, 3) := by decide +kernel
theorem dX10_setup_150 : decode cX10_setup 150 = .ok (.ifCond .eq 7, 3) := by decide +kernel
theorem dX10_setup_153 : decode cX10_setup 153 = .ok (.iconst 1, 1) := by decide +kernel
theorem dX10_setup_154 : decode cX10_setup 154 = .ok (.goto 4, 3) := by decide +kernel
theorem dX10_setup_157 : decode cX10_setup 157 = .ok (.iconst 0, 1) := by decide +kernel
theorem dX10_setup_158 : decode cX10_setup 158 = .ok (.istore_n 2, 1) := by decide +kernel
theorem dX10_setup_159 : decode cX10_setup 159 = .ok (.goto (-31), 3) := by decide +kernel
theorem dX10_setup_162 : decode cX10_setup 162 = .ok (.iload_n 2, 1) := by decide +kernel
theorem dX10_setup_163 : decode cX10_setup 163 = .ok (.ifCond .ne 8, 3) := by decide +kernel
theorem dX10_setup_166 : decode cX10_setup 166 = .ok (.aload_n 0, 1) := by decide +kernel
theorem dX10_setup_167 : decode cX10_setup 167 = .ok (.getfield 169, 3) := by decide +kernel
theorem dX10_setup_170 : decode cX10_setup 170 = .ok (.ireturn, 1) := by decide +kernel
theorem dX10_setup_171 : decode cX10_setup 171 = .ok (.aload_n 0, 1) := by decide +kernel
theorem dX10_setup_172 : decode cX10_setup 172 = .ok (.aload_n 0, 1) := by decide +kernel
theorem dX10_setup_173 : decode cX10_setup 173 = .ok (.getfield 194, 3) := by decide +kernel
theorem dX10_setup_176 : decode cX10_setup 176 = .ok (.putfield 110, 3) := by decide +kernel
theorem dX10_setup_179 : decode cX10_setup 179 = .ok (.iconst 0, 1) := by decide +kernel
theorem dX10_setup_180 : decode cX10_setup 180 = .ok (.istore_n 3, 1) := by decide +kernel
theorem dX10_setup_181 : decode cX10_setup 181 = .ok (.iload_n 3, 1) := by decide +kernel
theorem dX10_setup_182 : decode cX10_setup 182 = .ok (.iconst 4, 1) := by decide +kernel
theorem dX10_setup_183 : decode cX10_setup 183 = .ok (.if_icmp .ge 33, 3) := by decide +kernel
theorem dX10_setup_186 : decode cX10_setup 186 = .ok (.aload_n 0, 1) := by decide +kernel
theorem dX10_setup_187 : decode cX10_setup 187 = .ok (.getfield 7, 3) := by decide +kernel
theorem dX10_setup_190 : decode cX10_setup 190 = .ok (.iload_n 3, 1) := by decide +kernel
theorem dX10_setup_191 : decode cX10_setup 191 = .ok (.aload_n 0, 1) := by decide +kernel
theorem dX10_setup_192 : decode cX10_setup 192 = .ok (.getfield 26, 3) := by decide +kernel
theorem dX10_setup_195 : decode cX10_setup 195 = .ok (.iload_n 3, 1) := by decide +kernel
theorem dX10_setup_196 : decode cX10_setup 196 = .ok (.iaload, 1) := by decide +kernel
theorem dX10_setup_197 : decode cX10_setup 197 = .ok (.iastore, 1) := by decide +kernel
theorem dX10_setup_198 : decode cX10_setup 198 = .ok (.aload_n 0, 1) := by decide +kernel
theorem dX10_setup_199 : decode cX10_setup 199 = .ok (.getfield 13, 3) := by decide +kernel
theorem dX10_setup_202 : decode cX10_setup 202 = .ok (.iload_n 3, 1) := by decide +kernel
theorem dX10_setup_203 : decode cX10_setup 203 = .ok (.aload_n 0, 1) := by decide +kernel
theorem dX10_setup_204 : decode cX10_setup 204 = .ok (.getfield 29, 3) := by decide +kernel
theorem dX10_setup_207 : decode cX10_setup 207 = .ok (.iload_n 3, 1) := by decide +kernel
theorem dX10_setup_208 : decode cX10_setup 208 = .ok (.iaload, 1) := by decide +kernel
theorem dX10_setup_209 : decode cX10_setup 209 = .ok (.iastore, 1) := by decide +kernel
theorem dX10_setup_210 : decode cX10_setup 210 = .ok (.iinc 3 1, 3) := by decide +kernel
theorem dX10_setup_213 : decode cX10_setup 213 = .ok (.goto (-32), 3) := by decide +kernel
theorem dX10_setup_216 : decode cX10_setup 216 = .ok (.aload_n 0, 1) := by decide +kernel
theorem dX10_setup_217 : decode cX10_setup 217 = .ok (.aload_n 0, 1) := by decide +kernel
theorem dX10_setup_218 : decode cX10_setup 218 = .ok (.getfield 185, 3) := by decide +kernel
theorem dX10_setup_221 : decode cX10_setup 221 = .ok (.putfield 16, 3) := by decide +kernel
theorem dX10_setup_224 : decode cX10_setup 224 = .ok (.aload_n 0, 1) := by decide +kernel
theorem dX10_setup_225 : decode cX10_setup 225 = .ok (.aload_n 0, 1) := by decide +kernel
theorem dX10_setup_226 : decode cX10_setup 226 = .ok (.getfield 188, 3) := by decide +kernel
theorem dX10_setup_229 : decode cX10_setup 229 = .ok (.putfield 20, 3) := by decide +kernel
theorem dX10_setup_232 : decode cX10_setup 232 = .ok (.aload_n 0, 1) := by decide +kernel
theorem dX10_setup_233 : decode cX10_setup 233 = .ok (.aload_n 0, 1) := by decide +kernel
theorem dX10_setup_234 : decode cX10_setup 234 = .ok (.getfield 191, 3) := by decide +kernel
theorem dX10_setup_237 : decode cX10_setup 237 = .ok (.putfield 23, 3) := by decide +kernel
theorem dX10_setup_240 : decode cX10_setup 240 = .ok (.aload_n 0, 1) := by decide +kernel
theorem dX10_setup_241 : decode cX10_setup 241 = .ok (.getfield 32, 3) := by decide +kernel
theorem dX10_setup_244 : decode cX10_setup 244 = .ok (.iconst 0, 1) := by decide +kernel
theorem dX10_setup_245 : decode cX10_setup 245 = .ok (.aload_n 0, 1) := by decide +kernel
theorem dX10_setup_246 : decode cX10_setup 246 = .ok (.getfield 35, 3) := by decide +kernel
theorem dX10_setup_249 : decode cX10_setup 249 = .ok (.iconst 0, 1) := by decide +kernel
theorem dX10_setup_250 : decode cX10_setup 250 = .ok (.invokestatic 244, 3) := by decide +kernel
theorem dX10_setup_253 : decode cX10_setup 253 = .ok (.aload_n 0, 1) := by decide +kernel
theorem dX10_setup_254 : decode cX10_setup 254 = .ok (.invokevirtual 248, 3) := by decide +kernel
theorem dX10_setup_257 : decode cX10_setup 257 = .ok (.iconst 0, 1) := by decide +kernel
theorem dX10_setup_258 : decode cX10_setup 258 = .ok (.ireturn, 1) := by decide +kernel
theorem dX10_forgets_0 : decode cX10_forgets 0 = .ok (.aload_n 0, 1) := by decide +kernel
theorem dX10_forgets_1 : decode cX10_forgets 1 = .ok (.iconst 0, 1) := by decide +kernel
theorem dX10_forgets_2 : decode cX10_forgets 2 = .ok (.putfield 251, 3) := by decide +kernel
theorem dX10_forgets_5 : decode cX10_forgets 5 = .ok (.aload_n 0, 1) := by decide +kernel
theorem dX10_forgets_6 : decode cX10_forgets 6 = .ok (.getfield 107, 3) := by decide +kernel
theorem dX10_forgets_9 : decode cX10_forgets 9 = .ok (.iconst 0, 1) := by decide +kernel
theorem dX10_forgets_10 : decode cX10_forgets 10 = .ok (.iconst 0, 1) := by decide +kernel
theorem dX10_forgets_11 : decode cX10_forgets 11 = .ok (.bastore, 1) := by decide +kernel
theorem dX10_forgets_12 : decode cX10_forgets 12 = .ok (.aload_n 0, 1) := by decide +kernel
theorem dX10_forgets_13 : decode cX10_forgets 13 = .ok (.getfield 107, 3) := by decide +kernel
theorem dX10_forgets_16 : decode cX10_forgets 16 = .ok (.iconst 1, 1) := by decide +kernel
theorem dX10_forgets_17 : decode cX10_forgets 17 = .ok (.iconst 0, 1) := by decide +kernel
theorem dX10_forgets_18 : decode cX10_forgets 18 = .ok (.bastore, 1) := by decide +kernel
theorem dX10_forgets_19 : decode cX10_forgets 19 = .ok (.return_, 1) := by decide +kernel
theorem dX10_canBe_0 : decode cX10_canBe 0 = .ok (.iload_n 0, 1) := by decide +kernel
theorem dX10_canBe_1 : decode cX10_canBe 1 = .ok (.bipush 10, 2) := by decide +kernel
theorem dX10_canBe_3 : decode cX10_canBe 3 = .ok (.if_icmp .eq 14, 3) := by decide +kernel
theorem dX10_canBe_6 : decode cX10_canBe 6 = .ok (.iload_n 0, 1) := by decide +kernel
theorem dX10_canBe_7 : decode cX10_canBe 7 = .ok (.bipush 32, 2) := by decide +kernel
theorem dX10_canBe_9 : decode cX10_canBe 9 = .ok (.bipush 126, 2) := by decide +kernel
theorem dX10_canBe_11 : decode cX10_canBe 11 = .ok (.invokestatic 130, 3) := by decide +kernel
theorem dX10_canBe_14 : decode cX10_canBe 14 = .ok (.ifCond .eq 7, 3) := by decide +kernel
theorem dX10_canBe_17 : decode cX10_canBe 17 = .ok (.iconst 1, 1) := by decide +kernel
theorem dX10_canBe_18 : decode cX10_canBe 18 = .ok (.goto 4, 3) := by decide +kernel
theorem dX10_canBe_21 : decode cX10_canBe 21 = .ok (.iconst 0, 1) := by decide +kernel
theorem dX10_canBe_22 : decode cX10_canBe 22 = .ok (.ireturn, 1) := by decide +kernel
theorem dX10_refusal_0 : decode cX10_refusal 0 = .ok (.iload_n 1, 1) := by decide +kernel
theorem dX10_refusal_1 : decode cX10_refusal 1 = .ok (.iload_n 2, 1) := by decide +kernel
theorem dX10_refusal_2 : decode cX10_refusal 2 = .ok (.iadd, 1) := by decide +kernel
theorem dX10_refusal_3 : decode cX10_refusal 3 = .ok (.sipush 240, 3) := by decide +kernel
theorem dX10_refusal_6 : decode cX10_refusal 6 = .ok (.if_icmp .le 6, 3) := by decide +kernel
theorem dX10_refusal_9 : decode cX10_refusal 9 = .ok (.bipush (-2), 2) := by decide +kernel
theorem dX10_refusal_11 : decode cX10_refusal 11 = .ok (.ireturn, 1) := by decide +kernel
theorem dX10_refusal_12 : decode cX10_refusal 12 = .ok (.iconst 0, 1) := by decide +kernel
theorem dX10_refusal_13 : decode cX10_refusal 13 = .ok (.istore_n 3, 1) := by decide +kernel
theorem dX10_refusal_14 : decode cX10_refusal 14 = .ok (.iload_n 3, 1) := by decide +kernel
theorem dX10_refusal_15 : decode cX10_refusal 15 = .ok (.iload_n 2, 1) := by decide +kernel
theorem dX10_refusal_16 : decode cX10_refusal 16 = .ok (.if_icmp .ge 28, 3) := by decide +kernel
theorem dX10_refusal_19 : decode cX10_refusal 19 = .ok (.aload_n 0, 1) := by decide +kernel
theorem dX10_refusal_20 : decode cX10_refusal 20 = .ok (.getfield 38, 3) := by decide +kernel
theorem dX10_refusal_23 : decode cX10_refusal 23 = .ok (.iload_n 3, 1) := by decide +kernel
theorem dX10_refusal_24 : decode cX10_refusal 24 = .ok (.baload, 1) := by decide +kernel
theorem dX10_refusal_25 : decode cX10_refusal 25 = .ok (.sipush 255, 3) := by decide +kernel
theorem dX10_refusal_28 : decode cX10_refusal 28 = .ok (.iand, 1) := by decide +kernel
theorem dX10_refusal_29 : decode cX10_refusal 29 = .ok (.invokestatic 254, 3) := by decide +kernel
theorem dX10_refusal_32 : decode cX10_refusal 32 = .ok (.ifCond .ne 6, 3) := by decide +kernel
theorem dX10_refusal_35 : decode cX10_refusal 35 = .ok (.bipush (-3), 2) := by decide +kernel
theorem dX10_refusal_37 : decode cX10_refusal 37 = .ok (.ireturn, 1) := by decide +kernel
theorem dX10_refusal_38 : decode cX10_refusal 38 = .ok (.iinc 3 1, 3) := by decide +kernel
theorem dX10_refusal_41 : decode cX10_refusal 41 = .ok (.goto (-27), 3) := by decide +kernel
theorem dX10_refusal_44 : decode cX10_refusal 44 = .ok (.iconst 0, 1) := by decide +kernel
theorem dX10_refusal_45 : decode cX10_refusal 45 = .ok (.ireturn, 1) := by decide +kernel
theorem dX10_load_0 : decode cX10_load 0 = .ok (.aload_n 0, 1) := by decide +kernel
theorem dX10_load_1 : decode cX10_load 1 = .ok (.iconst 0, 1) := by decide +kernel
theorem dX10_load_2 : decode cX10_load 2 = .ok (.putfield 117, 3) := by decide +kernel
theorem dX10_load_5 : decode cX10_load 5 = .ok (.aload_n 0, 1) := by decide +kernel
theorem dX10_load_6 : decode cX10_load 6 = .ok (.iload_n 1, 1) := by decide +kernel
theorem dX10_load_7 : decode cX10_load 7 = .ok (.iconst 0, 1) := by decide +kernel
theorem dX10_load_8 : decode cX10_load 8 = .ok (.aload_n 0, 1) := by decide +kernel
theorem dX10_load_9 : decode cX10_load 9 = .ok (.getfield 120, 3) := by decide +kernel
theorem dX10_load_12 : decode cX10_load 12 = .ok (.invokestatic 130, 3) := by decide +kernel
theorem dX10_load_15 : decode cX10_load 15 = .ok (.ifCond .ne 7, 3) := by decide +kernel
theorem dX10_load_18 : decode cX10_load 18 = .ok (.iconst 1, 1) := by decide +kernel
theorem dX10_load_19 : decode cX10_load 19 = .ok (.goto 4, 3) := by decide +kernel
theorem dX10_load_22 : decode cX10_load 22 = .ok (.iconst 0, 1) := by decide +kernel
theorem dX10_load_23 : decode cX10_load 23 = .ok (.iconst 1, 1) := by decide +kernel
theorem dX10_load_24 : decode cX10_load 24 = .ok (.invokevirtual 227, 3) := by decide +kernel
theorem dX10_load_27 : decode cX10_load 27 = .ok (.ifCond .eq 5, 3) := by decide +kernel
theorem dX10_load_30 : decode cX10_load 30 = .ok (.iconst 0, 1) := by decide +kernel
theorem dX10_load_31 : decode cX10_load 31 = .ok (.ireturn, 1) := by decide +kernel
theorem dX10_load_32 : decode cX10_load 32 = .ok (.aload_n 0, 1) := by decide +kernel
theorem dX10_load_33 : decode cX10_load 33 = .ok (.iconst 0, 1) := by decide +kernel
theorem dX10_load_34 : decode cX10_load 34 = .ok (.putfield 120, 3) := by decide +kernel
theorem dX10_load_37 : decode cX10_load 37 = .ok (.aload_n 0, 1) := by decide +kernel
theorem dX10_load_38 : decode cX10_load 38 = .ok (.iconst 0, 1) := by decide +kernel
theorem dX10_load_39 : decode cX10_load 39 = .ok (.iload_n 1, 1) := by decide +kernel
theorem dX10_load_40 : decode cX10_load 40 = .ok (.invokevirtual 257, 3) := by decide +kernel
theorem dX10_load_43 : decode cX10_load 43 = .ok (.istore_n 2, 1) := by decide +kernel
theorem dX10_load_44 : decode cX10_load 44 = .ok (.iload_n 2, 1) := by decide +kernel
theorem dX10_load_45 : decode cX10_load 45 = .ok (.ifCond .eq 5, 3) := by decide +kernel
theorem dX10_load_48 : decode cX10_load 48 = .ok (.iload_n 2, 1) := by decide +kernel
theorem dX10_load_49 : decode cX10_load 49 = .ok (.ireturn, 1) := by decide +kernel
theorem dX10_load_50 : decode cX10_load 50 = .ok (.aload_n 0, 1) := by decide +kernel
theorem dX10_load_51 : decode cX10_load 51 = .ok (.getfield 35, 3) := by decide +kernel
theorem dX10_load_54 : decode cX10_load 54 = .ok (.iconst 0, 1) := by decide +kernel
theorem dX10_load_55 : decode cX10_load 55 = .ok (.iload_n 1, 1) := by decide +kernel
theorem dX10_load_56 : decode cX10_load 56 = .ok (.iastore, 1) := by decide +kernel
theorem dX10_load_57 : decode cX10_load 57 = .ok (.aload_n 0, 1) := by decide +kernel
theorem dX10_load_58 : decode cX10_load 58 = .ok (.getfield 35, 3) := by decide +kernel
theorem dX10_load_61 : decode cX10_load 61 = .ok (.iconst 1, 1) := by decide +kernel
theorem dX10_load_62 : decode cX10_load 62 = .ok (.iconst 0, 1) := by decide +kernel
theorem dX10_load_63 : decode cX10_load 63 = .ok (.iastore, 1) := by decide +kernel
theorem dX10_load_64 : decode cX10_load 64 = .ok (.iconst 0, 1) := by decide +kernel
theorem dX10_load_65 : decode cX10_load 65 = .ok (.istore_n 3, 1) := by decide +kernel
theorem dX10_load_66 : decode cX10_load 66 = .ok (.iload_n 3, 1) := by decide +kernel
theorem dX10_load_67 : decode cX10_load 67 = .ok (.iload_n 1, 1) := by decide +kernel
theorem dX10_load_68 : decode cX10_load 68 = .ok (.if_icmp .ge 24, 3) := by decide +kernel
theorem dX10_load_71 : decode cX10_load 71 = .ok (.aload_n 0, 1) := by decide +kernel
theorem dX10_load_72 : decode cX10_load 72 = .ok (.getfield 35, 3) := by decide +kernel
theorem dX10_load_75 : decode cX10_load 75 = .ok (.bipush 14, 2) := by decide +kernel
theorem dX10_load_77 : decode cX10_load 77 = .ok (.iload_n 3, 1) := by decide +kernel
theorem dX10_load_78 : decode cX10_load 78 = .ok (.iadd, 1) := by decide +kernel
theorem dX10_load_79 : decode cX10_load 79 = .ok (.aload_n 0, 1) := by decide +kernel
theorem dX10_load_80 : decode cX10_load 80 = .ok (.getfield 38, 3) := by decide +kernel
theorem dX10_load_83 : decode cX10_load 83 = .ok (.iload_n 3, 1) := by decide +kernel
theorem dX10_load_84 : decode cX10_load 84 = .ok (.baload, 1) := by decide +kernel
theorem dX10_load_85 : decode cX10_load 85 = .ok (.iastore, 1) := by decide +kernel
theorem dX10_load_86 : decode cX10_load 86 = .ok (.iinc 3 1, 3) := by decide +kernel
theorem dX10_load_89 : decode cX10_load 89 = .ok (.goto (-23), 3) := by decide +kernel
theorem dX10_load_92 : decode cX10_load 92 = .ok (.aload_n 0, 1) := by decide +kernel
theorem dX10_load_93 : decode cX10_load 93 = .ok (.invokevirtual 248, 3) := by decide +kernel
theorem dX10_load_96 : decode cX10_load 96 = .ok (.aload_n 0, 1) := by decide +kernel
theorem dX10_load_97 : decode cX10_load 97 = .ok (.iconst (-1), 1) := by decide +kernel
theorem dX10_load_98 : decode cX10_load 98 = .ok (.invokevirtual 261, 3) := by decide +kernel
theorem dX10_load_101 : decode cX10_load 101 = .ok (.aload_n 0, 1) := by decide +kernel
theorem dX10_load_102 : decode cX10_load 102 = .ok (.getfield 264, 3) := by decide +kernel
theorem dX10_load_105 : decode cX10_load 105 = .ok (.ireturn, 1) := by decide +kernel
theorem dX10_errorPosition_0 : decode cX10_errorPosition 0 = .ok (.aload_n 0, 1) := by decide +kernel
theorem dX10_errorPosition_1 : decode cX10_errorPosition 1 = .ok (.iconst 0, 1) := by decide +kernel
theorem dX10_errorPosition_2 : decode cX10_errorPosition 2 = .ok (.putfield 117, 3) := by decide +kernel
theorem dX10_errorPosition_5 : decode cX10_errorPosition 5 = .ok (.aload_n 0, 1) := by decide +kernel
theorem dX10_errorPosition_6 : decode cX10_errorPosition 6 = .ok (.getfield 42, 3) := by decide +kernel
theorem dX10_errorPosition_9 : decode cX10_errorPosition 9 = .ok (.ireturn, 1) := by decide +kernel
theorem dX10_kindAt_0 : decode cX10_kindAt 0 = .ok (.iconst 0, 1) := by decide +kernel
theorem dX10_kindAt_1 : decode cX10_kindAt 1 = .ok (.istore_n 3, 1) := by decide +kernel
theorem dX10_kindAt_2 : decode cX10_kindAt 2 = .ok (.iload_n 3, 1) := by decide +kernel
theorem dX10_kindAt_3 : decode cX10_kindAt 3 = .ok (.aload_n 0, 1) := by decide +kernel
theorem dX10_kindAt_4 : decode cX10_kindAt 4 = .ok (.getfield 110, 3) := by decide +kernel
theorem dX10_kindAt_7 : decode cX10_kindAt 7 = .ok (.if_icmp .ge 18, 3) := by decide +kernel
theorem dX10_kindAt_10 : decode cX10_kindAt 10 = .ok (.aload_n 1, 1) := by decide +kernel
theorem dX10_kindAt_11 : decode cX10_kindAt 11 = .ok (.iload_n 3, 1) := by decide +kernel
theorem dX10_kindAt_12 : decode cX10_kindAt 12 = .ok (.iaload, 1) := by decide +kernel
theorem dX10_kindAt_13 : decode cX10_kindAt 13 = .ok (.iload_n 2, 1) := by decide +kernel
theorem dX10_kindAt_14 : decode cX10_kindAt 14 = .ok (.if_icmp .ne 5, 3) := by decide +kernel
theorem dX10_kindAt_17 : decode cX10_kindAt 17 = .ok (.iload_n 3, 1) := by decide +kernel
theorem dX10_kindAt_18 : decode cX10_kindAt 18 = .ok (.ireturn, 1) := by decide +kernel
theorem dX10_kindAt_19 : decode cX10_kindAt 19 = .ok (.iinc 3 1, 3) := by decide +kernel
theorem dX10_kindAt_22 : decode cX10_kindAt 22 = .ok (.goto (-20), 3) := by decide +kernel
theorem dX10_kindAt_25 : decode cX10_kindAt 25 = .ok (.iconst (-1), 1) := by decide +kernel
theorem dX10_kindAt_26 : decode cX10_kindAt 26 = .ok (.ireturn, 1) := by decide +kernel
theorem dX10_finds_0 : decode cX10_finds 0 = .ok (.aload_n 0, 1) := by decide +kernel
theorem dX10_finds_1 : decode cX10_finds 1 = .ok (.iconst 0, 1) := by decide +kernel
theorem dX10_finds_2 : decode cX10_finds 2 = .ok (.putfield 264, 3) := by decide +kernel
theorem dX10_finds_5 : decode cX10_finds 5 = .ok (.iconst 0, 1) := by decide +kernel
theorem dX10_finds_6 : decode cX10_finds 6 = .ok (.istore_n 2, 1) := by decide +kernel
theorem dX10_finds_7 : decode cX10_finds 7 = .ok (.iconst 0, 1) := by decide +kernel
theorem dX10_finds_8 : decode cX10_finds 8 = .ok (.istore_n 3, 1) := by decide +kernel
theorem dX10_finds_9 : decode cX10_finds 9 = .ok (.iconst 0, 1) := by decide +kernel
theorem dX10_finds_10 : decode cX10_finds 10 = .ok (.istore 4, 2) := by decide +kernel
theorem dX10_finds_12 : decode cX10_finds 12 = .ok (.iload 4, 2) := by decide +kernel
theorem dX10_finds_14 : decode cX10_finds 14 = .ok (.aload_n 0, 1) := by decide +kernel
theorem dX10_finds_15 : decode cX10_finds 15 = .ok (.getfield 35, 3) := by decide +kernel
theorem dX10_finds_18 : decode cX10_finds 18 = .ok (.iconst 0, 1) := by decide +kernel
theorem dX10_finds_19 : decode cX10_finds 19 = .ok (.iaload, 1) := by decide +kernel
theorem dX10_finds_20 : decode cX10_finds 20 = .ok (.if_icmp .ge 171, 3) := by decide +kernel
theorem dX10_finds_23 : decode cX10_finds 23 = .ok (.iload 4, 2) := by decide +kernel
theorem dX10_finds_25 : decode cX10_finds 25 = .ok (.iload_n 1, 1) := by decide +kernel
theorem dX10_finds_26 : decode cX10_finds 26 = .ok (.if_icmp .ne 6, 3) := by decide +kernel
theorem dX10_finds_29 : decode cX10_finds 29 = .ok (.goto 156, 3) := by decide +kernel
theorem dX10_finds_32 : decode cX10_finds 32 = .ok (.aload_n 0, 1) := by decide +kernel
theorem dX10_finds_33 : decode cX10_finds 33 = .ok (.getfield 35, 3) := by decide +kernel
theorem dX10_finds_36 : decode cX10_finds 36 = .ok (.bipush 14, 2) := by decide +kernel
theorem dX10_finds_38 : decode cX10_finds 38 = .ok (.iload 4, 2) := by decide +kernel
theorem dX10_finds_40 : decode cX10_finds 40 = .ok (.iadd, 1) := by decide +kernel
theorem dX10_finds_41 : decode cX10_finds 41 = .ok (.iaload, 1) := by decide +kernel
theorem dX10_finds_42 : decode cX10_finds 42 = .ok (.istore 5, 2) := by decide +kernel
theorem dX10_finds_44 : decode cX10_finds 44 = .ok (.iload_n 2, 1) := by decide +kernel
theorem dX10_finds_45 : decode cX10_finds 45 = .ok (.iconst 1, 1) := by decide +kernel
theorem dX10_finds_46 : decode cX10_finds 46 = .ok (.if_icmp .ne 64, 3) := by decide +kernel
theorem dX10_finds_49 : decode cX10_finds 49 = .ok (.aload_n 0, 1) := by decide +kernel
theorem dX10_finds_50 : decode cX10_finds 50 = .ok (.getfield 45, 3) := by decide +kernel
theorem dX10_finds_53 : decode cX10_finds 53 = .ok (.iload 4, 2) := by decide +kernel
theorem dX10_finds_55 : decode cX10_finds 55 = .ok (.iconst 1, 1) := by decide +kernel
theorem dX10_finds_56 : decode cX10_finds 56 = .ok (.iastore, 1) := by decide +kernel
theorem dX10_finds_57 : decode cX10_finds 57 = .ok (.iload 5, 2) := by decide +kernel
theorem dX10_finds_59 : decode cX10_finds 59 = .ok (.aload_n 0, 1) := by decide +kernel
theorem dX10_finds_60 : decode cX10_finds 60 = .ok (.getfield 16, 3) := by decide +kernel
theorem dX10_finds_63 : decode cX10_finds 63 = .ok (.if_icmp .ne 11, 3) := by decide +kernel
theorem dX10_finds_66 : decode cX10_finds 66 = .ok (.iload_n 3, 1) := by decide +kernel
theorem dX10_finds_67 : decode cX10_finds 67 = .ok (.ifCond .ne 7, 3) := by decide +kernel
theorem dX10_finds_70 : decode cX10_finds 70 = .ok (.iconst 1, 1) := by decide +kernel
theorem dX10_finds_71 : decode cX10_finds 71 = .ok (.goto 4, 3) := by decide +kernel
theorem dX10_finds_74 : decode cX10_finds 74 = .ok (.iconst 0, 1) := by decide +kernel
theorem dX10_finds_75 : decode cX10_finds 75 = .ok (.istore 6, 2) := by decide +kernel
theorem dX10_finds_77 : decode cX10_finds 77 = .ok (.iload 5, 2) := by decide +kernel
theorem dX10_finds_79 : decode cX10_finds 79 = .ok (.aload_n 0, 1) := by decide +kernel
theorem dX10_finds_80 : decode cX10_finds 80 = .ok (.getfield 20, 3) := by decide +kernel
theorem dX10_finds_83 : decode cX10_finds 83 = .ok (.if_icmp .ne 11, 3) := by decide +kernel
theorem dX10_finds_86 : decode cX10_finds 86 = .ok (.iload_n 3, 1) := by decide +kernel
theorem dX10_finds_87 : decode cX10_finds 87 = .ok (.ifCond .ne 7, 3) := by decide +kernel
theorem dX10_finds_90 : decode cX10_finds 90 = .ok (.iconst 1, 1) := by decide +kernel
theorem dX10_finds_91 : decode cX10_finds 91 = .ok (.goto 4, 3) := by decide +kernel
theorem dX10_finds_94 : decode cX10_finds 94 = .ok (.iconst 0, 1) := by decide +kernel
theorem dX10_finds_95 : decode cX10_finds 95 = .ok (.istore_n 3, 1) := by decide +kernel
theorem dX10_finds_96 : decode cX10_finds 96 = .ok (.iload 6, 2) := by decide +kernel
theorem dX10_finds_98 : decode cX10_finds 98 = .ok (.ifCond .eq 7, 3) := by decide +kernel
theorem dX10_finds_101 : decode cX10_finds 101 = .ok (.iconst 0, 1) := by decide +kernel
theorem dX10_finds_102 : decode cX10_finds 102 = .ok (.goto 4, 3) := by decide +kernel
theorem dX10_finds_105 : decode cX10_finds 105 = .ok (.iconst 1, 1) := by decide +kernel
theorem dX10_finds_106 : decode cX10_finds 106 = .ok (.istore_n 2, 1) := by decide +kernel
theorem dX10_finds_107 : decode cX10_finds 107 = .ok (.goto 78, 3) := by decide +kernel
theorem dX10_finds_110 : decode cX10_finds 110 = .ok (.iload_n 2, 1) := by decide +kernel
theorem dX10_finds_111 : decode cX10_finds 111 = .ok (.iconst 2, 1) := by decide +kernel
theorem dX10_finds_112 : decode cX10_finds 112 = .ok (.if_icmp .ne 27, 3) := by decide +kernel
theorem dX10_finds_115 : decode cX10_finds 115 = .ok (.iload 5, 2) := by decide +kernel
theorem dX10_finds_117 : decode cX10_finds 117 = .ok (.bipush 10, 2) := by decide +kernel
theorem dX10_finds_119 : decode cX10_finds 119 = .ok (.if_icmp .ne 7, 3) := by decide +kernel
theorem dX10_finds_122 : decode cX10_finds 122 = .ok (.iconst 0, 1) := by decide +kernel
theorem dX10_finds_123 : decode cX10_finds 123 = .ok (.goto 4, 3) := by decide +kernel
theorem dX10_finds_126 : decode cX10_finds 126 = .ok (.iconst 2, 1) := by decide +kernel
theorem dX10_finds_127 : decode cX10_finds 127 = .ok (.istore_n 2, 1) := by decide +kernel
theorem dX10_finds_128 : decode cX10_finds 128 = .ok (.aload_n 0, 1) := by decide +kernel
theorem dX10_finds_129 : decode cX10_finds 129 = .ok (.getfield 45, 3) := by decide +kernel
theorem dX10_finds_132 : decode cX10_finds 132 = .ok (.iload 4, 2) := by decide +kernel
theorem dX10_finds_134 : decode cX10_finds 134 = .ok (.iload_n 2, 1) := by decide +kernel
theorem dX10_finds_135 : decode cX10_finds 135 = .ok (.iastore, 1) := by decide +kernel
theorem dX10_finds_136 : decode cX10_finds 136 = .ok (.goto 49, 3) := by decide +kernel
theorem dX10_finds_139 : decode cX10_finds 139 = .ok (.iload 5, 2) := by decide +kernel
theorem dX10_finds_141 : decode cX10_finds 141 = .ok (.aload_n 0, 1) := by decide +kernel
theorem dX10_finds_142 : decode cX10_finds 142 = .ok (.getfield 16, 3) := by decide +kernel
theorem dX10_finds_145 : decode cX10_finds 145 = .ok (.if_icmp .ne 7, 3) := by decide +kernel
theorem dX10_finds_148 : decode cX10_finds 148 = .ok (.iconst 1, 1) := by decide +kernel
theorem dX10_finds_149 : decode cX10_finds 149 = .ok (.goto 17, 3) := by decide +kernel
theorem dX10_finds_152 : decode cX10_finds 152 = .ok (.iload 5, 2) := by decide +kernel
theorem dX10_finds_154 : decode cX10_finds 154 = .ok (.aload_n 0, 1) := by decide +kernel
theorem dX10_finds_155 : decode cX10_finds 155 = .ok (.getfield 23, 3) := by decide +kernel
theorem dX10_finds_158 : decode cX10_finds 158 = .ok (.if_icmp .ne 7, 3) := by decide +kernel
theorem dX10_finds_161 : decode cX10_finds 161 = .ok (.iconst 2, 1) := by decide +kernel
theorem dX10_finds_162 : decode cX10_finds 162 = .ok (.goto 4, 3) := by decide +kernel
theorem dX10_finds_165 : decode cX10_finds 165 = .ok (.iconst 0, 1) := by decide +kernel
theorem dX10_finds_166 : decode cX10_finds 166 = .ok (.istore_n 2, 1) := by decide +kernel
theorem dX10_finds_167 : decode cX10_finds 167 = .ok (.iconst 0, 1) := by decide +kernel
theorem dX10_finds_168 : decode cX10_finds 168 = .ok (.istore_n 3, 1) := by decide +kernel
theorem dX10_finds_169 : decode cX10_finds 169 = .ok (.aload_n 0, 1) := by decide +kernel
theorem dX10_finds_170 : decode cX10_finds 170 = .ok (.getfield 45, 3) := by decide +kernel
theorem dX10_finds_173 : decode cX10_finds 173 = .ok (.iload 4, 2) := by decide +kernel
theorem dX10_finds_175 : decode cX10_finds 175 = .ok (.iload_n 2, 1) := by decide +kernel
theorem dX10_finds_176 : decode cX10_finds 176 = .ok (.iastore, 1) := by decide +kernel
theorem dX10_finds_177 : decode cX10_finds 177 = .ok (.aload_n 0, 1) := by decide +kernel
theorem dX10_finds_178 : decode cX10_finds 178 = .ok (.iload 4, 2) := by decide +kernel
theorem dX10_finds_180 : decode cX10_finds 180 = .ok (.iload 5, 2) := by decide +kernel
theorem dX10_finds_182 : decode cX10_finds 182 = .ok (.invokevirtual 267, 3) := by decide +kernel
theorem dX10_finds_185 : decode cX10_finds 185 = .ok (.iinc 4 1, 3) := by decide +kernel
theorem dX10_finds_188 : decode cX10_finds 188 = .ok (.goto (-176), 3) := by decide +kernel
theorem dX10_finds_191 : decode cX10_finds 191 = .ok (.return_, 1) := by decide +kernel
theorem dX10_bracket_0 : decode cX10_bracket 0 = .ok (.aload_n 0, 1) := by decide +kernel
theorem dX10_bracket_1 : decode cX10_bracket 1 = .ok (.aload_n 0, 1) := by decide +kernel
theorem dX10_bracket_2 : decode cX10_bracket 2 = .ok (.getfield 7, 3) := by decide +kernel
theorem dX10_bracket_5 : decode cX10_bracket 5 = .ok (.iload_n 2, 1) := by decide +kernel
theorem dX10_bracket_6 : decode cX10_bracket 6 = .ok (.invokevirtual 271, 3) := by decide +kernel
theorem dX10_bracket_9 : decode cX10_bracket 9 = .ok (.istore_n 3, 1) := by decide +kernel
theorem dX10_bracket_10 : decode cX10_bracket 10 = .ok (.aload_n 0, 1) := by decide +kernel
theorem dX10_bracket_11 : decode cX10_bracket 11 = .ok (.aload_n 0, 1) := by decide +kernel
theorem dX10_bracket_12 : decode cX10_bracket 12 = .ok (.getfield 13, 3) := by decide +kernel
theorem dX10_bracket_15 : decode cX10_bracket 15 = .ok (.iload_n 2, 1) := by decide +kernel
theorem dX10_bracket_16 : decode cX10_bracket 16 = .ok (.invokevirtual 271, 3) := by decide +kernel
theorem dX10_bracket_19 : decode cX10_bracket 19 = .ok (.istore 4, 2) := by decide +kernel
theorem dX10_bracket_21 : decode cX10_bracket 21 = .ok (.iload_n 3, 1) := by decide +kernel
theorem dX10_bracket_22 : decode cX10_bracket 22 = .ok (.iconst (-1), 1) := by decide +kernel
theorem dX10_bracket_23 : decode cX10_bracket 23 = .ok (.if_icmp .ne 10, 3) := by decide +kernel
theorem dX10_bracket_26 : decode cX10_bracket 26 = .ok (.iload 4, 2) := by decide +kernel
theorem dX10_bracket_28 : decode cX10_bracket 28 = .ok (.iconst (-1), 1) := by decide +kernel
theorem dX10_bracket_29 : decode cX10_bracket 29 = .ok (.if_icmp .ne 4, 3) := by decide +kernel
theorem dX10_bracket_32 : decode cX10_bracket 32 = .ok (.return_, 1) := by decide +kernel
theorem dX10_bracket_33 : decode cX10_bracket 33 = .ok (.aload_n 0, 1) := by decide +kernel
theorem dX10_bracket_34 : decode cX10_bracket 34 = .ok (.getfield 48, 3) := by decide +kernel
theorem dX10_bracket_37 : decode cX10_bracket 37 = .ok (.aload_n 0, 1) := by decide +kernel
theorem dX10_bracket_38 : decode cX10_bracket 38 = .ok (.getfield 264, 3) := by decide +kernel
theorem dX10_bracket_41 : decode cX10_bracket 41 = .ok (.iload_n 1, 1) := by decide +kernel
theorem dX10_bracket_42 : decode cX10_bracket 42 = .ok (.iastore, 1) := by decide +kernel
theorem dX10_bracket_43 : decode cX10_bracket 43 = .ok (.aload_n 0, 1) := by decide +kernel
theorem dX10_bracket_44 : decode cX10_bracket 44 = .ok (.getfield 51, 3) := by decide +kernel
theorem dX10_bracket_47 : decode cX10_bracket 47 = .ok (.aload_n 0, 1) := by decide +kernel
theorem dX10_bracket_48 : decode cX10_bracket 48 = .ok (.getfield 264, 3) := by decide +kernel
theorem dX10_bracket_51 : decode cX10_bracket 51 = .ok (.iload_n 3, 1) := by decide +kernel
theorem dX10_bracket_52 : decode cX10_bracket 52 = .ok (.iconst (-1), 1) := by decide +kernel
theorem dX10_bracket_53 : decode cX10_bracket 53 = .ok (.if_icmp .eq 7, 3) := by decide +kernel
theorem dX10_bracket_56 : decode cX10_bracket 56 = .ok (.iload_n 3, 1) := by decide +kernel
theorem dX10_bracket_57 : decode cX10_bracket 57 = .ok (.goto 5, 3) := by decide +kernel
theorem dX10_bracket_60 : decode cX10_bracket 60 = .ok (.iload 4, 2) := by decide +kernel
theorem dX10_bracket_62 : decode cX10_bracket 62 = .ok (.iastore, 1) := by decide +kernel
theorem dX10_bracket_63 : decode cX10_bracket 63 = .ok (.aload_n 0, 1) := by decide +kernel
theorem dX10_bracket_64 : decode cX10_bracket 64 = .ok (.getfield 54, 3) := by decide +kernel
theorem dX10_bracket_67 : decode cX10_bracket 67 = .ok (.aload_n 0, 1) := by decide +kernel
theorem dX10_bracket_68 : decode cX10_bracket 68 = .ok (.getfield 264, 3) := by decide +kernel
theorem dX10_bracket_71 : decode cX10_bracket 71 = .ok (.iload_n 3, 1) := by decide +kernel
theorem dX10_bracket_72 : decode cX10_bracket 72 = .ok (.iconst (-1), 1) := by decide +kernel
theorem dX10_bracket_73 : decode cX10_bracket 73 = .ok (.if_icmp .eq 7, 3) := by decide +kernel
theorem dX10_bracket_76 : decode cX10_bracket 76 = .ok (.iconst 1, 1) := by decide +kernel
theorem dX10_bracket_77 : decode cX10_bracket 77 = .ok (.goto 4, 3) := by decide +kernel
theorem dX10_bracket_80 : decode cX10_bracket 80 = .ok (.iconst 0, 1) := by decide +kernel
theorem dX10_bracket_81 : decode cX10_bracket 81 = .ok (.bastore, 1) := by decide +kernel
theorem dX10_bracket_82 : decode cX10_bracket 82 = .ok (.aload_n 0, 1) := by decide +kernel
theorem dX10_bracket_83 : decode cX10_bracket 83 = .ok (.dup, 1) := by decide +kernel
theorem dX10_bracket_84 : decode cX10_bracket 84 = .ok (.getfield 264, 3) := by decide +kernel
theorem dX10_bracket_87 : decode cX10_bracket 87 = .ok (.iconst 1, 1) := by decide +kernel
theorem dX10_bracket_88 : decode cX10_bracket 88 = .ok (.iadd, 1) := by decide +kernel
theorem dX10_bracket_89 : decode cX10_bracket 89 = .ok (.putfield 264, 3) := by decide +kernel
theorem dX10_bracket_92 : decode cX10_bracket 92 = .ok (.return_, 1) := by decide +kernel
theorem dX10_findsPairs_0 : decode cX10_findsPairs 0 = .ok (.aload_n 0, 1) := by decide +kernel
theorem dX10_findsPairs_1 : decode cX10_findsPairs 1 = .ok (.iconst (-1), 1) := by decide +kernel
theorem dX10_findsPairs_2 : decode cX10_findsPairs 2 = .ok (.invokevirtual 261, 3) := by decide +kernel
theorem dX10_findsPairs_5 : decode cX10_findsPairs 5 = .ok (.iconst 0, 1) := by decide +kernel
theorem dX10_findsPairs_6 : decode cX10_findsPairs 6 = .ok (.istore_n 1, 1) := by decide +kernel
theorem dX10_findsPairs_7 : decode cX10_findsPairs 7 = .ok (.iconst 0, 1) := by decide +kernel
theorem dX10_findsPairs_8 : decode cX10_findsPairs 8 = .ok (.istore_n 2, 1) := by decide +kernel
theorem dX10_findsPairs_9 : decode cX10_findsPairs 9 = .ok (.iload_n 2, 1) := by decide +kernel
theorem dX10_findsPairs_10 : decode cX10_findsPairs 10 = .ok (.aload_n 0, 1) := by decide +kernel
theorem dX10_findsPairs_11 : decode cX10_findsPairs 11 = .ok (.getfield 264, 3) := by decide +kernel
theorem dX10_findsPairs_14 : decode cX10_findsPairs 14 = .ok (.if_icmp .ge 102, 3) := by decide +kernel
theorem dX10_findsPairs_17 : decode cX10_findsPairs 17 = .ok (.aload_n 0, 1) := by decide +kernel
theorem dX10_findsPairs_18 : decode cX10_findsPairs 18 = .ok (.getfield 58, 3) := by decide +kernel
theorem dX10_findsPairs_21 : decode cX10_findsPairs 21 = .ok (.iload_n 2, 1) := by decide +kernel
theorem dX10_findsPairs_22 : decode cX10_findsPairs 22 = .ok (.iconst (-1), 1) := by decide +kernel
theorem dX10_findsPairs_23 : decode cX10_findsPairs 23 = .ok (.iastore, 1) := by decide +kernel
theorem dX10_findsPairs_24 : decode cX10_findsPairs 24 = .ok (.aload_n 0, 1) := by decide +kernel
theorem dX10_findsPairs_25 : decode cX10_findsPairs 25 = .ok (.getfield 54, 3) := by decide +kernel
theorem dX10_findsPairs_28 : decode cX10_findsPairs 28 = .ok (.iload_n 2, 1) := by decide +kernel
theorem dX10_findsPairs_29 : decode cX10_findsPairs 29 = .ok (.baload, 1) := by decide +kernel
theorem dX10_findsPairs_30 : decode cX10_findsPairs 30 = .ok (.ifCond .eq 16, 3) := by decide +kernel
theorem dX10_findsPairs_33 : decode cX10_findsPairs 33 = .ok (.aload_n 0, 1) := by decide +kernel
theorem dX10_findsPairs_34 : decode cX10_findsPairs 34 = .ok (.getfield 61, 3) := by decide +kernel
theorem dX10_findsPairs_37 : decode cX10_findsPairs 37 = .ok (.iload_n 1, 1) := by decide +kernel
theorem dX10_findsPairs_38 : decode cX10_findsPairs 38 = .ok (.iload_n 2, 1) := by decide +kernel
theorem dX10_findsPairs_39 : decode cX10_findsPairs 39 = .ok (.iastore, 1) := by decide +kernel
theorem dX10_findsPairs_40 : decode cX10_findsPairs 40 = .ok (.iinc 1 1, 3) := by decide +kernel
theorem dX10_findsPairs_43 : decode cX10_findsPairs 43 = .ok (.goto 67, 3) := by decide +kernel
theorem dX10_findsPairs_46 : decode cX10_findsPairs 46 = .ok (.iload_n 1, 1) := by decide +kernel
theorem dX10_findsPairs_47 : decode cX10_findsPairs 47 = .ok (.iconst 1, 1) := by decide +kernel
theorem dX10_findsPairs_48 : decode cX10_findsPairs 48 = .ok (.isub, 1) := by decide +kernel
theorem dX10_findsPairs_49 : decode cX10_findsPairs 49 = .ok (.istore_n 3, 1) := by decide +kernel
theorem dX10_findsPairs_50 : decode cX10_findsPairs 50 = .ok (.iload_n 3, 1) := by decide +kernel
theorem dX10_findsPairs_51 : decode cX10_findsPairs 51 = .ok (.ifCond .lt 29, 3) := by decide +kernel
theorem dX10_findsPairs_54 : decode cX10_findsPairs 54 = .ok (.aload_n 0, 1) := by decide +kernel
theorem dX10_findsPairs_55 : decode cX10_findsPairs 55 = .ok (.getfield 51, 3) := by decide +kernel
theorem dX10_findsPairs_58 : decode cX10_findsPairs 58 = .ok (.aload_n 0, 1) := by decide +kernel
theorem dX10_findsPairs_59 : decode cX10_findsPairs 59 = .ok (.getfield 61, 3) := by decide +kernel
theorem dX10_findsPairs_62 : decode cX10_findsPairs 62 = .ok (.iload_n 3, 1) := by decide +kernel
theorem dX10_findsPairs_63 : decode cX10_findsPairs 63 = .ok (.iaload, 1) := by decide +kernel
theorem dX10_findsPairs_64 : decode cX10_findsPairs 64 = .ok (.iaload, 1) := by decide +kernel
theorem dX10_findsPairs_65 : decode cX10_findsPairs 65 = .ok (.aload_n 0, 1) := by decide +kernel
theorem dX10_findsPairs_66 : decode cX10_findsPairs 66 = .ok (.getfield 51, 3) := by decide +kernel
theorem dX10_findsPairs_69 : decode cX10_findsPairs 69 = .ok (.iload_n 2, 1) := by decide +kernel
theorem dX10_findsPairs_70 : decode cX10_findsPairs 70 = .ok (.iaload, 1) := by decide +kernel
theorem dX10_findsPairs_71 : decode cX10_findsPairs 71 = .ok (.if_icmp .eq 9, 3) := by decide +kernel
theorem dX10_findsPairs_74 : decode cX10_findsPairs 74 = .ok (.iinc 3 (-1), 3) := by decide +kernel
theorem dX10_findsPairs_77 : decode cX10_findsPairs 77 = .ok (.goto (-27), 3) := by decide +kernel
theorem dX10_findsPairs_80 : decode cX10_findsPairs 80 = .ok (.iload_n 3, 1) := by decide +kernel
theorem dX10_findsPairs_81 : decode cX10_findsPairs 81 = .ok (.ifCond .lt 29, 3) := by decide +kernel
theorem dX10_findsPairs_84 : decode cX10_findsPairs 84 = .ok (.aload_n 0, 1) := by decide +kernel
theorem dX10_findsPairs_85 : decode cX10_findsPairs 85 = .ok (.getfield 58, 3) := by decide +kernel
theorem dX10_findsPairs_88 : decode cX10_findsPairs 88 = .ok (.iload_n 2, 1) := by decide +kernel
theorem dX10_findsPairs_89 : decode cX10_findsPairs 89 = .ok (.aload_n 0, 1) := by decide +kernel
theorem dX10_findsPairs_90 : decode cX10_findsPairs 90 = .ok (.getfield 61, 3) := by decide +kernel
theorem dX10_findsPairs_93 : decode cX10_findsPairs 93 = .ok (.iload_n 3, 1) := by decide +kernel
theorem dX10_findsPairs_94 : decode cX10_findsPairs 94 = .ok (.iaload, 1) := by decide +kernel
theorem dX10_findsPairs_95 : decode cX10_findsPairs 95 = .ok (.iastore, 1) := by decide +kernel
theorem dX10_findsPairs_96 : decode cX10_findsPairs 96 = .ok (.aload_n 0, 1) := by decide +kernel
theorem dX10_findsPairs_97 : decode cX10_findsPairs 97 = .ok (.getfield 58, 3) := by decide +kernel
theorem dX10_findsPairs_100 : decode cX10_findsPairs 100 = .ok (.aload_n 0, 1) := by decide +kernel
theorem dX10_findsPairs_101 : decode cX10_findsPairs 101 = .ok (.getfield 61, 3) := by decide +kernel
theorem dX10_findsPairs_104 : decode cX10_findsPairs 104 = .ok (.iload_n 3, 1) := by decide +kernel
theorem dX10_findsPairs_105 : decode cX10_findsPairs 105 = .ok (.iaload, 1) := by decide +kernel
theorem dX10_findsPairs_106 : decode cX10_findsPairs 106 = .ok (.iload_n 2, 1) := by decide +kernel
theorem dX10_findsPairs_107 : decode cX10_findsPairs 107 = .ok (.iastore, 1) := by decide +kernel
theorem dX10_findsPairs_108 : decode cX10_findsPairs 108 = .ok (.iload_n 3, 1) := by decide +kernel
theorem dX10_findsPairs_109 : decode cX10_findsPairs 109 = .ok (.istore_n 1, 1) := by decide +kernel
theorem dX10_findsPairs_110 : decode cX10_findsPairs 110 = .ok (.iinc 2 1, 3) := by decide +kernel
theorem dX10_findsPairs_113 : decode cX10_findsPairs 113 = .ok (.goto (-104), 3) := by decide +kernel
theorem dX10_findsPairs_116 : decode cX10_findsPairs 116 = .ok (.return_, 1) := by decide +kernel
theorem dX10_bracketAt_0 : decode cX10_bracketAt 0 = .ok (.iconst 0, 1) := by decide +kernel
theorem dX10_bracketAt_1 : decode cX10_bracketAt 1 = .ok (.istore_n 2, 1) := by decide +kernel
theorem dX10_bracketAt_2 : decode cX10_bracketAt 2 = .ok (.iload_n 2, 1) := by decide +kernel
theorem dX10_bracketAt_3 : decode cX10_bracketAt 3 = .ok (.aload_n 0, 1) := by decide +kernel
theorem dX10_bracketAt_4 : decode cX10_bracketAt 4 = .ok (.getfield 264, 3) := by decide +kernel
theorem dX10_bracketAt_7 : decode cX10_bracketAt 7 = .ok (.if_icmp .ge 21, 3) := by decide +kernel
theorem dX10_bracketAt_10 : decode cX10_bracketAt 10 = .ok (.aload_n 0, 1) := by decide +kernel
theorem dX10_bracketAt_11 : decode cX10_bracketAt 11 = .ok (.getfield 48, 3) := by decide +kernel
theorem dX10_bracketAt_14 : decode cX10_bracketAt 14 = .ok (.iload_n 2, 1) := by decide +kernel
theorem dX10_bracketAt_15 : decode cX10_bracketAt 15 = .ok (.iaload, 1) := by decide +kernel
theorem dX10_bracketAt_16 : decode cX10_bracketAt 16 = .ok (.iload_n 1, 1) := by decide +kernel
theorem dX10_bracketAt_17 : decode cX10_bracketAt 17 = .ok (.if_icmp .ne 5, 3) := by decide +kernel
theorem dX10_bracketAt_20 : decode cX10_bracketAt 20 = .ok (.iload_n 2, 1) := by decide +kernel
theorem dX10_bracketAt_21 : decode cX10_bracketAt 21 = .ok (.ireturn, 1) := by decide +kernel
theorem dX10_bracketAt_22 : decode cX10_bracketAt 22 = .ok (.iinc 2 1, 3) := by decide +kernel
theorem dX10_bracketAt_25 : decode cX10_bracketAt 25 = .ok (.goto (-23), 3) := by decide +kernel
theorem dX10_bracketAt_28 : decode cX10_bracketAt 28 = .ok (.iconst (-1), 1) := by decide +kernel
theorem dX10_bracketAt_29 : decode cX10_bracketAt 29 = .ok (.ireturn, 1) := by decide +kernel
theorem dX10_isPair_0 : decode cX10_isPair 0 = .ok (.aload_n 0, 1) := by decide +kernel
theorem dX10_isPair_1 : decode cX10_isPair 1 = .ok (.getfield 54, 3) := by decide +kernel
theorem dX10_isPair_4 : decode cX10_isPair 4 = .ok (.iload_n 1, 1) := by decide +kernel
theorem dX10_isPair_5 : decode cX10_isPair 5 = .ok (.baload, 1) := by decide +kernel
theorem dX10_isPair_6 : decode cX10_isPair 6 = .ok (.ifCond .eq 17, 3) := by decide +kernel
theorem dX10_isPair_9 : decode cX10_isPair 9 = .ok (.aload_n 0, 1) := by decide +kernel
theorem dX10_isPair_10 : decode cX10_isPair 10 = .ok (.getfield 58, 3) := by decide +kernel
theorem dX10_isPair_13 : decode cX10_isPair 13 = .ok (.iload_n 1, 1) := by decide +kernel
theorem dX10_isPair_14 : decode cX10_isPair 14 = .ok (.iaload, 1) := by decide +kernel
theorem dX10_isPair_15 : decode cX10_isPair 15 = .ok (.iconst (-1), 1) := by decide +kernel
theorem dX10_isPair_16 : decode cX10_isPair 16 = .ok (.if_icmp .eq 7, 3) := by decide +kernel
theorem dX10_isPair_19 : decode cX10_isPair 19 = .ok (.iconst 1, 1) := by decide +kernel
theorem dX10_isPair_20 : decode cX10_isPair 20 = .ok (.goto 4, 3) := by decide +kernel
theorem dX10_isPair_23 : decode cX10_isPair 23 = .ok (.iconst 0, 1) := by decide +kernel
theorem dX10_isPair_24 : decode cX10_isPair 24 = .ok (.ireturn, 1) := by decide +kernel
theorem dX10_end_0 : decode cX10_end 0 = .ok (.aload_n 0, 1) := by decide +kernel
theorem dX10_end_1 : decode cX10_end 1 = .ok (.getfield 48, 3) := by decide +kernel
theorem dX10_end_4 : decode cX10_end 4 = .ok (.aload_n 0, 1) := by decide +kernel
theorem dX10_end_5 : decode cX10_end 5 = .ok (.getfield 58, 3) := by decide +kernel
theorem dX10_end_8 : decode cX10_end 8 = .ok (.iload_n 1, 1) := by decide +kernel
theorem dX10_end_9 : decode cX10_end 9 = .ok (.iaload, 1) := by decide +kernel
theorem dX10_end_10 : decode cX10_end 10 = .ok (.iaload, 1) := by decide +kernel
theorem dX10_end_11 : decode cX10_end 11 = .ok (.ireturn, 1) := by decide +kernel
theorem dX10_isAround_0 : decode cX10_isAround 0 = .ok (.aload_n 0, 1) := by decide +kernel
theorem dX10_isAround_1 : decode cX10_isAround 1 = .ok (.iload_n 1, 1) := by decide +kernel
theorem dX10_isAround_2 : decode cX10_isAround 2 = .ok (.invokevirtual 275, 3) := by decide +kernel
theorem dX10_isAround_5 : decode cX10_isAround 5 = .ok (.ifCond .eq 26, 3) := by decide +kernel
theorem dX10_isAround_8 : decode cX10_isAround 8 = .ok (.aload_n 0, 1) := by decide +kernel
theorem dX10_isAround_9 : decode cX10_isAround 9 = .ok (.getfield 48, 3) := by decide +kernel
theorem dX10_isAround_12 : decode cX10_isAround 12 = .ok (.iload_n 1, 1) := by decide +kernel
theorem dX10_isAround_13 : decode cX10_isAround 13 = .ok (.iaload, 1) := by decide +kernel
theorem dX10_isAround_14 : decode cX10_isAround 14 = .ok (.iload_n 2, 1) := by decide +kernel
theorem dX10_isAround_15 : decode cX10_isAround 15 = .ok (.if_icmp .ge 16, 3) := by decide +kernel
theorem dX10_isAround_18 : decode cX10_isAround 18 = .ok (.aload_n 0, 1) := by decide +kernel
theorem dX10_isAround_19 : decode cX10_isAround 19 = .ok (.iload_n 1, 1) := by decide +kernel
theorem dX10_isAround_20 : decode cX10_isAround 20 = .ok (.invokevirtual 278, 3) := by decide +kernel
theorem dX10_isAround_23 : decode cX10_isAround 23 = .ok (.iload_n 2, 1) := by decide +kernel
theorem dX10_isAround_24 : decode cX10_isAround 24 = .ok (.if_icmp .le 7, 3) := by decide +kernel
theorem dX10_isAround_27 : decode cX10_isAround 27 = .ok (.iconst 1, 1) := by decide +kernel
theorem dX10_isAround_28 : decode cX10_isAround 28 = .ok (.goto 4, 3) := by decide +kernel
theorem dX10_isAround_31 : decode cX10_isAround 31 = .ok (.iconst 0, 1) := by decide +kernel
theorem dX10_isAround_32 : decode cX10_isAround 32 = .ok (.ireturn, 1) := by decide +kernel
theorem dX10_depthAt_0 : decode cX10_depthAt 0 = .ok (.iconst 0, 1) := by decide +kernel
theorem dX10_depthAt_1 : decode cX10_depthAt 1 = .ok (.istore_n 2, 1) := by decide +kernel
theorem dX10_depthAt_2 : decode cX10_depthAt 2 = .ok (.iconst 0, 1) := by decide +kernel
theorem dX10_depthAt_3 : decode cX10_depthAt 3 = .ok (.istore_n 3, 1) := by decide +kernel
theorem dX10_depthAt_4 : decode cX10_depthAt 4 = .ok (.iload_n 3, 1) := by decide +kernel
theorem dX10_depthAt_5 : decode cX10_depthAt 5 = .ok (.aload_n 0, 1) := by decide +kernel
theorem dX10_depthAt_6 : decode cX10_depthAt 6 = .ok (.getfield 264, 3) := by decide +kernel
theorem dX10_depthAt_9 : decode cX10_depthAt 9 = .ok (.if_icmp .ge 26, 3) := by decide +kernel
theorem dX10_depthAt_12 : decode cX10_depthAt 12 = .ok (.iload_n 2, 1) := by decide +kernel
theorem dX10_depthAt_13 : decode cX10_depthAt 13 = .ok (.aload_n 0, 1) := by decide +kernel
theorem dX10_depthAt_14 : decode cX10_depthAt 14 = .ok (.iload_n 3, 1) := by decide +kernel
theorem dX10_depthAt_15 : decode cX10_depthAt 15 = .ok (.iload_n 1, 1) := by decide +kernel
theorem dX10_depthAt_16 : decode cX10_depthAt 16 = .ok (.invokevirtual 281, 3) := by decide +kernel
theorem dX10_depthAt_19 : decode cX10_depthAt 19 = .ok (.ifCond .eq 7, 3) := by decide +kernel
theorem dX10_depthAt_22 : decode cX10_depthAt 22 = .ok (.iconst 1, 1) := by decide +kernel
theorem dX10_depthAt_23 : decode cX10_depthAt 23 = .ok (.goto 4, 3) := by decide +kernel
theorem dX10_depthAt_26 : decode cX10_depthAt 26 = .ok (.iconst 0, 1) := by decide +kernel
theorem dX10_depthAt_27 : decode cX10_depthAt 27 = .ok (.iadd, 1) := by decide +kernel
theorem dX10_depthAt_28 : decode cX10_depthAt 28 = .ok (.istore_n 2, 1) := by decide +kernel
theorem dX10_depthAt_29 : decode cX10_depthAt 29 = .ok (.iinc 3 1, 3) := by decide +kernel
theorem dX10_depthAt_32 : decode cX10_depthAt 32 = .ok (.goto (-28), 3) := by decide +kernel
theorem dX10_depthAt_35 : decode cX10_depthAt 35 = .ok (.iload_n 2, 1) := by decide +kernel
theorem dX10_depthAt_36 : decode cX10_depthAt 36 = .ok (.ireturn, 1) := by decide +kernel
theorem dX10_outer_0 : decode cX10_outer 0 = .ok (.iconst (-1), 1) := by decide +kernel
theorem dX10_outer_1 : decode cX10_outer 1 = .ok (.istore_n 2, 1) := by decide +kernel
theorem dX10_outer_2 : decode cX10_outer 2 = .ok (.iconst 0, 1) := by decide +kernel
theorem dX10_outer_3 : decode cX10_outer 3 = .ok (.istore_n 3, 1) := by decide +kernel
theorem dX10_outer_4 : decode cX10_outer 4 = .ok (.iload_n 3, 1) := by decide +kernel
theorem dX10_outer_5 : decode cX10_outer 5 = .ok (.aload_n 0, 1) := by decide +kernel
theorem dX10_outer_6 : decode cX10_outer 6 = .ok (.getfield 264, 3) := by decide +kernel
theorem dX10_outer_9 : decode cX10_outer 9 = .ok (.if_icmp .ge 24, 3) := by decide +kernel
theorem dX10_outer_12 : decode cX10_outer 12 = .ok (.aload_n 0, 1) := by decide +kernel
theorem dX10_outer_13 : decode cX10_outer 13 = .ok (.iload_n 3, 1) := by decide +kernel
theorem dX10_outer_14 : decode cX10_outer 14 = .ok (.iload_n 1, 1) := by decide +kernel
theorem dX10_outer_15 : decode cX10_outer 15 = .ok (.invokevirtual 281, 3) := by decide +kernel
theorem dX10_outer_18 : decode cX10_outer 18 = .ok (.ifCond .eq 7, 3) := by decide +kernel
theorem dX10_outer_21 : decode cX10_outer 21 = .ok (.iload_n 3, 1) := by decide +kernel
theorem dX10_outer_22 : decode cX10_outer 22 = .ok (.goto 4, 3) := by decide +kernel
theorem dX10_outer_25 : decode cX10_outer 25 = .ok (.iload_n 2, 1) := by decide +kernel
theorem dX10_outer_26 : decode cX10_outer 26 = .ok (.istore_n 2, 1) := by decide +kernel
theorem dX10_outer_27 : decode cX10_outer 27 = .ok (.iinc 3 1, 3) := by decide +kernel
theorem dX10_outer_30 : decode cX10_outer 30 = .ok (.goto (-26), 3) := by decide +kernel
theorem dX10_outer_33 : decode cX10_outer 33 = .ok (.iload_n 2, 1) := by decide +kernel
theorem dX10_outer_34 : decode cX10_outer 34 = .ok (.ireturn, 1) := by decide +kernel
theorem dX10_pairs_0 : decode cX10_pairs 0 = .ok (.iconst 0, 1) := by decide +kernel
theorem dX10_pairs_1 : decode cX10_pairs 1 = .ok (.istore_n 1, 1) := by decide +kernel
theorem dX10_pairs_2 : decode cX10_pairs 2 = .ok (.iconst 0, 1) := by decide +kernel
theorem dX10_pairs_3 : decode cX10_pairs 3 = .ok (.istore_n 2, 1) := by decide +kernel
theorem dX10_pairs_4 : decode cX10_pairs 4 = .ok (.iload_n 2, 1) := by decide +kernel
theorem dX10_pairs_5 : decode cX10_pairs 5 = .ok (.aload_n 0, 1) := by decide +kernel
theorem dX10_pairs_6 : decode cX10_pairs 6 = .ok (.getfield 264, 3) := by decide +kernel
theorem dX10_pairs_9 : decode cX10_pairs 9 = .ok (.if_icmp .ge 25, 3) := by decide +kernel
theorem dX10_pairs_12 : decode cX10_pairs 12 = .ok (.iload_n 1, 1) := by decide +kernel
theorem dX10_pairs_13 : decode cX10_pairs 13 = .ok (.aload_n 0, 1) := by decide +kernel
theorem dX10_pairs_14 : decode cX10_pairs 14 = .ok (.iload_n 2, 1) := by decide +kernel
theorem dX10_pairs_15 : decode cX10_pairs 15 = .ok (.invokevirtual 275, 3) := by decide +kernel
theorem dX10_pairs_18 : decode cX10_pairs 18 = .ok (.ifCond .eq 7, 3) := by decide +kernel
theorem dX10_pairs_21 : decode cX10_pairs 21 = .ok (.iconst 1, 1) := by decide +kernel
theorem dX10_pairs_22 : decode cX10_pairs 22 = .ok (.goto 4, 3) := by decide +kernel
theorem dX10_pairs_25 : decode cX10_pairs 25 = .ok (.iconst 0, 1) := by decide +kernel
theorem dX10_pairs_26 : decode cX10_pairs 26 = .ok (.iadd, 1) := by decide +kernel
theorem dX10_pairs_27 : decode cX10_pairs 27 = .ok (.istore_n 1, 1) := by decide +kernel
theorem dX10_pairs_28 : decode cX10_pairs 28 = .ok (.iinc 2 1, 3) := by decide +kernel
theorem dX10_pairs_31 : decode cX10_pairs 31 = .ok (.goto (-27), 3) := by decide +kernel
theorem dX10_pairs_34 : decode cX10_pairs 34 = .ok (.iload_n 1, 1) := by decide +kernel
theorem dX10_pairs_35 : decode cX10_pairs 35 = .ok (.ireturn, 1) := by decide +kernel
theorem dX10_lones_0 : decode cX10_lones 0 = .ok (.iconst 0, 1) := by decide +kernel
theorem dX10_lones_1 : decode cX10_lones 1 = .ok (.istore_n 1, 1) := by decide +kernel
theorem dX10_lones_2 : decode cX10_lones 2 = .ok (.iconst 0, 1) := by decide +kernel
theorem dX10_lones_3 : decode cX10_lones 3 = .ok (.istore_n 2, 1) := by decide +kernel
theorem dX10_lones_4 : decode cX10_lones 4 = .ok (.iload_n 2, 1) := by decide +kernel
theorem dX10_lones_5 : decode cX10_lones 5 = .ok (.aload_n 0, 1) := by decide +kernel
theorem dX10_lones_6 : decode cX10_lones 6 = .ok (.getfield 264, 3) := by decide +kernel
theorem dX10_lones_9 : decode cX10_lones 9 = .ok (.if_icmp .ge 27, 3) := by decide +kernel
theorem dX10_lones_12 : decode cX10_lones 12 = .ok (.iload_n 1, 1) := by decide +kernel
theorem dX10_lones_13 : decode cX10_lones 13 = .ok (.aload_n 0, 1) := by decide +kernel
theorem dX10_lones_14 : decode cX10_lones 14 = .ok (.getfield 58, 3) := by decide +kernel
theorem dX10_lones_17 : decode cX10_lones 17 = .ok (.iload_n 2, 1) := by decide +kernel
theorem dX10_lones_18 : decode cX10_lones 18 = .ok (.iaload, 1) := by decide +kernel
theorem dX10_lones_19 : decode cX10_lones 19 = .ok (.iconst (-1), 1) := by decide +kernel
theorem dX10_lones_20 : decode cX10_lones 20 = .ok (.if_icmp .ne 7, 3) := by decide +kernel
theorem dX10_lones_23 : decode cX10_lones 23 = .ok (.iconst 1, 1) := by decide +kernel
theorem dX10_lones_24 : decode cX10_lones 24 = .ok (.goto 4, 3) := by decide +kernel
theorem dX10_lones_27 : decode cX10_lones 27 = .ok (.iconst 0, 1) := by decide +kernel
theorem dX10_lones_28 : decode cX10_lones 28 = .ok (.iadd, 1) := by decide +kernel
theorem dX10_lones_29 : decode cX10_lones 29 = .ok (.istore_n 1, 1) := by decide +kernel
theorem dX10_lones_30 : decode cX10_lones 30 = .ok (.iinc 2 1, 3) := by decide +kernel
theorem dX10_lones_33 : decode cX10_lones 33 = .ok (.goto (-29), 3) := by decide +kernel
theorem dX10_lones_36 : decode cX10_lones 36 = .ok (.iload_n 1, 1) := by decide +kernel
theorem dX10_lones_37 : decode cX10_lones 37 = .ok (.ireturn, 1) := by decide +kernel
theorem dX10_deepest_0 : decode cX10_deepest 0 = .ok (.iconst (-1), 1) := by decide +kernel
theorem dX10_deepest_1 : decode cX10_deepest 1 = .ok (.istore_n 1, 1) := by decide +kernel
theorem dX10_deepest_2 : decode cX10_deepest 2 = .ok (.iconst 0, 1) := by decide +kernel
theorem dX10_deepest_3 : decode cX10_deepest 3 = .ok (.istore_n 2, 1) := by decide +kernel
theorem dX10_deepest_4 : decode cX10_deepest 4 = .ok (.iload_n 2, 1) := by decide +kernel
theorem dX10_deepest_5 : decode cX10_deepest 5 = .ok (.aload_n 0, 1) := by decide +kernel
theorem dX10_deepest_6 : decode cX10_deepest 6 = .ok (.getfield 264, 3) := by decide +kernel
theorem dX10_deepest_9 : decode cX10_deepest 9 = .ok (.if_icmp .ge 36, 3) := by decide +kernel
theorem dX10_deepest_12 : decode cX10_deepest 12 = .ok (.aload_n 0, 1) := by decide +kernel
theorem dX10_deepest_13 : decode cX10_deepest 13 = .ok (.iload_n 2, 1) := by decide +kernel
theorem dX10_deepest_14 : decode cX10_deepest 14 = .ok (.invokevirtual 275, 3) := by decide +kernel
theorem dX10_deepest_17 : decode cX10_deepest 17 = .ok (.ifCond .eq 20, 3) := by decide +kernel
theorem dX10_deepest_20 : decode cX10_deepest 20 = .ok (.iload_n 1, 1) := by decide +kernel
theorem dX10_deepest_21 : decode cX10_deepest 21 = .ok (.aload_n 0, 1) := by decide +kernel
theorem dX10_deepest_22 : decode cX10_deepest 22 = .ok (.aload_n 0, 1) := by decide +kernel
theorem dX10_deepest_23 : decode cX10_deepest 23 = .ok (.getfield 48, 3) := by decide +kernel
theorem dX10_deepest_26 : decode cX10_deepest 26 = .ok (.iload_n 2, 1) := by decide +kernel
theorem dX10_deepest_27 : decode cX10_deepest 27 = .ok (.iaload, 1) := by decide +kernel
theorem dX10_deepest_28 : decode cX10_deepest 28 = .ok (.invokevirtual 284, 3) := by decide +kernel
theorem dX10_deepest_31 : decode cX10_deepest 31 = .ok (.invokestatic 287, 3) := by decide +kernel
theorem dX10_deepest_34 : decode cX10_deepest 34 = .ok (.goto 4, 3) := by decide +kernel
theorem dX10_deepest_37 : decode cX10_deepest 37 = .ok (.iload_n 1, 1) := by decide +kernel
theorem dX10_deepest_38 : decode cX10_deepest 38 = .ok (.istore_n 1, 1) := by decide +kernel
theorem dX10_deepest_39 : decode cX10_deepest 39 = .ok (.iinc 2 1, 3) := by decide +kernel
theorem dX10_deepest_42 : decode cX10_deepest 42 = .ok (.goto (-38), 3) := by decide +kernel
theorem dX10_deepest_45 : decode cX10_deepest 45 = .ok (.iload_n 1, 1) := by decide +kernel
theorem dX10_deepest_46 : decode cX10_deepest 46 = .ok (.ireturn, 1) := by decide +kernel
theorem dX10_lineOf_0 : decode cX10_lineOf 0 = .ok (.iconst 0, 1) := by decide +kernel
theorem dX10_lineOf_1 : decode cX10_lineOf 1 = .ok (.istore_n 2, 1) := by decide +kernel
theorem dX10_lineOf_2 : decode cX10_lineOf 2 = .ok (.iconst 0, 1) := by decide +kernel
theorem dX10_lineOf_3 : decode cX10_lineOf 3 = .ok (.istore_n 3, 1) := by decide +kernel
theorem dX10_lineOf_4 : decode cX10_lineOf 4 = .ok (.iload_n 3, 1) := by decide +kernel
theorem dX10_lineOf_5 : decode cX10_lineOf 5 = .ok (.iload_n 1, 1) := by decide +kernel
theorem dX10_lineOf_6 : decode cX10_lineOf 6 = .ok (.if_icmp .ge 31, 3) := by decide +kernel
theorem dX10_lineOf_9 : decode cX10_lineOf 9 = .ok (.iload_n 2, 1) := by decide +kernel
theorem dX10_lineOf_10 : decode cX10_lineOf 10 = .ok (.aload_n 0, 1) := by decide +kernel
theorem dX10_lineOf_11 : decode cX10_lineOf 11 = .ok (.getfield 35, 3) := by decide +kernel
theorem dX10_lineOf_14 : decode cX10_lineOf 14 = .ok (.bipush 14, 2) := by decide +kernel
theorem dX10_lineOf_16 : decode cX10_lineOf 16 = .ok (.iload_n 3, 1) := by decide +kernel
theorem dX10_lineOf_17 : decode cX10_lineOf 17 = .ok (.iadd, 1) := by decide +kernel
theorem dX10_lineOf_18 : decode cX10_lineOf 18 = .ok (.iaload, 1) := by decide +kernel
theorem dX10_lineOf_19 : decode cX10_lineOf 19 = .ok (.bipush 10, 2) := by decide +kernel
theorem dX10_lineOf_21 : decode cX10_lineOf 21 = .ok (.if_icmp .ne 7, 3) := by decide +kernel
theorem dX10_lineOf_24 : decode cX10_lineOf 24 = .ok (.iconst 1, 1) := by decide +kernel
theorem dX10_lineOf_25 : decode cX10_lineOf 25 = .ok (.goto 4, 3) := by decide +kernel
theorem dX10_lineOf_28 : decode cX10_lineOf 28 = .ok (.iconst 0, 1) := by decide +kernel
theorem dX10_lineOf_29 : decode cX10_lineOf 29 = .ok (.iadd, 1) := by decide +kernel
theorem dX10_lineOf_30 : decode cX10_lineOf 30 = .ok (.istore_n 2, 1) := by decide +kernel
theorem dX10_lineOf_31 : decode cX10_lineOf 31 = .ok (.iinc 3 1, 3) := by decide +kernel
theorem dX10_lineOf_34 : decode cX10_lineOf 34 = .ok (.goto (-30), 3) := by decide +kernel
theorem dX10_lineOf_37 : decode cX10_lineOf 37 = .ok (.iload_n 2, 1) := by decide +kernel
theorem dX10_lineOf_38 : decode cX10_lineOf 38 = .ok (.ireturn, 1) := by decide +kernel
theorem dX10_columnOf_0 : decode cX10_columnOf 0 = .ok (.iload_n 1, 1) := by decide +kernel
theorem dX10_columnOf_1 : decode cX10_columnOf 1 = .ok (.istore_n 2, 1) := by decide +kernel
theorem dX10_columnOf_2 : decode cX10_columnOf 2 = .ok (.iload_n 2, 1) := by decide +kernel
theorem dX10_columnOf_3 : decode cX10_columnOf 3 = .ok (.ifCond .le 25, 3) := by decide +kernel
theorem dX10_columnOf_6 : decode cX10_columnOf 6 = .ok (.aload_n 0, 1) := by decide +kernel
theorem dX10_columnOf_7 : decode cX10_columnOf 7 = .ok (.getfield 35, 3) := by decide +kernel
theorem dX10_columnOf_10 : decode cX10_columnOf 10 = .ok (.bipush 14, 2) := by decide +kernel
theorem dX10_columnOf_12 : decode cX10_columnOf 12 = .ok (.iload_n 2, 1) := by decide +kernel
theorem dX10_columnOf_13 : decode cX10_columnOf 13 = .ok (.iadd, 1) := by decide +kernel
theorem dX10_columnOf_14 : decode cX10_columnOf 14 = .ok (.iconst 1, 1) := by decide +kernel
theorem dX10_columnOf_15 : decode cX10_columnOf 15 = .ok (.isub, 1) := by decide +kernel
theorem dX10_columnOf_16 : decode cX10_columnOf 16 = .ok (.iaload, 1) := by decide +kernel
theorem dX10_columnOf_17 : decode cX10_columnOf 17 = .ok (.bipush 10, 2) := by decide +kernel
theorem dX10_columnOf_19 : decode cX10_columnOf 19 = .ok (.if_icmp .eq 9, 3) := by decide +kernel
theorem dX10_columnOf_22 : decode cX10_columnOf 22 = .ok (.iinc 2 (-1), 3) := by decide +kernel
theorem dX10_columnOf_25 : decode cX10_columnOf 25 = .ok (.goto (-23), 3) := by decide +kernel
theorem dX10_columnOf_28 : decode cX10_columnOf 28 = .ok (.iload_n 1, 1) := by decide +kernel
theorem dX10_columnOf_29 : decode cX10_columnOf 29 = .ok (.iload_n 2, 1) := by decide +kernel
theorem dX10_columnOf_30 : decode cX10_columnOf 30 = .ok (.isub, 1) := by decide +kernel
theorem dX10_columnOf_31 : decode cX10_columnOf 31 = .ok (.ireturn, 1) := by decide +kernel
theorem dX10_hiddenBytes_0 : decode cX10_hiddenBytes 0 = .ok (.iconst 0, 1) := by decide +kernel
theorem dX10_hiddenBytes_1 : decode cX10_hiddenBytes 1 = .ok (.istore_n 1, 1) := by decide +kernel
theorem dX10_hiddenBytes_2 : decode cX10_hiddenBytes 2 = .ok (.iconst 0, 1) := by decide +kernel
theorem dX10_hiddenBytes_3 : decode cX10_hiddenBytes 3 = .ok (.istore_n 2, 1) := by decide +kernel
theorem dX10_hiddenBytes_4 : decode cX10_hiddenBytes 4 = .ok (.iload_n 2, 1) := by decide +kernel
theorem dX10_hiddenBytes_5 : decode cX10_hiddenBytes 5 = .ok (.aload_n 0, 1) := by decide +kernel
theorem dX10_hiddenBytes_6 : decode cX10_hiddenBytes 6 = .ok (.getfield 35, 3) := by decide +kernel
theorem dX10_hiddenBytes_9 : decode cX10_hiddenBytes 9 = .ok (.iconst 0, 1) := by decide +kernel
theorem dX10_hiddenBytes_10 : decode cX10_hiddenBytes 10 = .ok (.iaload, 1) := by decide +kernel
theorem dX10_hiddenBytes_11 : decode cX10_hiddenBytes 11 = .ok (.if_icmp .ge 26, 3) := by decide +kernel
theorem dX10_hiddenBytes_14 : decode cX10_hiddenBytes 14 = .ok (.iload_n 1, 1) := by decide +kernel
theorem dX10_hiddenBytes_15 : decode cX10_hiddenBytes 15 = .ok (.aload_n 0, 1) := by decide +kernel
theorem dX10_hiddenBytes_16 : decode cX10_hiddenBytes 16 = .ok (.getfield 45, 3) := by decide +kernel
theorem dX10_hiddenBytes_19 : decode cX10_hiddenBytes 19 = .ok (.iload_n 2, 1) := by decide +kernel
theorem dX10_hiddenBytes_20 : decode cX10_hiddenBytes 20 = .ok (.iaload, 1) := by decide +kernel
theorem dX10_hiddenBytes_21 : decode cX10_hiddenBytes 21 = .ok (.ifCond .le 7, 3) := by decide +kernel
theorem dX10_hiddenBytes_24 : decode cX10_hiddenBytes 24 = .ok (.iconst 1, 1) := by decide +kernel
theorem dX10_hiddenBytes_25 : decode cX10_hiddenBytes 25 = .ok (.goto 4, 3) := by decide +kernel
theorem dX10_hiddenBytes_28 : decode cX10_hiddenBytes 28 = .ok (.iconst 0, 1) := by decide +kernel
theorem dX10_hiddenBytes_29 : decode cX10_hiddenBytes 29 = .ok (.iadd, 1) := by decide +kernel
theorem dX10_hiddenBytes_30 : decode cX10_hiddenBytes 30 = .ok (.istore_n 1, 1) := by decide +kernel
theorem dX10_hiddenBytes_31 : decode cX10_hiddenBytes 31 = .ok (.iinc 2 1, 3) := by decide +kernel
theorem dX10_hiddenBytes_34 : decode cX10_hiddenBytes 34 = .ok (.goto (-30), 3) := by decide +kernel
theorem dX10_hiddenBytes_37 : decode cX10_hiddenBytes 37 = .ok (.iload_n 1, 1) := by decide +kernel
theorem dX10_hiddenBytes_38 : decode cX10_hiddenBytes 38 = .ok (.ireturn, 1) := by decide +kernel
theorem dX10_size_0 : decode cX10_size 0 = .ok (.aload_n 0, 1) := by decide +kernel
theorem dX10_size_1 : decode cX10_size 1 = .ok (.iconst 0, 1) := by decide +kernel
theorem dX10_size_2 : decode cX10_size 2 = .ok (.putfield 117, 3) := by decide +kernel
theorem dX10_size_5 : decode cX10_size 5 = .ok (.aload_n 0, 1) := by decide +kernel
theorem dX10_size_6 : decode cX10_size 6 = .ok (.iload_n 1, 1) := by decide +kernel
theorem dX10_size_7 : decode cX10_size 7 = .ok (.iconst 0, 1) := by decide +kernel
theorem dX10_size_8 : decode cX10_size 8 = .ok (.bipush 13, 2) := by decide +kernel
theorem dX10_size_10 : decode cX10_size 10 = .ok (.invokestatic 130, 3) := by decide +kernel
theorem dX10_size_13 : decode cX10_size 13 = .ok (.ifCond .ne 7, 3) := by decide +kernel
theorem dX10_size_16 : decode cX10_size 16 = .ok (.iconst 1, 1) := by decide +kernel
theorem dX10_size_17 : decode cX10_size 17 = .ok (.goto 4, 3) := by decide +kernel
theorem dX10_size_20 : decode cX10_size 20 = .ok (.iconst 0, 1) := by decide +kernel
theorem dX10_size_21 : decode cX10_size 21 = .ok (.iconst 1, 1) := by decide +kernel
theorem dX10_size_22 : decode cX10_size 22 = .ok (.invokevirtual 227, 3) := by decide +kernel
theorem dX10_size_25 : decode cX10_size 25 = .ok (.ifCond .eq 5, 3) := by decide +kernel
theorem dX10_size_28 : decode cX10_size 28 = .ok (.iconst 0, 1) := by decide +kernel
theorem dX10_size_29 : decode cX10_size 29 = .ok (.ireturn, 1) := by decide +kernel
theorem dX10_size_30 : decode cX10_size 30 = .ok (.aload_n 0, 1) := by decide +kernel
theorem dX10_size_31 : decode cX10_size 31 = .ok (.invokevirtual 292, 3) := by decide +kernel
theorem dX10_size_34 : decode cX10_size 34 = .ok (.iload_n 1, 1) := by decide +kernel
theorem dX10_size_35 : decode cX10_size 35 = .ok (.tableswitch 127 0 10 #[57, 64, 69, 74, 79, 84, 92, 97, 110, 117, 122], 57) := by decide +kernel
theorem dX10_size_92 : decode cX10_size 92 = .ok (.aload_n 0, 1) := by decide +kernel
theorem dX10_size_93 : decode cX10_size 93 = .ok (.getfield 35, 3) := by decide +kernel
theorem dX10_size_96 : decode cX10_size 96 = .ok (.iconst 0, 1) := by decide +kernel
theorem dX10_size_97 : decode cX10_size 97 = .ok (.iaload, 1) := by decide +kernel
theorem dX10_size_98 : decode cX10_size 98 = .ok (.ireturn, 1) := by decide +kernel
theorem dX10_size_99 : decode cX10_size 99 = .ok (.aload_n 0, 1) := by decide +kernel
theorem dX10_size_100 : decode cX10_size 100 = .ok (.getfield 264, 3) := by decide +kernel
theorem dX10_size_103 : decode cX10_size 103 = .ok (.ireturn, 1) := by decide +kernel
theorem dX10_size_104 : decode cX10_size 104 = .ok (.aload_n 0, 1) := by decide +kernel
theorem dX10_size_105 : decode cX10_size 105 = .ok (.invokevirtual 295, 3) := by decide +kernel
theorem dX10_size_108 : decode cX10_size 108 = .ok (.ireturn, 1) := by decide +kernel
theorem dX10_size_109 : decode cX10_size 109 = .ok (.aload_n 0, 1) := by decide +kernel
theorem dX10_size_110 : decode cX10_size 110 = .ok (.invokevirtual 298, 3) := by decide +kernel
theorem dX10_size_113 : decode cX10_size 113 = .ok (.ireturn, 1) := by decide +kernel
theorem dX10_size_114 : decode cX10_size 114 = .ok (.aload_n 0, 1) := by decide +kernel
theorem dX10_size_115 : decode cX10_size 115 = .ok (.getfield 110, 3) := by decide +kernel
theorem dX10_size_118 : decode cX10_size 118 = .ok (.ireturn, 1) := by decide +kernel
theorem dX10_size_119 : decode cX10_size 119 = .ok (.aload_n 0, 1) := by decide +kernel
theorem dX10_size_120 : decode cX10_size 120 = .ok (.getfield 35, 3) := by decide +kernel
theorem dX10_size_123 : decode cX10_size 123 = .ok (.bipush 10, 2) := by decide +kernel
theorem dX10_size_125 : decode cX10_size 125 = .ok (.iaload, 1) := by decide +kernel
theorem dX10_size_126 : decode cX10_size 126 = .ok (.ireturn, 1) := by decide +kernel
theorem dX10_size_127 : decode cX10_size 127 = .ok (.aload_n 0, 1) := by decide +kernel
theorem dX10_size_128 : decode cX10_size 128 = .ok (.invokevirtual 301, 3) := by decide +kernel
theorem dX10_size_131 : decode cX10_size 131 = .ok (.ireturn, 1) := by decide +kernel
theorem dX10_size_132 : decode cX10_size 132 = .ok (.aload_n 0, 1) := by decide +kernel
theorem dX10_size_133 : decode cX10_size 133 = .ok (.aload_n 0, 1) := by decide +kernel
theorem dX10_size_134 : decode cX10_size 134 = .ok (.getfield 35, 3) := by decide +kernel
theorem dX10_size_137 : decode cX10_size 137 = .ok (.iconst 0, 1) := by decide +kernel
theorem dX10_size_138 : decode cX10_size 138 = .ok (.iaload, 1) := by decide +kernel
theorem dX10_size_139 : decode cX10_size 139 = .ok (.invokevirtual 304, 3) := by decide +kernel
theorem dX10_size_142 : decode cX10_size 142 = .ok (.iconst 1, 1) := by decide +kernel
theorem dX10_size_143 : decode cX10_size 143 = .ok (.iadd, 1) := by decide +kernel
theorem dX10_size_144 : decode cX10_size 144 = .ok (.ireturn, 1) := by decide +kernel
theorem dX10_size_145 : decode cX10_size 145 = .ok (.aload_n 0, 1) := by decide +kernel
theorem dX10_size_146 : decode cX10_size 146 = .ok (.getfield 35, 3) := by decide +kernel
theorem dX10_size_149 : decode cX10_size 149 = .ok (.iconst 1, 1) := by decide +kernel
theorem dX10_size_150 : decode cX10_size 150 = .ok (.iaload, 1) := by decide +kernel
theorem dX10_size_151 : decode cX10_size 151 = .ok (.ireturn, 1) := by decide +kernel
theorem dX10_size_152 : decode cX10_size 152 = .ok (.aload_n 0, 1) := by decide +kernel
theorem dX10_size_153 : decode cX10_size 153 = .ok (.getfield 251, 3) := by decide +kernel
theorem dX10_size_156 : decode cX10_size 156 = .ok (.ireturn, 1) := by decide +kernel
theorem dX10_size_157 : decode cX10_size 157 = .ok (.aload_n 0, 1) := by decide +kernel
theorem dX10_size_158 : decode cX10_size 158 = .ok (.invokevirtual 307, 3) := by decide +kernel
theorem dX10_size_161 : decode cX10_size 161 = .ok (.ireturn, 1) := by decide +kernel
theorem dX10_size_162 : decode cX10_size 162 = .ok (.aload_n 0, 1) := by decide +kernel
theorem dX10_size_163 : decode cX10_size 163 = .ok (.getfield 35, 3) := by decide +kernel
theorem dX10_size_166 : decode cX10_size 166 = .ok (.bipush 11, 2) := by decide +kernel
theorem dX10_size_168 : decode cX10_size 168 = .ok (.iload_n 1, 1) := by decide +kernel
theorem dX10_size_169 : decode cX10_size 169 = .ok (.iadd, 1) := by decide +kernel
theorem dX10_size_170 : decode cX10_size 170 = .ok (.bipush 11, 2) := by decide +kernel
theorem dX10_size_172 : decode cX10_size 172 = .ok (.isub, 1) := by decide +kernel
theorem dX10_size_173 : decode cX10_size 173 = .ok (.iaload, 1) := by decide +kernel
theorem dX10_size_174 : decode cX10_size 174 = .ok (.ireturn, 1) := by decide +kernel
theorem dX10_noPlace_0 : decode cX10_noPlace 0 = .ok (.aload_n 0, 1) := by decide +kernel
theorem dX10_noPlace_1 : decode cX10_noPlace 1 = .ok (.iconst 0, 1) := by decide +kernel
theorem dX10_noPlace_2 : decode cX10_noPlace 2 = .ok (.putfield 117, 3) := by decide +kernel
theorem dX10_noPlace_5 : decode cX10_noPlace 5 = .ok (.aload_n 0, 1) := by decide +kernel
theorem dX10_noPlace_6 : decode cX10_noPlace 6 = .ok (.invokevirtual 292, 3) := by decide +kernel
theorem dX10_noPlace_9 : decode cX10_noPlace 9 = .ok (.aload_n 0, 1) := by decide +kernel
theorem dX10_noPlace_10 : decode cX10_noPlace 10 = .ok (.iload_n 1, 1) := by decide +kernel
theorem dX10_noPlace_11 : decode cX10_noPlace 11 = .ok (.iconst 0, 1) := by decide +kernel
theorem dX10_noPlace_12 : decode cX10_noPlace 12 = .ok (.aload_n 0, 1) := by decide +kernel
theorem dX10_noPlace_13 : decode cX10_noPlace 13 = .ok (.getfield 35, 3) := by decide +kernel
theorem dX10_noPlace_16 : decode cX10_noPlace 16 = .ok (.iconst 0, 1) := by decide +kernel
theorem dX10_noPlace_17 : decode cX10_noPlace 17 = .ok (.iaload, 1) := by decide +kernel
theorem dX10_noPlace_18 : decode cX10_noPlace 18 = .ok (.iconst 1, 1) := by decide +kernel
theorem dX10_noPlace_19 : decode cX10_noPlace 19 = .ok (.isub, 1) := by decide +kernel
theorem dX10_noPlace_20 : decode cX10_noPlace 20 = .ok (.invokestatic 130, 3) := by decide +kernel
theorem dX10_noPlace_23 : decode cX10_noPlace 23 = .ok (.ifCond .ne 7, 3) := by decide +kernel
theorem dX10_noPlace_26 : decode cX10_noPlace 26 = .ok (.iconst 1, 1) := by decide +kernel
theorem dX10_noPlace_27 : decode cX10_noPlace 27 = .ok (.goto 4, 3) := by decide +kernel
theorem dX10_noPlace_30 : decode cX10_noPlace 30 = .ok (.iconst 0, 1) := by decide +kernel
theorem dX10_noPlace_31 : decode cX10_noPlace 31 = .ok (.iconst 1, 1) := by decide +kernel
theorem dX10_noPlace_32 : decode cX10_noPlace 32 = .ok (.invokevirtual 227, 3) := by decide +kernel
theorem dX10_noPlace_35 : decode cX10_noPlace 35 = .ok (.ireturn, 1) := by decide +kernel
theorem dX10_hasPartner_0 : decode cX10_hasPartner 0 = .ok (.iload_n 1, 1) := by decide +kernel
theorem dX10_hasPartner_1 : decode cX10_hasPartner 1 = .ok (.iconst (-1), 1) := by decide +kernel
theorem dX10_hasPartner_2 : decode cX10_hasPartner 2 = .ok (.if_icmp .eq 17, 3) := by decide +kernel
theorem dX10_hasPartner_5 : decode cX10_hasPartner 5 = .ok (.aload_n 0, 1) := by decide +kernel
theorem dX10_hasPartner_6 : decode cX10_hasPartner 6 = .ok (.getfield 58, 3) := by decide +kernel
theorem dX10_hasPartner_9 : decode cX10_hasPartner 9 = .ok (.iload_n 1, 1) := by decide +kernel
theorem dX10_hasPartner_10 : decode cX10_hasPartner 10 = .ok (.iaload, 1) := by decide +kernel
theorem dX10_hasPartner_11 : decode cX10_hasPartner 11 = .ok (.iconst (-1), 1) := by decide +kernel
theorem dX10_hasPartner_12 : decode cX10_hasPartner 12 = .ok (.if_icmp .eq 7, 3) := by decide +kernel
theorem dX10_hasPartner_15 : decode cX10_hasPartner 15 = .ok (.iconst 1, 1) := by decide +kernel
theorem dX10_hasPartner_16 : decode cX10_hasPartner 16 = .ok (.goto 4, 3) := by decide +kernel
theorem dX10_hasPartner_19 : decode cX10_hasPartner 19 = .ok (.iconst 0, 1) := by decide +kernel
theorem dX10_hasPartner_20 : decode cX10_hasPartner 20 = .ok (.ireturn, 1) := by decide +kernel
theorem dX10_look_0 : decode cX10_look 0 = .ok (.aload_n 0, 1) := by decide +kernel
theorem dX10_look_1 : decode cX10_look 1 = .ok (.iload_n 1, 1) := by decide +kernel
theorem dX10_look_2 : decode cX10_look 2 = .ok (.invokevirtual 310, 3) := by decide +kernel
theorem dX10_look_5 : decode cX10_look 5 = .ok (.ifCond .ne 26, 3) := by decide +kernel
theorem dX10_look_8 : decode cX10_look 8 = .ok (.aload_n 0, 1) := by decide +kernel
theorem dX10_look_9 : decode cX10_look 9 = .ok (.iload_n 2, 1) := by decide +kernel
theorem dX10_look_10 : decode cX10_look 10 = .ok (.iconst 0, 1) := by decide +kernel
theorem dX10_look_11 : decode cX10_look 11 = .ok (.bipush 8, 2) := by decide +kernel
theorem dX10_look_13 : decode cX10_look 13 = .ok (.invokestatic 130, 3) := by decide +kernel
theorem dX10_look_16 : decode cX10_look 16 = .ok (.ifCond .ne 7, 3) := by decide +kernel
theorem dX10_look_19 : decode cX10_look 19 = .ok (.iconst 1, 1) := by decide +kernel
theorem dX10_look_20 : decode cX10_look 20 = .ok (.goto 4, 3) := by decide +kernel
theorem dX10_look_23 : decode cX10_look 23 = .ok (.iconst 0, 1) := by decide +kernel
theorem dX10_look_24 : decode cX10_look 24 = .ok (.iconst 2, 1) := by decide +kernel
theorem dX10_look_25 : decode cX10_look 25 = .ok (.invokevirtual 227, 3) := by decide +kernel
theorem dX10_look_28 : decode cX10_look 28 = .ok (.ifCond .eq 5, 3) := by decide +kernel
theorem dX10_look_31 : decode cX10_look 31 = .ok (.iconst 0, 1) := by decide +kernel
theorem dX10_look_32 : decode cX10_look 32 = .ok (.ireturn, 1) := by decide +kernel
theorem dX10_look_33 : decode cX10_look 33 = .ok (.aload_n 0, 1) := by decide +kernel
theorem dX10_look_34 : decode cX10_look 34 = .ok (.iload_n 1, 1) := by decide +kernel
theorem dX10_look_35 : decode cX10_look 35 = .ok (.invokevirtual 313, 3) := by decide +kernel
theorem dX10_look_38 : decode cX10_look 38 = .ok (.istore_n 3, 1) := by decide +kernel
theorem dX10_look_39 : decode cX10_look 39 = .ok (.iload_n 2, 1) := by decide +kernel
theorem dX10_look_40 : decode cX10_look 40 = .ok (.tableswitch 161 0 7 #[48, 58, 74, 98, 116, 122, 148, 155], 48) := by decide +kernel
theorem dX10_look_88 : decode cX10_look 88 = .ok (.aload_n 0, 1) := by decide +kernel
theorem dX10_look_89 : decode cX10_look 89 = .ok (.getfield 35, 3) := by decide +kernel
theorem dX10_look_92 : decode cX10_look 92 = .ok (.bipush 14, 2) := by decide +kernel
theorem dX10_look_94 : decode cX10_look 94 = .ok (.iload_n 1, 1) := by decide +kernel
theorem dX10_look_95 : decode cX10_look 95 = .ok (.iadd, 1) := by decide +kernel
theorem dX10_look_96 : decode cX10_look 96 = .ok (.iaload, 1) := by decide +kernel
theorem dX10_look_97 : decode cX10_look 97 = .ok (.ireturn, 1) := by decide +kernel
theorem dX10_look_98 : decode cX10_look 98 = .ok (.iload_n 3, 1) := by decide +kernel
theorem dX10_look_99 : decode cX10_look 99 = .ok (.iconst (-1), 1) := by decide +kernel
theorem dX10_look_100 : decode cX10_look 100 = .ok (.if_icmp .ne 7, 3) := by decide +kernel
theorem dX10_look_103 : decode cX10_look 103 = .ok (.iconst (-1), 1) := by decide +kernel
theorem dX10_look_104 : decode cX10_look 104 = .ok (.goto 9, 3) := by decide +kernel
theorem dX10_look_107 : decode cX10_look 107 = .ok (.aload_n 0, 1) := by decide +kernel
theorem dX10_look_108 : decode cX10_look 108 = .ok (.getfield 51, 3) := by decide +kernel
theorem dX10_look_111 : decode cX10_look 111 = .ok (.iload_n 3, 1) := by decide +kernel
theorem dX10_look_112 : decode cX10_look 112 = .ok (.iaload, 1) := by decide +kernel
theorem dX10_look_113 : decode cX10_look 113 = .ok (.ireturn, 1) := by decide +kernel
theorem dX10_look_114 : decode cX10_look 114 = .ok (.iload_n 3, 1) := by decide +kernel
theorem dX10_look_115 : decode cX10_look 115 = .ok (.iconst (-1), 1) := by decide +kernel
theorem dX10_look_116 : decode cX10_look 116 = .ok (.if_icmp .ne 7, 3) := by decide +kernel
theorem dX10_look_119 : decode cX10_look 119 = .ok (.iconst (-1), 1) := by decide +kernel
theorem dX10_look_120 : decode cX10_look 120 = .ok (.goto 17, 3) := by decide +kernel
theorem dX10_look_123 : decode cX10_look 123 = .ok (.aload_n 0, 1) := by decide +kernel
theorem dX10_look_124 : decode cX10_look 124 = .ok (.getfield 54, 3) := by decide +kernel
theorem dX10_look_127 : decode cX10_look 127 = .ok (.iload_n 3, 1) := by decide +kernel
theorem dX10_look_128 : decode cX10_look 128 = .ok (.baload, 1) := by decide +kernel
theorem dX10_look_129 : decode cX10_look 129 = .ok (.ifCond .eq 7, 3) := by decide +kernel
theorem dX10_look_132 : decode cX10_look 132 = .ok (.iconst 1, 1) := by decide +kernel
theorem dX10_look_133 : decode cX10_look 133 = .ok (.goto 4, 3) := by decide +kernel
theorem dX10_look_136 : decode cX10_look 136 = .ok (.iconst 0, 1) := by decide +kernel
theorem dX10_look_137 : decode cX10_look 137 = .ok (.ireturn, 1) := by decide +kernel
theorem dX10_look_138 : decode cX10_look 138 = .ok (.aload_n 0, 1) := by decide +kernel
theorem dX10_look_139 : decode cX10_look 139 = .ok (.iload_n 3, 1) := by decide +kernel
theorem dX10_look_140 : decode cX10_look 140 = .ok (.invokevirtual 316, 3) := by decide +kernel
theorem dX10_look_143 : decode cX10_look 143 = .ok (.ifCond .eq 11, 3) := by decide +kernel
theorem dX10_look_146 : decode cX10_look 146 = .ok (.aload_n 0, 1) := by decide +kernel
theorem dX10_look_147 : decode cX10_look 147 = .ok (.iload_n 3, 1) := by decide +kernel
theorem dX10_look_148 : decode cX10_look 148 = .ok (.invokevirtual 278, 3) := by decide +kernel
theorem dX10_look_151 : decode cX10_look 151 = .ok (.goto 4, 3) := by decide +kernel
theorem dX10_look_154 : decode cX10_look 154 = .ok (.iconst (-1), 1) := by decide +kernel
theorem dX10_look_155 : decode cX10_look 155 = .ok (.ireturn, 1) := by decide +kernel
theorem dX10_look_156 : decode cX10_look 156 = .ok (.aload_n 0, 1) := by decide +kernel
theorem dX10_look_157 : decode cX10_look 157 = .ok (.iload_n 1, 1) := by decide +kernel
theorem dX10_look_158 : decode cX10_look 158 = .ok (.invokevirtual 284, 3) := by decide +kernel
theorem dX10_look_161 : decode cX10_look 161 = .ok (.ireturn, 1) := by decide +kernel
theorem dX10_look_162 : decode cX10_look 162 = .ok (.aload_n 0, 1) := by decide +kernel
theorem dX10_look_163 : decode cX10_look 163 = .ok (.iload_n 3, 1) := by decide +kernel
theorem dX10_look_164 : decode cX10_look 164 = .ok (.invokevirtual 316, 3) := by decide +kernel
theorem dX10_look_167 : decode cX10_look 167 = .ok (.ifCond .eq 19, 3) := by decide +kernel
theorem dX10_look_170 : decode cX10_look 170 = .ok (.aload_n 0, 1) := by decide +kernel
theorem dX10_look_171 : decode cX10_look 171 = .ok (.iload_n 1, 1) := by decide +kernel
theorem dX10_look_172 : decode cX10_look 172 = .ok (.invokevirtual 284, 3) := by decide +kernel
theorem dX10_look_175 : decode cX10_look 175 = .ok (.aload_n 0, 1) := by decide +kernel
theorem dX10_look_176 : decode cX10_look 176 = .ok (.getfield 35, 3) := by decide +kernel
theorem dX10_look_179 : decode cX10_look 179 = .ok (.bipush 10, 2) := by decide +kernel
theorem dX10_look_181 : decode cX10_look 181 = .ok (.iaload, 1) := by decide +kernel
theorem dX10_look_182 : decode cX10_look 182 = .ok (.irem, 1) := by decide +kernel
theorem dX10_look_183 : decode cX10_look 183 = .ok (.goto 4, 3) := by decide +kernel
theorem dX10_look_186 : decode cX10_look 186 = .ok (.iconst (-1), 1) := by decide +kernel
theorem dX10_look_187 : decode cX10_look 187 = .ok (.ireturn, 1) := by decide +kernel
theorem dX10_look_188 : decode cX10_look 188 = .ok (.aload_n 0, 1) := by decide +kernel
theorem dX10_look_189 : decode cX10_look 189 = .ok (.getfield 45, 3) := by decide +kernel
theorem dX10_look_192 : decode cX10_look 192 = .ok (.iload_n 1, 1) := by decide +kernel
theorem dX10_look_193 : decode cX10_look 193 = .ok (.iaload, 1) := by decide +kernel
theorem dX10_look_194 : decode cX10_look 194 = .ok (.ireturn, 1) := by decide +kernel
theorem dX10_look_195 : decode cX10_look 195 = .ok (.aload_n 0, 1) := by decide +kernel
theorem dX10_look_196 : decode cX10_look 196 = .ok (.iload_n 1, 1) := by decide +kernel
theorem dX10_look_197 : decode cX10_look 197 = .ok (.invokevirtual 304, 3) := by decide +kernel
theorem dX10_look_200 : decode cX10_look 200 = .ok (.ireturn, 1) := by decide +kernel
theorem dX10_look_201 : decode cX10_look 201 = .ok (.aload_n 0, 1) := by decide +kernel
theorem dX10_look_202 : decode cX10_look 202 = .ok (.iload_n 1, 1) := by decide +kernel
theorem dX10_look_203 : decode cX10_look 203 = .ok (.invokevirtual 319, 3) := by decide +kernel
theorem dX10_look_206 : decode cX10_look 206 = .ok (.ireturn, 1) := by decide +kernel
theorem dX10_around_0 : decode cX10_around 0 = .ok (.aload_n 0, 1) := by decide +kernel
theorem dX10_around_1 : decode cX10_around 1 = .ok (.iload_n 1, 1) := by decide +kernel
theorem dX10_around_2 : decode cX10_around 2 = .ok (.invokevirtual 310, 3) := by decide +kernel
theorem dX10_around_5 : decode cX10_around 5 = .ok (.ifCond .eq 5, 3) := by decide +kernel
theorem dX10_around_8 : decode cX10_around 8 = .ok (.iconst 0, 1) := by decide +kernel
theorem dX10_around_9 : decode cX10_around 9 = .ok (.ireturn, 1) := by decide +kernel
theorem dX10_around_10 : decode cX10_around 10 = .ok (.iload_n 2, 1) := by decide +kernel
theorem dX10_around_11 : decode cX10_around 11 = .ok (.istore_n 3, 1) := by decide +kernel
theorem dX10_around_12 : decode cX10_around 12 = .ok (.aload_n 0, 1) := by decide +kernel
theorem dX10_around_13 : decode cX10_around 13 = .ok (.getfield 264, 3) := by decide +kernel
theorem dX10_around_16 : decode cX10_around 16 = .ok (.iconst 1, 1) := by decide +kernel
theorem dX10_around_17 : decode cX10_around 17 = .ok (.isub, 1) := by decide +kernel
theorem dX10_around_18 : decode cX10_around 18 = .ok (.istore 4, 2) := by decide +kernel
theorem dX10_around_20 : decode cX10_around 20 = .ok (.iload 4, 2) := by decide +kernel
theorem dX10_around_22 : decode cX10_around 22 = .ok (.ifCond .lt 37, 3) := by decide +kernel
theorem dX10_around_25 : decode cX10_around 25 = .ok (.aload_n 0, 1) := by decide +kernel
theorem dX10_around_26 : decode cX10_around 26 = .ok (.iload 4, 2) := by decide +kernel
theorem dX10_around_28 : decode cX10_around 28 = .ok (.iload_n 1, 1) := by decide +kernel
theorem dX10_around_29 : decode cX10_around 29 = .ok (.invokevirtual 281, 3) := by decide +kernel
theorem dX10_around_32 : decode cX10_around 32 = .ok (.ifCond .ne 6, 3) := by decide +kernel
theorem dX10_around_35 : decode cX10_around 35 = .ok (.goto 18, 3) := by decide +kernel
theorem dX10_around_38 : decode cX10_around 38 = .ok (.iload_n 3, 1) := by decide +kernel
theorem dX10_around_39 : decode cX10_around 39 = .ok (.ifCond .ne 11, 3) := by decide +kernel
theorem dX10_around_42 : decode cX10_around 42 = .ok (.aload_n 0, 1) := by decide +kernel
theorem dX10_around_43 : decode cX10_around 43 = .ok (.getfield 48, 3) := by decide +kernel
theorem dX10_around_46 : decode cX10_around 46 = .ok (.iload 4, 2) := by decide +kernel
theorem dX10_around_48 : decode cX10_around 48 = .ok (.iaload, 1) := by decide +kernel
theorem dX10_around_49 : decode cX10_around 49 = .ok (.ireturn, 1) := by decide +kernel
theorem dX10_around_50 : decode cX10_around 50 = .ok (.iinc 3 (-1), 3) := by decide +kernel
theorem dX10_around_53 : decode cX10_around 53 = .ok (.iinc 4 (-1), 3) := by decide +kernel
theorem dX10_around_56 : decode cX10_around 56 = .ok (.goto (-36), 3) := by decide +kernel
theorem dX10_around_59 : decode cX10_around 59 = .ok (.iconst (-1), 1) := by decide +kernel
theorem dX10_around_60 : decode cX10_around 60 = .ok (.ireturn, 1) := by decide +kernel
theorem dX10_noPair_0 : decode cX10_noPair 0 = .ok (.aload_n 0, 1) := by decide +kernel
theorem dX10_noPair_1 : decode cX10_noPair 1 = .ok (.iload_n 1, 1) := by decide +kernel
theorem dX10_noPair_2 : decode cX10_noPair 2 = .ok (.invokevirtual 310, 3) := by decide +kernel
theorem dX10_noPair_5 : decode cX10_noPair 5 = .ok (.ifCond .ne 28, 3) := by decide +kernel
theorem dX10_noPair_8 : decode cX10_noPair 8 = .ok (.aload_n 0, 1) := by decide +kernel
theorem dX10_noPair_9 : decode cX10_noPair 9 = .ok (.aload_n 0, 1) := by decide +kernel
theorem dX10_noPair_10 : decode cX10_noPair 10 = .ok (.aload_n 0, 1) := by decide +kernel
theorem dX10_noPair_11 : decode cX10_noPair 11 = .ok (.iload_n 1, 1) := by decide +kernel
theorem dX10_noPair_12 : decode cX10_noPair 12 = .ok (.invokevirtual 313, 3) := by decide +kernel
theorem dX10_noPair_15 : decode cX10_noPair 15 = .ok (.invokevirtual 316, 3) := by decide +kernel
theorem dX10_noPair_18 : decode cX10_noPair 18 = .ok (.ifCond .ne 7, 3) := by decide +kernel
theorem dX10_noPair_21 : decode cX10_noPair 21 = .ok (.iconst 1, 1) := by decide +kernel
theorem dX10_noPair_22 : decode cX10_noPair 22 = .ok (.goto 4, 3) := by decide +kernel
theorem dX10_noPair_25 : decode cX10_noPair 25 = .ok (.iconst 0, 1) := by decide +kernel
theorem dX10_noPair_26 : decode cX10_noPair 26 = .ok (.iconst 2, 1) := by decide +kernel
theorem dX10_noPair_27 : decode cX10_noPair 27 = .ok (.invokevirtual 227, 3) := by decide +kernel
theorem dX10_noPair_30 : decode cX10_noPair 30 = .ok (.ifCond .eq 7, 3) := by decide +kernel
theorem dX10_noPair_33 : decode cX10_noPair 33 = .ok (.iconst 1, 1) := by decide +kernel
theorem dX10_noPair_34 : decode cX10_noPair 34 = .ok (.goto 4, 3) := by decide +kernel
theorem dX10_noPair_37 : decode cX10_noPair 37 = .ok (.iconst 0, 1) := by decide +kernel
theorem dX10_noPair_38 : decode cX10_noPair 38 = .ok (.ireturn, 1) := by decide +kernel
theorem dX10_pairAt_0 : decode cX10_pairAt 0 = .ok (.aload_n 0, 1) := by decide +kernel
theorem dX10_pairAt_1 : decode cX10_pairAt 1 = .ok (.iload_n 1, 1) := by decide +kernel
theorem dX10_pairAt_2 : decode cX10_pairAt 2 = .ok (.invokevirtual 313, 3) := by decide +kernel
theorem dX10_pairAt_5 : decode cX10_pairAt 5 = .ok (.istore_n 2, 1) := by decide +kernel
theorem dX10_pairAt_6 : decode cX10_pairAt 6 = .ok (.aload_n 0, 1) := by decide +kernel
theorem dX10_pairAt_7 : decode cX10_pairAt 7 = .ok (.getfield 54, 3) := by decide +kernel
theorem dX10_pairAt_10 : decode cX10_pairAt 10 = .ok (.iload_n 2, 1) := by decide +kernel
theorem dX10_pairAt_11 : decode cX10_pairAt 11 = .ok (.baload, 1) := by decide +kernel
theorem dX10_pairAt_12 : decode cX10_pairAt 12 = .ok (.ifCond .eq 7, 3) := by decide +kernel
theorem dX10_pairAt_15 : decode cX10_pairAt 15 = .ok (.iload_n 2, 1) := by decide +kernel
theorem dX10_pairAt_16 : decode cX10_pairAt 16 = .ok (.goto 9, 3) := by decide +kernel
theorem dX10_pairAt_19 : decode cX10_pairAt 19 = .ok (.aload_n 0, 1) := by decide +kernel
theorem dX10_pairAt_20 : decode cX10_pairAt 20 = .ok (.getfield 58, 3) := by decide +kernel
theorem dX10_pairAt_23 : decode cX10_pairAt 23 = .ok (.iload_n 2, 1) := by decide +kernel
theorem dX10_pairAt_24 : decode cX10_pairAt 24 = .ok (.iaload, 1) := by decide +kernel
theorem dX10_pairAt_25 : decode cX10_pairAt 25 = .ok (.ireturn, 1) := by decide +kernel
theorem dX10_within_0 : decode cX10_within 0 = .ok (.aload_n 0, 1) := by decide +kernel
theorem dX10_within_1 : decode cX10_within 1 = .ok (.iload_n 1, 1) := by decide +kernel
theorem dX10_within_2 : decode cX10_within 2 = .ok (.invokevirtual 322, 3) := by decide +kernel
theorem dX10_within_5 : decode cX10_within 5 = .ok (.ifCond .eq 5, 3) := by decide +kernel
theorem dX10_within_8 : decode cX10_within 8 = .ok (.iconst 0, 1) := by decide +kernel
theorem dX10_within_9 : decode cX10_within 9 = .ok (.ireturn, 1) := by decide +kernel
theorem dX10_within_10 : decode cX10_within 10 = .ok (.aload_n 0, 1) := by decide +kernel
theorem dX10_within_11 : decode cX10_within 11 = .ok (.iload_n 1, 1) := by decide +kernel
theorem dX10_within_12 : decode cX10_within 12 = .ok (.invokevirtual 325, 3) := by decide +kernel
theorem dX10_within_15 : decode cX10_within 15 = .ok (.istore_n 3, 1) := by decide +kernel
theorem dX10_within_16 : decode cX10_within 16 = .ok (.iload_n 2, 1) := by decide +kernel
theorem dX10_within_17 : decode cX10_within 17 = .ok (.istore 4, 2) := by decide +kernel
theorem dX10_within_19 : decode cX10_within 19 = .ok (.iconst 0, 1) := by decide +kernel
theorem dX10_within_20 : decode cX10_within 20 = .ok (.istore 5, 2) := by decide +kernel
theorem dX10_within_22 : decode cX10_within 22 = .ok (.iload 5, 2) := by decide +kernel
theorem dX10_within_24 : decode cX10_within 24 = .ok (.aload_n 0, 1) := by decide +kernel
theorem dX10_within_25 : decode cX10_within 25 = .ok (.getfield 264, 3) := by decide +kernel
theorem dX10_within_28 : decode cX10_within 28 = .ok (.if_icmp .ge 52, 3) := by decide +kernel
theorem dX10_within_31 : decode cX10_within 31 = .ok (.aload_n 0, 1) := by decide +kernel
theorem dX10_within_32 : decode cX10_within 32 = .ok (.iload 5, 2) := by decide +kernel
theorem dX10_within_34 : decode cX10_within 34 = .ok (.invokevirtual 275, 3) := by decide +kernel
theorem dX10_within_37 : decode cX10_within 37 = .ok (.ifCond .eq 37, 3) := by decide +kernel
theorem dX10_within_40 : decode cX10_within 40 = .ok (.aload_n 0, 1) := by decide +kernel
theorem dX10_within_41 : decode cX10_within 41 = .ok (.aload_n 0, 1) := by decide +kernel
theorem dX10_within_42 : decode cX10_within 42 = .ok (.getfield 48, 3) := by decide +kernel
theorem dX10_within_45 : decode cX10_within 45 = .ok (.iload 5, 2) := by decide +kernel
theorem dX10_within_47 : decode cX10_within 47 = .ok (.iaload, 1) := by decide +kernel
theorem dX10_within_48 : decode cX10_within 48 = .ok (.invokevirtual 328, 3) := by decide +kernel
theorem dX10_within_51 : decode cX10_within 51 = .ok (.iload_n 3, 1) := by decide +kernel
theorem dX10_within_52 : decode cX10_within 52 = .ok (.if_icmp .eq 6, 3) := by decide +kernel
theorem dX10_within_55 : decode cX10_within 55 = .ok (.goto 19, 3) := by decide +kernel
theorem dX10_within_58 : decode cX10_within 58 = .ok (.iload 4, 2) := by decide +kernel
theorem dX10_within_60 : decode cX10_within 60 = .ok (.ifCond .ne 11, 3) := by decide +kernel
theorem dX10_within_63 : decode cX10_within 63 = .ok (.aload_n 0, 1) := by decide +kernel
theorem dX10_within_64 : decode cX10_within 64 = .ok (.getfield 48, 3) := by decide +kernel
theorem dX10_within_67 : decode cX10_within 67 = .ok (.iload 5, 2) := by decide +kernel
theorem dX10_within_69 : decode cX10_within 69 = .ok (.iaload, 1) := by decide +kernel
theorem dX10_within_70 : decode cX10_within 70 = .ok (.ireturn, 1) := by decide +kernel
theorem dX10_within_71 : decode cX10_within 71 = .ok (.iinc 4 (-1), 3) := by decide +kernel
theorem dX10_within_74 : decode cX10_within 74 = .ok (.iinc 5 1, 3) := by decide +kernel
theorem dX10_within_77 : decode cX10_within 77 = .ok (.goto (-55), 3) := by decide +kernel
theorem dX10_within_80 : decode cX10_within 80 = .ok (.iconst (-1), 1) := by decide +kernel
theorem dX10_within_81 : decode cX10_within 81 = .ok (.ireturn, 1) := by decide +kernel
theorem dX10_beside_0 : decode cX10_beside 0 = .ok (.aload_n 0, 1) := by decide +kernel
theorem dX10_beside_1 : decode cX10_beside 1 = .ok (.iload_n 1, 1) := by decide +kernel
theorem dX10_beside_2 : decode cX10_beside 2 = .ok (.invokevirtual 322, 3) := by decide +kernel
theorem dX10_beside_5 : decode cX10_beside 5 = .ok (.ifCond .eq 5, 3) := by decide +kernel
theorem dX10_beside_8 : decode cX10_beside 8 = .ok (.iconst 0, 1) := by decide +kernel
theorem dX10_beside_9 : decode cX10_beside 9 = .ok (.ireturn, 1) := by decide +kernel
theorem dX10_beside_10 : decode cX10_beside 10 = .ok (.aload_n 0, 1) := by decide +kernel
theorem dX10_beside_11 : decode cX10_beside 11 = .ok (.iload_n 1, 1) := by decide +kernel
theorem dX10_beside_12 : decode cX10_beside 12 = .ok (.invokevirtual 325, 3) := by decide +kernel
theorem dX10_beside_15 : decode cX10_beside 15 = .ok (.istore_n 3, 1) := by decide +kernel
theorem dX10_beside_16 : decode cX10_beside 16 = .ok (.aload_n 0, 1) := by decide +kernel
theorem dX10_beside_17 : decode cX10_beside 17 = .ok (.aload_n 0, 1) := by decide +kernel
theorem dX10_beside_18 : decode cX10_beside 18 = .ok (.getfield 48, 3) := by decide +kernel
theorem dX10_beside_21 : decode cX10_beside 21 = .ok (.iload_n 3, 1) := by decide +kernel
theorem dX10_beside_22 : decode cX10_beside 22 = .ok (.iaload, 1) := by decide +kernel
theorem dX10_beside_23 : decode cX10_beside 23 = .ok (.invokevirtual 328, 3) := by decide +kernel
theorem dX10_beside_26 : decode cX10_beside 26 = .ok (.istore 4, 2) := by decide +kernel
theorem dX10_beside_28 : decode cX10_beside 28 = .ok (.iload_n 2, 1) := by decide +kernel
theorem dX10_beside_29 : decode cX10_beside 29 = .ok (.ifCond .eq 9, 3) := by decide +kernel
theorem dX10_beside_32 : decode cX10_beside 32 = .ok (.iload_n 3, 1) := by decide +kernel
theorem dX10_beside_33 : decode cX10_beside 33 = .ok (.iconst 1, 1) := by decide +kernel
theorem dX10_beside_34 : decode cX10_beside 34 = .ok (.iadd, 1) := by decide +kernel
theorem dX10_beside_35 : decode cX10_beside 35 = .ok (.goto 6, 3) := by decide +kernel
theorem dX10_beside_38 : decode cX10_beside 38 = .ok (.iload_n 3, 1) := by decide +kernel
theorem dX10_beside_39 : decode cX10_beside 39 = .ok (.iconst 1, 1) := by decide +kernel
theorem dX10_beside_40 : decode cX10_beside 40 = .ok (.isub, 1) := by decide +kernel
theorem dX10_beside_41 : decode cX10_beside 41 = .ok (.istore 5, 2) := by decide +kernel
theorem dX10_beside_43 : decode cX10_beside 43 = .ok (.iload 5, 2) := by decide +kernel
theorem dX10_beside_45 : decode cX10_beside 45 = .ok (.iconst 0, 1) := by decide +kernel
theorem dX10_beside_46 : decode cX10_beside 46 = .ok (.aload_n 0, 1) := by decide +kernel
theorem dX10_beside_47 : decode cX10_beside 47 = .ok (.getfield 264, 3) := by decide +kernel
theorem dX10_beside_50 : decode cX10_beside 50 = .ok (.iconst 1, 1) := by decide +kernel
theorem dX10_beside_51 : decode cX10_beside 51 = .ok (.isub, 1) := by decide +kernel
theorem dX10_beside_52 : decode cX10_beside 52 = .ok (.invokestatic 130, 3) := by decide +kernel
theorem dX10_beside_55 : decode cX10_beside 55 = .ok (.ifCond .eq 53, 3) := by decide +kernel
theorem dX10_beside_58 : decode cX10_beside 58 = .ok (.aload_n 0, 1) := by decide +kernel
theorem dX10_beside_59 : decode cX10_beside 59 = .ok (.iload 5, 2) := by decide +kernel
theorem dX10_beside_61 : decode cX10_beside 61 = .ok (.invokevirtual 275, 3) := by decide +kernel
theorem dX10_beside_64 : decode cX10_beside 64 = .ok (.ifCond .eq 27, 3) := by decide +kernel
theorem dX10_beside_67 : decode cX10_beside 67 = .ok (.aload_n 0, 1) := by decide +kernel
theorem dX10_beside_68 : decode cX10_beside 68 = .ok (.aload_n 0, 1) := by decide +kernel
theorem dX10_beside_69 : decode cX10_beside 69 = .ok (.getfield 48, 3) := by decide +kernel
theorem dX10_beside_72 : decode cX10_beside 72 = .ok (.iload 5, 2) := by decide +kernel
theorem dX10_beside_74 : decode cX10_beside 74 = .ok (.iaload, 1) := by decide +kernel
theorem dX10_beside_75 : decode cX10_beside 75 = .ok (.invokevirtual 328, 3) := by decide +kernel
theorem dX10_beside_78 : decode cX10_beside 78 = .ok (.iload 4, 2) := by decide +kernel
theorem dX10_beside_80 : decode cX10_beside 80 = .ok (.if_icmp .ne 11, 3) := by decide +kernel
theorem dX10_beside_83 : decode cX10_beside 83 = .ok (.aload_n 0, 1) := by decide +kernel
theorem dX10_beside_84 : decode cX10_beside 84 = .ok (.getfield 48, 3) := by decide +kernel
theorem dX10_beside_87 : decode cX10_beside 87 = .ok (.iload 5, 2) := by decide +kernel
theorem dX10_beside_89 : decode cX10_beside 89 = .ok (.iaload, 1) := by decide +kernel
theorem dX10_beside_90 : decode cX10_beside 90 = .ok (.ireturn, 1) := by decide +kernel
theorem dX10_beside_91 : decode cX10_beside 91 = .ok (.iload 5, 2) := by decide +kernel
theorem dX10_beside_93 : decode cX10_beside 93 = .ok (.iload_n 2, 1) := by decide +kernel
theorem dX10_beside_94 : decode cX10_beside 94 = .ok (.ifCond .eq 7, 3) := by decide +kernel
theorem dX10_beside_97 : decode cX10_beside 97 = .ok (.iconst 1, 1) := by decide +kernel
theorem dX10_beside_98 : decode cX10_beside 98 = .ok (.goto 4, 3) := by decide +kernel
theorem dX10_beside_101 : decode cX10_beside 101 = .ok (.iconst (-1), 1) := by decide +kernel
theorem dX10_beside_102 : decode cX10_beside 102 = .ok (.iadd, 1) := by decide +kernel
theorem dX10_beside_103 : decode cX10_beside 103 = .ok (.istore 5, 2) := by decide +kernel
theorem dX10_beside_105 : decode cX10_beside 105 = .ok (.goto (-62), 3) := by decide +kernel
theorem dX10_beside_108 : decode cX10_beside 108 = .ok (.iconst (-1), 1) := by decide +kernel
theorem dX10_beside_109 : decode cX10_beside 109 = .ok (.ireturn, 1) := by decide +kernel
theorem dX10_lone_0 : decode cX10_lone 0 = .ok (.aload_n 0, 1) := by decide +kernel
theorem dX10_lone_1 : decode cX10_lone 1 = .ok (.iconst 0, 1) := by decide +kernel
theorem dX10_lone_2 : decode cX10_lone 2 = .ok (.putfield 117, 3) := by decide +kernel
theorem dX10_lone_5 : decode cX10_lone 5 = .ok (.aload_n 0, 1) := by decide +kernel
theorem dX10_lone_6 : decode cX10_lone 6 = .ok (.invokevirtual 292, 3) := by decide +kernel
theorem dX10_lone_9 : decode cX10_lone 9 = .ok (.iload_n 1, 1) := by decide +kernel
theorem dX10_lone_10 : decode cX10_lone 10 = .ok (.istore_n 2, 1) := by decide +kernel
theorem dX10_lone_11 : decode cX10_lone 11 = .ok (.iconst 0, 1) := by decide +kernel
theorem dX10_lone_12 : decode cX10_lone 12 = .ok (.istore_n 3, 1) := by decide +kernel
theorem dX10_lone_13 : decode cX10_lone 13 = .ok (.iload_n 3, 1) := by decide +kernel
theorem dX10_lone_14 : decode cX10_lone 14 = .ok (.aload_n 0, 1) := by decide +kernel
theorem dX10_lone_15 : decode cX10_lone 15 = .ok (.getfield 264, 3) := by decide +kernel
theorem dX10_lone_18 : decode cX10_lone 18 = .ok (.if_icmp .ge 36, 3) := by decide +kernel
theorem dX10_lone_21 : decode cX10_lone 21 = .ok (.aload_n 0, 1) := by decide +kernel
theorem dX10_lone_22 : decode cX10_lone 22 = .ok (.getfield 58, 3) := by decide +kernel
theorem dX10_lone_25 : decode cX10_lone 25 = .ok (.iload_n 3, 1) := by decide +kernel
theorem dX10_lone_26 : decode cX10_lone 26 = .ok (.iaload, 1) := by decide +kernel
theorem dX10_lone_27 : decode cX10_lone 27 = .ok (.iconst (-1), 1) := by decide +kernel
theorem dX10_lone_28 : decode cX10_lone 28 = .ok (.if_icmp .eq 6, 3) := by decide +kernel
theorem dX10_lone_31 : decode cX10_lone 31 = .ok (.goto 17, 3) := by decide +kernel
theorem dX10_lone_34 : decode cX10_lone 34 = .ok (.iload_n 2, 1) := by decide +kernel
theorem dX10_lone_35 : decode cX10_lone 35 = .ok (.ifCond .ne 10, 3) := by decide +kernel
theorem dX10_lone_38 : decode cX10_lone 38 = .ok (.aload_n 0, 1) := by decide +kernel
theorem dX10_lone_39 : decode cX10_lone 39 = .ok (.getfield 48, 3) := by decide +kernel
theorem dX10_lone_42 : decode cX10_lone 42 = .ok (.iload_n 3, 1) := by decide +kernel
theorem dX10_lone_43 : decode cX10_lone 43 = .ok (.iaload, 1) := by decide +kernel
theorem dX10_lone_44 : decode cX10_lone 44 = .ok (.ireturn, 1) := by decide +kernel
theorem dX10_lone_45 : decode cX10_lone 45 = .ok (.iinc 2 (-1), 3) := by decide +kernel
theorem dX10_lone_48 : decode cX10_lone 48 = .ok (.iinc 3 1, 3) := by decide +kernel
theorem dX10_lone_51 : decode cX10_lone 51 = .ok (.goto (-38), 3) := by decide +kernel
theorem dX10_lone_54 : decode cX10_lone 54 = .ok (.iconst (-1), 1) := by decide +kernel
theorem dX10_lone_55 : decode cX10_lone 55 = .ok (.ireturn, 1) := by decide +kernel
theorem dX10_noKind_0 : decode cX10_noKind 0 = .ok (.aload_n 0, 1) := by decide +kernel
theorem dX10_noKind_1 : decode cX10_noKind 1 = .ok (.iload_n 1, 1) := by decide +kernel
theorem dX10_noKind_2 : decode cX10_noKind 2 = .ok (.iconst 0, 1) := by decide +kernel
theorem dX10_noKind_3 : decode cX10_noKind 3 = .ok (.aload_n 0, 1) := by decide +kernel
theorem dX10_noKind_4 : decode cX10_noKind 4 = .ok (.getfield 110, 3) := by decide +kernel
theorem dX10_noKind_7 : decode cX10_noKind 7 = .ok (.iconst 1, 1) := by decide +kernel
theorem dX10_noKind_8 : decode cX10_noKind 8 = .ok (.isub, 1) := by decide +kernel
theorem dX10_noKind_9 : decode cX10_noKind 9 = .ok (.invokestatic 130, 3) := by decide +kernel
theorem dX10_noKind_12 : decode cX10_noKind 12 = .ok (.ifCond .ne 7, 3) := by decide +kernel
theorem dX10_noKind_15 : decode cX10_noKind 15 = .ok (.iconst 1, 1) := by decide +kernel
theorem dX10_noKind_16 : decode cX10_noKind 16 = .ok (.goto 4, 3) := by decide +kernel
theorem dX10_noKind_19 : decode cX10_noKind 19 = .ok (.iconst 0, 1) := by decide +kernel
theorem dX10_noKind_20 : decode cX10_noKind 20 = .ok (.iconst 1, 1) := by decide +kernel
theorem dX10_noKind_21 : decode cX10_noKind 21 = .ok (.invokevirtual 227, 3) := by decide +kernel
theorem dX10_noKind_24 : decode cX10_noKind 24 = .ok (.ireturn, 1) := by decide +kernel
theorem dX10_count_0 : decode cX10_count 0 = .ok (.aload_n 0, 1) := by decide +kernel
theorem dX10_count_1 : decode cX10_count 1 = .ok (.iconst 0, 1) := by decide +kernel
theorem dX10_count_2 : decode cX10_count 2 = .ok (.putfield 117, 3) := by decide +kernel
theorem dX10_count_5 : decode cX10_count 5 = .ok (.aload_n 0, 1) := by decide +kernel
theorem dX10_count_6 : decode cX10_count 6 = .ok (.iload_n 1, 1) := by decide +kernel
theorem dX10_count_7 : decode cX10_count 7 = .ok (.invokevirtual 331, 3) := by decide +kernel
theorem dX10_count_10 : decode cX10_count 10 = .ok (.ifCond .ne 25, 3) := by decide +kernel
theorem dX10_count_13 : decode cX10_count 13 = .ok (.aload_n 0, 1) := by decide +kernel
theorem dX10_count_14 : decode cX10_count 14 = .ok (.iload_n 2, 1) := by decide +kernel
theorem dX10_count_15 : decode cX10_count 15 = .ok (.iconst 0, 1) := by decide +kernel
theorem dX10_count_16 : decode cX10_count 16 = .ok (.iconst 2, 1) := by decide +kernel
theorem dX10_count_17 : decode cX10_count 17 = .ok (.invokestatic 130, 3) := by decide +kernel
theorem dX10_count_20 : decode cX10_count 20 = .ok (.ifCond .ne 7, 3) := by decide +kernel
theorem dX10_count_23 : decode cX10_count 23 = .ok (.iconst 1, 1) := by decide +kernel
theorem dX10_count_24 : decode cX10_count 24 = .ok (.goto 4, 3) := by decide +kernel
theorem dX10_count_27 : decode cX10_count 27 = .ok (.iconst 0, 1) := by decide +kernel
theorem dX10_count_28 : decode cX10_count 28 = .ok (.iconst 2, 1) := by decide +kernel
theorem dX10_count_29 : decode cX10_count 29 = .ok (.invokevirtual 227, 3) := by decide +kernel
theorem dX10_count_32 : decode cX10_count 32 = .ok (.ifCond .eq 5, 3) := by decide +kernel
theorem dX10_count_35 : decode cX10_count 35 = .ok (.iconst 0, 1) := by decide +kernel
theorem dX10_count_36 : decode cX10_count 36 = .ok (.ireturn, 1) := by decide +kernel
theorem dX10_count_37 : decode cX10_count 37 = .ok (.aload_n 0, 1) := by decide +kernel
theorem dX10_count_38 : decode cX10_count 38 = .ok (.invokevirtual 292, 3) := by decide +kernel
theorem dX10_count_41 : decode cX10_count 41 = .ok (.iconst 0, 1) := by decide +kernel
theorem dX10_count_42 : decode cX10_count 42 = .ok (.istore_n 3, 1) := by decide +kernel
theorem dX10_count_43 : decode cX10_count 43 = .ok (.iconst 0, 1) := by decide +kernel
theorem dX10_count_44 : decode cX10_count 44 = .ok (.istore 4, 2) := by decide +kernel
theorem dX10_count_46 : decode cX10_count 46 = .ok (.iload 4, 2) := by decide +kernel
theorem dX10_count_48 : decode cX10_count 48 = .ok (.aload_n 0, 1) := by decide +kernel
theorem dX10_count_49 : decode cX10_count 49 = .ok (.getfield 264, 3) := by decide +kernel
theorem dX10_count_52 : decode cX10_count 52 = .ok (.if_icmp .ge 78, 3) := by decide +kernel
theorem dX10_count_55 : decode cX10_count 55 = .ok (.iload_n 2, 1) := by decide +kernel
theorem dX10_count_56 : decode cX10_count 56 = .ok (.ifCond .ne 13, 3) := by decide +kernel
theorem dX10_count_59 : decode cX10_count 59 = .ok (.aload_n 0, 1) := by decide +kernel
theorem dX10_count_60 : decode cX10_count 60 = .ok (.getfield 54, 3) := by decide +kernel
theorem dX10_count_63 : decode cX10_count 63 = .ok (.iload 4, 2) := by decide +kernel
theorem dX10_count_65 : decode cX10_count 65 = .ok (.baload, 1) := by decide +kernel
theorem dX10_count_66 : decode cX10_count 66 = .ok (.goto 32, 3) := by decide +kernel
theorem dX10_count_69 : decode cX10_count 69 = .ok (.iload_n 2, 1) := by decide +kernel
theorem dX10_count_70 : decode cX10_count 70 = .ok (.iconst 1, 1) := by decide +kernel
theorem dX10_count_71 : decode cX10_count 71 = .ok (.if_icmp .ne 21, 3) := by decide +kernel
theorem dX10_count_74 : decode cX10_count 74 = .ok (.aload_n 0, 1) := by decide +kernel
theorem dX10_count_75 : decode cX10_count 75 = .ok (.getfield 54, 3) := by decide +kernel
theorem dX10_count_78 : decode cX10_count 78 = .ok (.iload 4, 2) := by decide +kernel
theorem dX10_count_80 : decode cX10_count 80 = .ok (.baload, 1) := by decide +kernel
theorem dX10_count_81 : decode cX10_count 81 = .ok (.ifCond .ne 7, 3) := by decide +kernel
theorem dX10_count_84 : decode cX10_count 84 = .ok (.iconst 1, 1) := by decide +kernel
theorem dX10_count_85 : decode cX10_count 85 = .ok (.goto 13, 3) := by decide +kernel
theorem dX10_count_88 : decode cX10_count 88 = .ok (.iconst 0, 1) := by decide +kernel
theorem dX10_count_89 : decode cX10_count 89 = .ok (.goto 9, 3) := by decide +kernel
theorem dX10_count_92 : decode cX10_count 92 = .ok (.aload_n 0, 1) := by decide +kernel
theorem dX10_count_93 : decode cX10_count 93 = .ok (.iload 4, 2) := by decide +kernel
theorem dX10_count_95 : decode cX10_count 95 = .ok (.invokevirtual 275, 3) := by decide +kernel
theorem dX10_count_98 : decode cX10_count 98 = .ok (.istore 5, 2) := by decide +kernel
theorem dX10_count_100 : decode cX10_count 100 = .ok (.iload_n 3, 1) := by decide +kernel
theorem dX10_count_101 : decode cX10_count 101 = .ok (.aload_n 0, 1) := by decide +kernel
theorem dX10_count_102 : decode cX10_count 102 = .ok (.getfield 51, 3) := by decide +kernel
theorem dX10_count_105 : decode cX10_count 105 = .ok (.iload 4, 2) := by decide +kernel
theorem dX10_count_107 : decode cX10_count 107 = .ok (.iaload, 1) := by decide +kernel
theorem dX10_count_108 : decode cX10_count 108 = .ok (.iload_n 1, 1) := by decide +kernel
theorem dX10_count_109 : decode cX10_count 109 = .ok (.if_icmp .ne 12, 3) := by decide +kernel
theorem dX10_count_112 : decode cX10_count 112 = .ok (.iload 5, 2) := by decide +kernel
theorem dX10_count_114 : decode cX10_count 114 = .ok (.ifCond .eq 7, 3) := by decide +kernel
theorem dX10_count_117 : decode cX10_count 117 = .ok (.iconst 1, 1) := by decide +kernel
theorem dX10_count_118 : decode cX10_count 118 = .ok (.goto 4, 3) := by decide +kernel
theorem dX10_count_121 : decode cX10_count 121 = .ok (.iconst 0, 1) := by decide +kernel
theorem dX10_count_122 : decode cX10_count 122 = .ok (.iadd, 1) := by decide +kernel
theorem dX10_count_123 : decode cX10_count 123 = .ok (.istore_n 3, 1) := by decide +kernel
theorem dX10_count_124 : decode cX10_count 124 = .ok (.iinc 4 1, 3) := by decide +kernel
theorem dX10_count_127 : decode cX10_count 127 = .ok (.goto (-81), 3) := by decide +kernel
theorem dX10_count_130 : decode cX10_count 130 = .ok (.iload_n 3, 1) := by decide +kernel
theorem dX10_count_131 : decode cX10_count 131 = .ok (.ireturn, 1) := by decide +kernel
theorem dX10_widest_0 : decode cX10_widest 0 = .ok (.aload_n 0, 1) := by decide +kernel
theorem dX10_widest_1 : decode cX10_widest 1 = .ok (.iconst 0, 1) := by decide +kernel
theorem dX10_widest_2 : decode cX10_widest 2 = .ok (.putfield 117, 3) := by decide +kernel
theorem dX10_widest_5 : decode cX10_widest 5 = .ok (.aload_n 0, 1) := by decide +kernel
theorem dX10_widest_6 : decode cX10_widest 6 = .ok (.invokevirtual 292, 3) := by decide +kernel
theorem dX10_widest_9 : decode cX10_widest 9 = .ok (.iconst (-1), 1) := by decide +kernel
theorem dX10_widest_10 : decode cX10_widest 10 = .ok (.istore_n 1, 1) := by decide +kernel
theorem dX10_widest_11 : decode cX10_widest 11 = .ok (.iconst 0, 1) := by decide +kernel
theorem dX10_widest_12 : decode cX10_widest 12 = .ok (.istore_n 2, 1) := by decide +kernel
theorem dX10_widest_13 : decode cX10_widest 13 = .ok (.iconst 0, 1) := by decide +kernel
theorem dX10_widest_14 : decode cX10_widest 14 = .ok (.istore_n 3, 1) := by decide +kernel
theorem dX10_widest_15 : decode cX10_widest 15 = .ok (.iload_n 3, 1) := by decide +kernel
theorem dX10_widest_16 : decode cX10_widest 16 = .ok (.aload_n 0, 1) := by decide +kernel
theorem dX10_widest_17 : decode cX10_widest 17 = .ok (.getfield 264, 3) := by decide +kernel
theorem dX10_widest_20 : decode cX10_widest 20 = .ok (.if_icmp .ge 53, 3) := by decide +kernel
theorem dX10_widest_23 : decode cX10_widest 23 = .ok (.aload_n 0, 1) := by decide +kernel
theorem dX10_widest_24 : decode cX10_widest 24 = .ok (.iload_n 3, 1) := by decide +kernel
theorem dX10_widest_25 : decode cX10_widest 25 = .ok (.invokevirtual 275, 3) := by decide +kernel
theorem dX10_widest_28 : decode cX10_widest 28 = .ok (.ifCond .eq 39, 3) := by decide +kernel
theorem dX10_widest_31 : decode cX10_widest 31 = .ok (.aload_n 0, 1) := by decide +kernel
theorem dX10_widest_32 : decode cX10_widest 32 = .ok (.iload_n 3, 1) := by decide +kernel
theorem dX10_widest_33 : decode cX10_widest 33 = .ok (.invokevirtual 278, 3) := by decide +kernel
theorem dX10_widest_36 : decode cX10_widest 36 = .ok (.aload_n 0, 1) := by decide +kernel
theorem dX10_widest_37 : decode cX10_widest 37 = .ok (.getfield 48, 3) := by decide +kernel
theorem dX10_widest_40 : decode cX10_widest 40 = .ok (.iload_n 3, 1) := by decide +kernel
theorem dX10_widest_41 : decode cX10_widest 41 = .ok (.iaload, 1) := by decide +kernel
theorem dX10_widest_42 : decode cX10_widest 42 = .ok (.isub, 1) := by decide +kernel
theorem dX10_widest_43 : decode cX10_widest 43 = .ok (.iload_n 2, 1) := by decide +kernel
theorem dX10_widest_44 : decode cX10_widest 44 = .ok (.if_icmp .le 23, 3) := by decide +kernel
theorem dX10_widest_47 : decode cX10_widest 47 = .ok (.aload_n 0, 1) := by decide +kernel
theorem dX10_widest_48 : decode cX10_widest 48 = .ok (.iload_n 3, 1) := by decide +kernel
theorem dX10_widest_49 : decode cX10_widest 49 = .ok (.invokevirtual 278, 3) := by decide +kernel
theorem dX10_widest_52 : decode cX10_widest 52 = .ok (.aload_n 0, 1) := by decide +kernel
theorem dX10_widest_53 : decode cX10_widest 53 = .ok (.getfield 48, 3) := by decide +kernel
theorem dX10_widest_56 : decode cX10_widest 56 = .ok (.iload_n 3, 1) := by decide +kernel
theorem dX10_widest_57 : decode cX10_widest 57 = .ok (.iaload, 1) := by decide +kernel
theorem dX10_widest_58 : decode cX10_widest 58 = .ok (.isub, 1) := by decide +kernel
theorem dX10_widest_59 : decode cX10_widest 59 = .ok (.istore_n 2, 1) := by decide +kernel
theorem dX10_widest_60 : decode cX10_widest 60 = .ok (.aload_n 0, 1) := by decide +kernel
theorem dX10_widest_61 : decode cX10_widest 61 = .ok (.getfield 48, 3) := by decide +kernel
theorem dX10_widest_64 : decode cX10_widest 64 = .ok (.iload_n 3, 1) := by decide +kernel
theorem dX10_widest_65 : decode cX10_widest 65 = .ok (.iaload, 1) := by decide +kernel
theorem dX10_widest_66 : decode cX10_widest 66 = .ok (.istore_n 1, 1) := by decide +kernel
theorem dX10_widest_67 : decode cX10_widest 67 = .ok (.iinc 3 1, 3) := by decide +kernel
theorem dX10_widest_70 : decode cX10_widest 70 = .ok (.goto (-55), 3) := by decide +kernel
theorem dX10_widest_73 : decode cX10_widest 73 = .ok (.iload_n 1, 1) := by decide +kernel
theorem dX10_widest_74 : decode cX10_widest 74 = .ok (.ireturn, 1) := by decide +kernel
theorem dX10_meanDepth_0 : decode cX10_meanDepth 0 = .ok (.aload_n 0, 1) := by decide +kernel
theorem dX10_meanDepth_1 : decode cX10_meanDepth 1 = .ok (.iconst 0, 1) := by decide +kernel
theorem dX10_meanDepth_2 : decode cX10_meanDepth 2 = .ok (.putfield 117, 3) := by decide +kernel
theorem dX10_meanDepth_5 : decode cX10_meanDepth 5 = .ok (.aload_n 0, 1) := by decide +kernel
theorem dX10_meanDepth_6 : decode cX10_meanDepth 6 = .ok (.invokevirtual 292, 3) := by decide +kernel
theorem dX10_meanDepth_9 : decode cX10_meanDepth 9 = .ok (.iconst 0, 1) := by decide +kernel
theorem dX10_meanDepth_10 : decode cX10_meanDepth 10 = .ok (.istore_n 1, 1) := by decide +kernel
theorem dX10_meanDepth_11 : decode cX10_meanDepth 11 = .ok (.iconst 0, 1) := by decide +kernel
theorem dX10_meanDepth_12 : decode cX10_meanDepth 12 = .ok (.istore_n 2, 1) := by decide +kernel
theorem dX10_meanDepth_13 : decode cX10_meanDepth 13 = .ok (.iload_n 2, 1) := by decide +kernel
theorem dX10_meanDepth_14 : decode cX10_meanDepth 14 = .ok (.aload_n 0, 1) := by decide +kernel
theorem dX10_meanDepth_15 : decode cX10_meanDepth 15 = .ok (.getfield 264, 3) := by decide +kernel
theorem dX10_meanDepth_18 : decode cX10_meanDepth 18 = .ok (.if_icmp .ge 34, 3) := by decide +kernel
theorem dX10_meanDepth_21 : decode cX10_meanDepth 21 = .ok (.iload_n 1, 1) := by decide +kernel
theorem dX10_meanDepth_22 : decode cX10_meanDepth 22 = .ok (.aload_n 0, 1) := by decide +kernel
theorem dX10_meanDepth_23 : decode cX10_meanDepth 23 = .ok (.iload_n 2, 1) := by decide +kernel
theorem dX10_meanDepth_24 : decode cX10_meanDepth 24 = .ok (.invokevirtual 275, 3) := by decide +kernel
theorem dX10_meanDepth_27 : decode cX10_meanDepth 27 = .ok (.ifCond .eq 16, 3) := by decide +kernel
theorem dX10_meanDepth_30 : decode cX10_meanDepth 30 = .ok (.aload_n 0, 1) := by decide +kernel
theorem dX10_meanDepth_31 : decode cX10_meanDepth 31 = .ok (.aload_n 0, 1) := by decide +kernel
theorem dX10_meanDepth_32 : decode cX10_meanDepth 32 = .ok (.getfield 48, 3) := by decide +kernel
theorem dX10_meanDepth_35 : decode cX10_meanDepth 35 = .ok (.iload_n 2, 1) := by decide +kernel
theorem dX10_meanDepth_36 : decode cX10_meanDepth 36 = .ok (.iaload, 1) := by decide +kernel
theorem dX10_meanDepth_37 : decode cX10_meanDepth 37 = .ok (.invokevirtual 284, 3) := by decide +kernel
theorem dX10_meanDepth_40 : decode cX10_meanDepth 40 = .ok (.goto 4, 3) := by decide +kernel
theorem dX10_meanDepth_43 : decode cX10_meanDepth 43 = .ok (.iconst 0, 1) := by decide +kernel
theorem dX10_meanDepth_44 : decode cX10_meanDepth 44 = .ok (.iadd, 1) := by decide +kernel
theorem dX10_meanDepth_45 : decode cX10_meanDepth 45 = .ok (.istore_n 1, 1) := by decide +kernel
theorem dX10_meanDepth_46 : decode cX10_meanDepth 46 = .ok (.iinc 2 1, 3) := by decide +kernel
theorem dX10_meanDepth_49 : decode cX10_meanDepth 49 = .ok (.goto (-36), 3) := by decide +kernel
theorem dX10_meanDepth_52 : decode cX10_meanDepth 52 = .ok (.aload_n 0, 1) := by decide +kernel
theorem dX10_meanDepth_53 : decode cX10_meanDepth 53 = .ok (.invokevirtual 295, 3) := by decide +kernel
theorem dX10_meanDepth_56 : decode cX10_meanDepth 56 = .ok (.ifCond .ne 7, 3) := by decide +kernel
theorem dX10_meanDepth_59 : decode cX10_meanDepth 59 = .ok (.dconst 0, 1) := by decide +kernel
theorem dX10_meanDepth_60 : decode cX10_meanDepth 60 = .ok (.goto 11, 3) := by decide +kernel
theorem dX10_meanDepth_63 : decode cX10_meanDepth 63 = .ok (.iload_n 1, 1) := by decide +kernel
theorem dX10_meanDepth_64 : decode cX10_meanDepth 64 = .ok (.i2d, 1) := by decide +kernel
theorem dX10_meanDepth_65 : decode cX10_meanDepth 65 = .ok (.aload_n 0, 1) := by decide +kernel
theorem dX10_meanDepth_66 : decode cX10_meanDepth 66 = .ok (.invokevirtual 295, 3) := by decide +kernel
theorem dX10_meanDepth_69 : decode cX10_meanDepth 69 = .ok (.i2d, 1) := by decide +kernel
theorem dX10_meanDepth_70 : decode cX10_meanDepth 70 = .ok (.ddiv, 1) := by decide +kernel
theorem dX10_meanDepth_71 : decode cX10_meanDepth 71 = .ok (.dreturn, 1) := by decide +kernel
theorem dX10_share_0 : decode cX10_share 0 = .ok (.aload_n 0, 1) := by decide +kernel
theorem dX10_share_1 : decode cX10_share 1 = .ok (.iconst 0, 1) := by decide +kernel
theorem dX10_share_2 : decode cX10_share 2 = .ok (.putfield 117, 3) := by decide +kernel
theorem dX10_share_5 : decode cX10_share 5 = .ok (.aload_n 0, 1) := by decide +kernel
theorem dX10_share_6 : decode cX10_share 6 = .ok (.invokevirtual 292, 3) := by decide +kernel
theorem dX10_share_9 : decode cX10_share 9 = .ok (.aload_n 0, 1) := by decide +kernel
theorem dX10_share_10 : decode cX10_share 10 = .ok (.getfield 264, 3) := by decide +kernel
theorem dX10_share_13 : decode cX10_share 13 = .ok (.ifCond .ne 7, 3) := by decide +kernel
theorem dX10_share_16 : decode cX10_share 16 = .ok (.fconst 1, 1) := by decide +kernel
theorem dX10_share_17 : decode cX10_share 17 = .ok (.goto 19, 3) := by decide +kernel
theorem dX10_share_20 : decode cX10_share 20 = .ok (.aload_n 0, 1) := by decide +kernel
theorem dX10_share_21 : decode cX10_share 21 = .ok (.getfield 264, 3) := by decide +kernel
theorem dX10_share_24 : decode cX10_share 24 = .ok (.aload_n 0, 1) := by decide +kernel
theorem dX10_share_25 : decode cX10_share 25 = .ok (.invokevirtual 298, 3) := by decide +kernel
theorem dX10_share_28 : decode cX10_share 28 = .ok (.isub, 1) := by decide +kernel
theorem dX10_share_29 : decode cX10_share 29 = .ok (.i2f, 1) := by decide +kernel
theorem dX10_share_30 : decode cX10_share 30 = .ok (.aload_n 0, 1) := by decide +kernel
theorem dX10_share_31 : decode cX10_share 31 = .ok (.getfield 264, 3) := by decide +kernel
theorem dX10_share_34 : decode cX10_share 34 = .ok (.i2f, 1) := by decide +kernel
theorem dX10_share_35 : decode cX10_share 35 = .ok (.fdiv, 1) := by decide +kernel
theorem dX10_share_36 : decode cX10_share 36 = .ok (.freturn, 1) := by decide +kernel
theorem dX10_cost_0 : decode cX10_cost 0 = .ok (.aload_n 0, 1) := by decide +kernel
theorem dX10_cost_1 : decode cX10_cost 1 = .ok (.getfield 65, 3) := by decide +kernel
theorem dX10_cost_4 : decode cX10_cost 4 = .ok (.sipush 241, 3) := by decide +kernel
theorem dX10_cost_7 : decode cX10_cost 7 = .ok (.iload_n 1, 1) := by decide +kernel
theorem dX10_cost_8 : decode cX10_cost 8 = .ok (.imul, 1) := by decide +kernel
theorem dX10_cost_9 : decode cX10_cost 9 = .ok (.iload_n 2, 1) := by decide +kernel
theorem dX10_cost_10 : decode cX10_cost 10 = .ok (.iadd, 1) := by decide +kernel
theorem dX10_cost_11 : decode cX10_cost 11 = .ok (.iaload, 1) := by decide +kernel
theorem dX10_cost_12 : decode cX10_cost 12 = .ok (.ireturn, 1) := by decide +kernel
theorem dX10_laysCosts_0 : decode cX10_laysCosts 0 = .ok (.aload_n 0, 1) := by decide +kernel
theorem dX10_laysCosts_1 : decode cX10_laysCosts 1 = .ok (.getfield 264, 3) := by decide +kernel
theorem dX10_laysCosts_4 : decode cX10_laysCosts 4 = .ok (.istore_n 1, 1) := by decide +kernel
theorem dX10_laysCosts_5 : decode cX10_laysCosts 5 = .ok (.iload_n 1, 1) := by decide +kernel
theorem dX10_laysCosts_6 : decode cX10_laysCosts 6 = .ok (.ifCond .lt 46, 3) := by decide +kernel
theorem dX10_laysCosts_9 : decode cX10_laysCosts 9 = .ok (.aload_n 0, 1) := by decide +kernel
theorem dX10_laysCosts_10 : decode cX10_laysCosts 10 = .ok (.getfield 65, 3) := by decide +kernel
theorem dX10_laysCosts_13 : decode cX10_laysCosts 13 = .ok (.sipush 241, 3) := by decide +kernel
theorem dX10_laysCosts_16 : decode cX10_laysCosts 16 = .ok (.iload_n 1, 1) := by decide +kernel
theorem dX10_laysCosts_17 : decode cX10_laysCosts 17 = .ok (.imul, 1) := by decide +kernel
theorem dX10_laysCosts_18 : decode cX10_laysCosts 18 = .ok (.iload_n 1, 1) := by decide +kernel
theorem dX10_laysCosts_19 : decode cX10_laysCosts 19 = .ok (.iadd, 1) := by decide +kernel
theorem dX10_laysCosts_20 : decode cX10_laysCosts 20 = .ok (.iconst 0, 1) := by decide +kernel
theorem dX10_laysCosts_21 : decode cX10_laysCosts 21 = .ok (.iastore, 1) := by decide +kernel
theorem dX10_laysCosts_22 : decode cX10_laysCosts 22 = .ok (.iload_n 1, 1) := by decide +kernel
theorem dX10_laysCosts_23 : decode cX10_laysCosts 23 = .ok (.iconst 1, 1) := by decide +kernel
theorem dX10_laysCosts_24 : decode cX10_laysCosts 24 = .ok (.iadd, 1) := by decide +kernel
theorem dX10_laysCosts_25 : decode cX10_laysCosts 25 = .ok (.istore_n 2, 1) := by decide +kernel
theorem dX10_laysCosts_26 : decode cX10_laysCosts 26 = .ok (.iload_n 2, 1) := by decide +kernel
theorem dX10_laysCosts_27 : decode cX10_laysCosts 27 = .ok (.aload_n 0, 1) := by decide +kernel
theorem dX10_laysCosts_28 : decode cX10_laysCosts 28 = .ok (.getfield 264, 3) := by decide +kernel
theorem dX10_laysCosts_31 : decode cX10_laysCosts 31 = .ok (.if_icmp .gt 15, 3) := by decide +kernel
theorem dX10_laysCosts_34 : decode cX10_laysCosts 34 = .ok (.aload_n 0, 1) := by decide +kernel
theorem dX10_laysCosts_35 : decode cX10_laysCosts 35 = .ok (.iload_n 1, 1) := by decide +kernel
theorem dX10_laysCosts_36 : decode cX10_laysCosts 36 = .ok (.iload_n 2, 1) := by decide +kernel
theorem dX10_laysCosts_37 : decode cX10_laysCosts 37 = .ok (.invokevirtual 334, 3) := by decide +kernel
theorem dX10_laysCosts_40 : decode cX10_laysCosts 40 = .ok (.iinc 2 1, 3) := by decide +kernel
theorem dX10_laysCosts_43 : decode cX10_laysCosts 43 = .ok (.goto (-17), 3) := by decide +kernel
theorem dX10_laysCosts_46 : decode cX10_laysCosts 46 = .ok (.iinc 1 (-1), 3) := by decide +kernel
theorem dX10_laysCosts_49 : decode cX10_laysCosts 49 = .ok (.goto (-44), 3) := by decide +kernel
theorem dX10_laysCosts_52 : decode cX10_laysCosts 52 = .ok (.return_, 1) := by decide +kernel
theorem dX10_laysCost_0 : decode cX10_laysCost 0 = .ok (.aload_n 0, 1) := by decide +kernel
theorem dX10_laysCost_1 : decode cX10_laysCost 1 = .ok (.getfield 35, 3) := by decide +kernel
theorem dX10_laysCost_4 : decode cX10_laysCost 4 = .ok (.bipush 11, 2) := by decide +kernel
theorem dX10_laysCost_6 : decode cX10_laysCost 6 = .ok (.iaload, 1) := by decide +kernel
theorem dX10_laysCost_7 : decode cX10_laysCost 7 = .ok (.aload_n 0, 1) := by decide +kernel
theorem dX10_laysCost_8 : decode cX10_laysCost 8 = .ok (.iload_n 1, 1) := by decide +kernel
theorem dX10_laysCost_9 : decode cX10_laysCost 9 = .ok (.iconst 1, 1) := by decide +kernel
theorem dX10_laysCost_10 : decode cX10_laysCost 10 = .ok (.iadd, 1) := by decide +kernel
theorem dX10_laysCost_11 : decode cX10_laysCost 11 = .ok (.iload_n 2, 1) := by decide +kernel
theorem dX10_laysCost_12 : decode cX10_laysCost 12 = .ok (.invokevirtual 337, 3) := by decide +kernel
theorem dX10_laysCost_15 : decode cX10_laysCost 15 = .ok (.iadd, 1) := by decide +kernel
theorem dX10_laysCost_16 : decode cX10_laysCost 16 = .ok (.istore_n 3, 1) := by decide +kernel
theorem dX10_laysCost_17 : decode cX10_laysCost 17 = .ok (.bipush (-2), 2) := by decide +kernel
theorem dX10_laysCost_19 : decode cX10_laysCost 19 = .ok (.istore 4, 2) := by decide +kernel
theorem dX10_laysCost_21 : decode cX10_laysCost 21 = .ok (.aload_n 0, 1) := by decide +kernel
theorem dX10_laysCost_22 : decode cX10_laysCost 22 = .ok (.getfield 35, 3) := by decide +kernel
theorem dX10_laysCost_25 : decode cX10_laysCost 25 = .ok (.bipush 12, 2) := by decide +kernel
theorem dX10_laysCost_27 : decode cX10_laysCost 27 = .ok (.iaload, 1) := by decide +kernel
theorem dX10_laysCost_28 : decode cX10_laysCost 28 = .ok (.aload_n 0, 1) := by decide +kernel
theorem dX10_laysCost_29 : decode cX10_laysCost 29 = .ok (.iload_n 1, 1) := by decide +kernel
theorem dX10_laysCost_30 : decode cX10_laysCost 30 = .ok (.iconst 1, 1) := by decide +kernel
theorem dX10_laysCost_31 : decode cX10_laysCost 31 = .ok (.iadd, 1) := by decide +kernel
theorem dX10_laysCost_32 : decode cX10_laysCost 32 = .ok (.iload_n 2, 1) := by decide +kernel
theorem dX10_laysCost_33 : decode cX10_laysCost 33 = .ok (.invokevirtual 337, 3) := by decide +kernel
theorem dX10_laysCost_36 : decode cX10_laysCost 36 = .ok (.iadd, 1) := by decide +kernel
theorem dX10_laysCost_37 : decode cX10_laysCost 37 = .ok (.iload_n 3, 1) := by decide +kernel
theorem dX10_laysCost_38 : decode cX10_laysCost 38 = .ok (.if_icmp .ge 23, 3) := by decide +kernel
theorem dX10_laysCost_41 : decode cX10_laysCost 41 = .ok (.aload_n 0, 1) := by decide +kernel
theorem dX10_laysCost_42 : decode cX10_laysCost 42 = .ok (.getfield 35, 3) := by decide +kernel
theorem dX10_laysCost_45 : decode cX10_laysCost 45 = .ok (.bipush 12, 2) := by decide +kernel
theorem dX10_laysCost_47 : decode cX10_laysCost 47 = .ok (.iaload, 1) := by decide +kernel
theorem dX10_laysCost_48 : decode cX10_laysCost 48 = .ok (.aload_n 0, 1) := by decide +kernel
theorem dX10_laysCost_49 : decode cX10_laysCost 49 = .ok (.iload_n 1, 1) := by decide +kernel
theorem dX10_laysCost_50 : decode cX10_laysCost 50 = .ok (.iconst 1, 1) := by decide +kernel
theorem dX10_laysCost_51 : decode cX10_laysCost 51 = .ok (.iadd, 1) := by decide +kernel
theorem dX10_laysCost_52 : decode cX10_laysCost 52 = .ok (.iload_n 2, 1) := by decide +kernel
theorem dX10_laysCost_53 : decode cX10_laysCost 53 = .ok (.invokevirtual 337, 3) := by decide +kernel
theorem dX10_laysCost_56 : decode cX10_laysCost 56 = .ok (.iadd, 1) := by decide +kernel
theorem dX10_laysCost_57 : decode cX10_laysCost 57 = .ok (.istore_n 3, 1) := by decide +kernel
theorem dX10_laysCost_58 : decode cX10_laysCost 58 = .ok (.iconst (-1), 1) := by decide +kernel
theorem dX10_laysCost_59 : decode cX10_laysCost 59 = .ok (.istore 4, 2) := by decide +kernel
theorem dX10_laysCost_61 : decode cX10_laysCost 61 = .ok (.iload_n 1, 1) := by decide +kernel
theorem dX10_laysCost_62 : decode cX10_laysCost 62 = .ok (.iconst 1, 1) := by decide +kernel
theorem dX10_laysCost_63 : decode cX10_laysCost 63 = .ok (.iadd, 1) := by decide +kernel
theorem dX10_laysCost_64 : decode cX10_laysCost 64 = .ok (.istore 5, 2) := by decide +kernel
theorem dX10_laysCost_66 : decode cX10_laysCost 66 = .ok (.iload 5, 2) := by decide +kernel
theorem dX10_laysCost_68 : decode cX10_laysCost 68 = .ok (.iload_n 2, 1) := by decide +kernel
theorem dX10_laysCost_69 : decode cX10_laysCost 69 = .ok (.if_icmp .ge 109, 3) := by decide +kernel
theorem dX10_laysCost_72 : decode cX10_laysCost 72 = .ok (.aload_n 0, 1) := by decide +kernel
theorem dX10_laysCost_73 : decode cX10_laysCost 73 = .ok (.getfield 54, 3) := by decide +kernel
theorem dX10_laysCost_76 : decode cX10_laysCost 76 = .ok (.iload_n 1, 1) := by decide +kernel
theorem dX10_laysCost_77 : decode cX10_laysCost 77 = .ok (.baload, 1) := by decide +kernel
theorem dX10_laysCost_78 : decode cX10_laysCost 78 = .ok (.ifCond .eq 100, 3) := by decide +kernel
theorem dX10_laysCost_81 : decode cX10_laysCost 81 = .ok (.aload_n 0, 1) := by decide +kernel
theorem dX10_laysCost_82 : decode cX10_laysCost 82 = .ok (.getfield 54, 3) := by decide +kernel
theorem dX10_laysCost_85 : decode cX10_laysCost 85 = .ok (.iload 5, 2) := by decide +kernel
theorem dX10_laysCost_87 : decode cX10_laysCost 87 = .ok (.baload, 1) := by decide +kernel
theorem dX10_laysCost_88 : decode cX10_laysCost 88 = .ok (.ifCond .eq 6, 3) := by decide +kernel
theorem dX10_laysCost_91 : decode cX10_laysCost 91 = .ok (.goto 81, 3) := by decide +kernel
theorem dX10_laysCost_94 : decode cX10_laysCost 94 = .ok (.aload_n 0, 1) := by decide +kernel
theorem dX10_laysCost_95 : decode cX10_laysCost 95 = .ok (.getfield 51, 3) := by decide +kernel
theorem dX10_laysCost_98 : decode cX10_laysCost 98 = .ok (.iload 5, 2) := by decide +kernel
theorem dX10_laysCost_100 : decode cX10_laysCost 100 = .ok (.iaload, 1) := by decide +kernel
theorem dX10_laysCost_101 : decode cX10_laysCost 101 = .ok (.aload_n 0, 1) := by decide +kernel
theorem dX10_laysCost_102 : decode cX10_laysCost 102 = .ok (.getfield 51, 3) := by decide +kernel
