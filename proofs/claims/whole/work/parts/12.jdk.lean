/-! ===== the JDK's own methods over the constants: length(), charAt(int) ===== -/
def yjsLen : MethodName := ⟨"java/lang/String", "length", "()I"⟩
abbrev mijsLen : MI := ("java/lang/String", prog_22_method_54_code, 1, some .int, [])
theorem mwjsLen : MW mijsLen yjsLen 0 := ⟨wd819, wd16, ⟨by decide +kernel, by decide +kernel, by decide +kernel⟩, by decide +kernel, rfl⟩
theorem mvjsLen : MV yjsLen := ⟨wd817, wd818⟩
theorem djsLen_0 : decode prog_22_method_54_code 0 = .ok (.aload_n 0, 1) := by decide +kernel
theorem djsLen_1 : decode prog_22_method_54_code 1 = .ok (.getfield 9, 3) := by decide +kernel
theorem djsLen_4 : decode prog_22_method_54_code 4 = .ok (.arraylength, 1) := by decide +kernel
theorem djsLen_5 : decode prog_22_method_54_code 5 = .ok (.aload_n 0, 1) := by decide +kernel
theorem djsLen_6 : decode prog_22_method_54_code 6 = .ok (.invokevirtual 335, 3) := by decide +kernel
theorem djsLen_9 : decode prog_22_method_54_code 9 = .ok (.ishr, 1) := by decide +kernel
theorem djsLen_10 : decode prog_22_method_54_code 10 = .ok (.ireturn, 1) := by decide +kernel
def yjsChar : MethodName := ⟨"java/lang/String", "charAt", "(I)C"⟩
abbrev mijsChar : MI := ("java/lang/String", prog_22_method_56_code, 2, some .char, [])
theorem mwjsChar : MW mijsChar yjsChar 1 := ⟨wd829, wd16, ⟨by decide +kernel, by decide +kernel, by decide +kernel⟩, by decide +kernel, rfl⟩
theorem mvjsChar : MV yjsChar := ⟨wd827, wd828⟩
theorem djsChar_0 : decode prog_22_method_56_code 0 = .ok (.aload_n 0, 1) := by decide +kernel
theorem djsChar_1 : decode prog_22_method_56_code 1 = .ok (.invokevirtual 492, 3) := by decide +kernel
theorem djsChar_4 : decode prog_22_method_56_code 4 = .ok (.ifCond .eq 12, 3) := by decide +kernel
theorem djsChar_7 : decode prog_22_method_56_code 7 = .ok (.aload_n 0, 1) := by decide +kernel
theorem djsChar_8 : decode prog_22_method_56_code 8 = .ok (.getfield 9, 3) := by decide +kernel
theorem djsChar_11 : decode prog_22_method_56_code 11 = .ok (.iload_n 1, 1) := by decide +kernel
theorem djsChar_12 : decode prog_22_method_56_code 12 = .ok (.invokestatic 495, 3) := by decide +kernel
theorem djsChar_15 : decode prog_22_method_56_code 15 = .ok (.ireturn, 1) := by decide +kernel
theorem djsChar_16 : decode prog_22_method_56_code 16 = .ok (.aload_n 0, 1) := by decide +kernel
theorem djsChar_17 : decode prog_22_method_56_code 17 = .ok (.getfield 9, 3) := by decide +kernel
theorem djsChar_20 : decode prog_22_method_56_code 20 = .ok (.iload_n 1, 1) := by decide +kernel
theorem djsChar_21 : decode prog_22_method_56_code 21 = .ok (.invokestatic 498, 3) := by decide +kernel
theorem djsChar_24 : decode prog_22_method_56_code 24 = .ok (.ireturn, 1) := by decide +kernel
def yjsCoder : MethodName := ⟨"java/lang/String", "coder", "()B"⟩
abbrev mijsCoder : MI := ("java/lang/String", prog_22_method_152_code, 1, some .byte, [])
theorem mwjsCoder : MW mijsCoder yjsCoder 0 := ⟨wd823, wd16, ⟨by decide +kernel, by decide +kernel, by decide +kernel⟩, by decide +kernel, rfl⟩
theorem mvjsCoder : MV yjsCoder := ⟨wd821, wd822⟩
theorem djsCoder_0 : decode prog_22_method_152_code 0 = .ok (.getstatic 38, 3) := by decide +kernel
theorem djsCoder_3 : decode prog_22_method_152_code 3 = .ok (.ifCond .eq 10, 3) := by decide +kernel
theorem djsCoder_6 : decode prog_22_method_152_code 6 = .ok (.aload_n 0, 1) := by decide +kernel
theorem djsCoder_7 : decode prog_22_method_152_code 7 = .ok (.getfield 15, 3) := by decide +kernel
theorem djsCoder_10 : decode prog_22_method_152_code 10 = .ok (.goto 4, 3) := by decide +kernel
theorem djsCoder_13 : decode prog_22_method_152_code 13 = .ok (.iconst 1, 1) := by decide +kernel
theorem djsCoder_14 : decode prog_22_method_152_code 14 = .ok (.ireturn, 1) := by decide +kernel
def yjsLat : MethodName := ⟨"java/lang/String", "isLatin1", "()Z"⟩
abbrev mijsLat : MI := ("java/lang/String", prog_22_method_154_code, 1, some .boolean, [])
theorem mwjsLat : MW mijsLat yjsLat 0 := ⟨wd833, wd16, ⟨by decide +kernel, by decide +kernel, by decide +kernel⟩, by decide +kernel, rfl⟩
theorem mvjsLat : MV yjsLat := ⟨wd831, wd832⟩
theorem djsLat_0 : decode prog_22_method_154_code 0 = .ok (.getstatic 38, 3) := by decide +kernel
theorem djsLat_3 : decode prog_22_method_154_code 3 = .ok (.ifCond .eq 14, 3) := by decide +kernel
theorem djsLat_6 : decode prog_22_method_154_code 6 = .ok (.aload_n 0, 1) := by decide +kernel
theorem djsLat_7 : decode prog_22_method_154_code 7 = .ok (.getfield 15, 3) := by decide +kernel
theorem djsLat_10 : decode prog_22_method_154_code 10 = .ok (.ifCond .ne 7, 3) := by decide +kernel
theorem djsLat_13 : decode prog_22_method_154_code 13 = .ok (.iconst 1, 1) := by decide +kernel
theorem djsLat_14 : decode prog_22_method_154_code 14 = .ok (.goto 4, 3) := by decide +kernel
theorem djsLat_17 : decode prog_22_method_154_code 17 = .ok (.iconst 0, 1) := by decide +kernel
theorem djsLat_18 : decode prog_22_method_154_code 18 = .ok (.ireturn, 1) := by decide +kernel
def yjsChk : MethodName := ⟨"java/lang/String", "checkIndex", "(II)V"⟩
abbrev mijsChk : MI := ("java/lang/String", prog_22_method_155_code, 2, none, [])
theorem mwjsChk : MW mijsChk yjsChk 2 := ⟨wd839, wd16, ⟨by decide +kernel, by decide +kernel, by decide +kernel⟩, by decide +kernel, rfl⟩
theorem msjsChk : MS yjsChk := wd838
theorem djsChk_0 : decode prog_22_method_155_code 0 = .ok (.iload_n 0, 1) := by decide +kernel
theorem djsChk_1 : decode prog_22_method_155_code 1 = .ok (.iload_n 1, 1) := by decide +kernel
theorem djsChk_2 : decode prog_22_method_155_code 2 = .ok (.getstatic 1053, 3) := by decide +kernel
theorem djsChk_5 : decode prog_22_method_155_code 5 = .ok (.invokestatic 1059, 3) := by decide +kernel
theorem djsChk_8 : decode prog_22_method_155_code 8 = .ok (.pop, 1) := by decide +kernel
theorem djsChk_9 : decode prog_22_method_155_code 9 = .ok (.return_, 1) := by decide +kernel
def yjlChar : MethodName := ⟨"java/lang/StringLatin1", "charAt", "([BI)C"⟩
abbrev mijlChar : MI := ("java/lang/StringLatin1", prog_23_method_2_code, 2, some .char, [])
theorem mwjlChar : MW mijlChar yjlChar 2 := ⟨wd836, wd17, ⟨by decide +kernel, by decide +kernel, by decide +kernel⟩, by decide +kernel, rfl⟩
theorem msjlChar : MS yjlChar := wd835
theorem djlChar_0 : decode prog_23_method_2_code 0 = .ok (.iload_n 1, 1) := by decide +kernel
theorem djlChar_1 : decode prog_23_method_2_code 1 = .ok (.aload_n 0, 1) := by decide +kernel
theorem djlChar_2 : decode prog_23_method_2_code 2 = .ok (.arraylength, 1) := by decide +kernel
theorem djlChar_3 : decode prog_23_method_2_code 3 = .ok (.invokestatic 9, 3) := by decide +kernel
theorem djlChar_6 : decode prog_23_method_2_code 6 = .ok (.aload_n 0, 1) := by decide +kernel
theorem djlChar_7 : decode prog_23_method_2_code 7 = .ok (.iload_n 1, 1) := by decide +kernel
theorem djlChar_8 : decode prog_23_method_2_code 8 = .ok (.baload, 1) := by decide +kernel
theorem djlChar_9 : decode prog_23_method_2_code 9 = .ok (.sipush 255, 3) := by decide +kernel
theorem djlChar_12 : decode prog_23_method_2_code 12 = .ok (.iand, 1) := by decide +kernel
theorem djlChar_13 : decode prog_23_method_2_code 13 = .ok (.i2c, 1) := by decide +kernel
theorem djlChar_14 : decode prog_23_method_2_code 14 = .ok (.ireturn, 1) := by decide +kernel
def yjpChk : MethodName := ⟨"jdk/internal/util/Preconditions", "checkIndex", "(IILjava/util/function/BiFunction;)I"⟩
abbrev mijpChk : MI := ("jdk/internal/util/Preconditions", prog_30_method_11_code, 3, some .int, [])
theorem mwjpChk : MW mijpChk yjpChk 3 := ⟨wd844, wd18, ⟨by decide +kernel, by decide +kernel, by decide +kernel⟩, by decide +kernel, rfl⟩
theorem msjpChk : MS yjpChk := wd843
theorem djpChk_0 : decode prog_30_method_11_code 0 = .ok (.iload_n 0, 1) := by decide +kernel
theorem djpChk_1 : decode prog_30_method_11_code 1 = .ok (.ifCond .lt 8, 3) := by decide +kernel
theorem djpChk_4 : decode prog_30_method_11_code 4 = .ok (.iload_n 0, 1) := by decide +kernel
theorem djpChk_5 : decode prog_30_method_11_code 5 = .ok (.iload_n 1, 1) := by decide +kernel
theorem djpChk_6 : decode prog_30_method_11_code 6 = .ok (.if_icmp .lt 10, 3) := by decide +kernel
theorem djpChk_9 : decode prog_30_method_11_code 9 = .ok (.aload_n 2, 1) := by decide +kernel
theorem djpChk_10 : decode prog_30_method_11_code 10 = .ok (.iload_n 0, 1) := by decide +kernel
theorem djpChk_11 : decode prog_30_method_11_code 11 = .ok (.iload_n 1, 1) := by decide +kernel
theorem djpChk_12 : decode prog_30_method_11_code 12 = .ok (.invokestatic 95, 3) := by decide +kernel
theorem djpChk_15 : decode prog_30_method_11_code 15 = .ok (.athrow, 1) := by decide +kernel
theorem djpChk_16 : decode prog_30_method_11_code 16 = .ok (.iload_n 0, 1) := by decide +kernel
theorem djpChk_17 : decode prog_30_method_11_code 17 = .ok (.ireturn, 1) := by decide +kernel
theorem jlX8_44 : ML RX8 44 yjsLen := Or.inl wd816
theorem jlX8_49 : ML RX8 49 yjsChar := Or.inl wd826
theorem jlX10_160 : ML RX10 160 yjsLen := Or.inl wd1525
theorem jlX10_165 : ML RX10 165 yjsChar := Or.inl wd1526
theorem jljs_335 : ML "java/lang/String" 335 yjsCoder := Or.inl wd820
theorem jljs_492 : ML "java/lang/String" 492 yjsLat := Or.inl wd830
theorem jljs_495 : ML "java/lang/String" 495 yjlChar := Or.inl wd834
theorem jljs_1059 : ML "java/lang/String" 1059 yjpChk := Or.inl wd842
theorem jljl_9 : ML "java/lang/StringLatin1" 9 yjsChk := Or.inl wd837
theorem jfjs_9 : Cond.fieldLink "java/lang/String" 9 "java/lang/String" "value" "[B" ∈ lw_tbl := wd1916
theorem jfjs_15 : Cond.fieldLink "java/lang/String" 15 "java/lang/String" "coder" "B" ∈ lw_tbl := wd1917
theorem jfjs_38 : Cond.fieldLink "java/lang/String" 38 "java/lang/String" "COMPACT_STRINGS" "Z" ∈ lw_tbl := wd824
theorem jfjs_1053 : Cond.fieldLink "java/lang/String" 1053 "jdk/internal/util/Preconditions" "SIOOBE_FORMATTER" "Ljava/util/function/BiFunction;" ∈ lw_tbl := wd840
