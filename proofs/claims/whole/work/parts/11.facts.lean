theorem ff0_0 : 1 < (ft 0 0).1 := by decide
theorem fr0_0 (o : Nat) : rf o 0 0 = 21 := rfl
theorem ff0_1 : (ft 0 1).1 ≤ 1 := by decide
theorem fz0_1 : (ft 0 1).1 = 0 := by decide
theorem ff0_2 : (ft 0 2).1 ≤ 1 := by decide
theorem fz0_2 : (ft 0 2).1 = 0 := by decide
theorem ff1_0 : 1 < (ft 1 0).1 := by decide
theorem fr1_0 (o : Nat) : rf o 1 0 = 2 := rfl
theorem ff1_1 : (ft 1 1).1 ≤ 1 := by decide
theorem fz1_1 : (ft 1 1).1 = 0 := by decide
theorem ff2_0 : 1 < (ft 2 0).1 := by decide
theorem fr2_0 (o : Nat) : rf o 2 0 = 67 := rfl
theorem ff2_1 : 1 < (ft 2 1).1 := by decide
theorem fr2_1 (o : Nat) : rf o 2 1 = 68 := rfl
theorem ff2_2 : 1 < (ft 2 2).1 := by decide
theorem fr2_2 (o : Nat) : rf o 2 2 = 69 := rfl
theorem ff2_3 : 1 < (ft 2 3).1 := by decide
theorem fr2_3 (o : Nat) : rf o 2 3 = 70 := rfl
theorem ff2_4 : 1 < (ft 2 4).1 := by decide
theorem fr2_4 (o : Nat) : rf o 2 4 = 71 := rfl
theorem ff2_5 : 1 < (ft 2 5).1 := by decide
theorem fr2_5 (o : Nat) : rf o 2 5 = 72 := rfl
theorem ff2_6 : 1 < (ft 2 6).1 := by decide
theorem fr2_6 (o : Nat) : rf o 2 6 = 73 := rfl
theorem ff2_7 : 1 < (ft 2 7).1 := by decide
theorem fr2_7 (o : Nat) : rf o 2 7 = 74 := rfl
theorem ff2_8 : 1 < (ft 2 8).1 := by decide
theorem fr2_8 (o : Nat) : rf o 2 8 = 75 := rfl
theorem ff2_9 : 1 < (ft 2 9).1 := by decide
theorem fr2_9 (o : Nat) : rf o 2 9 = 76 := rfl
theorem ff2_10 : (ft 2 10).1 ≤ 1 := by decide
theorem fz2_10 : (ft 2 10).1 = 0 := by decide
theorem ff2_11 : (ft 2 11).1 ≤ 1 := by decide
theorem fz2_11 : (ft 2 11).1 = 0 := by decide
theorem ff2_12 : (ft 2 12).1 ≤ 1 := by decide
theorem fz2_12 : (ft 2 12).1 = 0 := by decide
theorem ff2_13 : (ft 2 13).1 ≤ 1 := by decide
theorem fz2_13 : (ft 2 13).1 = 0 := by decide
theorem ff2_14 : (ft 2 14).1 ≤ 1 := by decide
theorem fz2_14 : (ft 2 14).1 = 0 := by decide
theorem ff2_15 : (ft 2 15).1 ≤ 1 := by decide
theorem fz2_15 : (ft 2 15).1 = 0 := by decide
theorem ff3_0 : 1 < (ft 3 0).1 := by decide
theorem fr3_0 (o : Nat) : rf o 3 0 = 9 := rfl
theorem ff3_1 : 1 < (ft 3 1).1 := by decide
theorem fr3_1 (o : Nat) : rf o 3 1 = 10 := rfl
theorem ff3_2 : (ft 3 2).1 ≤ 1 := by decide
theorem fz3_2 : (ft 3 2).1 = 0 := by decide
theorem ff4_0 : 1 < (ft 4 0).1 := by decide
theorem fr4_0 (o : Nat) : rf o 4 0 = o + 1 := rfl
theorem ff4_1 : 1 < (ft 4 1).1 := by decide
theorem fr4_1 (o : Nat) : rf o 4 1 = o + 2 := rfl
theorem ff4_2 : (ft 4 2).1 ≤ 1 := by decide
theorem fz4_2 : (ft 4 2).1 = 0 := by decide
theorem ff4_3 : (ft 4 3).1 ≤ 1 := by decide
theorem fz4_3 : (ft 4 3).1 = 0 := by decide
theorem ff4_4 : (ft 4 4).1 ≤ 1 := by decide
theorem fz4_4 : (ft 4 4).1 = 0 := by decide
theorem ff4_5 : (ft 4 5).1 ≤ 1 := by decide
theorem fz4_5 : (ft 4 5).1 = 0 := by decide
theorem ff4_6 : (ft 4 6).1 ≤ 1 := by decide
theorem fz4_6 : (ft 4 6).1 = 0 := by decide
theorem ff4_7 : (ft 4 7).1 ≤ 1 := by decide
theorem fz4_7 : (ft 4 7).1 = 0 := by decide
theorem ff5_0 : 1 < (ft 5 0).1 := by decide
theorem fr5_0 (o : Nat) : rf o 5 0 = o + 1 := rfl
theorem ff5_1 : 1 < (ft 5 1).1 := by decide
theorem fr5_1 (o : Nat) : rf o 5 1 = o + 2 := rfl
theorem ff5_2 : 1 < (ft 5 2).1 := by decide
theorem fr5_2 (o : Nat) : rf o 5 2 = o + 3 := rfl
theorem ff5_3 : 1 < (ft 5 3).1 := by decide
theorem fr5_3 (o : Nat) : rf o 5 3 = o + 4 := rfl
theorem ff5_4 : 1 < (ft 5 4).1 := by decide
theorem fr5_4 (o : Nat) : rf o 5 4 = o + 5 := rfl
theorem ff5_5 : (ft 5 5).1 ≤ 1 := by decide
theorem fz5_5 : (ft 5 5).1 = 0 := by decide
theorem ff5_6 : (ft 5 6).1 ≤ 1 := by decide
theorem fz5_6 : (ft 5 6).1 = 0 := by decide
theorem ff5_7 : (ft 5 7).1 ≤ 1 := by decide
theorem fz5_7 : (ft 5 7).1 = 0 := by decide
theorem ff5_8 : (ft 5 8).1 ≤ 1 := by decide
theorem fz5_8 : (ft 5 8).1 = 0 := by decide
theorem ff5_9 : (ft 5 9).1 ≤ 1 := by decide
theorem fz5_9 : (ft 5 9).1 = 0 := by decide
theorem ff5_10 : (ft 5 10).1 ≤ 1 := by decide
theorem fz5_10 : (ft 5 10).1 = 0 := by decide
theorem ff5_11 : (ft 5 11).1 ≤ 1 := by decide
theorem fz5_11 : (ft 5 11).1 = 1 := by decide
theorem ff6_0 : 1 < (ft 6 0).1 := by decide
theorem fr6_0 (o : Nat) : rf o 6 0 = 5 := rfl
theorem ff6_1 : (ft 6 1).1 ≤ 1 := by decide
theorem fz6_1 : (ft 6 1).1 = 0 := by decide
theorem ff6_2 : (ft 6 2).1 ≤ 1 := by decide
theorem fz6_2 : (ft 6 2).1 = 0 := by decide
theorem ff6_3 : (ft 6 3).1 ≤ 1 := by decide
theorem fz6_3 : (ft 6 3).1 = 0 := by decide
theorem ff6_4 : (ft 6 4).1 ≤ 1 := by decide
theorem fz6_4 : (ft 6 4).1 = 0 := by decide
theorem ff6_5 : (ft 6 5).1 ≤ 1 := by decide
theorem fz6_5 : (ft 6 5).1 = 1 := by decide
theorem ff6_6 : (ft 6 6).1 ≤ 1 := by decide
theorem fz6_6 : (ft 6 6).1 = 1 := by decide
theorem ff7_0 : 1 < (ft 7 0).1 := by decide
theorem fr7_0 (o : Nat) : rf o 7 0 = o + 1 := rfl
theorem ff7_1 : 1 < (ft 7 1).1 := by decide
theorem fr7_1 (o : Nat) : rf o 7 1 = o + 2 := rfl
theorem ff7_2 : (ft 7 2).1 ≤ 1 := by decide
theorem fz7_2 : (ft 7 2).1 = 0 := by decide
theorem ff8_0 : 1 < (ft 8 0).1 := by decide
theorem fr8_0 (o : Nat) : rf o 8 0 = 1 := rfl
theorem ff8_1 : (ft 8 1).1 ≤ 1 := by decide
theorem fz8_1 : (ft 8 1).1 = 0 := by decide
theorem ff8_2 : (ft 8 2).1 ≤ 1 := by decide
theorem fz8_2 : (ft 8 2).1 = 0 := by decide
theorem ff8_3 : (ft 8 3).1 ≤ 1 := by decide
theorem fz8_3 : (ft 8 3).1 = 0 := by decide
theorem ff8_4 : (ft 8 4).1 ≤ 1 := by decide
theorem fz8_4 : (ft 8 4).1 = 0 := by decide
theorem ff9_0 : 1 < (ft 9 0).1 := by decide
theorem fr9_0 (o : Nat) : rf o 9 0 = 1 := rfl
theorem ff9_1 : 1 < (ft 9 1).1 := by decide
theorem fr9_1 (o : Nat) : rf o 9 1 = 3 := rfl
theorem ff9_2 : 1 < (ft 9 2).1 := by decide
theorem fr9_2 (o : Nat) : rf o 9 2 = 4 := rfl
theorem ff9_3 : 1 < (ft 9 3).1 := by decide
theorem fr9_3 (o : Nat) : rf o 9 3 = 8 := rfl
theorem ff9_4 : 1 < (ft 9 4).1 := by decide
theorem fr9_4 (o : Nat) : rf o 9 4 = 11 := rfl
theorem ff9_5 : 1 < (ft 9 5).1 := by decide
theorem fr9_5 (o : Nat) : rf o 9 5 = 14 := rfl
theorem ff9_6 : 1 < (ft 9 6).1 := by decide
theorem fr9_6 (o : Nat) : rf o 9 6 = 17 := rfl
theorem ff9_7 : 1 < (ft 9 7).1 := by decide
theorem fr9_7 (o : Nat) : rf o 9 7 = 20 := rfl
theorem ff9_8 : 1 < (ft 9 8).1 := by decide
theorem fr9_8 (o : Nat) : rf o 9 8 = 52 := rfl
theorem ff9_9 : 1 < (ft 9 9).1 := by decide
theorem fr9_9 (o : Nat) : rf o 9 9 = 53 := rfl
theorem ff9_10 : 1 < (ft 9 10).1 := by decide
theorem fr9_10 (o : Nat) : rf o 9 10 = 54 := rfl
theorem ff9_11 : 1 < (ft 9 11).1 := by decide
theorem fr9_11 (o : Nat) : rf o 9 11 = 60 := rfl
theorem ff9_12 : 1 < (ft 9 12).1 := by decide
theorem fr9_12 (o : Nat) : rf o 9 12 = 66 := rfl
theorem ff9_13 : 1 < (ft 9 13).1 := by decide
theorem fr9_13 (o : Nat) : rf o 9 13 = 77 := rfl
theorem ff9_14 : (ft 9 14).1 ≤ 1 := by decide
theorem fz9_14 : (ft 9 14).1 = 0 := by decide
theorem ff9_15 : (ft 9 15).1 ≤ 1 := by decide
theorem fz9_15 : (ft 9 15).1 = 0 := by decide
theorem ff9_16 : (ft 9 16).1 ≤ 1 := by decide
theorem fz9_16 : (ft 9 16).1 = 1 := by decide
theorem ff9_17 : (ft 9 17).1 ≤ 1 := by decide
theorem fz9_17 : (ft 9 17).1 = 1 := by decide
theorem ff10_0 : (ft 10 0).1 ≤ 1 := by decide
theorem fz10_0 : (ft 10 0).1 = 0 := by decide
theorem ff10_1 : (ft 10 1).1 ≤ 1 := by decide
theorem fz10_1 : (ft 10 1).1 = 0 := by decide
theorem ff10_2 : 1 < (ft 10 2).1 := by decide
theorem fr10_2 (o : Nat) : rf o 10 2 = 85 := rfl
theorem ff10_3 : 1 < (ft 10 3).1 := by decide
theorem fr10_3 (o : Nat) : rf o 10 3 = 86 := rfl
theorem ff10_4 : (ft 10 4).1 ≤ 1 := by decide
theorem fz10_4 : (ft 10 4).1 = 0 := by decide
theorem ff10_5 : (ft 10 5).1 ≤ 1 := by decide
theorem fz10_5 : (ft 10 5).1 = 0 := by decide
theorem ff10_6 : (ft 10 6).1 ≤ 1 := by decide
theorem fz10_6 : (ft 10 6).1 = 0 := by decide
theorem ff10_7 : (ft 10 7).1 ≤ 1 := by decide
theorem fz10_7 : (ft 10 7).1 = 0 := by decide
theorem ff10_8 : 1 < (ft 10 8).1 := by decide
theorem fr10_8 (o : Nat) : rf o 10 8 = 87 := rfl
theorem ff10_9 : 1 < (ft 10 9).1 := by decide
theorem fr10_9 (o : Nat) : rf o 10 9 = 88 := rfl
theorem ff10_10 : (ft 10 10).1 ≤ 1 := by decide
theorem fz10_10 : (ft 10 10).1 = 0 := by decide
theorem ff10_11 : (ft 10 11).1 ≤ 1 := by decide
theorem fz10_11 : (ft 10 11).1 = 0 := by decide
theorem ff10_12 : (ft 10 12).1 ≤ 1 := by decide
theorem fz10_12 : (ft 10 12).1 = 0 := by decide
theorem ff10_13 : 1 < (ft 10 13).1 := by decide
theorem fr10_13 (o : Nat) : rf o 10 13 = 89 := rfl
theorem ff10_14 : 1 < (ft 10 14).1 := by decide
theorem fr10_14 (o : Nat) : rf o 10 14 = 90 := rfl
theorem ff10_15 : 1 < (ft 10 15).1 := by decide
theorem fr10_15 (o : Nat) : rf o 10 15 = 91 := rfl
theorem ff10_16 : (ft 10 16).1 ≤ 1 := by decide
theorem fz10_16 : (ft 10 16).1 = 0 := by decide
theorem ff10_17 : (ft 10 17).1 ≤ 1 := by decide
theorem fz10_17 : (ft 10 17).1 = 0 := by decide
theorem ff10_18 : (ft 10 18).1 ≤ 1 := by decide
theorem fz10_18 : (ft 10 18).1 = 0 := by decide
theorem ff10_19 : (ft 10 19).1 ≤ 1 := by decide
theorem fz10_19 : (ft 10 19).1 = 0 := by decide
theorem ff10_20 : (ft 10 20).1 ≤ 1 := by decide
theorem fz10_20 : (ft 10 20).1 = 0 := by decide
theorem ff10_21 : (ft 10 21).1 ≤ 1 := by decide
theorem fz10_21 : (ft 10 21).1 = 0 := by decide
theorem ff10_22 : (ft 10 22).1 ≤ 1 := by decide
theorem fz10_22 : (ft 10 22).1 = 0 := by decide
theorem ff10_23 : (ft 10 23).1 ≤ 1 := by decide
theorem fz10_23 : (ft 10 23).1 = 0 := by decide
theorem ff10_24 : (ft 10 24).1 ≤ 1 := by decide
theorem fz10_24 : (ft 10 24).1 = 0 := by decide
theorem ff10_25 : 1 < (ft 10 25).1 := by decide
theorem fr10_25 (o : Nat) : rf o 10 25 = 92 := rfl
theorem ff10_26 : (ft 10 26).1 ≤ 1 := by decide
theorem fz10_26 : (ft 10 26).1 = 0 := by decide
theorem ff10_27 : 1 < (ft 10 27).1 := by decide
theorem fr10_27 (o : Nat) : rf o 10 27 = 93 := rfl
theorem ff10_28 : 1 < (ft 10 28).1 := by decide
theorem fr10_28 (o : Nat) : rf o 10 28 = 94 := rfl
theorem ff10_29 : 1 < (ft 10 29).1 := by decide
theorem fr10_29 (o : Nat) : rf o 10 29 = 95 := rfl
theorem ff10_30 : 1 < (ft 10 30).1 := by decide
theorem fr10_30 (o : Nat) : rf o 10 30 = 96 := rfl
theorem ff10_31 : 1 < (ft 10 31).1 := by decide
theorem fr10_31 (o : Nat) : rf o 10 31 = 97 := rfl
theorem ff10_32 : 1 < (ft 10 32).1 := by decide
theorem fr10_32 (o : Nat) : rf o 10 32 = 98 := rfl
theorem ff10_33 : 1 < (ft 10 33).1 := by decide
theorem fr10_33 (o : Nat) : rf o 10 33 = 99 := rfl
theorem ff10_34 : 1 < (ft 10 34).1 := by decide
theorem fr10_34 (o : Nat) : rf o 10 34 = 100 := rfl
theorem ff10_35 : 1 < (ft 10 35).1 := by decide
theorem fr10_35 (o : Nat) : rf o 10 35 = 101 := rfl
theorem ff10_36 : 1 < (ft 10 36).1 := by decide
theorem fr10_36 (o : Nat) : rf o 10 36 = 102 := rfl
theorem ff10_37 : 1 < (ft 10 37).1 := by decide
theorem fr10_37 (o : Nat) : rf o 10 37 = 103 := rfl
theorem ff10_38 : 1 < (ft 10 38).1 := by decide
theorem fr10_38 (o : Nat) : rf o 10 38 = 104 := rfl
theorem ff10_39 : (ft 10 39).1 ≤ 1 := by decide
theorem fz10_39 : (ft 10 39).1 = 0 := by decide
theorem ff10_40 : (ft 10 40).1 ≤ 1 := by decide
theorem fz10_40 : (ft 10 40).1 = 0 := by decide
theorem ff10_41 : 1 < (ft 10 41).1 := by decide
theorem fr10_41 (o : Nat) : rf o 10 41 = 105 := rfl
theorem ff10_42 : 1 < (ft 10 42).1 := by decide
theorem fr10_42 (o : Nat) : rf o 10 42 = 106 := rfl
theorem ff10_43 : 1 < (ft 10 43).1 := by decide
theorem fr10_43 (o : Nat) : rf o 10 43 = 107 := rfl
theorem ff10_44 : 1 < (ft 10 44).1 := by decide
theorem fr10_44 (o : Nat) : rf o 10 44 = 108 := rfl
theorem ff10_45 : 1 < (ft 10 45).1 := by decide
theorem fr10_45 (o : Nat) : rf o 10 45 = 109 := rfl
theorem ff10_46 : (ft 10 46).1 ≤ 1 := by decide
theorem fz10_46 : (ft 10 46).1 = 0 := by decide
theorem ff10_47 : 1 < (ft 10 47).1 := by decide
theorem fr10_47 (o : Nat) : rf o 10 47 = 110 := rfl
theorem ff10_48 : 1 < (ft 10 48).1 := by decide
theorem fr10_48 (o : Nat) : rf o 10 48 = 111 := rfl
theorem ff10_49 : 1 < (ft 10 49).1 := by decide
theorem fr10_49 (o : Nat) : rf o 10 49 = 112 := rfl
theorem s_0 : isS 200 := ⟨by decide, by decide⟩
theorem s_1 : isS 201 := ⟨by decide, by decide⟩
theorem s_2 : isS 202 := ⟨by decide, by decide⟩
theorem s_3 : isS 203 := ⟨by decide, by decide⟩
theorem s_4 : isS 204 := ⟨by decide, by decide⟩
theorem s_5 : isS 205 := ⟨by decide, by decide⟩
theorem s_6 : isS 206 := ⟨by decide, by decide⟩
theorem s_7 : isS 207 := ⟨by decide, by decide⟩
theorem s_8 : isS 208 := ⟨by decide, by decide⟩
theorem s_9 : isS 209 := ⟨by decide, by decide⟩
theorem s_10 : isS 210 := ⟨by decide, by decide⟩
theorem s_11 : isS 211 := ⟨by decide, by decide⟩
theorem s_12 : isS 212 := ⟨by decide, by decide⟩
theorem s_13 : isS 213 := ⟨by decide, by decide⟩
theorem s_14 : isS 214 := ⟨by decide, by decide⟩
theorem s_15 : isS 215 := ⟨by decide, by decide⟩
theorem s_16 : isS 216 := ⟨by decide, by decide⟩
theorem s_17 : isS 217 := ⟨by decide, by decide⟩
theorem s_18 : isS 218 := ⟨by decide, by decide⟩
theorem s_19 : isS 219 := ⟨by decide, by decide⟩
theorem s_20 : isS 220 := ⟨by decide, by decide⟩
theorem s_21 : isS 221 := ⟨by decide, by decide⟩
theorem s_22 : isS 222 := ⟨by decide, by decide⟩
theorem s_23 : isS 223 := ⟨by decide, by decide⟩
theorem s_24 : isS 224 := ⟨by decide, by decide⟩
theorem s_25 : isS 225 := ⟨by decide, by decide⟩
theorem s_26 : isS 226 := ⟨by decide, by decide⟩
theorem s_27 : isS 227 := ⟨by decide, by decide⟩
theorem s_28 : isS 228 := ⟨by decide, by decide⟩
theorem s_29 : isS 229 := ⟨by decide, by decide⟩
theorem s_30 : isS 230 := ⟨by decide, by decide⟩
theorem s_31 : isS 231 := ⟨by decide, by decide⟩
theorem s_32 : isS 232 := ⟨by decide, by decide⟩
theorem s_33 : isS 233 := ⟨by decide, by decide⟩
theorem s_34 : isS 234 := ⟨by decide, by decide⟩
theorem s_35 : isS 235 := ⟨by decide, by decide⟩
theorem s_36 : isS 236 := ⟨by decide, by decide⟩
theorem s_37 : isS 237 := ⟨by decide, by decide⟩
theorem s_38 : isS 238 := ⟨by decide, by decide⟩
theorem s_39 : isS 239 := ⟨by decide, by decide⟩
