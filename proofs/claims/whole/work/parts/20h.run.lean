/-! BracketHall.followPut(II)Z -/
def f_X9_followPut (v1 : Int) (v2 : Int) (M : Mem) : Option (Int × Mem) :=
  (f_X4_hasPlace 14 v1 M).bind fun p5 =>
  if p5 = 0 then
    some (0, M)
  else
    (f_X9_isTextByte v2 M).bind fun p12 =>
    if p12 = 0 then
      some (0, M)
    else
      (f_X4_hasRoom 14 1 M).bind fun p23 =>
      if p23 = 0 then
        some (0, M)
      else
        (f_X4_putByte 14 v1 v2 M).bind fun p37 =>
        (f_X9_textTouched p37).bind fun p41 =>
        some (1, p41)
set_option maxRecDepth 20000 in
theorem ct_X9_followPut {G : Gl} (v1 : Int) (v2 : Int) (M : Mem) {res : Int × Mem}  (hf : f_X9_followPut v1 v2 M = some res) : Ct G miX9_followPut yX9_followPut 3 [aR 0, aI v1, aI v2] M (some (aI res.1)) res.2 := by
  refine Ct.of (L := [some (aR 0), some (aI v1), some (aI v2)]) mwX9_followPut rfl trivial nle ⟨rfl, rfl, rfl, trivial⟩ ?_
  unfold f_X9_followPut at hf
  refine R_aload_n dX9_followPut_0 rfl rfl ?_
  refine R_getR dX9_followPut_1 cl9 flX9_49 o_0 ff9_5 (fr9_5 _) o_14.1 ?_
  refine R_iload_n dX9_followPut_4 rfl rfl ?_
  obtain ⟨p5, hp5, hf⟩ := bdE hf
  refine R_callV (As := [aI v1]) (st := []) dX9_followPut_5 (ct_X4_hasPlace _ _ _ o_14 hp5) mwX4_hasPlace mvX4_hasPlace mlX9_402 cl4 o_14 rfl rfl ⟨nle, nle, nle, nle⟩ nle rfl ?_
  refine R_if_eq dX9_followPut_8 rfl (fun h8 => ?_) (fun h8 => ?_)
  · replace hf := iposE hf h8
    refine R_iconst dX9_followPut_29 (v := 0) rfl ?_
    cases hf; exact E_zret dX9_followPut_30 rfl (by decide) rfl rfl
  · replace hf := inegE hf h8
    refine R_iload_n dX9_followPut_11 rfl rfl ?_
    obtain ⟨p12, hp12, hf⟩ := bdE hf
    refine R_callS (As := [aI v2]) (st := []) dX9_followPut_12 (ct_X9_isTextByte _ _  hp12) mwX9_isTextByte msX9_isTextByte mlX9_487 rfl ⟨nle, nle, nle, nle⟩ nle rfl ?_
    refine R_if_eq dX9_followPut_15 rfl (fun h15 => ?_) (fun h15 => ?_)
    · replace hf := iposE hf h15
      refine R_iconst dX9_followPut_29 (v := 0) rfl ?_
      cases hf; exact E_zret dX9_followPut_30 rfl (by decide) rfl rfl
    · replace hf := inegE hf h15
      refine R_aload_n dX9_followPut_18 rfl rfl ?_
      refine R_getR dX9_followPut_19 cl9 flX9_49 o_0 ff9_5 (fr9_5 _) o_14.1 ?_
      refine R_iconst dX9_followPut_22 (v := 1) rfl ?_
      obtain ⟨p23, hp23, hf⟩ := bdE hf
      refine R_callV (As := [aI 1]) (st := []) dX9_followPut_23 (ct_X4_hasRoom _ _ _ o_14 hp23) mwX4_hasRoom mvX4_hasRoom mlX9_343 cl4 o_14 rfl rfl ⟨nle, nle, nle, nle⟩ nle rfl ?_
      refine R_if_ne dX9_followPut_26 rfl (fun h26 => ?_) (fun h26 => ?_)
      · replace hf := inegE hf h26
        refine R_aload_n dX9_followPut_31 rfl rfl ?_
        refine R_getR dX9_followPut_32 cl9 flX9_49 o_0 ff9_5 (fr9_5 _) o_14.1 ?_
        refine R_iload_n dX9_followPut_35 rfl rfl ?_
        refine R_iload_n dX9_followPut_36 rfl rfl ?_
        obtain ⟨p37, hp37, hf⟩ := bdE hf
        refine R_callV (As := [aI v1, aI v2]) (st := []) dX9_followPut_37 (ct_X4_putByte _ _ _ _ o_14 hp37) mwX4_putByte mvX4_putByte mlX9_455 cl4 o_14 rfl rfl ⟨nle, nle, nle, nle⟩ nle rfl ?_
        refine R_aload_n dX9_followPut_40 rfl rfl ?_
        obtain ⟨p41, hp41, hf⟩ := bdE hf
        refine R_callV (As := []) (st := []) dX9_followPut_41 (ct_X9_textTouched  _  hp41) mwX9_textTouched mvX9_textTouched mlX9_378 cl9 o_0 rfl rfl ⟨nle, nle, nle, nle⟩ nle rfl ?_
        refine R_iconst dX9_followPut_44 (v := 1) rfl ?_
        cases hf; exact E_zret dX9_followPut_45 rfl (by decide) rfl rfl
      · replace hf := iposE hf h26
        refine R_iconst dX9_followPut_29 (v := 0) rfl ?_
        cases hf; exact E_zret dX9_followPut_30 rfl (by decide) rfl rfl
/-! BracketHall.followSwap(II)Z -/
def f_X9_followSwap (v1 : Int) (v2 : Int) (M : Mem) : Option (Int × Mem) :=
  (f_X4_hasByte 14 v1 M).bind fun p5 =>
  if p5 = 0 then
    some (0, M)
  else
    (f_X4_hasByte 14 v2 M).bind fun p16 =>
    if p16 = 0 then
      some (0, M)
    else
      (f_X4_byteAt 14 v1 M).bind fun p29 =>
      (f_X4_byteAt 14 v2 M).bind fun p43 =>
      (f_X4_setByte 14 v1 p43 M).bind fun p46 =>
      (f_X4_setByte 14 v2 p29 p46).bind fun p55 =>
      (f_X9_textTouched p55).bind fun p59 =>
      some (1, p59)
set_option maxRecDepth 20000 in
theorem ct_X9_followSwap {G : Gl} (v1 : Int) (v2 : Int) (M : Mem) {res : Int × Mem}  (hf : f_X9_followSwap v1 v2 M = some res) : Ct G miX9_followSwap yX9_followSwap 2 [aR 0, aI v1, aI v2] M (some (aI res.1)) res.2 := by
  refine Ct.of (L := [some (aR 0), some (aI v1), some (aI v2), none]) mwX9_followSwap rfl trivial nle ⟨rfl, rfl, rfl, trivial⟩ ?_
  unfold f_X9_followSwap at hf
  refine R_aload_n dX9_followSwap_0 rfl rfl ?_
  refine R_getR dX9_followSwap_1 cl9 flX9_49 o_0 ff9_5 (fr9_5 _) o_14.1 ?_
  refine R_iload_n dX9_followSwap_4 rfl rfl ?_
  obtain ⟨p5, hp5, hf⟩ := bdE hf
  refine R_callV (As := [aI v1]) (st := []) dX9_followSwap_5 (ct_X4_hasByte _ _ _ o_14 hp5) mwX4_hasByte mvX4_hasByte mlX9_394 cl4 o_14 rfl rfl ⟨nle, nle, nle, nle⟩ nle rfl ?_
  refine R_if_eq dX9_followSwap_8 rfl (fun h8 => ?_) (fun h8 => ?_)
  · replace hf := iposE hf h8
    refine R_iconst dX9_followSwap_22 (v := 0) rfl ?_
    cases hf; exact E_zret dX9_followSwap_23 rfl (by decide) rfl rfl
  · replace hf := inegE hf h8
    refine R_aload_n dX9_followSwap_11 rfl rfl ?_
    refine R_getR dX9_followSwap_12 cl9 flX9_49 o_0 ff9_5 (fr9_5 _) o_14.1 ?_
    refine R_iload_n dX9_followSwap_15 rfl rfl ?_
    obtain ⟨p16, hp16, hf⟩ := bdE hf
    refine R_callV (As := [aI v2]) (st := []) dX9_followSwap_16 (ct_X4_hasByte _ _ _ o_14 hp16) mwX4_hasByte mvX4_hasByte mlX9_394 cl4 o_14 rfl rfl ⟨nle, nle, nle, nle⟩ nle rfl ?_
    refine R_if_ne dX9_followSwap_19 rfl (fun h19 => ?_) (fun h19 => ?_)
    · replace hf := inegE hf h19
      refine R_aload_n dX9_followSwap_24 rfl rfl ?_
      refine R_getR dX9_followSwap_25 cl9 flX9_49 o_0 ff9_5 (fr9_5 _) o_14.1 ?_
      refine R_iload_n dX9_followSwap_28 rfl rfl ?_
      obtain ⟨p29, hp29, hf⟩ := bdE hf
      refine R_callV (As := [aI v1]) (st := []) dX9_followSwap_29 (ct_X4_byteAt _ _ _ o_14 hp29) mwX4_byteAt mvX4_byteAt mlX9_212 cl4 o_14 rfl rfl ⟨nle, nle, nle, nle⟩ nle rfl ?_
      refine R_istore_n dX9_followSwap_32 rfl (by decide) rfl rfl ?_
      refine R_aload_n dX9_followSwap_33 rfl rfl ?_
      refine R_getR dX9_followSwap_34 cl9 flX9_49 o_0 ff9_5 (fr9_5 _) o_14.1 ?_
      refine R_iload_n dX9_followSwap_37 rfl rfl ?_
      refine R_aload_n dX9_followSwap_38 rfl rfl ?_
      refine R_getR dX9_followSwap_39 cl9 flX9_49 o_0 ff9_5 (fr9_5 _) o_14.1 ?_
      refine R_iload_n dX9_followSwap_42 rfl rfl ?_
      obtain ⟨p43, hp43, hf⟩ := bdE hf
      refine R_callV (As := [aI v2]) (st := [aI v1, aR 14]) dX9_followSwap_43 (ct_X4_byteAt _ _ _ o_14 hp43) mwX4_byteAt mvX4_byteAt mlX9_212 cl4 o_14 rfl rfl ⟨nle, nle, nle, nle⟩ nle rfl ?_
      obtain ⟨p46, hp46, hf⟩ := bdE hf
      refine R_callV (As := [aI v1, aI p43]) (st := []) dX9_followSwap_46 (ct_X4_setByte _ _ _ _ o_14 hp46) mwX4_setByte mvX4_setByte mlX9_465 cl4 o_14 rfl rfl ⟨nle, nle, nle, nle⟩ nle rfl ?_
      refine R_aload_n dX9_followSwap_49 rfl rfl ?_
      refine R_getR dX9_followSwap_50 cl9 flX9_49 o_0 ff9_5 (fr9_5 _) o_14.1 ?_
      refine R_iload_n dX9_followSwap_53 rfl rfl ?_
      refine R_iload_n dX9_followSwap_54 rfl rfl ?_
      obtain ⟨p55, hp55, hf⟩ := bdE hf
      refine R_callV (As := [aI v2, aI p29]) (st := []) dX9_followSwap_55 (ct_X4_setByte _ _ _ _ o_14 hp55) mwX4_setByte mvX4_setByte mlX9_465 cl4 o_14 rfl rfl ⟨nle, nle, nle, nle⟩ nle rfl ?_
      refine R_aload_n dX9_followSwap_58 rfl rfl ?_
      obtain ⟨p59, hp59, hf⟩ := bdE hf
      refine R_callV (As := []) (st := []) dX9_followSwap_59 (ct_X9_textTouched  _  hp59) mwX9_textTouched mvX9_textTouched mlX9_378 cl9 o_0 rfl rfl ⟨nle, nle, nle, nle⟩ nle rfl ?_
      refine R_iconst dX9_followSwap_62 (v := 1) rfl ?_
      cases hf; exact E_zret dX9_followSwap_63 rfl (by decide) rfl rfl
    · replace hf := iposE hf h19
      refine R_iconst dX9_followSwap_22 (v := 0) rfl ?_
      cases hf; exact E_zret dX9_followSwap_23 rfl (by decide) rfl rfl
/-! BracketHall.followWrap(III)Z -/
def f_X9_followWrap (v1 : Int) (v2 : Int) (v3 : Int) (M : Mem) : Option (Int × Mem) :=
  (f_X4_hasRange 14 v1 v2 M).bind fun p6 =>
  if p6 = 0 then
    some (0, M)
  else
    (f_X7_hasKind 11 v3 M).bind fun p17 =>
    if p17 = 0 then
      some (0, M)
    else
      (f_X4_hasRoom 14 2 M).bind fun p28 =>
      if p28 = 0 then
        some (0, M)
      else
        (f_X9_putPair v1 v2 v3 M).bind fun p40 =>
        some (1, p40)
set_option maxRecDepth 20000 in
theorem ct_X9_followWrap {G : Gl} (v1 : Int) (v2 : Int) (v3 : Int) (M : Mem) {res : Int × Mem}  (hf : f_X9_followWrap v1 v2 v3 M = some res) : Ct G miX9_followWrap yX9_followWrap 4 [aR 0, aI v1, aI v2, aI v3] M (some (aI res.1)) res.2 := by
  refine Ct.of (L := [some (aR 0), some (aI v1), some (aI v2), some (aI v3)]) mwX9_followWrap rfl trivial nle ⟨rfl, rfl, rfl, rfl, trivial⟩ ?_
  unfold f_X9_followWrap at hf
  refine R_aload_n dX9_followWrap_0 rfl rfl ?_
  refine R_getR dX9_followWrap_1 cl9 flX9_49 o_0 ff9_5 (fr9_5 _) o_14.1 ?_
  refine R_iload_n dX9_followWrap_4 rfl rfl ?_
  refine R_iload_n dX9_followWrap_5 rfl rfl ?_
  obtain ⟨p6, hp6, hf⟩ := bdE hf
  refine R_callV (As := [aI v1, aI v2]) (st := []) dX9_followWrap_6 (ct_X4_hasRange _ _ _ _ o_14 hp6) mwX4_hasRange mvX4_hasRange mlX9_407 cl4 o_14 rfl rfl ⟨nle, nle, nle, nle⟩ nle rfl ?_
  refine R_if_eq dX9_followWrap_9 rfl (fun h9 => ?_) (fun h9 => ?_)
  · replace hf := iposE hf h9
    refine R_iconst dX9_followWrap_34 (v := 0) rfl ?_
    cases hf; exact E_zret dX9_followWrap_35 rfl (by decide) rfl rfl
  · replace hf := inegE hf h9
    refine R_aload_n dX9_followWrap_12 rfl rfl ?_
    refine R_getR dX9_followWrap_13 cl9 flX9_42 o_0 ff9_4 (fr9_4 _) o_11.1 ?_
    refine R_iload_n dX9_followWrap_16 rfl rfl ?_
    obtain ⟨p17, hp17, hf⟩ := bdE hf
    refine R_callV (As := [aI v3]) (st := []) dX9_followWrap_17 (ct_X7_hasKind _ _ _ o_11 hp17) mwX7_hasKind mvX7_hasKind mlX9_413 cl7 o_11 rfl rfl ⟨nle, nle, nle, nle⟩ nle rfl ?_
    refine R_if_eq dX9_followWrap_20 rfl (fun h20 => ?_) (fun h20 => ?_)
    · replace hf := iposE hf h20
      refine R_iconst dX9_followWrap_34 (v := 0) rfl ?_
      cases hf; exact E_zret dX9_followWrap_35 rfl (by decide) rfl rfl
    · replace hf := inegE hf h20
      refine R_aload_n dX9_followWrap_23 rfl rfl ?_
      refine R_getR dX9_followWrap_24 cl9 flX9_49 o_0 ff9_5 (fr9_5 _) o_14.1 ?_
      refine R_iconst dX9_followWrap_27 (v := 2) rfl ?_
      obtain ⟨p28, hp28, hf⟩ := bdE hf
      refine R_callV (As := [aI 2]) (st := []) dX9_followWrap_28 (ct_X4_hasRoom _ _ _ o_14 hp28) mwX4_hasRoom mvX4_hasRoom mlX9_343 cl4 o_14 rfl rfl ⟨nle, nle, nle, nle⟩ nle rfl ?_
      refine R_if_ne dX9_followWrap_31 rfl (fun h31 => ?_) (fun h31 => ?_)
      · replace hf := inegE hf h31
        refine R_aload_n dX9_followWrap_36 rfl rfl ?_
        refine R_iload_n dX9_followWrap_37 rfl rfl ?_
        refine R_iload_n dX9_followWrap_38 rfl rfl ?_
        refine R_iload_n dX9_followWrap_39 rfl rfl ?_
        obtain ⟨p40, hp40, hf⟩ := bdE hf
        refine R_callV (As := [aI v1, aI v2, aI v3]) (st := []) dX9_followWrap_40 (ct_X9_putPair _ _ _ _  hp40) mwX9_putPair mvX9_putPair mlX9_347 cl9 o_0 rfl rfl ⟨nle, nle, nle, nle⟩ nle rfl ?_
        refine R_iconst dX9_followWrap_43 (v := 1) rfl ?_
        cases hf; exact E_zret dX9_followWrap_44 rfl (by decide) rfl rfl
      · replace hf := iposE hf h31
        refine R_iconst dX9_followWrap_34 (v := 0) rfl ?_
        cases hf; exact E_zret dX9_followWrap_35 rfl (by decide) rfl rfl
/-! BracketHall.follow(I)Z -/
def f_X9_follow (v1 : Int) (M : Mem) : Option (Int × Mem) :=
  (f_X3_numberOf v1 0 M).bind fun p6 =>
  (f_X3_numberOf v1 1 M).bind fun p16 =>
  (f_X3_verbOf v1 M).bind fun p25 =>
  if p25 = 0 then
    (f_X9_followErase p6 p16 M).bind fun p67 =>
    if p67.1 = 0 ∨ p67.1 = 1 then
    some (p67.1, p67.2)
    else none
  else if p25 = 1 then
    (f_X9_followPut p6 p16 M).bind fun p74 =>
    if p74.1 = 0 ∨ p74.1 = 1 then
    some (p74.1, p74.2)
    else none
  else if p25 = 2 then
    (f_X9_followSwap p6 p16 M).bind fun p81 =>
    if p81.1 = 0 ∨ p81.1 = 1 then
    some (p81.1, p81.2)
    else none
  else if p25 = 3 then
    (f_X3_numberOf v1 2 M).bind fun p94 =>
    (f_X9_followWrap p6 p16 p94 M).bind fun p97 =>
    if p97.1 = 0 ∨ p97.1 = 1 then
    some (p97.1, p97.2)
    else none
  else if p25 = 4 then
    (f_X9_mendNow M).bind fun p102 =>
    (f_X9_mendText p102).bind fun p107 =>
    if p107.1 = 0 ∨ p107.1 = 1 then
    some (p107.1, p107.2)
    else none
  else
    (f_X9_readNow M).bind fun p112 =>
    (f_X5_lones 54 p112).bind fun p115 =>
    if p115 = p6 then
      some (1, p112)
    else
      some (0, p112)
set_option maxRecDepth 20000 in
theorem ct_X9_follow {G : Gl} (v1 : Int) (M : Mem) {res : Int × Mem}  (hf : f_X9_follow v1 M = some res) : Ct G miX9_follow yX9_follow 5 [aR 0, aI v1] M (some (aI res.1)) res.2 := by
  refine Ct.of (L := [some (aR 0), some (aI v1), none, none]) mwX9_follow rfl trivial nle ⟨rfl, rfl, trivial⟩ ?_
  unfold f_X9_follow at hf
  refine R_aload_n dX9_follow_0 rfl rfl ?_
  refine R_getR dX9_follow_1 cl9 flX9_35 o_0 ff9_3 (fr9_3 _) o_8.1 ?_
  refine R_iload_n dX9_follow_4 rfl rfl ?_
  refine R_iconst dX9_follow_5 (v := 0) rfl ?_
  obtain ⟨p6, hp6, hf⟩ := bdE hf
  refine R_callV (As := [aI v1, aI 0]) (st := []) dX9_follow_6 (ct_X3_numberOf _ _ _  hp6) mwX3_numberOf mvX3_numberOf mlX9_468 cl3 o_8 rfl rfl ⟨nle, nle, nle, nle⟩ nle rfl ?_
  refine R_istore_n dX9_follow_9 rfl (by decide) rfl rfl ?_
  refine R_aload_n dX9_follow_10 rfl rfl ?_
  refine R_getR dX9_follow_11 cl9 flX9_35 o_0 ff9_3 (fr9_3 _) o_8.1 ?_
  refine R_iload_n dX9_follow_14 rfl rfl ?_
  refine R_iconst dX9_follow_15 (v := 1) rfl ?_
  obtain ⟨p16, hp16, hf⟩ := bdE hf
  refine R_callV (As := [aI v1, aI 1]) (st := []) dX9_follow_16 (ct_X3_numberOf _ _ _  hp16) mwX3_numberOf mvX3_numberOf mlX9_468 cl3 o_8 rfl rfl ⟨nle, nle, nle, nle⟩ nle rfl ?_
  refine R_istore_n dX9_follow_19 rfl (by decide) rfl rfl ?_
  refine R_aload_n dX9_follow_20 rfl rfl ?_
  refine R_getR dX9_follow_21 cl9 flX9_35 o_0 ff9_3 (fr9_3 _) o_8.1 ?_
  refine R_iload_n dX9_follow_24 rfl rfl ?_
  obtain ⟨p25, hp25, hf⟩ := bdE hf
  refine R_callV (As := [aI v1]) (st := []) dX9_follow_25 (ct_X3_verbOf _ _  hp25) mwX3_verbOf mvX3_verbOf mlX9_471 cl3 o_8 rfl rfl ⟨nle, nle, nle, nle⟩ nle rfl ?_
  by_cases h28_0 : p25 = 0
  · replace hf := iposE hf h28_0
    refine R_switchIn dX9_follow_28 (by omega) (by omega) (by rw [h28_0]; rfl) rfl ?_
    refine R_aload_n dX9_follow_64 rfl rfl ?_
    refine R_iload_n dX9_follow_65 rfl rfl ?_
    refine R_iload_n dX9_follow_66 rfl rfl ?_
    obtain ⟨p67, hp67, hf⟩ := bdE hf
    refine R_callV (As := [aI p6, aI p16]) (st := []) dX9_follow_67 (ct_X9_followErase _ _ _  hp67) mwX9_followErase mvX9_followErase mlX9_474 cl9 o_0 rfl rfl ⟨nle, nle, nle, nle⟩ nle rfl ?_
    obtain ⟨hb, hf⟩ := gdE hf
    cases hf; exact E_zret dX9_follow_70 rfl hb rfl rfl
  replace hf := inegE hf h28_0
  by_cases h28_1 : p25 = 1
  · replace hf := iposE hf h28_1
    refine R_switchIn dX9_follow_28 (by omega) (by omega) (by rw [h28_1]; rfl) rfl ?_
    refine R_aload_n dX9_follow_71 rfl rfl ?_
    refine R_iload_n dX9_follow_72 rfl rfl ?_
    refine R_iload_n dX9_follow_73 rfl rfl ?_
    obtain ⟨p74, hp74, hf⟩ := bdE hf
    refine R_callV (As := [aI p6, aI p16]) (st := []) dX9_follow_74 (ct_X9_followPut _ _ _  hp74) mwX9_followPut mvX9_followPut mlX9_477 cl9 o_0 rfl rfl ⟨nle, nle, nle, nle⟩ nle rfl ?_
    obtain ⟨hb, hf⟩ := gdE hf
    cases hf; exact E_zret dX9_follow_77 rfl hb rfl rfl
  replace hf := inegE hf h28_1
  by_cases h28_2 : p25 = 2
  · replace hf := iposE hf h28_2
    refine R_switchIn dX9_follow_28 (by omega) (by omega) (by rw [h28_2]; rfl) rfl ?_
    refine R_aload_n dX9_follow_78 rfl rfl ?_
    refine R_iload_n dX9_follow_79 rfl rfl ?_
    refine R_iload_n dX9_follow_80 rfl rfl ?_
    obtain ⟨p81, hp81, hf⟩ := bdE hf
    refine R_callV (As := [aI p6, aI p16]) (st := []) dX9_follow_81 (ct_X9_followSwap _ _ _  hp81) mwX9_followSwap mvX9_followSwap mlX9_480 cl9 o_0 rfl rfl ⟨nle, nle, nle, nle⟩ nle rfl ?_
    obtain ⟨hb, hf⟩ := gdE hf
    cases hf; exact E_zret dX9_follow_84 rfl hb rfl rfl
  replace hf := inegE hf h28_2
  by_cases h28_3 : p25 = 3
  · replace hf := iposE hf h28_3
    refine R_switchIn dX9_follow_28 (by omega) (by omega) (by rw [h28_3]; rfl) rfl ?_
    refine R_aload_n dX9_follow_85 rfl rfl ?_
    refine R_iload_n dX9_follow_86 rfl rfl ?_
    refine R_iload_n dX9_follow_87 rfl rfl ?_
    refine R_aload_n dX9_follow_88 rfl rfl ?_
    refine R_getR dX9_follow_89 cl9 flX9_35 o_0 ff9_3 (fr9_3 _) o_8.1 ?_
    refine R_iload_n dX9_follow_92 rfl rfl ?_
    refine R_iconst dX9_follow_93 (v := 2) rfl ?_
    obtain ⟨p94, hp94, hf⟩ := bdE hf
    refine R_callV (As := [aI v1, aI 2]) (st := [aI p16, aI p6, aR 0]) dX9_follow_94 (ct_X3_numberOf _ _ _  hp94) mwX3_numberOf mvX3_numberOf mlX9_468 cl3 o_8 rfl rfl ⟨nle, nle, nle, nle⟩ nle rfl ?_
    obtain ⟨p97, hp97, hf⟩ := bdE hf
    refine R_callV (As := [aI p6, aI p16, aI p94]) (st := []) dX9_follow_97 (ct_X9_followWrap _ _ _ _  hp97) mwX9_followWrap mvX9_followWrap mlX9_483 cl9 o_0 rfl rfl ⟨nle, nle, nle, nle⟩ nle rfl ?_
    obtain ⟨hb, hf⟩ := gdE hf
    cases hf; exact E_zret dX9_follow_100 rfl hb rfl rfl
  replace hf := inegE hf h28_3
  by_cases h28_4 : p25 = 4
  · replace hf := iposE hf h28_4
    refine R_switchIn dX9_follow_28 (by omega) (by omega) (by rw [h28_4]; rfl) rfl ?_
    refine R_aload_n dX9_follow_101 rfl rfl ?_
    obtain ⟨p102, hp102, hf⟩ := bdE hf
    refine R_callV (As := []) (st := []) dX9_follow_102 (ct_X9_mendNow  _  hp102) mwX9_mendNow mvX9_mendNow mlX9_274 cl9 o_0 rfl rfl ⟨nle, nle, nle, nle⟩ nle rfl ?_
    refine R_popR dX9_follow_105 ?_
    refine R_aload_n dX9_follow_106 rfl rfl ?_
    obtain ⟨p107, hp107, hf⟩ := bdE hf
    refine R_callV (As := []) (st := []) dX9_follow_107 (ct_X9_mendText  _  hp107) mwX9_mendText mvX9_mendText mlX9_353 cl9 o_0 rfl rfl ⟨nle, nle, nle, nle⟩ nle rfl ?_
    obtain ⟨hb, hf⟩ := gdE hf
    cases hf; exact E_zret dX9_follow_110 rfl hb rfl rfl
  replace hf := inegE hf h28_4
  refine R_switchOut dX9_follow_28 (by omega) rfl ?_
  refine R_aload_n dX9_follow_111 rfl rfl ?_
  obtain ⟨p112, hp112, hf⟩ := bdE hf
  refine R_callV (As := []) (st := []) dX9_follow_112 (ct_X9_readNow  _  hp112) mwX9_readNow mvX9_readNow mlX9_165 cl9 o_0 rfl rfl ⟨nle, nle, nle, nle⟩ nle rfl ?_
  obtain ⟨p115, hp115, hf⟩ := bdE hf
  refine R_callV (As := []) (st := []) dX9_follow_115 (ct_X5_lones _ _ o_54 hp115) mwX5_lones mvX5_lones mlX9_176 cl5 o_54 rfl rfl ⟨nle, nle, nle, nle⟩ nle rfl ?_
  refine R_iload_n dX9_follow_118 rfl rfl ?_
  refine R_icmp_ne dX9_follow_119 rfl (fun h119 => ?_) (fun h119 => ?_)
  · replace hf := inegE hf h119
    refine R_iconst dX9_follow_126 (v := 0) rfl ?_
    cases hf; exact E_zret dX9_follow_127 rfl (by decide) rfl rfl
  · replace hf := iposE hf h119
    refine R_iconst dX9_follow_122 (v := 1) rfl ?_
    refine R_goto dX9_follow_123 rfl ?_
    cases hf; exact E_zret dX9_follow_127 rfl (by decide) rfl rfl
/-! BracketHall.script(I)I -/
def f_X9_script_K79 (v3 : Int) (M : Mem) : Option (Nat × Int × Mem) :=
  (f_X4_copyFrom 14 17 M).bind fun p87 =>
  (f_X9_textTouched p87).bind fun p91 =>
  some (0, w32 ((-20) - v3), p91)
def f_X9_script_K105  (M : Mem) : Option (Nat × Int × Mem) :=
  (f_X0_keep 17 M).bind fun p113 =>
  some (0, p113 8 2, p113)
def f_X9_script_L60 : Nat → Int → Mem → Option (Nat × Int × Mem)
  | 0, _, _ => none
  | n + 1, v3, M =>
    if (M 8 2) ≤ v3 then
      f_X9_script_K105 M
    else
      (f_X9_follow v3 M).bind fun p73 =>
      if p73.1 = 0 then
        f_X9_script_K79 v3 p73.2
      else
        lt1 (w32 (v3 + 1)) fun v3_99 =>
        f_X9_script_L60 n v3_99 p73.2
def f_X9_script (v1 : Int) (M : Mem) : Option (Nat × Int × Mem) :=
  (f_X9_askInput v1 M).bind fun p2 => if p2.1 = 0 then
  (f_X8_begin v1 p2.2.2).bind fun p10 =>
  (f_X3_parse p10).bind fun p21 =>
  lt1 (p21.1) fun v2_24 =>
  (f_X9_noteError v2_24 p21.2).bind fun p27 =>
  lt1 (up p27 1 1 0) fun M35 =>
  if v2_24 = 0 then
    (f_X4_copyFrom 17 14 M35).bind fun p55 =>
    f_X9_script_L60 4096 0 p55
  else
    some (0, w32 ((-10) - v2_24), M35)
  else some (p2.1, 0, p2.2.2)
set_option maxRecDepth 20000 in
theorem rn_X9_script_K79 {G : Gl} (v3 : Int) (M : Mem) (res : Nat × Int × Mem)  (hf : f_X9_script_K79 v3 M = some res) : Run G false (rmD 8 1 6) miX9_script (ZX G 1 6 res.1 (some (aI res.2.1)) res.2.2) 1 6 79 [some (aR 0), none, none, some (aI v3)] [] M := by
  unfold f_X9_script_K79 at hf
  refine R_aload_n dX9_script_79 rfl rfl ?_
  refine R_getR dX9_script_80 cl9 flX9_49 o_0 ff9_5 (fr9_5 _) o_14.1 ?_
  refine R_aload_n dX9_script_83 rfl rfl ?_
  refine R_getR dX9_script_84 cl9 flX9_53 o_0 ff9_6 (fr9_6 _) o_17.1 ?_
  obtain ⟨p87, hp87, hf⟩ := bdE hf
  refine R_callV (As := [aR 17]) (st := []) dX9_script_87 (ct_X4_copyFrom _ _ _ o_14 o_17 hp87) mwX4_copyFrom mvX4_copyFrom mlX9_350 cl4 o_14 rfl rfl ⟨nle, nle, nle, nle⟩ nle rfl ?_
  refine R_aload_n dX9_script_90 rfl rfl ?_
  obtain ⟨p91, hp91, hf⟩ := bdE hf
  refine R_callV (As := []) (st := []) dX9_script_91 (ct_X9_textTouched  _  hp91) mwX9_textTouched mvX9_textTouched mlX9_378 cl9 o_0 rfl rfl ⟨nle, nle, nle, nle⟩ nle rfl ?_
  refine R_bipush dX9_script_94 (v := (-20)) rfl ?_
  refine R_iload_n dX9_script_96 rfl rfl ?_
  refine R_isub dX9_script_97 rfl ?_
  cases hf; exact R_widen nle nle (EX_iret dX9_script_98 rfl rfl rfl rfl)
set_option maxRecDepth 20000 in
theorem rn_X9_script_K105 {G : Gl}  (M : Mem) (res : Nat × Int × Mem)  (hf : f_X9_script_K105  M = some res) : Run G false (rmD 8 1 6) miX9_script (ZX G 1 6 res.1 (some (aI res.2.1)) res.2.2) 1 6 105 [some (aR 0), none, none, none] [] M := by
  unfold f_X9_script_K105 at hf
  refine R_aload_n dX9_script_105 rfl rfl ?_
  refine R_getR dX9_script_106 cl9 flX9_59 o_0 ff9_7 (fr9_7 _) o_20.1 ?_
  refine R_aload_n dX9_script_109 rfl rfl ?_
  refine R_getR dX9_script_110 cl9 flX9_53 o_0 ff9_6 (fr9_6 _) o_17.1 ?_
  obtain ⟨p113, hp113, hf⟩ := bdE hf
  refine R_callV (As := [aR 17]) (st := []) dX9_script_113 (ct_X0_keep _ _ o_17 hp113) mwX0_keep mvX0_keep mlX9_357 cl0 o_20 rfl rfl ⟨nle, nle, nle, nle⟩ nle rfl ?_
  refine R_aload_n dX9_script_116 rfl rfl ?_
  refine R_getR dX9_script_117 cl9 flX9_35 o_0 ff9_3 (fr9_3 _) o_8.1 ?_
  refine R_getI (ki := 2) dX9_script_120 cl3 flX9_374 o_8 ff3_2 rfl rfl ?_
  cases hf; exact R_widen nle nle (EX_iret dX9_script_123 rfl rfl rfl rfl)
set_option maxRecDepth 20000 in
theorem rn_X9_script_L60 {G : Gl} : ∀ (n : Nat) (v3 : Int) (M : Mem) (res : Nat × Int × Mem),  f_X9_script_L60 n v3 M = some res → Run G false (rmD 8 1 6) miX9_script (ZX G 1 6 res.1 (some (aI res.2.1)) res.2.2) 1 6 60 [some (aR 0), none, none, some (aI v3)] [] M := by
  intro n
  induction n with
  | zero => intro v3 M res  hf; cases hf
  | succ n ih =>
    intro v3 M res  hf
    rw [f_X9_script_L60] at hf
    refine R_iload_n dX9_script_60 rfl rfl ?_
    refine R_aload_n dX9_script_61 rfl rfl ?_
    refine R_getR dX9_script_62 cl9 flX9_35 o_0 ff9_3 (fr9_3 _) o_8.1 ?_
    refine R_getI (ki := 2) dX9_script_65 cl3 flX9_374 o_8 ff3_2 rfl rfl ?_
    refine R_icmp_ge dX9_script_68 rfl (fun h68 => ?_) (fun h68 => ?_)
    · replace hf := iposE hf h68
      exact R_subk (R_widen nle nle (rn_X9_script_K105  _ _  hf)) ⟨rfl, trivial⟩
    · replace hf := inegE hf h68
      refine R_aload_n dX9_script_71 rfl rfl ?_
      refine R_iload_n dX9_script_72 rfl rfl ?_
      obtain ⟨p73, hp73, hf⟩ := bdE hf
      refine R_callV (As := [aI v3]) (st := []) dX9_script_73 (ct_X9_follow _ _  hp73) mwX9_follow mvX9_follow mlX9_375 cl9 o_0 rfl rfl ⟨nle, nle, nle, nle⟩ nle rfl ?_
      refine R_if_ne dX9_script_76 rfl (fun h76 => ?_) (fun h76 => ?_)
      · replace hf := inegE hf h76
        obtain ⟨v3_99, hv3_99, hf⟩ := ltE hf
        refine R_iinc dX9_script_99 rfl rfl hv3_99 (by decide) rfl ?_
        refine R_goto dX9_script_102 rfl ?_
        exact R_subk (R_widen nle nle (ih _ _ _  hf)) ⟨rfl, rfl, trivial⟩
      · replace hf := iposE hf h76
        exact R_subk (R_widen nle nle (rn_X9_script_K79 _ _ _  hf)) ⟨rfl, rfl, trivial⟩
set_option maxRecDepth 20000 in
theorem ct_X9_script {G : Gl} (v1 : Int) (M : Mem) {res : Nat × Int × Mem}  (hf : f_X9_script v1 M = some res) : CtX G miX9_script yX9_script 8 1 6 [aR 0, aI v1] M res.1 (some (aI res.2.1)) res.2.2 := by
  refine CtX.of (L := [some (aR 0), some (aI v1), none, none]) mwX9_script rfl trivial nle ⟨rfl, rfl, trivial⟩ ?_
  unfold f_X9_script at hf
  refine R_aload_n dX9_script_0 rfl rfl ?_
  refine R_iload_n dX9_script_1 rfl rfl ?_
  obtain ⟨p2, hp2, hf⟩ := bdE hf
  refine R_callVX (As := [aI v1]) (st := []) dX9_script_2 (ct_X9_askInput _ _  hp2) mwX9_askInput mvX9_askInput wd710 cl9 o_0 rfl rfl ⟨nle, nle, nle, nle⟩ nle rfl rfl nle nle (fun h2 => ?_) (fun h2 => ?_)
  · replace hf := inegE hf h2; cases hf; exact ⟨rfl, rfl⟩
  replace hf := iposE hf h2
  refine R_aload_n dX9_script_5 rfl rfl ?_
  refine R_getR dX9_script_6 cl9 flX9_21 o_0 ff9_1 (fr9_1 _) o_3.1 ?_
  refine R_iload_n dX9_script_9 rfl rfl ?_
  obtain ⟨p10, hp10, hf⟩ := bdE hf
  refine R_callV (As := [aI v1]) (st := []) dX9_script_10 (ct_X8_begin _ _  hp10) mwX8_begin mvX8_begin mlX9_120 cl8 o_3 rfl rfl ⟨nle, nle, nle, nle⟩ nle rfl ?_
  refine R_aload_n dX9_script_13 rfl rfl ?_
  refine R_getR dX9_script_14 cl9 flX9_35 o_0 ff9_3 (fr9_3 _) o_8.1 ?_
  refine R_aload_n dX9_script_17 rfl rfl ?_
  refine R_getR dX9_script_18 cl9 flX9_21 o_0 ff9_1 (fr9_1 _) o_3.1 ?_
  obtain ⟨p21, hp21, hf⟩ := bdE hf
  refine R_callV (As := [aR 3]) (st := []) dX9_script_21 (ct_X3_parse  _  hp21) mwX3_parse mvX3_parse mlX9_373 cl3 o_8 rfl rfl ⟨nle, nle, nle, nle⟩ nle rfl ?_
  obtain ⟨v2_24, hv2_24, hf⟩ := ltE hf
  refine R_istore_n dX9_script_24 rfl (by decide) hv2_24 rfl ?_
  refine R_aload_n dX9_script_25 rfl rfl ?_
  refine R_iload_n dX9_script_26 rfl rfl ?_
  obtain ⟨p27, hp27, hf⟩ := bdE hf
  refine R_callV (As := [aI v2_24]) (st := []) dX9_script_27 (ct_X9_noteError _ _  hp27) mwX9_noteError mvX9_noteError mlX9_127 cl9 o_0 rfl rfl ⟨nle, nle, nle, nle⟩ nle rfl ?_
  refine R_aload_n dX9_script_30 rfl rfl ?_
  refine R_getR dX9_script_31 cl9 flX9_12 o_0 ff9_0 (fr9_0 _) o_1.1 ?_
  refine R_iconst dX9_script_34 (v := 0) rfl ?_
  obtain ⟨M35, hM35, hf⟩ := ltE hf
  refine R_put (ki := 1) dX9_script_35 cl1 flX9_110 o_1 (Or.inl fz1_1) rfl hM35 ?_
  refine R_iload_n dX9_script_38 rfl rfl ?_
  refine R_if_eq dX9_script_39 rfl (fun h39 => ?_) (fun h39 => ?_)
  · replace hf := iposE hf h39
    refine R_aload_n dX9_script_47 rfl rfl ?_
    refine R_getR dX9_script_48 cl9 flX9_53 o_0 ff9_6 (fr9_6 _) o_17.1 ?_
    refine R_aload_n dX9_script_51 rfl rfl ?_
    refine R_getR dX9_script_52 cl9 flX9_49 o_0 ff9_5 (fr9_5 _) o_14.1 ?_
    obtain ⟨p55, hp55, hf⟩ := bdE hf
    refine R_callV (As := [aR 14]) (st := []) dX9_script_55 (ct_X4_copyFrom _ _ _ o_17 o_14 hp55) mwX4_copyFrom mvX4_copyFrom mlX9_350 cl4 o_17 rfl rfl ⟨nle, nle, nle, nle⟩ nle rfl ?_
    refine R_iconst dX9_script_58 (v := 0) rfl ?_
    refine R_istore_n dX9_script_59 rfl (by decide) rfl rfl ?_
    exact R_subk (R_widen nle nle (rn_X9_script_L60 4096 _ _ _  hf)) ⟨rfl, rfl, trivial⟩
  · replace hf := inegE hf h39
    refine R_bipush dX9_script_42 (v := (-10)) rfl ?_
    refine R_iload_n dX9_script_44 rfl rfl ?_
    refine R_isub dX9_script_45 rfl ?_
    cases hf; exact R_widen nle nle (EX_iret dX9_script_46 rfl rfl rfl rfl)
/-! BracketHall.undo()I -/
def f_X9_undo  (M : Mem) : Option (Int × Mem) :=
  if (M 20 2) = 0 then
    some ((-1), M)
  else
    (f_X0_takeBack 14 M).bind fun p20 =>
    (f_X9_textTouched p20).bind fun p24 =>
    some (p24 20 2, p24)
set_option maxRecDepth 20000 in
theorem ct_X9_undo {G : Gl}  (M : Mem) {res : Int × Mem}  (hf : f_X9_undo  M = some res) : Ct G miX9_undo yX9_undo 3 [aR 0] M (some (aI res.1)) res.2 := by
  refine Ct.of (L := [some (aR 0)]) mwX9_undo rfl trivial nle ⟨rfl, trivial⟩ ?_
  unfold f_X9_undo at hf
  refine R_aload_n dX9_undo_0 rfl rfl ?_
  refine R_getR dX9_undo_1 cl9 flX9_59 o_0 ff9_7 (fr9_7 _) o_20.1 ?_
  refine R_getI (ki := 2) dX9_undo_4 cl0 flX9_193 o_20 ff0_2 rfl rfl ?_
  refine R_if_ne dX9_undo_7 rfl (fun h7 => ?_) (fun h7 => ?_)
  · replace hf := inegE hf h7
    refine R_aload_n dX9_undo_12 rfl rfl ?_
    refine R_getR dX9_undo_13 cl9 flX9_59 o_0 ff9_7 (fr9_7 _) o_20.1 ?_
    refine R_aload_n dX9_undo_16 rfl rfl ?_
    refine R_getR dX9_undo_17 cl9 flX9_49 o_0 ff9_5 (fr9_5 _) o_14.1 ?_
    obtain ⟨p20, hp20, hf⟩ := bdE hf
    refine R_callV (As := [aR 14]) (st := []) dX9_undo_20 (ct_X0_takeBack _ _ o_14 hp20) mwX0_takeBack mvX0_takeBack mlX9_381 cl0 o_20 rfl rfl ⟨nle, nle, nle, nle⟩ nle rfl ?_
    refine R_aload_n dX9_undo_23 rfl rfl ?_
    obtain ⟨p24, hp24, hf⟩ := bdE hf
    refine R_callV (As := []) (st := []) dX9_undo_24 (ct_X9_textTouched  _  hp24) mwX9_textTouched mvX9_textTouched mlX9_378 cl9 o_0 rfl rfl ⟨nle, nle, nle, nle⟩ nle rfl ?_
    refine R_aload_n dX9_undo_27 rfl rfl ?_
    refine R_getR dX9_undo_28 cl9 flX9_59 o_0 ff9_7 (fr9_7 _) o_20.1 ?_
    refine R_getI (ki := 2) dX9_undo_31 cl0 flX9_193 o_20 ff0_2 rfl rfl ?_
    cases hf; exact E_iret dX9_undo_34 rfl rfl rfl
  · replace hf := iposE hf h7
    refine R_iconst dX9_undo_10 (v := (-1)) rfl ?_
    cases hf; exact E_iret dX9_undo_11 rfl rfl rfl
/-! BracketHall.askSlot(I)V -/
def f_X9_askSlot (v1 : Int) (M : Mem) : Option (Nat × Int × Mem) :=
  if v1 < 0 then
    some (1, 0, M)
  else
    if v1 < 2 then
      some (0, 0, M)
    else
      some (1, 0, M)
set_option maxRecDepth 20000 in
theorem ct_X9_askSlot {G : Gl} (v1 : Int) (M : Mem) {res : Nat × Int × Mem}  (hf : f_X9_askSlot v1 M = some res) : CtX G miX9_askSlot yX9_askSlot 6 1 6 [aR 0, aI v1] M res.1 none res.2.2 := by
  refine CtX.of (L := [some (aR 0), some (aI v1)]) mwX9_askSlot rfl trivial nle ⟨rfl, rfl, trivial⟩ ?_
  unfold f_X9_askSlot at hf
  refine R_iload_n dX9_askSlot_0 rfl rfl ?_
  refine R_if_lt dX9_askSlot_1 rfl (fun h1 => ?_) (fun h1 => ?_)
  · replace hf := iposE hf h1
    cases hf; exact R_throwW (j := 26) (x := 1) (cls := "java/lang/IndexOutOfBoundsException") dX9_askSlot_9 dX9_askSlot_12 dX9_askSlot_13 dX9_askSlot_16 dX9_askSlot_19 wd991 xwX9_401 xi_1 rfl rfl (by decide +kernel) (by decide) (by decide) (by decide) ⟨nle, nle⟩ ⟨nle, nle⟩ rfl rfl rfl
  · replace hf := inegE hf h1
    refine R_iload_n dX9_askSlot_4 rfl rfl ?_
    refine R_iconst dX9_askSlot_5 (v := 2) rfl ?_
    refine R_icmp_lt dX9_askSlot_6 rfl (fun h6 => ?_) (fun h6 => ?_)
    · replace hf := iposE hf h6
      cases hf; exact R_widen nle nle (EX_vret dX9_askSlot_20 rfl rfl rfl)
    · replace hf := inegE hf h6
      cases hf; exact R_throwW (j := 26) (x := 1) (cls := "java/lang/IndexOutOfBoundsException") dX9_askSlot_9 dX9_askSlot_12 dX9_askSlot_13 dX9_askSlot_16 dX9_askSlot_19 wd991 xwX9_401 xi_1 rfl rfl (by decide +kernel) (by decide) (by decide) (by decide) ⟨nle, nle⟩ ⟨nle, nle⟩ rfl rfl rfl
/-! BracketHall.saveSnapshot(I)Z -/
def f_X9_saveSnapshot (v1 : Int) (M : Mem) : Option (Nat × Int × Mem) :=
  (f_X9_askSlot v1 M).bind fun p2 => if p2.1 = 0 then
  if (0 : Int) ≤ v1 ∧ v1 < 2 then
  lt1 (rfa 52 (v1).toNat) fun q10 =>
  (f_X4_copyFrom q10 14 p2.2.2).bind fun p21 =>
  lt1 (p21 53 v1) fun v3_30 =>
  lt1 (up p21 53 v1 1) fun M37 =>
  if v3_30 = 0 ∨ v3_30 = 1 then
  some (0, v3_30, M37)
  else none
  else none
  else some (p2.1, 0, p2.2.2)
set_option maxRecDepth 20000 in
theorem ct_X9_saveSnapshot {G : Gl} (v1 : Int) (M : Mem) {res : Nat × Int × Mem}  (hf : f_X9_saveSnapshot v1 M = some res) : CtX G miX9_saveSnapshot yX9_saveSnapshot 7 1 6 [aR 0, aI v1] M res.1 (some (aI res.2.1)) res.2.2 := by
  refine CtX.of (L := [some (aR 0), some (aI v1), none, none]) mwX9_saveSnapshot rfl trivial nle ⟨rfl, rfl, trivial⟩ ?_
  unfold f_X9_saveSnapshot at hf
  refine R_aload_n dX9_saveSnapshot_0 rfl rfl ?_
  refine R_iload_n dX9_saveSnapshot_1 rfl rfl ?_
  obtain ⟨p2, hp2, hf⟩ := bdE hf
  refine R_callVX (As := [aI v1]) (st := []) dX9_saveSnapshot_2 (ct_X9_askSlot _ _  hp2) mwX9_askSlot mvX9_askSlot wd1286 cl9 o_0 rfl rfl ⟨nle, nle, nle, nle⟩ nle rfl rfl nle nle (fun h2 => ?_) (fun h2 => ?_)
  · replace hf := inegE hf h2; cases hf; exact ⟨rfl, rfl⟩
  replace hf := iposE hf h2
  refine R_aload_n dX9_saveSnapshot_5 rfl rfl ?_
  refine R_getR dX9_saveSnapshot_6 cl9 flX9_63 o_0 ff9_8 (fr9_8 _) a_52.1 ?_
  refine R_iload_n dX9_saveSnapshot_9 rfl rfl ?_
  obtain ⟨hg1, hf⟩ := gdE hf
  obtain ⟨q10, hq10, hf⟩ := ltE hf
  have hoq10 : isO 4 q10 := by rw [hq10]; exact pgs_s hg1.1 hg1.2
  refine R_aaload dX9_saveSnapshot_10 a_52 hg1.1 hg1.2 hq10 hoq10.1 ?_
  refine R_astore_n dX9_saveSnapshot_11 rfl (by decide) rfl ?_
  refine R_aload_n dX9_saveSnapshot_12 rfl rfl ?_
  refine R_ifnull dX9_saveSnapshot_13 ?_
  refine R_aload_n dX9_saveSnapshot_16 rfl rfl ?_
  refine R_aload_n dX9_saveSnapshot_17 rfl rfl ?_
  refine R_getR dX9_saveSnapshot_18 cl9 flX9_49 o_0 ff9_5 (fr9_5 _) o_14.1 ?_
  obtain ⟨p21, hp21, hf⟩ := bdE hf
  refine R_callV (As := [aR 14]) (st := []) dX9_saveSnapshot_21 (ct_X4_copyFrom _ _ _ hoq10 o_14 hp21) mwX4_copyFrom mvX4_copyFrom mlX9_350 cl4 hoq10 rfl rfl ⟨nle, nle, nle, nle⟩ nle rfl ?_
  refine R_aload_n dX9_saveSnapshot_24 rfl rfl ?_
  refine R_getR dX9_saveSnapshot_25 cl9 flX9_67 o_0 ff9_9 (fr9_9 _) a_53.1 ?_
  refine R_iload_n dX9_saveSnapshot_28 rfl rfl ?_
  refine R_zaload dX9_saveSnapshot_29 a_53 hg1.1 hg1.2 rfl ?_
  obtain ⟨v3_30, hv3_30, hf⟩ := ltE hf
  refine R_istore_n dX9_saveSnapshot_30 rfl (by decide) hv3_30 rfl ?_
  refine R_aload_n dX9_saveSnapshot_31 rfl rfl ?_
  refine R_getR dX9_saveSnapshot_32 cl9 flX9_67 o_0 ff9_9 (fr9_9 _) a_53.1 ?_
  refine R_iload_n dX9_saveSnapshot_35 rfl rfl ?_
  refine R_iconst dX9_saveSnapshot_36 (v := 1) rfl ?_
  obtain ⟨M37, hM37, hf⟩ := ltE hf
  refine R_zastore dX9_saveSnapshot_37 a_53 hg1.1 hg1.2 (by decide) hM37 ?_
  refine R_iload_n dX9_saveSnapshot_38 rfl rfl ?_
  obtain ⟨hb, hf⟩ := gdE hf
  cases hf; exact R_widen nle nle (EX_zret dX9_saveSnapshot_39 rfl hb rfl rfl rfl)
/-! BracketHall.restoreSnapshot(I)I -/
def f_X9_restoreSnapshot (v1 : Int) (M : Mem) : Option (Nat × Int × Mem) :=
  (f_X9_askSlot v1 M).bind fun p2 => if p2.1 = 0 then
  if (0 : Int) ≤ v1 ∧ v1 < 2 then
  lt1 (rfa 52 (v1).toNat) fun q10 =>
  if (p2.2.2 53 v1) = 0 then
    some (4, 0, p2.2.2)
  else
    (f_X4_copyFrom 14 q10 p2.2.2).bind fun p41 =>
    lt1 (up p41 20 2 0) fun M49 =>
    (f_X9_textTouched M49).bind fun p53 =>
    some (0, p53 14 2, p53)
  else none
  else some (p2.1, 0, p2.2.2)
set_option maxRecDepth 20000 in
theorem ct_X9_restoreSnapshot {G : Gl} (v1 : Int) (M : Mem) {res : Nat × Int × Mem}  (hf : f_X9_restoreSnapshot v1 M = some res) : CtX G miX9_restoreSnapshot yX9_restoreSnapshot 7 2 12 [aR 0, aI v1] M res.1 (some (aI res.2.1)) res.2.2 := by
  refine CtX.of (L := [some (aR 0), some (aI v1), none]) mwX9_restoreSnapshot rfl trivial nle ⟨rfl, rfl, trivial⟩ ?_
  unfold f_X9_restoreSnapshot at hf
  refine R_aload_n dX9_restoreSnapshot_0 rfl rfl ?_
  refine R_iload_n dX9_restoreSnapshot_1 rfl rfl ?_
  obtain ⟨p2, hp2, hf⟩ := bdE hf
  refine R_callVX (As := [aI v1]) (st := []) dX9_restoreSnapshot_2 (ct_X9_askSlot _ _  hp2) mwX9_askSlot mvX9_askSlot wd1286 cl9 o_0 rfl rfl ⟨nle, nle, nle, nle⟩ nle rfl rfl nle nle (fun h2 => ?_) (fun h2 => ?_)
  · replace hf := inegE hf h2; cases hf; exact ⟨rfl, rfl⟩
  replace hf := iposE hf h2
  refine R_aload_n dX9_restoreSnapshot_5 rfl rfl ?_
  refine R_getR dX9_restoreSnapshot_6 cl9 flX9_63 o_0 ff9_8 (fr9_8 _) a_52.1 ?_
  refine R_iload_n dX9_restoreSnapshot_9 rfl rfl ?_
  obtain ⟨hg1, hf⟩ := gdE hf
  obtain ⟨q10, hq10, hf⟩ := ltE hf
  have hoq10 : isO 4 q10 := by rw [hq10]; exact pgs_s hg1.1 hg1.2
  refine R_aaload dX9_restoreSnapshot_10 a_52 hg1.1 hg1.2 hq10 hoq10.1 ?_
  refine R_astore_n dX9_restoreSnapshot_11 rfl (by decide) rfl ?_
  refine R_aload_n dX9_restoreSnapshot_12 rfl rfl ?_
  refine R_ifnull dX9_restoreSnapshot_13 ?_
  refine R_aload_n dX9_restoreSnapshot_16 rfl rfl ?_
  refine R_getR dX9_restoreSnapshot_17 cl9 flX9_67 o_0 ff9_9 (fr9_9 _) a_53.1 ?_
  refine R_iload_n dX9_restoreSnapshot_20 rfl rfl ?_
  refine R_zaload dX9_restoreSnapshot_21 a_53 hg1.1 hg1.2 rfl ?_
  refine R_if_ne dX9_restoreSnapshot_22 rfl (fun h22 => ?_) (fun h22 => ?_)
  · replace hf := inegE hf h22
    refine R_aload_n dX9_restoreSnapshot_36 rfl rfl ?_
    refine R_getR dX9_restoreSnapshot_37 cl9 flX9_49 o_0 ff9_5 (fr9_5 _) o_14.1 ?_
    refine R_aload_n dX9_restoreSnapshot_40 rfl rfl ?_
    obtain ⟨p41, hp41, hf⟩ := bdE hf
    refine R_callV (As := [aR q10]) (st := []) dX9_restoreSnapshot_41 (ct_X4_copyFrom _ _ _ o_14 hoq10 hp41) mwX4_copyFrom mvX4_copyFrom mlX9_350 cl4 o_14 rfl rfl ⟨nle, nle, nle, nle⟩ nle rfl ?_
    refine R_aload_n dX9_restoreSnapshot_44 rfl rfl ?_
    refine R_getR dX9_restoreSnapshot_45 cl9 flX9_59 o_0 ff9_7 (fr9_7 _) o_20.1 ?_
    refine R_iconst dX9_restoreSnapshot_48 (v := 0) rfl ?_
    obtain ⟨M49, hM49, hf⟩ := ltE hf
    refine R_put (ki := 2) dX9_restoreSnapshot_49 cl0 flX9_193 o_20 (Or.inl fz0_2) rfl hM49 ?_
    refine R_aload_n dX9_restoreSnapshot_52 rfl rfl ?_
    obtain ⟨p53, hp53, hf⟩ := bdE hf
    refine R_callV (As := []) (st := []) dX9_restoreSnapshot_53 (ct_X9_textTouched  _  hp53) mwX9_textTouched mvX9_textTouched mlX9_378 cl9 o_0 rfl rfl ⟨nle, nle, nle, nle⟩ nle rfl ?_
    refine R_aload_n dX9_restoreSnapshot_56 rfl rfl ?_
    refine R_getR dX9_restoreSnapshot_57 cl9 flX9_49 o_0 ff9_5 (fr9_5 _) o_14.1 ?_
    refine R_getI (ki := 2) dX9_restoreSnapshot_60 cl4 flX9_172 o_14 ff4_2 rfl rfl ?_
    cases hf; exact R_widen nle nle (EX_iret dX9_restoreSnapshot_63 rfl rfl rfl rfl)
  · replace hf := iposE hf h22
    cases hf; exact R_throwW (j := 27) (x := 4) (cls := "java/lang/IllegalStateException") dX9_restoreSnapshot_25 dX9_restoreSnapshot_28 dX9_restoreSnapshot_29 dX9_restoreSnapshot_32 dX9_restoreSnapshot_35 wd1299 xwX9_391 xi_4 rfl rfl (by decide +kernel) (by decide) (by decide) (by decide) ⟨nle, nle⟩ ⟨nle, nle⟩ rfl rfl rfl
/-! BracketHallModel.thrown()I -/
def f_X10_thrown  (M : Mem) : Option (Int) :=
  some (M 84 0)
set_option maxRecDepth 20000 in
theorem ct_X10_thrown {G : Gl}  (M : Mem) {res : Int}  (hf : f_X10_thrown  M = some res) : Ct G miX10_thrown yX10_thrown 0 [aR 84] M (some (aI res)) M := by
  refine Ct.of (L := [some (aR 84)]) mwX10_thrown rfl trivial nle ⟨rfl, trivial⟩ ?_
  unfold f_X10_thrown at hf
  refine R_aload_n dX10_thrown_0 rfl rfl ?_
  refine R_getI (ki := 0) dX10_thrown_1 cl10 flX10_117 o_84 ff10_0 rfl rfl ?_
  cases hf; exact E_iret dX10_thrown_4 rfl rfl rfl
/-! BracketHallModel.isIn(III)Z -/
def f_X10_isIn (v0 : Int) (v1 : Int) (v2 : Int) (M : Mem) : Option (Int) :=
  if v0 < v1 then
    some 0
  else
    if v2 < v0 then
      some 0
    else
      some 1
set_option maxRecDepth 20000 in
theorem ct_X10_isIn {G : Gl} (v0 : Int) (v1 : Int) (v2 : Int) (M : Mem) {res : Int}  (hf : f_X10_isIn v0 v1 v2 M = some res) : Ct G miX10_isIn yX10_isIn 0 [aI v0, aI v1, aI v2] M (some (aI res)) M := by
  refine Ct.of (L := [some (aI v0), some (aI v1), some (aI v2)]) mwX10_isIn rfl trivial nle ⟨rfl, rfl, rfl, trivial⟩ ?_
  unfold f_X10_isIn at hf
  refine R_iload_n dX10_isIn_0 rfl rfl ?_
  refine R_iload_n dX10_isIn_1 rfl rfl ?_
  refine R_icmp_lt dX10_isIn_2 rfl (fun h2 => ?_) (fun h2 => ?_)
  · replace hf := iposE hf h2
    refine R_iconst dX10_isIn_14 (v := 0) rfl ?_
    cases hf; exact E_zret dX10_isIn_15 rfl (by decide) rfl rfl
  · replace hf := inegE hf h2
    refine R_iload_n dX10_isIn_5 rfl rfl ?_
    refine R_iload_n dX10_isIn_6 rfl rfl ?_
    refine R_icmp_gt dX10_isIn_7 rfl (fun h7 => ?_) (fun h7 => ?_)
    · replace hf := iposE hf h7
      refine R_iconst dX10_isIn_14 (v := 0) rfl ?_
      cases hf; exact E_zret dX10_isIn_15 rfl (by decide) rfl rfl
    · replace hf := inegE hf h7
      refine R_iconst dX10_isIn_10 (v := 1) rfl ?_
      refine R_goto dX10_isIn_11 rfl ?_
      cases hf; exact E_zret dX10_isIn_15 rfl (by decide) rfl rfl
/-! BracketHallModel.throwsIf(ZI)Z -/
def f_X10_throwsIf (v1 : Int) (v2 : Int) (M : Mem) : Option (Int × Mem) :=
  if (M 84 0) = 0 then
    if v1 = 0 then
      if (M 84 0) ≤ 0 then
        some (0, M)
      else
        some (1, M)
    else
      lt1 (up M 84 0 v2) fun M13 =>
      if (M13 84 0) ≤ 0 then
        some (0, M13)
      else
        some (1, M13)
  else
    if (M 84 0) ≤ 0 then
      some (0, M)
    else
      some (1, M)
set_option maxRecDepth 20000 in
theorem ct_X10_throwsIf {G : Gl} (v1 : Int) (v2 : Int) (M : Mem) {res : Int × Mem}  (hf : f_X10_throwsIf v1 v2 M = some res) : Ct G miX10_throwsIf yX10_throwsIf 0 [aR 84, aI v1, aI v2] M (some (aI res.1)) res.2 := by
  refine Ct.of (L := [some (aR 84), some (aI v1), some (aI v2)]) mwX10_throwsIf rfl trivial nle ⟨rfl, rfl, rfl, trivial⟩ ?_
  unfold f_X10_throwsIf at hf
  refine R_aload_n dX10_throwsIf_0 rfl rfl ?_
  refine R_getI (ki := 0) dX10_throwsIf_1 cl10 flX10_117 o_84 ff10_0 rfl rfl ?_
  refine R_if_ne dX10_throwsIf_4 rfl (fun h4 => ?_) (fun h4 => ?_)
  · replace hf := inegE hf h4
    refine R_aload_n dX10_throwsIf_16 rfl rfl ?_
    refine R_getI (ki := 0) dX10_throwsIf_17 cl10 flX10_117 o_84 ff10_0 rfl rfl ?_
    refine R_if_le dX10_throwsIf_20 rfl (fun h20 => ?_) (fun h20 => ?_)
    · replace hf := iposE hf h20
      refine R_iconst dX10_throwsIf_27 (v := 0) rfl ?_
      cases hf; exact E_zret dX10_throwsIf_28 rfl (by decide) rfl rfl
    · replace hf := inegE hf h20
      refine R_iconst dX10_throwsIf_23 (v := 1) rfl ?_
      refine R_goto dX10_throwsIf_24 rfl ?_
      cases hf; exact E_zret dX10_throwsIf_28 rfl (by decide) rfl rfl
  · replace hf := iposE hf h4
    refine R_iload_n dX10_throwsIf_7 rfl rfl ?_
    refine R_if_eq dX10_throwsIf_8 rfl (fun h8 => ?_) (fun h8 => ?_)
    · replace hf := iposE hf h8
      refine R_aload_n dX10_throwsIf_16 rfl rfl ?_
      refine R_getI (ki := 0) dX10_throwsIf_17 cl10 flX10_117 o_84 ff10_0 rfl rfl ?_
      refine R_if_le dX10_throwsIf_20 rfl (fun h20 => ?_) (fun h20 => ?_)
      · replace hf := iposE hf h20
        refine R_iconst dX10_throwsIf_27 (v := 0) rfl ?_
        cases hf; exact E_zret dX10_throwsIf_28 rfl (by decide) rfl rfl
      · replace hf := inegE hf h20
        refine R_iconst dX10_throwsIf_23 (v := 1) rfl ?_
        refine R_goto dX10_throwsIf_24 rfl ?_
        cases hf; exact E_zret dX10_throwsIf_28 rfl (by decide) rfl rfl
    · replace hf := inegE hf h8
      refine R_aload_n dX10_throwsIf_11 rfl rfl ?_
      refine R_iload_n dX10_throwsIf_12 rfl rfl ?_
      obtain ⟨M13, hM13, hf⟩ := ltE hf
      refine R_put (ki := 0) dX10_throwsIf_13 cl10 flX10_117 o_84 (Or.inl fz10_0) rfl hM13 ?_
      refine R_aload_n dX10_throwsIf_16 rfl rfl ?_
      refine R_getI (ki := 0) dX10_throwsIf_17 cl10 flX10_117 o_84 ff10_0 rfl rfl ?_
      refine R_if_le dX10_throwsIf_20 rfl (fun h20 => ?_) (fun h20 => ?_)
      · replace hf := iposE hf h20
        refine R_iconst dX10_throwsIf_27 (v := 0) rfl ?_
        cases hf; exact E_zret dX10_throwsIf_28 rfl (by decide) rfl rfl
      · replace hf := inegE hf h20
        refine R_iconst dX10_throwsIf_23 (v := 1) rfl ?_
        refine R_goto dX10_throwsIf_24 rfl ?_
        cases hf; exact E_zret dX10_throwsIf_28 rfl (by decide) rfl rfl
/-! BracketHallModel.empties([I)V -/
def f_X10_empties_K19 (o0 : Nat) (M : Mem) : Option (Mem) :=
  if (0 : Int) ≤ 10 ∧ 10 < alen o0 then
  lt1 (up M o0 10 3) fun M23 =>
  if (0 : Int) ≤ 11 ∧ 11 < alen o0 then
  lt1 (up M23 o0 11 2) fun M28 =>
  if (0 : Int) ≤ 12 ∧ 12 < alen o0 then
  lt1 (up M28 o0 12 3) fun M33 =>
  if (0 : Int) ≤ 13 ∧ 13 < alen o0 then
  lt1 (up M33 o0 13 4) fun M38 =>
  some M38
  else none
  else none
  else none
  else none
def f_X10_empties_L2 : Nat → Nat → Int → Mem → Option (Mem)
  | 0, _, _, _ => none
  | n + 1, o0, v1, M =>
    if 254 ≤ v1 then
      f_X10_empties_K19 o0 M
    else
      if (0 : Int) ≤ v1 ∧ v1 < alen o0 then
      lt1 (up M o0 v1 0) fun M12 =>
      lt1 (w32 (v1 + 1)) fun v1_13 =>
      f_X10_empties_L2 n o0 v1_13 M12
      else none
def f_X10_empties (o0 : Nat) (M : Mem) : Option (Mem) :=
  f_X10_empties_L2 4096 o0 0 M
set_option maxRecDepth 20000 in
theorem rn_X10_empties_K19 {G : Gl} (o0 : Nat) (M : Mem) (res : Mem) (ho0 : isI 20 o0) (hf : f_X10_empties_K19 o0 M = some res) : Run G false (rmD 0 0 0) miX10_empties (ZP G none res) 0 0 19 [some (aR o0), none] [] M := by
  unfold f_X10_empties_K19 at hf
  refine R_aload_n dX10_empties_19 rfl rfl ?_
  refine R_bipush dX10_empties_20 (v := 10) rfl ?_
  refine R_iconst dX10_empties_22 (v := 3) rfl ?_
  obtain ⟨hg1, hf⟩ := gdE hf
  obtain ⟨M23, hM23, hf⟩ := ltE hf
  refine R_iastore dX10_empties_23 ho0.a hg1.1 hg1.2 hM23 ?_
  refine R_aload_n dX10_empties_24 rfl rfl ?_
  refine R_bipush dX10_empties_25 (v := 11) rfl ?_
  refine R_iconst dX10_empties_27 (v := 2) rfl ?_
  obtain ⟨hg2, hf⟩ := gdE hf
  obtain ⟨M28, hM28, hf⟩ := ltE hf
  refine R_iastore dX10_empties_28 ho0.a hg2.1 hg2.2 hM28 ?_
  refine R_aload_n dX10_empties_29 rfl rfl ?_
  refine R_bipush dX10_empties_30 (v := 12) rfl ?_
  refine R_iconst dX10_empties_32 (v := 3) rfl ?_
  obtain ⟨hg3, hf⟩ := gdE hf
  obtain ⟨M33, hM33, hf⟩ := ltE hf
  refine R_iastore dX10_empties_33 ho0.a hg3.1 hg3.2 hM33 ?_
  refine R_aload_n dX10_empties_34 rfl rfl ?_
  refine R_bipush dX10_empties_35 (v := 13) rfl ?_
  refine R_iconst dX10_empties_37 (v := 4) rfl ?_
  obtain ⟨hg4, hf⟩ := gdE hf
  obtain ⟨M38, hM38, hf⟩ := ltE hf
  refine R_iastore dX10_empties_38 ho0.a hg4.1 hg4.2 hM38 ?_
  cases hf; exact E_vret dX10_empties_39 rfl rfl rfl
set_option maxRecDepth 20000 in
theorem rn_X10_empties_L2 {G : Gl} : ∀ (n : Nat) (o0 : Nat) (v1 : Int) (M : Mem) (res : Mem), isI 20 o0 → f_X10_empties_L2 n o0 v1 M = some res → Run G false (rmD 0 0 0) miX10_empties (ZP G none res) 0 0 2 [some (aR o0), some (aI v1)] [] M := by
  intro n
  induction n with
  | zero => intro o0 v1 M res ho0 hf; cases hf
  | succ n ih =>
    intro o0 v1 M res ho0 hf
    rw [f_X10_empties_L2] at hf
    refine R_iload_n dX10_empties_2 rfl rfl ?_
    refine R_sipush dX10_empties_3 (v := 254) rfl ?_
    refine R_icmp_ge dX10_empties_6 rfl (fun h6 => ?_) (fun h6 => ?_)
    · replace hf := iposE hf h6
      exact R_subk (rn_X10_empties_K19 _ _ _ ho0 hf) ⟨rfl, trivial⟩
    · replace hf := inegE hf h6
      refine R_aload_n dX10_empties_9 rfl rfl ?_
      refine R_iload_n dX10_empties_10 rfl rfl ?_
      refine R_iconst dX10_empties_11 (v := 0) rfl ?_
      obtain ⟨hg5, hf⟩ := gdE hf
      obtain ⟨M12, hM12, hf⟩ := ltE hf
      refine R_iastore dX10_empties_12 ho0.a hg5.1 hg5.2 hM12 ?_
      obtain ⟨v1_13, hv1_13, hf⟩ := ltE hf
      refine R_iinc dX10_empties_13 rfl rfl hv1_13 (by decide) rfl ?_
      refine R_goto dX10_empties_16 rfl ?_
      exact R_subk (ih _ _ _ _ ho0 hf) ⟨rfl, rfl, trivial⟩
set_option maxRecDepth 20000 in
theorem ct_X10_empties {G : Gl} (o0 : Nat) (M : Mem) {res : Mem} (ho0 : isI 20 o0) (hf : f_X10_empties o0 M = some res) : Ct G miX10_empties yX10_empties 0 [aR o0] M none res := by
  refine Ct.of (L := [some (aR o0), none]) mwX10_empties rfl trivial nle ⟨rfl, trivial⟩ ?_
  unfold f_X10_empties at hf
  refine R_iconst dX10_empties_0 (v := 0) rfl ?_
  refine R_istore_n dX10_empties_1 rfl (by decide) rfl rfl ?_
  exact R_subk (rn_X10_empties_L2 4096 _ _ _ _ ho0 hf) ⟨rfl, rfl, trivial⟩
/-! BracketHallModel.bytesOf(I)V -/
def f_X10_bytesOf_L3 : Nat → Int → Int → Mem → Option (Mem)
  | 0, _, _, _ => none
  | n + 1, v1, v2, M =>
    if v2 < 0 then
      some M
    else
      if (0 : Int) ≤ M 84 16 ∧ M 84 16 < 600 then
      lt1 (up M 91 (M 84 16) (itb (itb (isr v1 v2)))) fun M19 =>
      lt1 (up M19 84 16 (w32 ((M19 84 16) + 1))) fun M27 =>
      lt1 (w32 (v2 + (-8))) fun v2_30 =>
      f_X10_bytesOf_L3 n v1 v2_30 M27
      else none
def f_X10_bytesOf (v1 : Int) (M : Mem) : Option (Mem) :=
  f_X10_bytesOf_L3 4096 v1 24 M
set_option maxRecDepth 20000 in
theorem rn_X10_bytesOf_L3 {G : Gl} : ∀ (n : Nat) (v1 : Int) (v2 : Int) (M : Mem) (res : Mem),  f_X10_bytesOf_L3 n v1 v2 M = some res → Run G false (rmD 0 0 0) miX10_bytesOf (ZP G none res) 0 0 3 [some (aR 84), some (aI v1), some (aI v2)] [] M := by
  intro n
  induction n with
  | zero => intro v1 v2 M res  hf; cases hf
  | succ n ih =>
    intro v1 v2 M res  hf
    rw [f_X10_bytesOf_L3] at hf
    refine R_iload_n dX10_bytesOf_3 rfl rfl ?_
    refine R_if_lt dX10_bytesOf_4 rfl (fun h4 => ?_) (fun h4 => ?_)
    · replace hf := iposE hf h4
      cases hf; exact E_vret dX10_bytesOf_36 rfl rfl rfl
    · replace hf := inegE hf h4
      refine R_aload_n dX10_bytesOf_7 rfl rfl ?_
      refine R_getR dX10_bytesOf_8 cl10 flX10_38 o_84 ff10_15 (fr10_15 _) a_91.1 ?_
      refine R_aload_n dX10_bytesOf_11 rfl rfl ?_
      refine R_getI (ki := 16) dX10_bytesOf_12 cl10 flX10_120 o_84 ff10_16 rfl rfl ?_
      refine R_iload_n dX10_bytesOf_15 rfl rfl ?_
      refine R_iload_n dX10_bytesOf_16 rfl rfl ?_
      refine R_ishr dX10_bytesOf_17 rfl ?_
      refine R_i2b dX10_bytesOf_18 rfl ?_
      obtain ⟨hg1, hf⟩ := gdE hf
      obtain ⟨M19, hM19, hf⟩ := ltE hf
      refine R_bastore dX10_bytesOf_19 a_91 hg1.1 hg1.2 hM19 ?_
      refine R_aload_n dX10_bytesOf_20 rfl rfl ?_
      refine R_dupR dX10_bytesOf_21 ?_
      refine R_getI (ki := 16) dX10_bytesOf_22 cl10 flX10_120 o_84 ff10_16 rfl rfl ?_
      refine R_iconst dX10_bytesOf_25 (v := 1) rfl ?_
      refine R_iadd dX10_bytesOf_26 rfl ?_
      obtain ⟨M27, hM27, hf⟩ := ltE hf
      refine R_put (ki := 16) dX10_bytesOf_27 cl10 flX10_120 o_84 (Or.inl fz10_16) rfl hM27 ?_
      obtain ⟨v2_30, hv2_30, hf⟩ := ltE hf
      refine R_iinc dX10_bytesOf_30 rfl rfl hv2_30 (by decide) rfl ?_
      refine R_goto dX10_bytesOf_33 rfl ?_
      exact R_subk (ih _ _ _ _  hf) ⟨rfl, rfl, rfl, trivial⟩
set_option maxRecDepth 20000 in
theorem ct_X10_bytesOf {G : Gl} (v1 : Int) (M : Mem) {res : Mem}  (hf : f_X10_bytesOf v1 M = some res) : Ct G miX10_bytesOf yX10_bytesOf 0 [aR 84, aI v1] M none res := by
  refine Ct.of (L := [some (aR 84), some (aI v1), none]) mwX10_bytesOf rfl trivial nle ⟨rfl, rfl, trivial⟩ ?_
  unfold f_X10_bytesOf at hf
  refine R_bipush dX10_bytesOf_0 (v := 24) rfl ?_
  refine R_istore_n dX10_bytesOf_2 rfl (by decide) rfl rfl ?_
  exact R_subk (rn_X10_bytesOf_L3 4096 _ _ _ _  hf) ⟨rfl, rfl, rfl, trivial⟩
/-! BracketHallModel.append(IIIII)I -/
def f_X10_append (v1 : Int) (v2 : Int) (v3 : Int) (v4 : Int) (v5 : Int) (M : Mem) : Option (Int × Mem) :=
  lt1 (up M 84 0 0) fun M2 =>
  if (w32 ((M2 84 16) + 20)) ≤ 600 then
    (f_X10_bytesOf v1 M2).bind fun p22 =>
    (f_X10_bytesOf v2 p22).bind fun p27 =>
    (f_X10_bytesOf v3 p27).bind fun p32 =>
    (f_X10_bytesOf v4 p32).bind fun p38 =>
    (f_X10_bytesOf v5 p38).bind fun p44 =>
    some (p44 84 16, p44)
  else
    some ((-1), M2)
set_option maxRecDepth 20000 in
theorem ct_X10_append {G : Gl} (v1 : Int) (v2 : Int) (v3 : Int) (v4 : Int) (v5 : Int) (M : Mem) {res : Int × Mem}  (hf : f_X10_append v1 v2 v3 v4 v5 M = some res) : Ct G miX10_append yX10_append 1 [aR 84, aI v1, aI v2, aI v3, aI v4, aI v5] M (some (aI res.1)) res.2 := by
  refine Ct.of (L := [some (aR 84), some (aI v1), some (aI v2), some (aI v3), some (aI v4), some (aI v5)]) mwX10_append rfl trivial nle ⟨rfl, rfl, rfl, rfl, rfl, rfl, trivial⟩ ?_
  unfold f_X10_append at hf
  refine R_aload_n dX10_append_0 rfl rfl ?_
  refine R_iconst dX10_append_1 (v := 0) rfl ?_
  obtain ⟨M2, hM2, hf⟩ := ltE hf
  refine R_put (ki := 0) dX10_append_2 cl10 flX10_117 o_84 (Or.inl fz10_0) rfl hM2 ?_
  refine R_aload_n dX10_append_5 rfl rfl ?_
  refine R_getI (ki := 16) dX10_append_6 cl10 flX10_120 o_84 ff10_16 rfl rfl ?_
  refine R_bipush dX10_append_9 (v := 20) rfl ?_
  refine R_iadd dX10_append_11 rfl ?_
  refine R_sipush dX10_append_12 (v := 600) rfl ?_
  refine R_icmp_le dX10_append_15 rfl (fun h15 => ?_) (fun h15 => ?_)
  · replace hf := iposE hf h15
    refine R_aload_n dX10_append_20 rfl rfl ?_
    refine R_iload_n dX10_append_21 rfl rfl ?_
    obtain ⟨p22, hp22, hf⟩ := bdE hf
    refine R_callV (As := [aI v1]) (st := []) dX10_append_22 (ct_X10_bytesOf _ _  hp22) mwX10_bytesOf mvX10_bytesOf mlX10_123 cl10 o_84 rfl rfl ⟨nle, nle, nle, nle⟩ nle rfl ?_
    refine R_aload_n dX10_append_25 rfl rfl ?_
    refine R_iload_n dX10_append_26 rfl rfl ?_
    obtain ⟨p27, hp27, hf⟩ := bdE hf
    refine R_callV (As := [aI v2]) (st := []) dX10_append_27 (ct_X10_bytesOf _ _  hp27) mwX10_bytesOf mvX10_bytesOf mlX10_123 cl10 o_84 rfl rfl ⟨nle, nle, nle, nle⟩ nle rfl ?_
    refine R_aload_n dX10_append_30 rfl rfl ?_
    refine R_iload_n dX10_append_31 rfl rfl ?_
    obtain ⟨p32, hp32, hf⟩ := bdE hf
    refine R_callV (As := [aI v3]) (st := []) dX10_append_32 (ct_X10_bytesOf _ _  hp32) mwX10_bytesOf mvX10_bytesOf mlX10_123 cl10 o_84 rfl rfl ⟨nle, nle, nle, nle⟩ nle rfl ?_
    refine R_aload_n dX10_append_35 rfl rfl ?_
    refine R_iload dX10_append_36 rfl ?_
    obtain ⟨p38, hp38, hf⟩ := bdE hf
    refine R_callV (As := [aI v4]) (st := []) dX10_append_38 (ct_X10_bytesOf _ _  hp38) mwX10_bytesOf mvX10_bytesOf mlX10_123 cl10 o_84 rfl rfl ⟨nle, nle, nle, nle⟩ nle rfl ?_
    refine R_aload_n dX10_append_41 rfl rfl ?_
    refine R_iload dX10_append_42 rfl ?_
    obtain ⟨p44, hp44, hf⟩ := bdE hf
    refine R_callV (As := [aI v5]) (st := []) dX10_append_44 (ct_X10_bytesOf _ _  hp44) mwX10_bytesOf mvX10_bytesOf mlX10_123 cl10 o_84 rfl rfl ⟨nle, nle, nle, nle⟩ nle rfl ?_
    refine R_aload_n dX10_append_47 rfl rfl ?_
    refine R_getI (ki := 16) dX10_append_48 cl10 flX10_120 o_84 ff10_16 rfl rfl ?_
    cases hf; exact E_iret dX10_append_51 rfl rfl rfl
  · replace hf := inegE hf h15
    refine R_iconst dX10_append_18 (v := (-1)) rfl ?_
    cases hf; exact E_iret dX10_append_19 rfl rfl rfl
/-! BracketHallModel.byteAt(I)I -/
def f_X10_byteAt (v1 : Int) (M : Mem) : Option (Int) :=
  if (M 84 17) ≤ v1 then
    some (-1)
  else
    if (0 : Int) ≤ v1 ∧ v1 < 600 then
    some (ian (M 91 v1) 255)
    else none
set_option maxRecDepth 20000 in
theorem ct_X10_byteAt {G : Gl} (v1 : Int) (M : Mem) {res : Int}  (hf : f_X10_byteAt v1 M = some res) : Ct G miX10_byteAt yX10_byteAt 0 [aR 84, aI v1] M (some (aI res)) M := by
  refine Ct.of (L := [some (aR 84), some (aI v1)]) mwX10_byteAt rfl trivial nle ⟨rfl, rfl, trivial⟩ ?_
  unfold f_X10_byteAt at hf
  refine R_iload_n dX10_byteAt_0 rfl rfl ?_
  refine R_aload_n dX10_byteAt_1 rfl rfl ?_
  refine R_getI (ki := 17) dX10_byteAt_2 cl10 flX10_127 o_84 ff10_17 rfl rfl ?_
  refine R_icmp_ge dX10_byteAt_5 rfl (fun h5 => ?_) (fun h5 => ?_)
  · replace hf := iposE hf h5
    refine R_iconst dX10_byteAt_21 (v := (-1)) rfl ?_
    cases hf; exact E_iret dX10_byteAt_22 rfl rfl rfl
  · replace hf := inegE hf h5
    refine R_aload_n dX10_byteAt_8 rfl rfl ?_
    refine R_getR dX10_byteAt_9 cl10 flX10_38 o_84 ff10_15 (fr10_15 _) a_91.1 ?_
    refine R_iload_n dX10_byteAt_12 rfl rfl ?_
    obtain ⟨hg1, hf⟩ := gdE hf
    refine R_baload dX10_byteAt_13 a_91 hg1.1 hg1.2 rfl ?_
    refine R_sipush dX10_byteAt_14 (v := 255) rfl ?_
    refine R_iand dX10_byteAt_17 rfl ?_
    refine R_goto dX10_byteAt_18 rfl ?_
    cases hf; exact E_iret dX10_byteAt_22 rfl rfl rfl
/-! BracketHallModel.isLetter(I)Z -/
def f_X10_isLetter (v0 : Int) (M : Mem) : Option (Int) :=
  (f_X10_isIn v0 97 122 M).bind fun p5 =>
  if p5 = 0 ∨ p5 = 1 then
  some p5
  else none
set_option maxRecDepth 20000 in
theorem ct_X10_isLetter {G : Gl} (v0 : Int) (M : Mem) {res : Int}  (hf : f_X10_isLetter v0 M = some res) : Ct G miX10_isLetter yX10_isLetter 1 [aI v0] M (some (aI res)) M := by
  refine Ct.of (L := [some (aI v0)]) mwX10_isLetter rfl trivial nle ⟨rfl, trivial⟩ ?_
  unfold f_X10_isLetter at hf
  refine R_iload_n dX10_isLetter_0 rfl rfl ?_
  refine R_bipush dX10_isLetter_1 (v := 97) rfl ?_
  refine R_bipush dX10_isLetter_3 (v := 122) rfl ?_
  obtain ⟨p5, hp5, hf⟩ := bdE hf
  refine R_callS (As := [aI v0, aI 97, aI 122]) (st := []) dX10_isLetter_5 (ct_X10_isIn _ _ _ _  hp5) mwX10_isIn msX10_isIn mlX10_130 rfl ⟨nle, nle, nle, nle⟩ nle rfl ?_
  obtain ⟨hb, hf⟩ := gdE hf
  cases hf; exact E_zret dX10_isLetter_8 rfl hb rfl rfl
/-! BracketHallModel.isDigit(I)Z -/
def f_X10_isDigit (v0 : Int) (M : Mem) : Option (Int) :=
  (f_X10_isIn v0 48 57 M).bind fun p5 =>
  if p5 = 0 ∨ p5 = 1 then
  some p5
  else none
set_option maxRecDepth 20000 in
theorem ct_X10_isDigit {G : Gl} (v0 : Int) (M : Mem) {res : Int}  (hf : f_X10_isDigit v0 M = some res) : Ct G miX10_isDigit yX10_isDigit 1 [aI v0] M (some (aI res)) M := by
  refine Ct.of (L := [some (aI v0)]) mwX10_isDigit rfl trivial nle ⟨rfl, trivial⟩ ?_
  unfold f_X10_isDigit at hf
  refine R_iload_n dX10_isDigit_0 rfl rfl ?_
  refine R_bipush dX10_isDigit_1 (v := 48) rfl ?_
  refine R_bipush dX10_isDigit_3 (v := 57) rfl ?_
  obtain ⟨p5, hp5, hf⟩ := bdE hf
  refine R_callS (As := [aI v0, aI 48, aI 57]) (st := []) dX10_isDigit_5 (ct_X10_isIn _ _ _ _  hp5) mwX10_isIn msX10_isIn mlX10_130 rfl ⟨nle, nle, nle, nle⟩ nle rfl ?_
  obtain ⟨hb, hf⟩ := gdE hf
  cases hf; exact E_zret dX10_isDigit_8 rfl hb rfl rfl
/-! BracketHallModel.isSign(I)Z -/
def f_X10_isSign (v0 : Int) (M : Mem) : Option (Int) :=
  (f_X10_isIn v0 33 126 M).bind fun p5 =>
  if p5 = 0 then
    some 0
  else
    (f_X10_isLetter v0 M).bind fun p12 =>
    if p12 = 0 then
      (f_X10_isDigit v0 M).bind fun p19 =>
      if p19 = 0 then
        if v0 = 59 then
          some 0
        else
          some 1
      else
        some 0
    else
      some 0
set_option maxRecDepth 20000 in
theorem ct_X10_isSign {G : Gl} (v0 : Int) (M : Mem) {res : Int}  (hf : f_X10_isSign v0 M = some res) : Ct G miX10_isSign yX10_isSign 2 [aI v0] M (some (aI res)) M := by
  refine Ct.of (L := [some (aI v0)]) mwX10_isSign rfl trivial nle ⟨rfl, trivial⟩ ?_
  unfold f_X10_isSign at hf
  refine R_iload_n dX10_isSign_0 rfl rfl ?_
  refine R_bipush dX10_isSign_1 (v := 33) rfl ?_
  refine R_bipush dX10_isSign_3 (v := 126) rfl ?_
  obtain ⟨p5, hp5, hf⟩ := bdE hf
  refine R_callS (As := [aI v0, aI 33, aI 126]) (st := []) dX10_isSign_5 (ct_X10_isIn _ _ _ _  hp5) mwX10_isIn msX10_isIn mlX10_130 rfl ⟨nle, nle, nle, nle⟩ nle rfl ?_
  refine R_if_eq dX10_isSign_8 rfl (fun h8 => ?_) (fun h8 => ?_)
  · replace hf := iposE hf h8
    refine R_iconst dX10_isSign_35 (v := 0) rfl ?_
    cases hf; exact E_zret dX10_isSign_36 rfl (by decide) rfl rfl
  · replace hf := inegE hf h8
    refine R_iload_n dX10_isSign_11 rfl rfl ?_
    obtain ⟨p12, hp12, hf⟩ := bdE hf
    refine R_callS (As := [aI v0]) (st := []) dX10_isSign_12 (ct_X10_isLetter _ _  hp12) mwX10_isLetter msX10_isLetter mlX10_134 rfl ⟨nle, nle, nle, nle⟩ nle rfl ?_
    refine R_if_ne dX10_isSign_15 rfl (fun h15 => ?_) (fun h15 => ?_)
    · replace hf := inegE hf h15
      refine R_iconst dX10_isSign_35 (v := 0) rfl ?_
      cases hf; exact E_zret dX10_isSign_36 rfl (by decide) rfl rfl
    · replace hf := iposE hf h15
      refine R_iload_n dX10_isSign_18 rfl rfl ?_
      obtain ⟨p19, hp19, hf⟩ := bdE hf
      refine R_callS (As := [aI v0]) (st := []) dX10_isSign_19 (ct_X10_isDigit _ _  hp19) mwX10_isDigit msX10_isDigit mlX10_138 rfl ⟨nle, nle, nle, nle⟩ nle rfl ?_
      refine R_if_ne dX10_isSign_22 rfl (fun h22 => ?_) (fun h22 => ?_)
      · replace hf := inegE hf h22
        refine R_iconst dX10_isSign_35 (v := 0) rfl ?_
        cases hf; exact E_zret dX10_isSign_36 rfl (by decide) rfl rfl
      · replace hf := iposE hf h22
        refine R_iload_n dX10_isSign_25 rfl rfl ?_
        refine R_bipush dX10_isSign_26 (v := 59) rfl ?_
        refine R_icmp_eq dX10_isSign_28 rfl (fun h28 => ?_) (fun h28 => ?_)
        · replace hf := iposE hf h28
          refine R_iconst dX10_isSign_35 (v := 0) rfl ?_
          cases hf; exact E_zret dX10_isSign_36 rfl (by decide) rfl rfl
        · replace hf := inegE hf h28
          refine R_iconst dX10_isSign_31 (v := 1) rfl ?_
          refine R_goto dX10_isSign_32 rfl ?_
          cases hf; exact E_zret dX10_isSign_36 rfl (by decide) rfl rfl
/-! BracketHallModel.advance()V -/
def f_X10_advance_K108  (M : Mem) : Option (Mem) :=
  if (w32 ((M 84 19) - (M 84 18))) ≤ 7 then
    lt1 (up M 84 20 1) fun M129 =>
    some M129
  else
    lt1 (up M 84 20 6) fun M129 =>
    some M129
def f_X10_advance_L81 : Nat → Mem → Option (Mem)
  | 0, _ => none
  | n + 1, M =>
    (f_X10_byteAt (M 84 19) M).bind fun p86 =>
    (f_X10_isLetter p86 M).bind fun p89 =>
    if p89 = 0 then
      f_X10_advance_K108 M
    else
      lt1 (up M 84 19 (w32 ((M 84 19) + 1))) fun M102 =>
      f_X10_advance_L81 n M102
def f_X10_advance_K212  (M : Mem) : Option (Mem) :=
  if (w32 ((M 84 19) - (M 84 18))) ≤ 3 then
    lt1 (up M 84 20 2) fun M232 =>
    some M232
  else
    lt1 (up M 84 20 6) fun M232 =>
    some M232
def f_X10_advance_L142 : Nat → Mem → Option (Mem)
  | 0, _ => none
  | n + 1, M =>
    (f_X10_byteAt (M 84 19) M).bind fun p147 =>
    (f_X10_isDigit p147 M).bind fun p150 =>
    if p150 = 0 then
      f_X10_advance_K212 M
    else
      if 3 ≤ (w32 ((M 84 19) - (M 84 18))) then
        lt1 (up M 84 21 (M 84 21)) fun M196 =>
        lt1 (up M196 84 19 (w32 ((M196 84 19) + 1))) fun M206 =>
        f_X10_advance_L142 n M206
      else
        (f_X10_byteAt (M 84 19) M).bind fun p182 =>
        lt1 (up M 84 21 (w32 ((w32 ((w32 (10 * (M 84 21))) + p182)) - 48))) fun M196 =>
        lt1 (up M196 84 19 (w32 ((M196 84 19) + 1))) fun M206 =>
        f_X10_advance_L142 n M206
def f_X10_advance_K272  (M : Mem) : Option (Mem) :=
  if (w32 ((M 84 19) - (M 84 18))) = 1 then
    lt1 (up M 84 20 4) fun M309 =>
    some M309
  else
    if (w32 ((M 84 19) - (M 84 18))) = 2 then
      lt1 (up M 84 20 5) fun M309 =>
      some M309
    else
      lt1 (up M 84 20 6) fun M309 =>
      some M309
def f_X10_advance_L245 : Nat → Mem → Option (Mem)
  | 0, _ => none
  | n + 1, M =>
    (f_X10_byteAt (M 84 19) M).bind fun p250 =>
    (f_X10_isSign p250 M).bind fun p253 =>
    if p253 = 0 then
      f_X10_advance_K272 M
    else
      lt1 (up M 84 19 (w32 ((M 84 19) + 1))) fun M266 =>
      f_X10_advance_L245 n M266
def f_X10_advance_K39  (M : Mem) : Option (Mem) :=
  lt1 (up M 84 18 (M 84 19)) fun M44 =>
  lt1 (up M44 84 21 0) fun M49 =>
  (f_X10_byteAt (M49 84 19) M49).bind fun p57 =>
  if p57 = (-1) then
    lt1 (up M49 84 20 0) fun M68 =>
    some M68
  else
    (f_X10_isLetter p57 M49).bind fun p75 =>
    if p75 = 0 then
      (f_X10_isDigit p57 M49).bind fun p136 =>
      if p136 = 0 then
        (f_X10_isSign p57 M49).bind fun p239 =>
        if p239 = 0 then
          lt1 (up M49 84 19 (w32 ((M49 84 19) + 1))) fun M322 =>
          if p57 = 59 then
            lt1 (up M322 84 20 3) fun M338 =>
            some M338
          else
            lt1 (up M322 84 20 6) fun M338 =>
            some M338
        else
          f_X10_advance_L245 4096 M49
      else
        f_X10_advance_L142 4096 M49
    else
      f_X10_advance_L81 4096 M49
def f_X10_advance_L0 : Nat → Mem → Option (Mem)
  | 0, _ => none
  | n + 1, M =>
    (f_X10_byteAt (M 84 19) M).bind fun p5 =>
    if p5 = 32 then
      lt1 (up M 84 19 (w32 ((M 84 19) + 1))) fun M33 =>
      f_X10_advance_L0 n M33
    else
      (f_X10_byteAt (M 84 19) M).bind fun p18 =>
      if p18 = 10 then
        lt1 (up M 84 19 (w32 ((M 84 19) + 1))) fun M33 =>
        f_X10_advance_L0 n M33
      else
        f_X10_advance_K39 M
def f_X10_advance  (M : Mem) : Option (Mem) :=
  f_X10_advance_L0 4096 M
set_option maxRecDepth 20000 in
theorem rn_X10_advance_K108 {G : Gl}  (M : Mem) (res : Mem)  (hf : f_X10_advance_K108  M = some res) : Run G false (rmD 3 0 0) miX10_advance (ZP G none res) 0 0 108 [some (aR 84), none] [] M := by
  unfold f_X10_advance_K108 at hf
  refine R_aload_n dX10_advance_108 rfl rfl ?_
  refine R_aload_n dX10_advance_109 rfl rfl ?_
  refine R_getI (ki := 19) dX10_advance_110 cl10 flX10_141 o_84 ff10_19 rfl rfl ?_
  refine R_aload_n dX10_advance_113 rfl rfl ?_
  refine R_getI (ki := 18) dX10_advance_114 cl10 flX10_148 o_84 ff10_18 rfl rfl ?_
  refine R_isub dX10_advance_117 rfl ?_
  refine R_bipush dX10_advance_118 (v := 7) rfl ?_
  refine R_icmp_le dX10_advance_120 rfl (fun h120 => ?_) (fun h120 => ?_)
  · replace hf := iposE hf h120
    refine R_iconst dX10_advance_128 (v := 1) rfl ?_
    obtain ⟨M129, hM129, hf⟩ := ltE hf
    refine R_put (ki := 20) dX10_advance_129 cl10 flX10_154 o_84 (Or.inl fz10_20) rfl hM129 ?_
    refine R_goto dX10_advance_132 rfl ?_
    cases hf; exact E_vret dX10_advance_341 rfl rfl rfl
  · replace hf := inegE hf h120
    refine R_bipush dX10_advance_123 (v := 6) rfl ?_
    refine R_goto dX10_advance_125 rfl ?_
    obtain ⟨M129, hM129, hf⟩ := ltE hf
    refine R_put (ki := 20) dX10_advance_129 cl10 flX10_154 o_84 (Or.inl fz10_20) rfl hM129 ?_
    refine R_goto dX10_advance_132 rfl ?_
    cases hf; exact E_vret dX10_advance_341 rfl rfl rfl
set_option maxRecDepth 20000 in
theorem rn_X10_advance_L81 {G : Gl} : ∀ (n : Nat)  (M : Mem) (res : Mem),  f_X10_advance_L81 n  M = some res → Run G false (rmD 3 0 0) miX10_advance (ZP G none res) 0 0 81 [some (aR 84), none] [] M := by
  intro n
  induction n with
  | zero => intro  M res  hf; cases hf
  | succ n ih =>
    intro  M res  hf
    rw [f_X10_advance_L81] at hf
    refine R_aload_n dX10_advance_81 rfl rfl ?_
    refine R_aload_n dX10_advance_82 rfl rfl ?_
    refine R_getI (ki := 19) dX10_advance_83 cl10 flX10_141 o_84 ff10_19 rfl rfl ?_
    obtain ⟨p86, hp86, hf⟩ := bdE hf
    refine R_callV (As := [aI (M 84 19)]) (st := []) dX10_advance_86 (ct_X10_byteAt _ _  hp86) mwX10_byteAt mvX10_byteAt mlX10_144 cl10 o_84 rfl rfl ⟨nle, nle, nle, nle⟩ nle rfl ?_
    obtain ⟨p89, hp89, hf⟩ := bdE hf
    refine R_callS (As := [aI p86]) (st := []) dX10_advance_89 (ct_X10_isLetter _ _  hp89) mwX10_isLetter msX10_isLetter mlX10_134 rfl ⟨nle, nle, nle, nle⟩ nle rfl ?_
    refine R_if_eq dX10_advance_92 rfl (fun h92 => ?_) (fun h92 => ?_)
    · replace hf := iposE hf h92
      exact R_subk (rn_X10_advance_K108  _ _  hf) ⟨rfl, trivial⟩
    · replace hf := inegE hf h92
      refine R_aload_n dX10_advance_95 rfl rfl ?_
      refine R_dupR dX10_advance_96 ?_
      refine R_getI (ki := 19) dX10_advance_97 cl10 flX10_141 o_84 ff10_19 rfl rfl ?_
      refine R_iconst dX10_advance_100 (v := 1) rfl ?_
      refine R_iadd dX10_advance_101 rfl ?_
      obtain ⟨M102, hM102, hf⟩ := ltE hf
      refine R_put (ki := 19) dX10_advance_102 cl10 flX10_141 o_84 (Or.inl fz10_19) rfl hM102 ?_
      refine R_goto dX10_advance_105 rfl ?_
      exact R_subk (ih  _ _  hf) ⟨rfl, trivial⟩
set_option maxRecDepth 20000 in
theorem rn_X10_advance_K212 {G : Gl}  (M : Mem) (res : Mem)  (hf : f_X10_advance_K212  M = some res) : Run G false (rmD 3 0 0) miX10_advance (ZP G none res) 0 0 212 [some (aR 84), none] [] M := by
  unfold f_X10_advance_K212 at hf
  refine R_aload_n dX10_advance_212 rfl rfl ?_
  refine R_aload_n dX10_advance_213 rfl rfl ?_
  refine R_getI (ki := 19) dX10_advance_214 cl10 flX10_141 o_84 ff10_19 rfl rfl ?_
  refine R_aload_n dX10_advance_217 rfl rfl ?_
  refine R_getI (ki := 18) dX10_advance_218 cl10 flX10_148 o_84 ff10_18 rfl rfl ?_
  refine R_isub dX10_advance_221 rfl ?_
  refine R_iconst dX10_advance_222 (v := 3) rfl ?_
  refine R_icmp_le dX10_advance_223 rfl (fun h223 => ?_) (fun h223 => ?_)
  · replace hf := iposE hf h223
    refine R_iconst dX10_advance_231 (v := 2) rfl ?_
    obtain ⟨M232, hM232, hf⟩ := ltE hf
    refine R_put (ki := 20) dX10_advance_232 cl10 flX10_154 o_84 (Or.inl fz10_20) rfl hM232 ?_
    refine R_goto dX10_advance_235 rfl ?_
    cases hf; exact E_vret dX10_advance_341 rfl rfl rfl
  · replace hf := inegE hf h223
    refine R_bipush dX10_advance_226 (v := 6) rfl ?_
    refine R_goto dX10_advance_228 rfl ?_
    obtain ⟨M232, hM232, hf⟩ := ltE hf
    refine R_put (ki := 20) dX10_advance_232 cl10 flX10_154 o_84 (Or.inl fz10_20) rfl hM232 ?_
    refine R_goto dX10_advance_235 rfl ?_
    cases hf; exact E_vret dX10_advance_341 rfl rfl rfl
set_option maxRecDepth 20000 in
theorem rn_X10_advance_L142 {G : Gl} : ∀ (n : Nat)  (M : Mem) (res : Mem),  f_X10_advance_L142 n  M = some res → Run G false (rmD 3 0 0) miX10_advance (ZP G none res) 0 0 142 [some (aR 84), none] [] M := by
  intro n
  induction n with
  | zero => intro  M res  hf; cases hf
  | succ n ih =>
    intro  M res  hf
    rw [f_X10_advance_L142] at hf
    refine R_aload_n dX10_advance_142 rfl rfl ?_
    refine R_aload_n dX10_advance_143 rfl rfl ?_
    refine R_getI (ki := 19) dX10_advance_144 cl10 flX10_141 o_84 ff10_19 rfl rfl ?_
    obtain ⟨p147, hp147, hf⟩ := bdE hf
    refine R_callV (As := [aI (M 84 19)]) (st := []) dX10_advance_147 (ct_X10_byteAt _ _  hp147) mwX10_byteAt mvX10_byteAt mlX10_144 cl10 o_84 rfl rfl ⟨nle, nle, nle, nle⟩ nle rfl ?_
    obtain ⟨p150, hp150, hf⟩ := bdE hf
    refine R_callS (As := [aI p147]) (st := []) dX10_advance_150 (ct_X10_isDigit _ _  hp150) mwX10_isDigit msX10_isDigit mlX10_138 rfl ⟨nle, nle, nle, nle⟩ nle rfl ?_
    refine R_if_eq dX10_advance_153 rfl (fun h153 => ?_) (fun h153 => ?_)
    · replace hf := iposE hf h153
      exact R_subk (rn_X10_advance_K212  _ _  hf) ⟨rfl, trivial⟩
    · replace hf := inegE hf h153
      refine R_aload_n dX10_advance_156 rfl rfl ?_
      refine R_aload_n dX10_advance_157 rfl rfl ?_
      refine R_getI (ki := 19) dX10_advance_158 cl10 flX10_141 o_84 ff10_19 rfl rfl ?_
      refine R_aload_n dX10_advance_161 rfl rfl ?_
      refine R_getI (ki := 18) dX10_advance_162 cl10 flX10_148 o_84 ff10_18 rfl rfl ?_
      refine R_isub dX10_advance_165 rfl ?_
      refine R_iconst dX10_advance_166 (v := 3) rfl ?_
      refine R_icmp_ge dX10_advance_167 rfl (fun h167 => ?_) (fun h167 => ?_)
      · replace hf := iposE hf h167
        refine R_aload_n dX10_advance_192 rfl rfl ?_
        refine R_getI (ki := 21) dX10_advance_193 cl10 flX10_151 o_84 ff10_21 rfl rfl ?_
        obtain ⟨M196, hM196, hf⟩ := ltE hf
        refine R_put (ki := 21) dX10_advance_196 cl10 flX10_151 o_84 (Or.inl fz10_21) rfl hM196 ?_
        refine R_aload_n dX10_advance_199 rfl rfl ?_
        refine R_dupR dX10_advance_200 ?_
        refine R_getI (ki := 19) dX10_advance_201 cl10 flX10_141 o_84 ff10_19 rfl rfl ?_
        refine R_iconst dX10_advance_204 (v := 1) rfl ?_
        refine R_iadd dX10_advance_205 rfl ?_
        obtain ⟨M206, hM206, hf⟩ := ltE hf
        refine R_put (ki := 19) dX10_advance_206 cl10 flX10_141 o_84 (Or.inl fz10_19) rfl hM206 ?_
        refine R_goto dX10_advance_209 rfl ?_
        exact R_subk (ih  _ _  hf) ⟨rfl, trivial⟩
      · replace hf := inegE hf h167
        refine R_bipush dX10_advance_170 (v := 10) rfl ?_
        refine R_aload_n dX10_advance_172 rfl rfl ?_
        refine R_getI (ki := 21) dX10_advance_173 cl10 flX10_151 o_84 ff10_21 rfl rfl ?_
        refine R_imul dX10_advance_176 rfl ?_
        refine R_aload_n dX10_advance_177 rfl rfl ?_
        refine R_aload_n dX10_advance_178 rfl rfl ?_
        refine R_getI (ki := 19) dX10_advance_179 cl10 flX10_141 o_84 ff10_19 rfl rfl ?_
        obtain ⟨p182, hp182, hf⟩ := bdE hf
        refine R_callV (As := [aI (M 84 19)]) (st := [aI (w32 (10 * (M 84 21))), aR 84]) dX10_advance_182 (ct_X10_byteAt _ _  hp182) mwX10_byteAt mvX10_byteAt mlX10_144 cl10 o_84 rfl rfl ⟨nle, nle, nle, nle⟩ nle rfl ?_
        refine R_iadd dX10_advance_185 rfl ?_
        refine R_bipush dX10_advance_186 (v := 48) rfl ?_
        refine R_isub dX10_advance_188 rfl ?_
        refine R_goto dX10_advance_189 rfl ?_
        obtain ⟨M196, hM196, hf⟩ := ltE hf
        refine R_put (ki := 21) dX10_advance_196 cl10 flX10_151 o_84 (Or.inl fz10_21) rfl hM196 ?_
        refine R_aload_n dX10_advance_199 rfl rfl ?_
        refine R_dupR dX10_advance_200 ?_
        refine R_getI (ki := 19) dX10_advance_201 cl10 flX10_141 o_84 ff10_19 rfl rfl ?_
        refine R_iconst dX10_advance_204 (v := 1) rfl ?_
        refine R_iadd dX10_advance_205 rfl ?_
        obtain ⟨M206, hM206, hf⟩ := ltE hf
        refine R_put (ki := 19) dX10_advance_206 cl10 flX10_141 o_84 (Or.inl fz10_19) rfl hM206 ?_
        refine R_goto dX10_advance_209 rfl ?_
        exact R_subk (ih  _ _  hf) ⟨rfl, trivial⟩
set_option maxRecDepth 20000 in
theorem rn_X10_advance_K272 {G : Gl}  (M : Mem) (res : Mem)  (hf : f_X10_advance_K272  M = some res) : Run G false (rmD 3 0 0) miX10_advance (ZP G none res) 0 0 272 [some (aR 84), none] [] M := by
  unfold f_X10_advance_K272 at hf
  refine R_aload_n dX10_advance_272 rfl rfl ?_
  refine R_aload_n dX10_advance_273 rfl rfl ?_
  refine R_getI (ki := 19) dX10_advance_274 cl10 flX10_141 o_84 ff10_19 rfl rfl ?_
  refine R_aload_n dX10_advance_277 rfl rfl ?_
  refine R_getI (ki := 18) dX10_advance_278 cl10 flX10_148 o_84 ff10_18 rfl rfl ?_
  refine R_isub dX10_advance_281 rfl ?_
  refine R_iconst dX10_advance_282 (v := 1) rfl ?_
  refine R_icmp_ne dX10_advance_283 rfl (fun h283 => ?_) (fun h283 => ?_)
  · replace hf := inegE hf h283
    refine R_aload_n dX10_advance_290 rfl rfl ?_
    refine R_getI (ki := 19) dX10_advance_291 cl10 flX10_141 o_84 ff10_19 rfl rfl ?_
    refine R_aload_n dX10_advance_294 rfl rfl ?_
    refine R_getI (ki := 18) dX10_advance_295 cl10 flX10_148 o_84 ff10_18 rfl rfl ?_
    refine R_isub dX10_advance_298 rfl ?_
    refine R_iconst dX10_advance_299 (v := 2) rfl ?_
    refine R_icmp_ne dX10_advance_300 rfl (fun h300 => ?_) (fun h300 => ?_)
    · replace hf := inegE hf h300
      refine R_bipush dX10_advance_307 (v := 6) rfl ?_
      obtain ⟨M309, hM309, hf⟩ := ltE hf
      refine R_put (ki := 20) dX10_advance_309 cl10 flX10_154 o_84 (Or.inl fz10_20) rfl hM309 ?_
      refine R_goto dX10_advance_312 rfl ?_
      cases hf; exact E_vret dX10_advance_341 rfl rfl rfl
    · replace hf := iposE hf h300
      refine R_iconst dX10_advance_303 (v := 5) rfl ?_
      refine R_goto dX10_advance_304 rfl ?_
      obtain ⟨M309, hM309, hf⟩ := ltE hf
      refine R_put (ki := 20) dX10_advance_309 cl10 flX10_154 o_84 (Or.inl fz10_20) rfl hM309 ?_
      refine R_goto dX10_advance_312 rfl ?_
      cases hf; exact E_vret dX10_advance_341 rfl rfl rfl
  · replace hf := iposE hf h283
    refine R_iconst dX10_advance_286 (v := 4) rfl ?_
    refine R_goto dX10_advance_287 rfl ?_
    obtain ⟨M309, hM309, hf⟩ := ltE hf
    refine R_put (ki := 20) dX10_advance_309 cl10 flX10_154 o_84 (Or.inl fz10_20) rfl hM309 ?_
    refine R_goto dX10_advance_312 rfl ?_
    cases hf; exact E_vret dX10_advance_341 rfl rfl rfl
set_option maxRecDepth 20000 in
theorem rn_X10_advance_L245 {G : Gl} : ∀ (n : Nat)  (M : Mem) (res : Mem),  f_X10_advance_L245 n  M = some res → Run G false (rmD 3 0 0) miX10_advance (ZP G none res) 0 0 245 [some (aR 84), none] [] M := by
  intro n
  induction n with
  | zero => intro  M res  hf; cases hf
  | succ n ih =>
    intro  M res  hf
    rw [f_X10_advance_L245] at hf
    refine R_aload_n dX10_advance_245 rfl rfl ?_
    refine R_aload_n dX10_advance_246 rfl rfl ?_
    refine R_getI (ki := 19) dX10_advance_247 cl10 flX10_141 o_84 ff10_19 rfl rfl ?_
    obtain ⟨p250, hp250, hf⟩ := bdE hf
    refine R_callV (As := [aI (M 84 19)]) (st := []) dX10_advance_250 (ct_X10_byteAt _ _  hp250) mwX10_byteAt mvX10_byteAt mlX10_144 cl10 o_84 rfl rfl ⟨nle, nle, nle, nle⟩ nle rfl ?_
    obtain ⟨p253, hp253, hf⟩ := bdE hf
    refine R_callS (As := [aI p250]) (st := []) dX10_advance_253 (ct_X10_isSign _ _  hp253) mwX10_isSign msX10_isSign mlX10_157 rfl ⟨nle, nle, nle, nle⟩ nle rfl ?_
    refine R_if_eq dX10_advance_256 rfl (fun h256 => ?_) (fun h256 => ?_)
    · replace hf := iposE hf h256
      exact R_subk (rn_X10_advance_K272  _ _  hf) ⟨rfl, trivial⟩
    · replace hf := inegE hf h256
      refine R_aload_n dX10_advance_259 rfl rfl ?_
      refine R_dupR dX10_advance_260 ?_
      refine R_getI (ki := 19) dX10_advance_261 cl10 flX10_141 o_84 ff10_19 rfl rfl ?_
      refine R_iconst dX10_advance_264 (v := 1) rfl ?_
      refine R_iadd dX10_advance_265 rfl ?_
      obtain ⟨M266, hM266, hf⟩ := ltE hf
      refine R_put (ki := 19) dX10_advance_266 cl10 flX10_141 o_84 (Or.inl fz10_19) rfl hM266 ?_
      refine R_goto dX10_advance_269 rfl ?_
      exact R_subk (ih  _ _  hf) ⟨rfl, trivial⟩
set_option maxRecDepth 20000 in
theorem rn_X10_advance_K39 {G : Gl}  (M : Mem) (res : Mem)  (hf : f_X10_advance_K39  M = some res) : Run G false (rmD 3 0 0) miX10_advance (ZP G none res) 0 0 39 [some (aR 84), none] [] M := by
  unfold f_X10_advance_K39 at hf
  refine R_aload_n dX10_advance_39 rfl rfl ?_
  refine R_aload_n dX10_advance_40 rfl rfl ?_
  refine R_getI (ki := 19) dX10_advance_41 cl10 flX10_141 o_84 ff10_19 rfl rfl ?_
  obtain ⟨M44, hM44, hf⟩ := ltE hf
  refine R_put (ki := 18) dX10_advance_44 cl10 flX10_148 o_84 (Or.inl fz10_18) rfl hM44 ?_
  refine R_aload_n dX10_advance_47 rfl rfl ?_
  refine R_iconst dX10_advance_48 (v := 0) rfl ?_
  obtain ⟨M49, hM49, hf⟩ := ltE hf
  refine R_put (ki := 21) dX10_advance_49 cl10 flX10_151 o_84 (Or.inl fz10_21) rfl hM49 ?_
  refine R_aload_n dX10_advance_52 rfl rfl ?_
  refine R_aload_n dX10_advance_53 rfl rfl ?_
  refine R_getI (ki := 19) dX10_advance_54 cl10 flX10_141 o_84 ff10_19 rfl rfl ?_
  obtain ⟨p57, hp57, hf⟩ := bdE hf
  refine R_callV (As := [aI (M49 84 19)]) (st := []) dX10_advance_57 (ct_X10_byteAt _ _  hp57) mwX10_byteAt mvX10_byteAt mlX10_144 cl10 o_84 rfl rfl ⟨nle, nle, nle, nle⟩ nle rfl ?_
  refine R_istore_n dX10_advance_60 rfl (by decide) rfl rfl ?_
  refine R_iload_n dX10_advance_61 rfl rfl ?_
  refine R_iconst dX10_advance_62 (v := (-1)) rfl ?_
  refine R_icmp_ne dX10_advance_63 rfl (fun h63 => ?_) (fun h63 => ?_)
  · replace hf := inegE hf h63
    refine R_iload_n dX10_advance_74 rfl rfl ?_
    obtain ⟨p75, hp75, hf⟩ := bdE hf
    refine R_callS (As := [aI p57]) (st := []) dX10_advance_75 (ct_X10_isLetter _ _  hp75) mwX10_isLetter msX10_isLetter mlX10_134 rfl ⟨nle, nle, nle, nle⟩ nle rfl ?_
    refine R_if_eq dX10_advance_78 rfl (fun h78 => ?_) (fun h78 => ?_)
    · replace hf := iposE hf h78
      refine R_iload_n dX10_advance_135 rfl rfl ?_
      obtain ⟨p136, hp136, hf⟩ := bdE hf
      refine R_callS (As := [aI p57]) (st := []) dX10_advance_136 (ct_X10_isDigit _ _  hp136) mwX10_isDigit msX10_isDigit mlX10_138 rfl ⟨nle, nle, nle, nle⟩ nle rfl ?_
      refine R_if_eq dX10_advance_139 rfl (fun h139 => ?_) (fun h139 => ?_)
      · replace hf := iposE hf h139
        refine R_iload_n dX10_advance_238 rfl rfl ?_
        obtain ⟨p239, hp239, hf⟩ := bdE hf
        refine R_callS (As := [aI p57]) (st := []) dX10_advance_239 (ct_X10_isSign _ _  hp239) mwX10_isSign msX10_isSign mlX10_157 rfl ⟨nle, nle, nle, nle⟩ nle rfl ?_
        refine R_if_eq dX10_advance_242 rfl (fun h242 => ?_) (fun h242 => ?_)
        · replace hf := iposE hf h242
          refine R_aload_n dX10_advance_315 rfl rfl ?_
          refine R_dupR dX10_advance_316 ?_
          refine R_getI (ki := 19) dX10_advance_317 cl10 flX10_141 o_84 ff10_19 rfl rfl ?_
          refine R_iconst dX10_advance_320 (v := 1) rfl ?_
          refine R_iadd dX10_advance_321 rfl ?_
          obtain ⟨M322, hM322, hf⟩ := ltE hf
          refine R_put (ki := 19) dX10_advance_322 cl10 flX10_141 o_84 (Or.inl fz10_19) rfl hM322 ?_
          refine R_aload_n dX10_advance_325 rfl rfl ?_
          refine R_iload_n dX10_advance_326 rfl rfl ?_
          refine R_bipush dX10_advance_327 (v := 59) rfl ?_
          refine R_icmp_ne dX10_advance_329 rfl (fun h329 => ?_) (fun h329 => ?_)
          · replace hf := inegE hf h329
            refine R_bipush dX10_advance_336 (v := 6) rfl ?_
            obtain ⟨M338, hM338, hf⟩ := ltE hf
            refine R_put (ki := 20) dX10_advance_338 cl10 flX10_154 o_84 (Or.inl fz10_20) rfl hM338 ?_
            cases hf; exact E_vret dX10_advance_341 rfl rfl rfl
          · replace hf := iposE hf h329
            refine R_iconst dX10_advance_332 (v := 3) rfl ?_
            refine R_goto dX10_advance_333 rfl ?_
            obtain ⟨M338, hM338, hf⟩ := ltE hf
            refine R_put (ki := 20) dX10_advance_338 cl10 flX10_154 o_84 (Or.inl fz10_20) rfl hM338 ?_
            cases hf; exact E_vret dX10_advance_341 rfl rfl rfl
        · replace hf := inegE hf h242
          exact R_subk (rn_X10_advance_L245 4096  _ _  hf) ⟨rfl, trivial⟩
      · replace hf := inegE hf h139
        exact R_subk (rn_X10_advance_L142 4096  _ _  hf) ⟨rfl, trivial⟩
    · replace hf := inegE hf h78
      exact R_subk (rn_X10_advance_L81 4096  _ _  hf) ⟨rfl, trivial⟩
  · replace hf := iposE hf h63
    refine R_aload_n dX10_advance_66 rfl rfl ?_
    refine R_iconst dX10_advance_67 (v := 0) rfl ?_
    obtain ⟨M68, hM68, hf⟩ := ltE hf
    refine R_put (ki := 20) dX10_advance_68 cl10 flX10_154 o_84 (Or.inl fz10_20) rfl hM68 ?_
    refine R_goto dX10_advance_71 rfl ?_
    cases hf; exact E_vret dX10_advance_341 rfl rfl rfl
set_option maxRecDepth 20000 in
theorem rn_X10_advance_L0 {G : Gl} : ∀ (n : Nat)  (M : Mem) (res : Mem),  f_X10_advance_L0 n  M = some res → Run G false (rmD 3 0 0) miX10_advance (ZP G none res) 0 0 0 [some (aR 84), none] [] M := by
  intro n
  induction n with
  | zero => intro  M res  hf; cases hf
  | succ n ih =>
    intro  M res  hf
    rw [f_X10_advance_L0] at hf
    refine R_aload_n dX10_advance_0 rfl rfl ?_
    refine R_aload_n dX10_advance_1 rfl rfl ?_
    refine R_getI (ki := 19) dX10_advance_2 cl10 flX10_141 o_84 ff10_19 rfl rfl ?_
    obtain ⟨p5, hp5, hf⟩ := bdE hf
    refine R_callV (As := [aI (M 84 19)]) (st := []) dX10_advance_5 (ct_X10_byteAt _ _  hp5) mwX10_byteAt mvX10_byteAt mlX10_144 cl10 o_84 rfl rfl ⟨nle, nle, nle, nle⟩ nle rfl ?_
    refine R_bipush dX10_advance_8 (v := 32) rfl ?_
    refine R_icmp_eq dX10_advance_10 rfl (fun h10 => ?_) (fun h10 => ?_)
    · replace hf := iposE hf h10
      refine R_aload_n dX10_advance_26 rfl rfl ?_
      refine R_dupR dX10_advance_27 ?_
      refine R_getI (ki := 19) dX10_advance_28 cl10 flX10_141 o_84 ff10_19 rfl rfl ?_
      refine R_iconst dX10_advance_31 (v := 1) rfl ?_
      refine R_iadd dX10_advance_32 rfl ?_
      obtain ⟨M33, hM33, hf⟩ := ltE hf
      refine R_put (ki := 19) dX10_advance_33 cl10 flX10_141 o_84 (Or.inl fz10_19) rfl hM33 ?_
      refine R_goto dX10_advance_36 rfl ?_
      exact R_subk (ih  _ _  hf) ⟨rfl, trivial⟩
    · replace hf := inegE hf h10
      refine R_aload_n dX10_advance_13 rfl rfl ?_
      refine R_aload_n dX10_advance_14 rfl rfl ?_
      refine R_getI (ki := 19) dX10_advance_15 cl10 flX10_141 o_84 ff10_19 rfl rfl ?_
      obtain ⟨p18, hp18, hf⟩ := bdE hf
      refine R_callV (As := [aI (M 84 19)]) (st := []) dX10_advance_18 (ct_X10_byteAt _ _  hp18) mwX10_byteAt mvX10_byteAt mlX10_144 cl10 o_84 rfl rfl ⟨nle, nle, nle, nle⟩ nle rfl ?_
      refine R_bipush dX10_advance_21 (v := 10) rfl ?_
      refine R_icmp_ne dX10_advance_23 rfl (fun h23 => ?_) (fun h23 => ?_)
      · replace hf := inegE hf h23
        exact R_subk (rn_X10_advance_K39  _ _  hf) ⟨rfl, trivial⟩
      · replace hf := iposE hf h23
        refine R_aload_n dX10_advance_26 rfl rfl ?_
        refine R_dupR dX10_advance_27 ?_
        refine R_getI (ki := 19) dX10_advance_28 cl10 flX10_141 o_84 ff10_19 rfl rfl ?_
        refine R_iconst dX10_advance_31 (v := 1) rfl ?_
        refine R_iadd dX10_advance_32 rfl ?_
        obtain ⟨M33, hM33, hf⟩ := ltE hf
        refine R_put (ki := 19) dX10_advance_33 cl10 flX10_141 o_84 (Or.inl fz10_19) rfl hM33 ?_
        refine R_goto dX10_advance_36 rfl ?_
        exact R_subk (ih  _ _  hf) ⟨rfl, trivial⟩
set_option maxRecDepth 20000 in
theorem ct_X10_advance {G : Gl}  (M : Mem) {res : Mem}  (hf : f_X10_advance  M = some res) : Ct G miX10_advance yX10_advance 3 [aR 84] M none res := by
  refine Ct.of (L := [some (aR 84), none]) mwX10_advance rfl trivial nle ⟨rfl, trivial⟩ ?_
  unfold f_X10_advance at hf
  exact R_subk (rn_X10_advance_L0 4096  _ _  hf) ⟨rfl, trivial⟩
/-! BracketHallModel.isWord(Ljava/lang/String;)Z -/
def f_X10_isWord_L32 : Nat → Nat → Int → Int → Mem → Option (Int)
  | 0, _, _, _, _ => none
  | n + 1, o1, v2, v3, M =>
    if (slen o1) ≤ v3 then
      if v2 = 0 ∨ v2 = 1 then
      some v2
      else none
    else
      if v2 = 0 then
        if v2 = 0 ∨ v2 = 1 then
        some v2
        else none
      else
        if (0 : Int) ≤ w32 ((M 84 18) + v3) ∧ w32 ((M 84 18) + v3) < 600 then
        if (0 : Int) ≤ v3 ∧ v3 < slen o1 then
        if (M 91 (w32 ((M 84 18) + v3))) = (sch o1 v3) then
          lt1 (w32 (v3 + 1)) fun v3_69 =>
          f_X10_isWord_L32 n o1 1 v3_69 M
        else
          lt1 (w32 (v3 + 1)) fun v3_69 =>
          f_X10_isWord_L32 n o1 0 v3_69 M
        else none
        else none
def f_X10_isWord (o1 : Nat) (M : Mem) : Option (Int) :=
  if (M 84 20) = 1 then
    if (w32 ((M 84 19) - (M 84 18))) = (slen o1) then
      f_X10_isWord_L32 4096 o1 1 0 M
    else
      f_X10_isWord_L32 4096 o1 0 0 M
  else
    f_X10_isWord_L32 4096 o1 0 0 M
set_option maxRecDepth 20000 in
theorem rn_X10_isWord_L32 {G : Gl} : ∀ (n : Nat) (o1 : Nat) (v2 : Int) (v3 : Int) (M : Mem) (res : Int), isS o1 → f_X10_isWord_L32 n o1 v2 v3 M = some res → Run G false (rmD 4 0 0) miX10_isWord (ZP G (some (aI res)) M) 0 0 32 [some (aR 84), some (aR o1), some (aI v2), some (aI v3)] [] M := by
  intro n
  induction n with
  | zero => intro o1 v2 v3 M res ho1 hf; cases hf
  | succ n ih =>
    intro o1 v2 v3 M res ho1 hf
    rw [f_X10_isWord_L32] at hf
    refine R_iload_n dX10_isWord_32 rfl rfl ?_
    refine R_aload_n dX10_isWord_33 rfl rfl ?_
    refine R_slen dX10_isWord_34 wd1525 ho1 ⟨nle, nle, nle, nle⟩ nle rfl ?_
    refine R_icmp_ge dX10_isWord_37 rfl (fun h37 => ?_) (fun h37 => ?_)
    · replace hf := iposE hf h37
      refine R_iload_n dX10_isWord_75 rfl rfl ?_
      obtain ⟨hb, hf⟩ := gdE hf
      cases hf; exact E_zret dX10_isWord_76 rfl hb rfl rfl
    · replace hf := inegE hf h37
      refine R_iload_n dX10_isWord_40 rfl rfl ?_
      refine R_if_eq dX10_isWord_41 rfl (fun h41 => ?_) (fun h41 => ?_)
      · replace hf := iposE hf h41
        refine R_iload_n dX10_isWord_75 rfl rfl ?_
        obtain ⟨hb, hf⟩ := gdE hf
        cases hf; exact E_zret dX10_isWord_76 rfl hb rfl rfl
      · replace hf := inegE hf h41
        refine R_aload_n dX10_isWord_44 rfl rfl ?_
        refine R_getR dX10_isWord_45 cl10 flX10_38 o_84 ff10_15 (fr10_15 _) a_91.1 ?_
        refine R_aload_n dX10_isWord_48 rfl rfl ?_
        refine R_getI (ki := 18) dX10_isWord_49 cl10 flX10_148 o_84 ff10_18 rfl rfl ?_
        refine R_iload_n dX10_isWord_52 rfl rfl ?_
        refine R_iadd dX10_isWord_53 rfl ?_
        obtain ⟨hg1, hf⟩ := gdE hf
        refine R_baload dX10_isWord_54 a_91 hg1.1 hg1.2 rfl ?_
        refine R_aload_n dX10_isWord_55 rfl rfl ?_
        refine R_iload_n dX10_isWord_56 rfl rfl ?_
        obtain ⟨hg2, hf⟩ := gdE hf
        refine R_sch dX10_isWord_57 wd1526 ho1 hg2.1 hg2.2 ⟨nle, nle, nle, nle⟩ nle rfl ?_
        refine R_icmp_ne dX10_isWord_60 rfl (fun h60 => ?_) (fun h60 => ?_)
        · replace hf := inegE hf h60
          refine R_iconst dX10_isWord_67 (v := 0) rfl ?_
          refine R_istore_n dX10_isWord_68 rfl (by decide) rfl rfl ?_
          obtain ⟨v3_69, hv3_69, hf⟩ := ltE hf
          refine R_iinc dX10_isWord_69 rfl rfl hv3_69 (by decide) rfl ?_
          refine R_goto dX10_isWord_72 rfl ?_
          exact R_subk (ih _ _ _ _ _ ho1 hf) ⟨rfl, rfl, rfl, rfl, trivial⟩
        · replace hf := iposE hf h60
          refine R_iconst dX10_isWord_63 (v := 1) rfl ?_
          refine R_goto dX10_isWord_64 rfl ?_
          refine R_istore_n dX10_isWord_68 rfl (by decide) rfl rfl ?_
          obtain ⟨v3_69, hv3_69, hf⟩ := ltE hf
          refine R_iinc dX10_isWord_69 rfl rfl hv3_69 (by decide) rfl ?_
          refine R_goto dX10_isWord_72 rfl ?_
          exact R_subk (ih _ _ _ _ _ ho1 hf) ⟨rfl, rfl, rfl, rfl, trivial⟩
set_option maxRecDepth 20000 in
theorem ct_X10_isWord {G : Gl} (o1 : Nat) (M : Mem) {res : Int} (ho1 : isS o1) (hf : f_X10_isWord o1 M = some res) : Ct G miX10_isWord yX10_isWord 4 [aR 84, aR o1] M (some (aI res)) M := by
  refine Ct.of (L := [some (aR 84), some (aR o1), none, none]) mwX10_isWord rfl trivial nle ⟨rfl, rfl, trivial⟩ ?_
  unfold f_X10_isWord at hf
  refine R_aload_n dX10_isWord_0 rfl rfl ?_
  refine R_getI (ki := 20) dX10_isWord_1 cl10 flX10_154 o_84 ff10_20 rfl rfl ?_
  refine R_iconst dX10_isWord_4 (v := 1) rfl ?_
  refine R_icmp_ne dX10_isWord_5 rfl (fun h5 => ?_) (fun h5 => ?_)
  · replace hf := inegE hf h5
    refine R_iconst dX10_isWord_28 (v := 0) rfl ?_
    refine R_istore_n dX10_isWord_29 rfl (by decide) rfl rfl ?_
    refine R_iconst dX10_isWord_30 (v := 0) rfl ?_
    refine R_istore_n dX10_isWord_31 rfl (by decide) rfl rfl ?_
    exact R_subk (rn_X10_isWord_L32 4096 _ _ _ _ _ ho1 hf) ⟨rfl, rfl, rfl, rfl, trivial⟩
  · replace hf := iposE hf h5
    refine R_aload_n dX10_isWord_8 rfl rfl ?_
    refine R_getI (ki := 19) dX10_isWord_9 cl10 flX10_141 o_84 ff10_19 rfl rfl ?_
    refine R_aload_n dX10_isWord_12 rfl rfl ?_
    refine R_getI (ki := 18) dX10_isWord_13 cl10 flX10_148 o_84 ff10_18 rfl rfl ?_
    refine R_isub dX10_isWord_16 rfl ?_
    refine R_aload_n dX10_isWord_17 rfl rfl ?_
    refine R_slen dX10_isWord_18 wd1525 ho1 ⟨nle, nle, nle, nle⟩ nle rfl ?_
    refine R_icmp_ne dX10_isWord_21 rfl (fun h21 => ?_) (fun h21 => ?_)
    · replace hf := inegE hf h21
      refine R_iconst dX10_isWord_28 (v := 0) rfl ?_
      refine R_istore_n dX10_isWord_29 rfl (by decide) rfl rfl ?_
      refine R_iconst dX10_isWord_30 (v := 0) rfl ?_
      refine R_istore_n dX10_isWord_31 rfl (by decide) rfl rfl ?_
      exact R_subk (rn_X10_isWord_L32 4096 _ _ _ _ _ ho1 hf) ⟨rfl, rfl, rfl, rfl, trivial⟩
    · replace hf := iposE hf h21
      refine R_iconst dX10_isWord_24 (v := 1) rfl ?_
      refine R_goto dX10_isWord_25 rfl ?_
      refine R_istore_n dX10_isWord_29 rfl (by decide) rfl rfl ?_
      refine R_iconst dX10_isWord_30 (v := 0) rfl ?_
      refine R_istore_n dX10_isWord_31 rfl (by decide) rfl rfl ?_
      exact R_subk (rn_X10_isWord_L32 4096 _ _ _ _ _ ho1 hf) ⟨rfl, rfl, rfl, rfl, trivial⟩
/-! BracketHallModel.fails(I)Z -/
def f_X10_fails (v1 : Int) (M : Mem) : Option (Int × Mem) :=
  if (M 84 22) = 0 then
    lt1 (up M 84 22 v1) fun M9 =>
    lt1 (up M9 84 23 (M9 84 18)) fun M17 =>
    some (0, M17)
  else
    some (0, M)
set_option maxRecDepth 20000 in
theorem ct_X10_fails {G : Gl} (v1 : Int) (M : Mem) {res : Int × Mem}  (hf : f_X10_fails v1 M = some res) : Ct G miX10_fails yX10_fails 0 [aR 84, aI v1] M (some (aI res.1)) res.2 := by
  refine Ct.of (L := [some (aR 84), some (aI v1)]) mwX10_fails rfl trivial nle ⟨rfl, rfl, trivial⟩ ?_
  unfold f_X10_fails at hf
  refine R_aload_n dX10_fails_0 rfl rfl ?_
  refine R_getI (ki := 22) dX10_fails_1 cl10 flX10_169 o_84 ff10_22 rfl rfl ?_
  refine R_if_ne dX10_fails_4 rfl (fun h4 => ?_) (fun h4 => ?_)
  · replace hf := inegE hf h4
    refine R_iconst dX10_fails_20 (v := 0) rfl ?_
    cases hf; exact E_zret dX10_fails_21 rfl (by decide) rfl rfl
  · replace hf := iposE hf h4
    refine R_aload_n dX10_fails_7 rfl rfl ?_
    refine R_iload_n dX10_fails_8 rfl rfl ?_
    obtain ⟨M9, hM9, hf⟩ := ltE hf
    refine R_put (ki := 22) dX10_fails_9 cl10 flX10_169 o_84 (Or.inl fz10_22) rfl hM9 ?_
    refine R_aload_n dX10_fails_12 rfl rfl ?_
    refine R_aload_n dX10_fails_13 rfl rfl ?_
    refine R_getI (ki := 18) dX10_fails_14 cl10 flX10_148 o_84 ff10_18 rfl rfl ?_
    obtain ⟨M17, hM17, hf⟩ := ltE hf
    refine R_put (ki := 23) dX10_fails_17 cl10 flX10_42 o_84 (Or.inl fz10_23) rfl hM17 ?_
    refine R_iconst dX10_fails_20 (v := 0) rfl ?_
    cases hf; exact E_zret dX10_fails_21 rfl (by decide) rfl rfl
