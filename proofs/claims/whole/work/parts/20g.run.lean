/-! BracketHall.askMark(I)V -/
def f_X9_askMark (v1 : Int) (M : Mem) : Option (Nat × Int × Mem) :=
  if v1 < 0 then
    some (1, 0, M)
  else
    if v1 < (M 14 3) then
      some (0, 0, M)
    else
      some (1, 0, M)
set_option maxRecDepth 20000 in
theorem ct_X9_askMark {G : Gl} (v1 : Int) (M : Mem) {res : Nat × Int × Mem}  (hf : f_X9_askMark v1 M = some res) : CtX G miX9_askMark yX9_askMark 6 1 6 [aR 0, aI v1] M res.1 none res.2.2 := by
  refine CtX.of (L := [some (aR 0), some (aI v1)]) mwX9_askMark rfl trivial nle ⟨rfl, rfl, trivial⟩ ?_
  unfold f_X9_askMark at hf
  refine R_iload_n dX9_askMark_0 rfl rfl ?_
  refine R_if_lt dX9_askMark_1 rfl (fun h1 => ?_) (fun h1 => ?_)
  · replace hf := iposE hf h1
    cases hf; exact R_throwW (j := 15) (x := 1) (cls := "java/lang/IndexOutOfBoundsException") dX9_askMark_15 dX9_askMark_18 dX9_askMark_19 dX9_askMark_22 dX9_askMark_25 wd991 xwX9_401 xi_1 rfl rfl (by decide +kernel) (by decide) (by decide) (by decide) ⟨nle, nle⟩ ⟨nle, nle⟩ rfl rfl rfl
  · replace hf := inegE hf h1
    refine R_iload_n dX9_askMark_4 rfl rfl ?_
    refine R_aload_n dX9_askMark_5 rfl rfl ?_
    refine R_getR dX9_askMark_6 cl9 flX9_49 o_0 ff9_5 (fr9_5 _) o_14.1 ?_
    refine R_getI (ki := 3) dX9_askMark_9 cl4 flX9_190 o_14 ff4_3 rfl rfl ?_
    refine R_icmp_lt dX9_askMark_12 rfl (fun h12 => ?_) (fun h12 => ?_)
    · replace hf := iposE hf h12
      cases hf; exact R_widen nle nle (EX_vret dX9_askMark_26 rfl rfl rfl)
    · replace hf := inegE hf h12
      cases hf; exact R_throwW (j := 15) (x := 1) (cls := "java/lang/IndexOutOfBoundsException") dX9_askMark_15 dX9_askMark_18 dX9_askMark_19 dX9_askMark_22 dX9_askMark_25 wd991 xwX9_401 xi_1 rfl rfl (by decide +kernel) (by decide) (by decide) (by decide) ⟨nle, nle⟩ ⟨nle, nle⟩ rfl rfl rfl
/-! BracketHall.markAt(I)I -/
def f_X9_markAt (v1 : Int) (M : Mem) : Option (Nat × Int × Mem) :=
  (f_X9_askMark v1 M).bind fun p2 => if p2.1 = 0 then
  (f_X4_placeOfMark 14 v1 p2.2.2).bind fun p10 =>
  some (0, p10, p2.2.2)
  else some (p2.1, 0, p2.2.2)
set_option maxRecDepth 20000 in
theorem ct_X9_markAt {G : Gl} (v1 : Int) (M : Mem) {res : Nat × Int × Mem}  (hf : f_X9_markAt v1 M = some res) : CtX G miX9_markAt yX9_markAt 7 1 6 [aR 0, aI v1] M res.1 (some (aI res.2.1)) res.2.2 := by
  refine CtX.of (L := [some (aR 0), some (aI v1)]) mwX9_markAt rfl trivial nle ⟨rfl, rfl, trivial⟩ ?_
  unfold f_X9_markAt at hf
  refine R_aload_n dX9_markAt_0 rfl rfl ?_
  refine R_iload_n dX9_markAt_1 rfl rfl ?_
  obtain ⟨p2, hp2, hf⟩ := bdE hf
  refine R_callVX (As := [aI v1]) (st := []) dX9_markAt_2 (ct_X9_askMark _ _  hp2) mwX9_askMark mvX9_askMark wd1120 cl9 o_0 rfl rfl ⟨nle, nle, nle, nle⟩ nle rfl rfl nle nle (fun h2 => ?_) (fun h2 => ?_)
  · replace hf := inegE hf h2; cases hf; exact ⟨rfl, rfl⟩
  replace hf := iposE hf h2
  refine R_aload_n dX9_markAt_5 rfl rfl ?_
  refine R_getR dX9_markAt_6 cl9 flX9_49 o_0 ff9_5 (fr9_5 _) o_14.1 ?_
  refine R_iload_n dX9_markAt_9 rfl rfl ?_
  obtain ⟨p10, hp10, hf⟩ := bdE hf
  refine R_callV (As := [aI v1]) (st := []) dX9_markAt_10 (ct_X4_placeOfMark _ _ _ o_14 hp10) mwX4_placeOfMark mvX4_placeOfMark mlX9_324 cl4 o_14 rfl rfl ⟨nle, nle, nle, nle⟩ nle rfl ?_
  cases hf; exact R_widen nle nle (EX_iret dX9_markAt_13 rfl rfl rfl rfl)
/-! BracketHall.reportSign(I)I -/
def f_X9_reportSign (v1 : Int) (M : Mem) : Option (Int × Mem) :=
  (f_X4_byteAt 14 v1 M).bind fun p5 =>
  if p5 = 10 then
    some (10, M)
  else
    (f_X9_readNow M).bind fun p17 =>
    (f_X5_hiddenAs 54 v1 p17).bind fun p21 =>
    if p21 = 0 then
      (f_X9_readNow p17).bind fun p31 =>
      (f_X5_kindOf 54 v1 p31).bind fun p35 =>
      if p35 = (-1) then
        some (46, p31)
      else
        (f_X9_colourOf v1 p31).bind fun p47 =>
        lt1 (p47.1) fun v2_50 =>
        if v2_50 = (-1) then
          some (33, p47.2)
        else
          some (w32 (48 + v2_50), p47.2)
    else
      some (35, p17)
set_option maxRecDepth 20000 in
theorem ct_X9_reportSign {G : Gl} (v1 : Int) (M : Mem) {res : Int × Mem}  (hf : f_X9_reportSign v1 M = some res) : Ct G miX9_reportSign yX9_reportSign 5 [aR 0, aI v1] M (some (aI res.1)) res.2 := by
  refine Ct.of (L := [some (aR 0), some (aI v1), none]) mwX9_reportSign rfl trivial nle ⟨rfl, rfl, trivial⟩ ?_
  unfold f_X9_reportSign at hf
  refine R_aload_n dX9_reportSign_0 rfl rfl ?_
  refine R_getR dX9_reportSign_1 cl9 flX9_49 o_0 ff9_5 (fr9_5 _) o_14.1 ?_
  refine R_iload_n dX9_reportSign_4 rfl rfl ?_
  obtain ⟨p5, hp5, hf⟩ := bdE hf
  refine R_callV (As := [aI v1]) (st := []) dX9_reportSign_5 (ct_X4_byteAt _ _ _ o_14 hp5) mwX4_byteAt mvX4_byteAt mlX9_212 cl4 o_14 rfl rfl ⟨nle, nle, nle, nle⟩ nle rfl ?_
  refine R_bipush dX9_reportSign_8 (v := 10) rfl ?_
  refine R_icmp_ne dX9_reportSign_10 rfl (fun h10 => ?_) (fun h10 => ?_)
  · replace hf := inegE hf h10
    refine R_aload_n dX9_reportSign_16 rfl rfl ?_
    obtain ⟨p17, hp17, hf⟩ := bdE hf
    refine R_callV (As := []) (st := []) dX9_reportSign_17 (ct_X9_readNow  _  hp17) mwX9_readNow mvX9_readNow mlX9_165 cl9 o_0 rfl rfl ⟨nle, nle, nle, nle⟩ nle rfl ?_
    refine R_iload_n dX9_reportSign_20 rfl rfl ?_
    obtain ⟨p21, hp21, hf⟩ := bdE hf
    refine R_callV (As := [aI v1]) (st := []) dX9_reportSign_21 (ct_X5_hiddenAs _ _ _ o_54 hp21) mwX5_hiddenAs mvX5_hiddenAs mlX9_230 cl5 o_54 rfl rfl ⟨nle, nle, nle, nle⟩ nle rfl ?_
    refine R_if_eq dX9_reportSign_24 rfl (fun h24 => ?_) (fun h24 => ?_)
    · replace hf := iposE hf h24
      refine R_aload_n dX9_reportSign_30 rfl rfl ?_
      obtain ⟨p31, hp31, hf⟩ := bdE hf
      refine R_callV (As := []) (st := []) dX9_reportSign_31 (ct_X9_readNow  _  hp31) mwX9_readNow mvX9_readNow mlX9_165 cl9 o_0 rfl rfl ⟨nle, nle, nle, nle⟩ nle rfl ?_
      refine R_iload_n dX9_reportSign_34 rfl rfl ?_
      obtain ⟨p35, hp35, hf⟩ := bdE hf
      refine R_callV (As := [aI v1]) (st := []) dX9_reportSign_35 (ct_X5_kindOf _ _ _ o_54 hp35) mwX5_kindOf mvX5_kindOf mlX9_215 cl5 o_54 rfl rfl ⟨nle, nle, nle, nle⟩ nle rfl ?_
      refine R_iconst dX9_reportSign_38 (v := (-1)) rfl ?_
      refine R_icmp_ne dX9_reportSign_39 rfl (fun h39 => ?_) (fun h39 => ?_)
      · replace hf := inegE hf h39
        refine R_aload_n dX9_reportSign_45 rfl rfl ?_
        refine R_iload_n dX9_reportSign_46 rfl rfl ?_
        obtain ⟨p47, hp47, hf⟩ := bdE hf
        refine R_callV (As := [aI v1]) (st := []) dX9_reportSign_47 (ct_X9_colourOf _ _  hp47) mwX9_colourOf mvX9_colourOf mlX9_227 cl9 o_0 rfl rfl ⟨nle, nle, nle, nle⟩ nle rfl ?_
        obtain ⟨v2_50, hv2_50, hf⟩ := ltE hf
        refine R_istore_n dX9_reportSign_50 rfl (by decide) hv2_50 rfl ?_
        refine R_iload_n dX9_reportSign_51 rfl rfl ?_
        refine R_iconst dX9_reportSign_52 (v := (-1)) rfl ?_
        refine R_icmp_ne dX9_reportSign_53 rfl (fun h53 => ?_) (fun h53 => ?_)
        · replace hf := inegE hf h53
          refine R_bipush dX9_reportSign_61 (v := 48) rfl ?_
          refine R_iload_n dX9_reportSign_63 rfl rfl ?_
          refine R_iadd dX9_reportSign_64 rfl ?_
          cases hf; exact E_iret dX9_reportSign_65 rfl rfl rfl
        · replace hf := iposE hf h53
          refine R_bipush dX9_reportSign_56 (v := 33) rfl ?_
          refine R_goto dX9_reportSign_58 rfl ?_
          cases hf; exact E_iret dX9_reportSign_65 rfl rfl rfl
      · replace hf := iposE hf h39
        refine R_bipush dX9_reportSign_42 (v := 46) rfl ?_
        cases hf; exact E_iret dX9_reportSign_44 rfl rfl rfl
    · replace hf := inegE hf h24
      refine R_bipush dX9_reportSign_27 (v := 35) rfl ?_
      cases hf; exact E_iret dX9_reportSign_29 rfl rfl rfl
  · replace hf := iposE hf h10
    refine R_bipush dX9_reportSign_13 (v := 10) rfl ?_
    cases hf; exact E_iret dX9_reportSign_15 rfl rfl rfl
/-! BracketHall.report()I -/
def f_X9_report_L13 : Nat → Int → Mem → Option (Int × Mem)
  | 0, _, _ => none
  | n + 1, v1, M =>
    if (M 0 14) ≤ v1 then
      some (M 0 14, M)
    else
      if 240 ≤ v1 then
        some (M 0 14, M)
      else
        (f_X9_reportSign v1 M).bind fun p35 =>
        if (0 : Int) ≤ v1 ∧ v1 < 240 then
        lt1 (up p35.2 77 v1 p35.1) fun M38 =>
        lt1 (w32 (v1 + 1)) fun v1_39 =>
        f_X9_report_L13 n v1_39 M38
        else none
def f_X9_report  (M : Mem) : Option (Int × Mem) :=
  lt1 (up M 0 14 (M 14 2)) fun M8 =>
  f_X9_report_L13 4096 0 M8
set_option maxRecDepth 20000 in
theorem rn_X9_report_L13 {G : Gl} : ∀ (n : Nat) (v1 : Int) (M : Mem) (res : Int × Mem),  f_X9_report_L13 n v1 M = some res → Run G false (rmD 6 0 0) miX9_report (ZP G (some (aI res.1)) res.2) 0 0 13 [some (aR 0), some (aI v1)] [] M := by
  intro n
  induction n with
  | zero => intro v1 M res  hf; cases hf
  | succ n ih =>
    intro v1 M res  hf
    rw [f_X9_report_L13] at hf
    refine R_iload_n dX9_report_13 rfl rfl ?_
    refine R_aload_n dX9_report_14 rfl rfl ?_
    refine R_getI (ki := 14) dX9_report_15 cl9 flX9_92 o_0 ff9_14 rfl rfl ?_
    refine R_icmp_ge dX9_report_18 rfl (fun h18 => ?_) (fun h18 => ?_)
    · replace hf := iposE hf h18
      refine R_aload_n dX9_report_45 rfl rfl ?_
      refine R_getI (ki := 14) dX9_report_46 cl9 flX9_92 o_0 ff9_14 rfl rfl ?_
      cases hf; exact E_iret dX9_report_49 rfl rfl rfl
    · replace hf := inegE hf h18
      refine R_iload_n dX9_report_21 rfl rfl ?_
      refine R_sipush dX9_report_22 (v := 240) rfl ?_
      refine R_icmp_ge dX9_report_25 rfl (fun h25 => ?_) (fun h25 => ?_)
      · replace hf := iposE hf h25
        refine R_aload_n dX9_report_45 rfl rfl ?_
        refine R_getI (ki := 14) dX9_report_46 cl9 flX9_92 o_0 ff9_14 rfl rfl ?_
        cases hf; exact E_iret dX9_report_49 rfl rfl rfl
      · replace hf := inegE hf h25
        refine R_aload_n dX9_report_28 rfl rfl ?_
        refine R_getR dX9_report_29 cl9 flX9_88 o_0 ff9_13 (fr9_13 _) a_77.1 ?_
        refine R_iload_n dX9_report_32 rfl rfl ?_
        refine R_aload_n dX9_report_33 rfl rfl ?_
        refine R_iload_n dX9_report_34 rfl rfl ?_
        obtain ⟨p35, hp35, hf⟩ := bdE hf
        refine R_callV (As := [aI v1]) (st := [aI v1, aR 77]) dX9_report_35 (ct_X9_reportSign _ _  hp35) mwX9_reportSign mvX9_reportSign mlX9_327 cl9 o_0 rfl rfl ⟨nle, nle, nle, nle⟩ nle rfl ?_
        obtain ⟨hg1, hf⟩ := gdE hf
        obtain ⟨M38, hM38, hf⟩ := ltE hf
        refine R_iastore dX9_report_38 a_77 hg1.1 hg1.2 hM38 ?_
        obtain ⟨v1_39, hv1_39, hf⟩ := ltE hf
        refine R_iinc dX9_report_39 rfl rfl hv1_39 (by decide) rfl ?_
        refine R_goto dX9_report_42 rfl ?_
        exact R_subk (ih _ _ _  hf) ⟨rfl, rfl, trivial⟩
set_option maxRecDepth 20000 in
theorem ct_X9_report {G : Gl}  (M : Mem) {res : Int × Mem}  (hf : f_X9_report  M = some res) : Ct G miX9_report yX9_report 6 [aR 0] M (some (aI res.1)) res.2 := by
  refine Ct.of (L := [some (aR 0), none]) mwX9_report rfl trivial nle ⟨rfl, trivial⟩ ?_
  unfold f_X9_report at hf
  refine R_aload_n dX9_report_0 rfl rfl ?_
  refine R_aload_n dX9_report_1 rfl rfl ?_
  refine R_getR dX9_report_2 cl9 flX9_49 o_0 ff9_5 (fr9_5 _) o_14.1 ?_
  refine R_getI (ki := 2) dX9_report_5 cl4 flX9_172 o_14 ff4_2 rfl rfl ?_
  obtain ⟨M8, hM8, hf⟩ := ltE hf
  refine R_put (ki := 14) dX9_report_8 cl9 flX9_92 o_0 (Or.inl fz9_14) rfl hM8 ?_
  refine R_iconst dX9_report_11 (v := 0) rfl ?_
  refine R_istore_n dX9_report_12 rfl (by decide) rfl rfl ?_
  exact R_subk (rn_X9_report_L13 4096 _ _ _  hf) ⟨rfl, rfl, trivial⟩
/-! BracketHall.reportByte(I)I -/
def f_X9_reportByte (v1 : Int) (M : Mem) : Option (Int) :=
  if v1 < 0 then
    some (-1)
  else
    if (M 0 14) ≤ v1 then
      some (-1)
    else
      if 240 ≤ v1 then
        some (-1)
      else
        if (0 : Int) ≤ v1 ∧ v1 < 240 then
        some (M 77 v1)
        else none
set_option maxRecDepth 20000 in
theorem ct_X9_reportByte {G : Gl} (v1 : Int) (M : Mem) {res : Int}  (hf : f_X9_reportByte v1 M = some res) : Ct G miX9_reportByte yX9_reportByte 0 [aR 0, aI v1] M (some (aI res)) M := by
  refine Ct.of (L := [some (aR 0), some (aI v1)]) mwX9_reportByte rfl trivial nle ⟨rfl, rfl, trivial⟩ ?_
  unfold f_X9_reportByte at hf
  refine R_iload_n dX9_reportByte_0 rfl rfl ?_
  refine R_if_lt dX9_reportByte_1 rfl (fun h1 => ?_) (fun h1 => ?_)
  · replace hf := iposE hf h1
    refine R_iconst dX9_reportByte_28 (v := (-1)) rfl ?_
    cases hf; exact E_iret dX9_reportByte_29 rfl rfl rfl
  · replace hf := inegE hf h1
    refine R_iload_n dX9_reportByte_4 rfl rfl ?_
    refine R_aload_n dX9_reportByte_5 rfl rfl ?_
    refine R_getI (ki := 14) dX9_reportByte_6 cl9 flX9_92 o_0 ff9_14 rfl rfl ?_
    refine R_icmp_ge dX9_reportByte_9 rfl (fun h9 => ?_) (fun h9 => ?_)
    · replace hf := iposE hf h9
      refine R_iconst dX9_reportByte_28 (v := (-1)) rfl ?_
      cases hf; exact E_iret dX9_reportByte_29 rfl rfl rfl
    · replace hf := inegE hf h9
      refine R_iload_n dX9_reportByte_12 rfl rfl ?_
      refine R_sipush dX9_reportByte_13 (v := 240) rfl ?_
      refine R_icmp_ge dX9_reportByte_16 rfl (fun h16 => ?_) (fun h16 => ?_)
      · replace hf := iposE hf h16
        refine R_iconst dX9_reportByte_28 (v := (-1)) rfl ?_
        cases hf; exact E_iret dX9_reportByte_29 rfl rfl rfl
      · replace hf := inegE hf h16
        refine R_aload_n dX9_reportByte_19 rfl rfl ?_
        refine R_getR dX9_reportByte_20 cl9 flX9_88 o_0 ff9_13 (fr9_13 _) a_77.1 ?_
        refine R_iload_n dX9_reportByte_23 rfl rfl ?_
        obtain ⟨hg1, hf⟩ := gdE hf
        refine R_iaload dX9_reportByte_24 a_77 hg1.1 hg1.2 rfl ?_
        refine R_goto dX9_reportByte_25 rfl ?_
        cases hf; exact E_iret dX9_reportByte_29 rfl rfl rfl
/-! BracketHall.askPlace(I)V -/
def f_X9_askPlace (v1 : Int) (M : Mem) : Option (Nat × Int × Mem) :=
  (f_X4_hasPlace 14 v1 M).bind fun p5 =>
  if p5 = 0 then
    some (1, 0, M)
  else
    some (0, 0, M)
set_option maxRecDepth 20000 in
theorem ct_X9_askPlace {G : Gl} (v1 : Int) (M : Mem) {res : Nat × Int × Mem}  (hf : f_X9_askPlace v1 M = some res) : CtX G miX9_askPlace yX9_askPlace 6 1 6 [aR 0, aI v1] M res.1 none res.2.2 := by
  refine CtX.of (L := [some (aR 0), some (aI v1)]) mwX9_askPlace rfl trivial nle ⟨rfl, rfl, trivial⟩ ?_
  unfold f_X9_askPlace at hf
  refine R_aload_n dX9_askPlace_0 rfl rfl ?_
  refine R_getR dX9_askPlace_1 cl9 flX9_49 o_0 ff9_5 (fr9_5 _) o_14.1 ?_
  refine R_iload_n dX9_askPlace_4 rfl rfl ?_
  obtain ⟨p5, hp5, hf⟩ := bdE hf
  refine R_callV (As := [aI v1]) (st := []) dX9_askPlace_5 (ct_X4_hasPlace _ _ _ o_14 hp5) mwX4_hasPlace mvX4_hasPlace mlX9_402 cl4 o_14 rfl rfl ⟨nle, nle, nle, nle⟩ nle rfl ?_
  refine R_if_ne dX9_askPlace_8 rfl (fun h8 => ?_) (fun h8 => ?_)
  · replace hf := inegE hf h8
    cases hf; exact R_widen nle nle (EX_vret dX9_askPlace_22 rfl rfl rfl)
  · replace hf := iposE hf h8
    cases hf; exact R_throwW (j := 16) (x := 1) (cls := "java/lang/IndexOutOfBoundsException") dX9_askPlace_11 dX9_askPlace_14 dX9_askPlace_15 dX9_askPlace_18 dX9_askPlace_21 wd991 xwX9_401 xi_1 rfl rfl (by decide +kernel) (by decide) (by decide) (by decide) ⟨nle, nle⟩ ⟨nle, nle⟩ rfl rfl rfl
/-! BracketHall.beginChange()V -/
def f_X9_beginChange  (M : Mem) : Option (Mem) :=
  (f_X0_keep 14 M).bind fun p8 =>
  (f_X9_textTouched p8).bind fun p12 =>
  some p12
set_option maxRecDepth 20000 in
theorem ct_X9_beginChange {G : Gl}  (M : Mem) {res : Mem}  (hf : f_X9_beginChange  M = some res) : Ct G miX9_beginChange yX9_beginChange 3 [aR 0] M none res := by
  refine Ct.of (L := [some (aR 0)]) mwX9_beginChange rfl trivial nle ⟨rfl, trivial⟩ ?_
  unfold f_X9_beginChange at hf
  refine R_aload_n dX9_beginChange_0 rfl rfl ?_
  refine R_getR dX9_beginChange_1 cl9 flX9_59 o_0 ff9_7 (fr9_7 _) o_20.1 ?_
  refine R_aload_n dX9_beginChange_4 rfl rfl ?_
  refine R_getR dX9_beginChange_5 cl9 flX9_49 o_0 ff9_5 (fr9_5 _) o_14.1 ?_
  obtain ⟨p8, hp8, hf⟩ := bdE hf
  refine R_callV (As := [aR 14]) (st := []) dX9_beginChange_8 (ct_X0_keep _ _ o_14 hp8) mwX0_keep mvX0_keep mlX9_357 cl0 o_20 rfl rfl ⟨nle, nle, nle, nle⟩ nle rfl ?_
  refine R_aload_n dX9_beginChange_11 rfl rfl ?_
  obtain ⟨p12, hp12, hf⟩ := bdE hf
  refine R_callV (As := []) (st := []) dX9_beginChange_12 (ct_X9_textTouched  _  hp12) mwX9_textTouched mvX9_textTouched mlX9_378 cl9 o_0 rfl rfl ⟨nle, nle, nle, nle⟩ nle rfl ?_
  cases hf; exact E_vret dX9_beginChange_15 rfl rfl rfl
/-! BracketHall.insert(II)I -/
def f_X9_insert_K44 (v3 : Int) (M : Mem) : Option (Nat × Int × Mem) :=
  lt1 (up M 1 1 0) fun M49 =>
  if v3 = 0 then
    some (0, M49 14 2, M49)
  else
    some (0, v3, M49)
def f_X9_insert (v1 : Int) (v2 : Int) (M : Mem) : Option (Nat × Int × Mem) :=
  (f_X9_askPlace v1 M).bind fun p2 => if p2.1 = 0 then
  (f_X9_askInput v2 p2.2.2).bind fun p7 => if p7.1 = 0 then
  (f_X9_refusalOf v2 (p7.2.2 14 2) p7.2.2).bind fun p19 =>
  if p19 = 0 then
    (f_X9_beginChange p7.2.2).bind fun p28 =>
    (f_X4_putIn 14 v1 v2 p28).bind fun p41 =>
    f_X9_insert_K44 p19 p41
  else
    f_X9_insert_K44 p19 p7.2.2
  else some (p7.1, 0, p7.2.2)
  else some (p2.1, 0, p2.2.2)
set_option maxRecDepth 20000 in
theorem rn_X9_insert_K44 {G : Gl} (v3 : Int) (M : Mem) (res : Nat × Int × Mem)  (hf : f_X9_insert_K44 v3 M = some res) : Run G false (rmD 7 2 12) miX9_insert (ZX G 2 12 res.1 (some (aI res.2.1)) res.2.2) 2 12 44 [some (aR 0), none, none, some (aI v3)] [] M := by
  unfold f_X9_insert_K44 at hf
  refine R_aload_n dX9_insert_44 rfl rfl ?_
  refine R_getR dX9_insert_45 cl9 flX9_12 o_0 ff9_0 (fr9_0 _) o_1.1 ?_
  refine R_iconst dX9_insert_48 (v := 0) rfl ?_
  obtain ⟨M49, hM49, hf⟩ := ltE hf
  refine R_put (ki := 1) dX9_insert_49 cl1 flX9_110 o_1 (Or.inl fz1_1) rfl hM49 ?_
  refine R_iload_n dX9_insert_52 rfl rfl ?_
  refine R_if_ne dX9_insert_53 rfl (fun h53 => ?_) (fun h53 => ?_)
  · replace hf := inegE hf h53
    refine R_iload_n dX9_insert_66 rfl rfl ?_
    cases hf; exact R_widen nle nle (EX_iret dX9_insert_67 rfl rfl rfl rfl)
  · replace hf := iposE hf h53
    refine R_aload_n dX9_insert_56 rfl rfl ?_
    refine R_getR dX9_insert_57 cl9 flX9_49 o_0 ff9_5 (fr9_5 _) o_14.1 ?_
    refine R_getI (ki := 2) dX9_insert_60 cl4 flX9_172 o_14 ff4_2 rfl rfl ?_
    refine R_goto dX9_insert_63 rfl ?_
    cases hf; exact R_widen nle nle (EX_iret dX9_insert_67 rfl rfl rfl rfl)
set_option maxRecDepth 20000 in
theorem ct_X9_insert {G : Gl} (v1 : Int) (v2 : Int) (M : Mem) {res : Nat × Int × Mem}  (hf : f_X9_insert v1 v2 M = some res) : CtX G miX9_insert yX9_insert 7 2 12 [aR 0, aI v1, aI v2] M res.1 (some (aI res.2.1)) res.2.2 := by
  refine CtX.of (L := [some (aR 0), some (aI v1), some (aI v2), none]) mwX9_insert rfl trivial nle ⟨rfl, rfl, rfl, trivial⟩ ?_
  unfold f_X9_insert at hf
  refine R_aload_n dX9_insert_0 rfl rfl ?_
  refine R_iload_n dX9_insert_1 rfl rfl ?_
  obtain ⟨p2, hp2, hf⟩ := bdE hf
  refine R_callVX (As := [aI v1]) (st := []) dX9_insert_2 (ct_X9_askPlace _ _  hp2) mwX9_askPlace mvX9_askPlace wd1136 cl9 o_0 rfl rfl ⟨nle, nle, nle, nle⟩ nle rfl rfl nle nle (fun h2 => ?_) (fun h2 => ?_)
  · replace hf := inegE hf h2; cases hf; exact ⟨rfl, rfl⟩
  replace hf := iposE hf h2
  refine R_aload_n dX9_insert_5 rfl rfl ?_
  refine R_iload_n dX9_insert_6 rfl rfl ?_
  obtain ⟨p7, hp7, hf⟩ := bdE hf
  refine R_callVX (As := [aI v2]) (st := []) dX9_insert_7 (ct_X9_askInput _ _  hp7) mwX9_askInput mvX9_askInput wd710 cl9 o_0 rfl rfl ⟨nle, nle, nle, nle⟩ nle rfl rfl nle nle (fun h7 => ?_) (fun h7 => ?_)
  · replace hf := inegE hf h7; cases hf; exact ⟨rfl, rfl⟩
  replace hf := iposE hf h7
  refine R_aload_n dX9_insert_10 rfl rfl ?_
  refine R_iload_n dX9_insert_11 rfl rfl ?_
  refine R_aload_n dX9_insert_12 rfl rfl ?_
  refine R_getR dX9_insert_13 cl9 flX9_49 o_0 ff9_5 (fr9_5 _) o_14.1 ?_
  refine R_getI (ki := 2) dX9_insert_16 cl4 flX9_172 o_14 ff4_2 rfl rfl ?_
  obtain ⟨p19, hp19, hf⟩ := bdE hf
  refine R_callV (As := [aI v2, aI (p7.2.2 14 2)]) (st := []) dX9_insert_19 (ct_X9_refusalOf _ _ _  hp19) mwX9_refusalOf mvX9_refusalOf mlX9_158 cl9 o_0 rfl rfl ⟨nle, nle, nle, nle⟩ nle rfl ?_
  refine R_istore_n dX9_insert_22 rfl (by decide) rfl rfl ?_
  refine R_iload_n dX9_insert_23 rfl rfl ?_
  refine R_if_ne dX9_insert_24 rfl (fun h24 => ?_) (fun h24 => ?_)
  · replace hf := inegE hf h24
    exact R_subk (R_widen nle nle (rn_X9_insert_K44 _ _ _  hf)) ⟨rfl, rfl, trivial⟩
  · replace hf := iposE hf h24
    refine R_aload_n dX9_insert_27 rfl rfl ?_
    obtain ⟨p28, hp28, hf⟩ := bdE hf
    refine R_callV (As := []) (st := []) dX9_insert_28 (ct_X9_beginChange  _  hp28) mwX9_beginChange mvX9_beginChange mlX9_333 cl9 o_0 rfl rfl ⟨nle, nle, nle, nle⟩ nle rfl ?_
    refine R_aload_n dX9_insert_31 rfl rfl ?_
    refine R_getR dX9_insert_32 cl9 flX9_49 o_0 ff9_5 (fr9_5 _) o_14.1 ?_
    refine R_iload_n dX9_insert_35 rfl rfl ?_
    refine R_aload_n dX9_insert_36 rfl rfl ?_
    refine R_getR dX9_insert_37 cl9 flX9_12 o_0 ff9_0 (fr9_0 _) o_1.1 ?_
    refine R_iload_n dX9_insert_40 rfl rfl ?_
    obtain ⟨p41, hp41, hf⟩ := bdE hf
    refine R_callV (As := [aI v1, aR 1, aI v2]) (st := []) dX9_insert_41 (ct_X4_putIn _ _ _ _ o_14 hp41) mwX4_putIn mvX4_putIn mlX9_161 cl4 o_14 rfl rfl ⟨nle, nle, nle, nle⟩ nle rfl ?_
    exact R_subk (R_widen nle nle (rn_X9_insert_K44 _ _ _  hf)) ⟨rfl, rfl, trivial⟩
/-! BracketHall.askRange(II)V -/
def f_X9_askRange (v1 : Int) (v2 : Int) (M : Mem) : Option (Nat × Int × Mem) :=
  (f_X4_hasRange 14 v1 v2 M).bind fun p6 =>
  if p6 = 0 then
    some (1, 0, M)
  else
    some (0, 0, M)
set_option maxRecDepth 20000 in
theorem ct_X9_askRange {G : Gl} (v1 : Int) (v2 : Int) (M : Mem) {res : Nat × Int × Mem}  (hf : f_X9_askRange v1 v2 M = some res) : CtX G miX9_askRange yX9_askRange 6 1 6 [aR 0, aI v1, aI v2] M res.1 none res.2.2 := by
  refine CtX.of (L := [some (aR 0), some (aI v1), some (aI v2)]) mwX9_askRange rfl trivial nle ⟨rfl, rfl, rfl, trivial⟩ ?_
  unfold f_X9_askRange at hf
  refine R_aload_n dX9_askRange_0 rfl rfl ?_
  refine R_getR dX9_askRange_1 cl9 flX9_49 o_0 ff9_5 (fr9_5 _) o_14.1 ?_
  refine R_iload_n dX9_askRange_4 rfl rfl ?_
  refine R_iload_n dX9_askRange_5 rfl rfl ?_
  obtain ⟨p6, hp6, hf⟩ := bdE hf
  refine R_callV (As := [aI v1, aI v2]) (st := []) dX9_askRange_6 (ct_X4_hasRange _ _ _ _ o_14 hp6) mwX4_hasRange mvX4_hasRange mlX9_407 cl4 o_14 rfl rfl ⟨nle, nle, nle, nle⟩ nle rfl ?_
  refine R_if_ne dX9_askRange_9 rfl (fun h9 => ?_) (fun h9 => ?_)
  · replace hf := inegE hf h9
    cases hf; exact R_widen nle nle (EX_vret dX9_askRange_23 rfl rfl rfl)
  · replace hf := iposE hf h9
    cases hf; exact R_throwW (j := 17) (x := 1) (cls := "java/lang/IndexOutOfBoundsException") dX9_askRange_12 dX9_askRange_15 dX9_askRange_16 dX9_askRange_19 dX9_askRange_22 wd991 xwX9_401 xi_1 rfl rfl (by decide +kernel) (by decide) (by decide) (by decide) ⟨nle, nle⟩ ⟨nle, nle⟩ rfl rfl rfl
/-! BracketHall.erase(II)I -/
def f_X9_erase (v1 : Int) (v2 : Int) (M : Mem) : Option (Nat × Int × Mem) :=
  (f_X9_askRange v1 v2 M).bind fun p3 => if p3.1 = 0 then
  (f_X9_beginChange p3.2.2).bind fun p7 =>
  (f_X4_takeOut 14 v1 v2 p7).bind fun p16 =>
  some (0, p16 14 2, p16)
  else some (p3.1, 0, p3.2.2)
set_option maxRecDepth 20000 in
theorem ct_X9_erase {G : Gl} (v1 : Int) (v2 : Int) (M : Mem) {res : Nat × Int × Mem}  (hf : f_X9_erase v1 v2 M = some res) : CtX G miX9_erase yX9_erase 7 1 6 [aR 0, aI v1, aI v2] M res.1 (some (aI res.2.1)) res.2.2 := by
  refine CtX.of (L := [some (aR 0), some (aI v1), some (aI v2)]) mwX9_erase rfl trivial nle ⟨rfl, rfl, rfl, trivial⟩ ?_
  unfold f_X9_erase at hf
  refine R_aload_n dX9_erase_0 rfl rfl ?_
  refine R_iload_n dX9_erase_1 rfl rfl ?_
  refine R_iload_n dX9_erase_2 rfl rfl ?_
  obtain ⟨p3, hp3, hf⟩ := bdE hf
  refine R_callVX (As := [aI v1, aI v2]) (st := []) dX9_erase_3 (ct_X9_askRange _ _ _  hp3) mwX9_askRange mvX9_askRange wd1153 cl9 o_0 rfl rfl ⟨nle, nle, nle, nle⟩ nle rfl rfl nle nle (fun h3 => ?_) (fun h3 => ?_)
  · replace hf := inegE hf h3; cases hf; exact ⟨rfl, rfl⟩
  replace hf := iposE hf h3
  refine R_aload_n dX9_erase_6 rfl rfl ?_
  obtain ⟨p7, hp7, hf⟩ := bdE hf
  refine R_callV (As := []) (st := []) dX9_erase_7 (ct_X9_beginChange  _  hp7) mwX9_beginChange mvX9_beginChange mlX9_333 cl9 o_0 rfl rfl ⟨nle, nle, nle, nle⟩ nle rfl ?_
  refine R_aload_n dX9_erase_10 rfl rfl ?_
  refine R_getR dX9_erase_11 cl9 flX9_49 o_0 ff9_5 (fr9_5 _) o_14.1 ?_
  refine R_iload_n dX9_erase_14 rfl rfl ?_
  refine R_iload_n dX9_erase_15 rfl rfl ?_
  obtain ⟨p16, hp16, hf⟩ := bdE hf
  refine R_callV (As := [aI v1, aI v2]) (st := []) dX9_erase_16 (ct_X4_takeOut _ _ _ _ o_14 hp16) mwX4_takeOut mvX4_takeOut mlX9_340 cl4 o_14 rfl rfl ⟨nle, nle, nle, nle⟩ nle rfl ?_
  refine R_aload_n dX9_erase_19 rfl rfl ?_
  refine R_getR dX9_erase_20 cl9 flX9_49 o_0 ff9_5 (fr9_5 _) o_14.1 ?_
  refine R_getI (ki := 2) dX9_erase_23 cl4 flX9_172 o_14 ff4_2 rfl rfl ?_
  cases hf; exact R_widen nle nle (EX_iret dX9_erase_26 rfl rfl rfl rfl)
/-! BracketHall.putPair(III)V -/
def f_X9_putPair (v1 : Int) (v2 : Int) (v3 : Int) (M : Mem) : Option (Mem) :=
  (f_X7_closingOf 11 v3 M).bind fun p10 =>
  (f_X4_putByte 14 v2 p10 M).bind fun p13 =>
  (f_X7_openingOf 11 v3 p13).bind fun p26 =>
  (f_X4_putByte 14 v1 p26 p13).bind fun p29 =>
  (f_X9_textTouched p29).bind fun p33 =>
  some p33
set_option maxRecDepth 20000 in
theorem ct_X9_putPair {G : Gl} (v1 : Int) (v2 : Int) (v3 : Int) (M : Mem) {res : Mem}  (hf : f_X9_putPair v1 v2 v3 M = some res) : Ct G miX9_putPair yX9_putPair 3 [aR 0, aI v1, aI v2, aI v3] M none res := by
  refine Ct.of (L := [some (aR 0), some (aI v1), some (aI v2), some (aI v3)]) mwX9_putPair rfl trivial nle ⟨rfl, rfl, rfl, rfl, trivial⟩ ?_
  unfold f_X9_putPair at hf
  refine R_aload_n dX9_putPair_0 rfl rfl ?_
  refine R_getR dX9_putPair_1 cl9 flX9_49 o_0 ff9_5 (fr9_5 _) o_14.1 ?_
  refine R_iload_n dX9_putPair_4 rfl rfl ?_
  refine R_aload_n dX9_putPair_5 rfl rfl ?_
  refine R_getR dX9_putPair_6 cl9 flX9_42 o_0 ff9_4 (fr9_4 _) o_11.1 ?_
  refine R_iload_n dX9_putPair_9 rfl rfl ?_
  obtain ⟨p10, hp10, hf⟩ := bdE hf
  refine R_callV (As := [aI v3]) (st := [aI v2, aR 14]) dX9_putPair_10 (ct_X7_closingOf _ _ _ o_11 hp10) mwX7_closingOf mvX7_closingOf mlX9_452 cl7 o_11 rfl rfl ⟨nle, nle, nle, nle⟩ nle rfl ?_
  obtain ⟨p13, hp13, hf⟩ := bdE hf
  refine R_callV (As := [aI v2, aI p10]) (st := []) dX9_putPair_13 (ct_X4_putByte _ _ _ _ o_14 hp13) mwX4_putByte mvX4_putByte mlX9_455 cl4 o_14 rfl rfl ⟨nle, nle, nle, nle⟩ nle rfl ?_
  refine R_aload_n dX9_putPair_16 rfl rfl ?_
  refine R_getR dX9_putPair_17 cl9 flX9_49 o_0 ff9_5 (fr9_5 _) o_14.1 ?_
  refine R_iload_n dX9_putPair_20 rfl rfl ?_
  refine R_aload_n dX9_putPair_21 rfl rfl ?_
  refine R_getR dX9_putPair_22 cl9 flX9_42 o_0 ff9_4 (fr9_4 _) o_11.1 ?_
  refine R_iload_n dX9_putPair_25 rfl rfl ?_
  obtain ⟨p26, hp26, hf⟩ := bdE hf
  refine R_callV (As := [aI v3]) (st := [aI v1, aR 14]) dX9_putPair_26 (ct_X7_openingOf _ _ _ o_11 hp26) mwX7_openingOf mvX7_openingOf mlX9_458 cl7 o_11 rfl rfl ⟨nle, nle, nle, nle⟩ nle rfl ?_
  obtain ⟨p29, hp29, hf⟩ := bdE hf
  refine R_callV (As := [aI v1, aI p26]) (st := []) dX9_putPair_29 (ct_X4_putByte _ _ _ _ o_14 hp29) mwX4_putByte mvX4_putByte mlX9_455 cl4 o_14 rfl rfl ⟨nle, nle, nle, nle⟩ nle rfl ?_
  refine R_aload_n dX9_putPair_32 rfl rfl ?_
  obtain ⟨p33, hp33, hf⟩ := bdE hf
  refine R_callV (As := []) (st := []) dX9_putPair_33 (ct_X9_textTouched  _  hp33) mwX9_textTouched mvX9_textTouched mlX9_378 cl9 o_0 rfl rfl ⟨nle, nle, nle, nle⟩ nle rfl ?_
  cases hf; exact E_vret dX9_putPair_36 rfl rfl rfl
/-! BracketHall.wrap(III)I -/
def f_X9_wrap (v1 : Int) (v2 : Int) (v3 : Int) (M : Mem) : Option (Nat × Int × Mem) :=
  (f_X9_askRange v1 v2 M).bind fun p3 => if p3.1 = 0 then
  (f_X9_askKind v3 p3.2.2).bind fun p8 => if p8.1 = 0 then
  (f_X4_hasRoom 14 2 p8.2.2).bind fun p16 =>
  if p16 = 0 then
    some (0, (-2), p8.2.2)
  else
    (f_X9_beginChange p8.2.2).bind fun p26 =>
    (f_X9_putPair v1 v2 v3 p26).bind fun p33 =>
    some (0, p33 14 2, p33)
  else some (p8.1, 0, p8.2.2)
  else some (p3.1, 0, p3.2.2)
set_option maxRecDepth 20000 in
theorem ct_X9_wrap {G : Gl} (v1 : Int) (v2 : Int) (v3 : Int) (M : Mem) {res : Nat × Int × Mem}  (hf : f_X9_wrap v1 v2 v3 M = some res) : CtX G miX9_wrap yX9_wrap 7 2 12 [aR 0, aI v1, aI v2, aI v3] M res.1 (some (aI res.2.1)) res.2.2 := by
  refine CtX.of (L := [some (aR 0), some (aI v1), some (aI v2), some (aI v3)]) mwX9_wrap rfl trivial nle ⟨rfl, rfl, rfl, rfl, trivial⟩ ?_
  unfold f_X9_wrap at hf
  refine R_aload_n dX9_wrap_0 rfl rfl ?_
  refine R_iload_n dX9_wrap_1 rfl rfl ?_
  refine R_iload_n dX9_wrap_2 rfl rfl ?_
  obtain ⟨p3, hp3, hf⟩ := bdE hf
  refine R_callVX (As := [aI v1, aI v2]) (st := []) dX9_wrap_3 (ct_X9_askRange _ _ _  hp3) mwX9_askRange mvX9_askRange wd1153 cl9 o_0 rfl rfl ⟨nle, nle, nle, nle⟩ nle rfl rfl nle nle (fun h3 => ?_) (fun h3 => ?_)
  · replace hf := inegE hf h3; cases hf; exact ⟨rfl, rfl⟩
  replace hf := iposE hf h3
  refine R_aload_n dX9_wrap_6 rfl rfl ?_
  refine R_iload_n dX9_wrap_7 rfl rfl ?_
  obtain ⟨p8, hp8, hf⟩ := bdE hf
  refine R_callVX (As := [aI v3]) (st := []) dX9_wrap_8 (ct_X9_askKind _ _  hp8) mwX9_askKind mvX9_askKind wd1086 cl9 o_0 rfl rfl ⟨nle, nle, nle, nle⟩ nle rfl rfl nle nle (fun h8 => ?_) (fun h8 => ?_)
  · replace hf := inegE hf h8; cases hf; exact ⟨rfl, rfl⟩
  replace hf := iposE hf h8
  refine R_aload_n dX9_wrap_11 rfl rfl ?_
  refine R_getR dX9_wrap_12 cl9 flX9_49 o_0 ff9_5 (fr9_5 _) o_14.1 ?_
  refine R_iconst dX9_wrap_15 (v := 2) rfl ?_
  obtain ⟨p16, hp16, hf⟩ := bdE hf
  refine R_callV (As := [aI 2]) (st := []) dX9_wrap_16 (ct_X4_hasRoom _ _ _ o_14 hp16) mwX4_hasRoom mvX4_hasRoom mlX9_343 cl4 o_14 rfl rfl ⟨nle, nle, nle, nle⟩ nle rfl ?_
  refine R_if_ne dX9_wrap_19 rfl (fun h19 => ?_) (fun h19 => ?_)
  · replace hf := inegE hf h19
    refine R_aload_n dX9_wrap_25 rfl rfl ?_
    obtain ⟨p26, hp26, hf⟩ := bdE hf
    refine R_callV (As := []) (st := []) dX9_wrap_26 (ct_X9_beginChange  _  hp26) mwX9_beginChange mvX9_beginChange mlX9_333 cl9 o_0 rfl rfl ⟨nle, nle, nle, nle⟩ nle rfl ?_
    refine R_aload_n dX9_wrap_29 rfl rfl ?_
    refine R_iload_n dX9_wrap_30 rfl rfl ?_
    refine R_iload_n dX9_wrap_31 rfl rfl ?_
    refine R_iload_n dX9_wrap_32 rfl rfl ?_
    obtain ⟨p33, hp33, hf⟩ := bdE hf
    refine R_callV (As := [aI v1, aI v2, aI v3]) (st := []) dX9_wrap_33 (ct_X9_putPair _ _ _ _  hp33) mwX9_putPair mvX9_putPair mlX9_347 cl9 o_0 rfl rfl ⟨nle, nle, nle, nle⟩ nle rfl ?_
    refine R_aload_n dX9_wrap_36 rfl rfl ?_
    refine R_getR dX9_wrap_37 cl9 flX9_49 o_0 ff9_5 (fr9_5 _) o_14.1 ?_
    refine R_getI (ki := 2) dX9_wrap_40 cl4 flX9_172 o_14 ff4_2 rfl rfl ?_
    cases hf; exact R_widen nle nle (EX_iret dX9_wrap_43 rfl rfl rfl rfl)
  · replace hf := iposE hf h19
    refine R_bipush dX9_wrap_22 (v := (-2)) rfl ?_
    cases hf; exact R_widen nle nle (EX_iret dX9_wrap_24 rfl rfl rfl rfl)
/-! BracketHall.unwrap(I)I -/
def f_X9_unwrap (v1 : Int) (M : Mem) : Option (Nat × Int × Mem) :=
  (f_X9_askByte v1 M).bind fun p2 => if p2.1 = 0 then
  (f_X9_askPaired v1 p2.2.2).bind fun p7 => if p7.1 = 0 then
  (f_X9_readNow p7.2.2).bind fun p11 =>
  (f_X5_openingOf 54 v1 p11).bind fun p15 =>
  (f_X9_readNow p11).bind fun p20 =>
  (f_X5_partnerOf 54 p15 p20).bind fun p24 =>
  (f_X9_beginChange p20).bind fun p29 =>
  (f_X4_takeOut 14 p24 (w32 (p24 + 1)) p29).bind fun p40 =>
  (f_X4_takeOut 14 p15 (w32 (p15 + 1)) p40).bind fun p51 =>
  some (0, p51 14 2, p51)
  else some (p7.1, 0, p7.2.2)
  else some (p2.1, 0, p2.2.2)
set_option maxRecDepth 20000 in
theorem ct_X9_unwrap {G : Gl} (v1 : Int) (M : Mem) {res : Nat × Int × Mem}  (hf : f_X9_unwrap v1 M = some res) : CtX G miX9_unwrap yX9_unwrap 7 2 12 [aR 0, aI v1] M res.1 (some (aI res.2.1)) res.2.2 := by
  refine CtX.of (L := [some (aR 0), some (aI v1), none, none]) mwX9_unwrap rfl trivial nle ⟨rfl, rfl, trivial⟩ ?_
  unfold f_X9_unwrap at hf
  refine R_aload_n dX9_unwrap_0 rfl rfl ?_
  refine R_iload_n dX9_unwrap_1 rfl rfl ?_
  obtain ⟨p2, hp2, hf⟩ := bdE hf
  refine R_callVX (As := [aI v1]) (st := []) dX9_unwrap_2 (ct_X9_askByte _ _  hp2) mwX9_askByte mvX9_askByte wd986 cl9 o_0 rfl rfl ⟨nle, nle, nle, nle⟩ nle rfl rfl nle nle (fun h2 => ?_) (fun h2 => ?_)
  · replace hf := inegE hf h2; cases hf; exact ⟨rfl, rfl⟩
  replace hf := iposE hf h2
  refine R_aload_n dX9_unwrap_5 rfl rfl ?_
  refine R_iload_n dX9_unwrap_6 rfl rfl ?_
  obtain ⟨p7, hp7, hf⟩ := bdE hf
  refine R_callVX (As := [aI v1]) (st := []) dX9_unwrap_7 (ct_X9_askPaired _ _  hp7) mwX9_askPaired mvX9_askPaired wd1036 cl9 o_0 rfl rfl ⟨nle, nle, nle, nle⟩ nle rfl rfl nle nle (fun h7 => ?_) (fun h7 => ?_)
  · replace hf := inegE hf h7; cases hf; exact ⟨rfl, rfl⟩
  replace hf := iposE hf h7
  refine R_aload_n dX9_unwrap_10 rfl rfl ?_
  obtain ⟨p11, hp11, hf⟩ := bdE hf
  refine R_callV (As := []) (st := []) dX9_unwrap_11 (ct_X9_readNow  _  hp11) mwX9_readNow mvX9_readNow mlX9_165 cl9 o_0 rfl rfl ⟨nle, nle, nle, nle⟩ nle rfl ?_
  refine R_iload_n dX9_unwrap_14 rfl rfl ?_
  obtain ⟨p15, hp15, hf⟩ := bdE hf
  refine R_callV (As := [aI v1]) (st := []) dX9_unwrap_15 (ct_X5_openingOf _ _ _ o_54 hp15) mwX5_openingOf mvX5_openingOf mlX9_244 cl5 o_54 rfl rfl ⟨nle, nle, nle, nle⟩ nle rfl ?_
  refine R_istore_n dX9_unwrap_18 rfl (by decide) rfl rfl ?_
  refine R_aload_n dX9_unwrap_19 rfl rfl ?_
  obtain ⟨p20, hp20, hf⟩ := bdE hf
  refine R_callV (As := []) (st := []) dX9_unwrap_20 (ct_X9_readNow  _  hp20) mwX9_readNow mvX9_readNow mlX9_165 cl9 o_0 rfl rfl ⟨nle, nle, nle, nle⟩ nle rfl ?_
  refine R_iload_n dX9_unwrap_23 rfl rfl ?_
  obtain ⟨p24, hp24, hf⟩ := bdE hf
  refine R_callV (As := [aI p15]) (st := []) dX9_unwrap_24 (ct_X5_partnerOf _ _ _ o_54 hp24) mwX5_partnerOf mvX5_partnerOf mlX9_221 cl5 o_54 rfl rfl ⟨nle, nle, nle, nle⟩ nle rfl ?_
  refine R_istore_n dX9_unwrap_27 rfl (by decide) rfl rfl ?_
  refine R_aload_n dX9_unwrap_28 rfl rfl ?_
  obtain ⟨p29, hp29, hf⟩ := bdE hf
  refine R_callV (As := []) (st := []) dX9_unwrap_29 (ct_X9_beginChange  _  hp29) mwX9_beginChange mvX9_beginChange mlX9_333 cl9 o_0 rfl rfl ⟨nle, nle, nle, nle⟩ nle rfl ?_
  refine R_aload_n dX9_unwrap_32 rfl rfl ?_
  refine R_getR dX9_unwrap_33 cl9 flX9_49 o_0 ff9_5 (fr9_5 _) o_14.1 ?_
  refine R_iload_n dX9_unwrap_36 rfl rfl ?_
  refine R_iload_n dX9_unwrap_37 rfl rfl ?_
  refine R_iconst dX9_unwrap_38 (v := 1) rfl ?_
  refine R_iadd dX9_unwrap_39 rfl ?_
  obtain ⟨p40, hp40, hf⟩ := bdE hf
  refine R_callV (As := [aI p24, aI (w32 (p24 + 1))]) (st := []) dX9_unwrap_40 (ct_X4_takeOut _ _ _ _ o_14 hp40) mwX4_takeOut mvX4_takeOut mlX9_340 cl4 o_14 rfl rfl ⟨nle, nle, nle, nle⟩ nle rfl ?_
  refine R_aload_n dX9_unwrap_43 rfl rfl ?_
  refine R_getR dX9_unwrap_44 cl9 flX9_49 o_0 ff9_5 (fr9_5 _) o_14.1 ?_
  refine R_iload_n dX9_unwrap_47 rfl rfl ?_
  refine R_iload_n dX9_unwrap_48 rfl rfl ?_
  refine R_iconst dX9_unwrap_49 (v := 1) rfl ?_
  refine R_iadd dX9_unwrap_50 rfl ?_
  obtain ⟨p51, hp51, hf⟩ := bdE hf
  refine R_callV (As := [aI p15, aI (w32 (p15 + 1))]) (st := []) dX9_unwrap_51 (ct_X4_takeOut _ _ _ _ o_14 hp51) mwX4_takeOut mvX4_takeOut mlX9_340 cl4 o_14 rfl rfl ⟨nle, nle, nle, nle⟩ nle rfl ?_
  refine R_aload_n dX9_unwrap_54 rfl rfl ?_
  refine R_getR dX9_unwrap_55 cl9 flX9_49 o_0 ff9_5 (fr9_5 _) o_14.1 ?_
  refine R_getI (ki := 2) dX9_unwrap_58 cl4 flX9_172 o_14 ff4_2 rfl rfl ?_
  cases hf; exact R_widen nle nle (EX_iret dX9_unwrap_61 rfl rfl rfl rfl)
/-! BracketHall.mendBracket(III)V -/
def f_X9_mendBracket (v1 : Int) (v2 : Int) (v3 : Int) (M : Mem) : Option (Mem) :=
  if v1 = 0 then
    (f_X4_takeOut 14 v2 (w32 (v2 + 1)) M).bind fun p12 =>
    some p12
  else
    if v1 = 2 then
      (f_X7_closingOf 11 (idv v3 2) M).bind fun p35 =>
      (f_X4_setByte 14 v2 p35 M).bind fun p38 =>
      some p38
    else
      if (irm v3 2) = 0 then
        (f_X7_closingOf 11 (idv v3 2) M).bind fun p64 =>
        (f_X4_putByte 14 (w32 (v2 + 1)) p64 M).bind fun p67 =>
        some p67
      else
        (f_X7_openingOf 11 (idv v3 2) M).bind fun p85 =>
        (f_X4_putByte 14 v2 p85 M).bind fun p88 =>
        some p88
set_option maxRecDepth 20000 in
theorem ct_X9_mendBracket {G : Gl} (v1 : Int) (v2 : Int) (v3 : Int) (M : Mem) {res : Mem}  (hf : f_X9_mendBracket v1 v2 v3 M = some res) : Ct G miX9_mendBracket yX9_mendBracket 3 [aR 0, aI v1, aI v2, aI v3] M none res := by
  refine Ct.of (L := [some (aR 0), some (aI v1), some (aI v2), some (aI v3)]) mwX9_mendBracket rfl trivial nle ⟨rfl, rfl, rfl, rfl, trivial⟩ ?_
  unfold f_X9_mendBracket at hf
  refine R_iload_n dX9_mendBracket_0 rfl rfl ?_
  refine R_if_ne dX9_mendBracket_1 rfl (fun h1 => ?_) (fun h1 => ?_)
  · replace hf := inegE hf h1
    refine R_iload_n dX9_mendBracket_18 rfl rfl ?_
    refine R_iconst dX9_mendBracket_19 (v := 2) rfl ?_
    refine R_icmp_ne dX9_mendBracket_20 rfl (fun h20 => ?_) (fun h20 => ?_)
    · replace hf := inegE hf h20
      refine R_iload_n dX9_mendBracket_44 rfl rfl ?_
      refine R_iconst dX9_mendBracket_45 (v := 2) rfl ?_
      refine R_irem dX9_mendBracket_46 (by decide) rfl ?_
      refine R_if_ne dX9_mendBracket_47 rfl (fun h47 => ?_) (fun h47 => ?_)
      · replace hf := inegE hf h47
        refine R_aload_n dX9_mendBracket_73 rfl rfl ?_
        refine R_getR dX9_mendBracket_74 cl9 flX9_49 o_0 ff9_5 (fr9_5 _) o_14.1 ?_
        refine R_iload_n dX9_mendBracket_77 rfl rfl ?_
        refine R_aload_n dX9_mendBracket_78 rfl rfl ?_
        refine R_getR dX9_mendBracket_79 cl9 flX9_42 o_0 ff9_4 (fr9_4 _) o_11.1 ?_
        refine R_iload_n dX9_mendBracket_82 rfl rfl ?_
        refine R_iconst dX9_mendBracket_83 (v := 2) rfl ?_
        refine R_idiv dX9_mendBracket_84 (by decide) rfl ?_
        obtain ⟨p85, hp85, hf⟩ := bdE hf
        refine R_callV (As := [aI (idv v3 2)]) (st := [aI v2, aR 14]) dX9_mendBracket_85 (ct_X7_openingOf _ _ _ o_11 hp85) mwX7_openingOf mvX7_openingOf mlX9_458 cl7 o_11 rfl rfl ⟨nle, nle, nle, nle⟩ nle rfl ?_
        obtain ⟨p88, hp88, hf⟩ := bdE hf
        refine R_callV (As := [aI v2, aI p85]) (st := []) dX9_mendBracket_88 (ct_X4_putByte _ _ _ _ o_14 hp88) mwX4_putByte mvX4_putByte mlX9_455 cl4 o_14 rfl rfl ⟨nle, nle, nle, nle⟩ nle rfl ?_
        cases hf; exact E_vret dX9_mendBracket_91 rfl rfl rfl
      · replace hf := iposE hf h47
        refine R_aload_n dX9_mendBracket_50 rfl rfl ?_
        refine R_getR dX9_mendBracket_51 cl9 flX9_49 o_0 ff9_5 (fr9_5 _) o_14.1 ?_
        refine R_iload_n dX9_mendBracket_54 rfl rfl ?_
        refine R_iconst dX9_mendBracket_55 (v := 1) rfl ?_
        refine R_iadd dX9_mendBracket_56 rfl ?_
        refine R_aload_n dX9_mendBracket_57 rfl rfl ?_
        refine R_getR dX9_mendBracket_58 cl9 flX9_42 o_0 ff9_4 (fr9_4 _) o_11.1 ?_
        refine R_iload_n dX9_mendBracket_61 rfl rfl ?_
        refine R_iconst dX9_mendBracket_62 (v := 2) rfl ?_
        refine R_idiv dX9_mendBracket_63 (by decide) rfl ?_
        obtain ⟨p64, hp64, hf⟩ := bdE hf
        refine R_callV (As := [aI (idv v3 2)]) (st := [aI (w32 (v2 + 1)), aR 14]) dX9_mendBracket_64 (ct_X7_closingOf _ _ _ o_11 hp64) mwX7_closingOf mvX7_closingOf mlX9_452 cl7 o_11 rfl rfl ⟨nle, nle, nle, nle⟩ nle rfl ?_
        obtain ⟨p67, hp67, hf⟩ := bdE hf
        refine R_callV (As := [aI (w32 (v2 + 1)), aI p64]) (st := []) dX9_mendBracket_67 (ct_X4_putByte _ _ _ _ o_14 hp67) mwX4_putByte mvX4_putByte mlX9_455 cl4 o_14 rfl rfl ⟨nle, nle, nle, nle⟩ nle rfl ?_
        refine R_goto dX9_mendBracket_70 rfl ?_
        cases hf; exact E_vret dX9_mendBracket_91 rfl rfl rfl
    · replace hf := iposE hf h20
      refine R_aload_n dX9_mendBracket_23 rfl rfl ?_
      refine R_getR dX9_mendBracket_24 cl9 flX9_49 o_0 ff9_5 (fr9_5 _) o_14.1 ?_
      refine R_iload_n dX9_mendBracket_27 rfl rfl ?_
      refine R_aload_n dX9_mendBracket_28 rfl rfl ?_
      refine R_getR dX9_mendBracket_29 cl9 flX9_42 o_0 ff9_4 (fr9_4 _) o_11.1 ?_
      refine R_iload_n dX9_mendBracket_32 rfl rfl ?_
      refine R_iconst dX9_mendBracket_33 (v := 2) rfl ?_
      refine R_idiv dX9_mendBracket_34 (by decide) rfl ?_
      obtain ⟨p35, hp35, hf⟩ := bdE hf
      refine R_callV (As := [aI (idv v3 2)]) (st := [aI v2, aR 14]) dX9_mendBracket_35 (ct_X7_closingOf _ _ _ o_11 hp35) mwX7_closingOf mvX7_closingOf mlX9_452 cl7 o_11 rfl rfl ⟨nle, nle, nle, nle⟩ nle rfl ?_
      obtain ⟨p38, hp38, hf⟩ := bdE hf
      refine R_callV (As := [aI v2, aI p35]) (st := []) dX9_mendBracket_38 (ct_X4_setByte _ _ _ _ o_14 hp38) mwX4_setByte mvX4_setByte mlX9_465 cl4 o_14 rfl rfl ⟨nle, nle, nle, nle⟩ nle rfl ?_
      refine R_goto dX9_mendBracket_41 rfl ?_
      cases hf; exact E_vret dX9_mendBracket_91 rfl rfl rfl
  · replace hf := iposE hf h1
    refine R_aload_n dX9_mendBracket_4 rfl rfl ?_
    refine R_getR dX9_mendBracket_5 cl9 flX9_49 o_0 ff9_5 (fr9_5 _) o_14.1 ?_
    refine R_iload_n dX9_mendBracket_8 rfl rfl ?_
    refine R_iload_n dX9_mendBracket_9 rfl rfl ?_
    refine R_iconst dX9_mendBracket_10 (v := 1) rfl ?_
    refine R_iadd dX9_mendBracket_11 rfl ?_
    obtain ⟨p12, hp12, hf⟩ := bdE hf
    refine R_callV (As := [aI v2, aI (w32 (v2 + 1))]) (st := []) dX9_mendBracket_12 (ct_X4_takeOut _ _ _ _ o_14 hp12) mwX4_takeOut mvX4_takeOut mlX9_340 cl4 o_14 rfl rfl ⟨nle, nle, nle, nle⟩ nle rfl ?_
    refine R_goto dX9_mendBracket_15 rfl ?_
    cases hf; exact E_vret dX9_mendBracket_91 rfl rfl rfl
/-! BracketHall.mendText()Z -/
def f_X9_mendText_L29 : Nat → Int → Mem → Option (Int × Mem)
  | 0, _, _ => none
  | n + 1, v1, M =>
    if v1 < 0 then
      (f_X9_textTouched M).bind fun p68 =>
      some (1, p68)
    else
      (f_X2_actOf v1 M).bind fun p39 =>
      (f_X2_placeOf v1 M).bind fun p47 =>
      (f_X2_roleOf v1 M).bind fun p55 =>
      (f_X9_mendBracket p39 p47 p55 M).bind fun p58 =>
      lt1 (w32 (v1 + (-1))) fun v1_61 =>
      f_X9_mendText_L29 n v1_61 p58
def f_X9_mendText  (M : Mem) : Option (Int × Mem) :=
  (f_X2_growth M).bind fun p8 =>
  (f_X4_hasRoom 14 p8 M).bind fun p11 =>
  if p11 = 0 then
    some (0, M)
  else
    lt1 (w32 ((M 66 11) - 1)) fun v1_28 =>
    f_X9_mendText_L29 4096 v1_28 M
set_option maxRecDepth 20000 in
theorem rn_X9_mendText_L29 {G : Gl} : ∀ (n : Nat) (v1 : Int) (M : Mem) (res : Int × Mem),  f_X9_mendText_L29 n v1 M = some res → Run G false (rmD 4 0 0) miX9_mendText (ZP G (some (aI res.1)) res.2) 0 0 29 [some (aR 0), some (aI v1)] [] M := by
  intro n
  induction n with
  | zero => intro v1 M res  hf; cases hf
  | succ n ih =>
    intro v1 M res  hf
    rw [f_X9_mendText_L29] at hf
    refine R_iload_n dX9_mendText_29 rfl rfl ?_
    refine R_if_lt dX9_mendText_30 rfl (fun h30 => ?_) (fun h30 => ?_)
    · replace hf := iposE hf h30
      refine R_aload_n dX9_mendText_67 rfl rfl ?_
      obtain ⟨p68, hp68, hf⟩ := bdE hf
      refine R_callV (As := []) (st := []) dX9_mendText_68 (ct_X9_textTouched  _  hp68) mwX9_textTouched mvX9_textTouched mlX9_378 cl9 o_0 rfl rfl ⟨nle, nle, nle, nle⟩ nle rfl ?_
      refine R_iconst dX9_mendText_71 (v := 1) rfl ?_
      cases hf; exact E_zret dX9_mendText_72 rfl (by decide) rfl rfl
    · replace hf := inegE hf h30
      refine R_aload_n dX9_mendText_33 rfl rfl ?_
      refine R_aload_n dX9_mendText_34 rfl rfl ?_
      refine R_getR dX9_mendText_35 cl9 flX9_84 o_0 ff9_12 (fr9_12 _) o_66.1 ?_
      refine R_iload_n dX9_mendText_38 rfl rfl ?_
      obtain ⟨p39, hp39, hf⟩ := bdE hf
      refine R_callV (As := [aI v1]) (st := [aR 0]) dX9_mendText_39 (ct_X2_actOf _ _  hp39) mwX2_actOf mvX2_actOf mlX9_289 cl2 o_66 rfl rfl ⟨nle, nle, nle, nle⟩ nle rfl ?_
      refine R_aload_n dX9_mendText_42 rfl rfl ?_
      refine R_getR dX9_mendText_43 cl9 flX9_84 o_0 ff9_12 (fr9_12 _) o_66.1 ?_
      refine R_iload_n dX9_mendText_46 rfl rfl ?_
      obtain ⟨p47, hp47, hf⟩ := bdE hf
      refine R_callV (As := [aI v1]) (st := [aI p39, aR 0]) dX9_mendText_47 (ct_X2_placeOf _ _  hp47) mwX2_placeOf mvX2_placeOf mlX9_292 cl2 o_66 rfl rfl ⟨nle, nle, nle, nle⟩ nle rfl ?_
      refine R_aload_n dX9_mendText_50 rfl rfl ?_
      refine R_getR dX9_mendText_51 cl9 flX9_84 o_0 ff9_12 (fr9_12 _) o_66.1 ?_
      refine R_iload_n dX9_mendText_54 rfl rfl ?_
      obtain ⟨p55, hp55, hf⟩ := bdE hf
      refine R_callV (As := [aI v1]) (st := [aI p47, aI p39, aR 0]) dX9_mendText_55 (ct_X2_roleOf _ _  hp55) mwX2_roleOf mvX2_roleOf mlX9_295 cl2 o_66 rfl rfl ⟨nle, nle, nle, nle⟩ nle rfl ?_
      obtain ⟨p58, hp58, hf⟩ := bdE hf
      refine R_callV (As := [aI p39, aI p47, aI p55]) (st := []) dX9_mendText_58 (ct_X9_mendBracket _ _ _ _  hp58) mwX9_mendBracket mvX9_mendBracket mlX9_462 cl9 o_0 rfl rfl ⟨nle, nle, nle, nle⟩ nle rfl ?_
      obtain ⟨v1_61, hv1_61, hf⟩ := ltE hf
      refine R_iinc dX9_mendText_61 rfl rfl hv1_61 (by decide) rfl ?_
      refine R_goto dX9_mendText_64 rfl ?_
      exact R_subk (ih _ _ _  hf) ⟨rfl, rfl, trivial⟩
set_option maxRecDepth 20000 in
theorem ct_X9_mendText {G : Gl}  (M : Mem) {res : Int × Mem}  (hf : f_X9_mendText  M = some res) : Ct G miX9_mendText yX9_mendText 4 [aR 0] M (some (aI res.1)) res.2 := by
  refine Ct.of (L := [some (aR 0), none]) mwX9_mendText rfl trivial nle ⟨rfl, trivial⟩ ?_
  unfold f_X9_mendText at hf
  refine R_aload_n dX9_mendText_0 rfl rfl ?_
  refine R_getR dX9_mendText_1 cl9 flX9_49 o_0 ff9_5 (fr9_5 _) o_14.1 ?_
  refine R_aload_n dX9_mendText_4 rfl rfl ?_
  refine R_getR dX9_mendText_5 cl9 flX9_84 o_0 ff9_12 (fr9_12 _) o_66.1 ?_
  obtain ⟨p8, hp8, hf⟩ := bdE hf
  refine R_callV (As := []) (st := [aR 14]) dX9_mendText_8 (ct_X2_growth  _  hp8) mwX2_growth mvX2_growth mlX9_459 cl2 o_66 rfl rfl ⟨nle, nle, nle, nle⟩ nle rfl ?_
  obtain ⟨p11, hp11, hf⟩ := bdE hf
  refine R_callV (As := [aI p8]) (st := []) dX9_mendText_11 (ct_X4_hasRoom _ _ _ o_14 hp11) mwX4_hasRoom mvX4_hasRoom mlX9_343 cl4 o_14 rfl rfl ⟨nle, nle, nle, nle⟩ nle rfl ?_
  refine R_if_ne dX9_mendText_14 rfl (fun h14 => ?_) (fun h14 => ?_)
  · replace hf := inegE hf h14
    refine R_aload_n dX9_mendText_19 rfl rfl ?_
    refine R_getR dX9_mendText_20 cl9 flX9_84 o_0 ff9_12 (fr9_12 _) o_66.1 ?_
    refine R_getI (ki := 11) dX9_mendText_23 cl2 flX9_281 o_66 ff2_11 rfl rfl ?_
    refine R_iconst dX9_mendText_26 (v := 1) rfl ?_
    refine R_isub dX9_mendText_27 rfl ?_
    obtain ⟨v1_28, hv1_28, hf⟩ := ltE hf
    refine R_istore_n dX9_mendText_28 rfl (by decide) hv1_28 rfl ?_
    exact R_subk (rn_X9_mendText_L29 4096 _ _ _  hf) ⟨rfl, rfl, trivial⟩
  · replace hf := iposE hf h14
    refine R_iconst dX9_mendText_17 (v := 0) rfl ?_
    cases hf; exact E_zret dX9_mendText_18 rfl (by decide) rfl rfl
/-! BracketHall.repair()I -/
def f_X9_repair  (M : Mem) : Option (Int × Mem) :=
  (f_X9_mendNow M).bind fun p1 =>
  lt1 (p1 66 12) fun v1_7 =>
  (f_X4_copyFrom 17 14 p1).bind fun p16 =>
  (f_X9_mendText p16).bind fun p20 =>
  if p20.1 = 0 then
    some ((-2), p20.2)
  else
    (f_X0_keep 17 p20.2).bind fun p37 =>
    some (v1_7, p37)
set_option maxRecDepth 20000 in
theorem ct_X9_repair {G : Gl}  (M : Mem) {res : Int × Mem}  (hf : f_X9_repair  M = some res) : Ct G miX9_repair yX9_repair 5 [aR 0] M (some (aI res.1)) res.2 := by
  refine Ct.of (L := [some (aR 0), none]) mwX9_repair rfl trivial nle ⟨rfl, trivial⟩ ?_
  unfold f_X9_repair at hf
  refine R_aload_n dX9_repair_0 rfl rfl ?_
  obtain ⟨p1, hp1, hf⟩ := bdE hf
  refine R_callV (As := []) (st := []) dX9_repair_1 (ct_X9_mendNow  _  hp1) mwX9_mendNow mvX9_mendNow mlX9_274 cl9 o_0 rfl rfl ⟨nle, nle, nle, nle⟩ nle rfl ?_
  refine R_getI (ki := 12) dX9_repair_4 cl2 flX9_278 o_66 ff2_12 rfl rfl ?_
  obtain ⟨v1_7, hv1_7, hf⟩ := ltE hf
  refine R_istore_n dX9_repair_7 rfl (by decide) hv1_7 rfl ?_
  refine R_aload_n dX9_repair_8 rfl rfl ?_
  refine R_getR dX9_repair_9 cl9 flX9_53 o_0 ff9_6 (fr9_6 _) o_17.1 ?_
  refine R_aload_n dX9_repair_12 rfl rfl ?_
  refine R_getR dX9_repair_13 cl9 flX9_49 o_0 ff9_5 (fr9_5 _) o_14.1 ?_
  obtain ⟨p16, hp16, hf⟩ := bdE hf
  refine R_callV (As := [aR 14]) (st := []) dX9_repair_16 (ct_X4_copyFrom _ _ _ o_17 o_14 hp16) mwX4_copyFrom mvX4_copyFrom mlX9_350 cl4 o_17 rfl rfl ⟨nle, nle, nle, nle⟩ nle rfl ?_
  refine R_aload_n dX9_repair_19 rfl rfl ?_
  obtain ⟨p20, hp20, hf⟩ := bdE hf
  refine R_callV (As := []) (st := []) dX9_repair_20 (ct_X9_mendText  _  hp20) mwX9_mendText mvX9_mendText mlX9_353 cl9 o_0 rfl rfl ⟨nle, nle, nle, nle⟩ nle rfl ?_
  refine R_if_ne dX9_repair_23 rfl (fun h23 => ?_) (fun h23 => ?_)
  · replace hf := inegE hf h23
    refine R_aload_n dX9_repair_29 rfl rfl ?_
    refine R_getR dX9_repair_30 cl9 flX9_59 o_0 ff9_7 (fr9_7 _) o_20.1 ?_
    refine R_aload_n dX9_repair_33 rfl rfl ?_
    refine R_getR dX9_repair_34 cl9 flX9_53 o_0 ff9_6 (fr9_6 _) o_17.1 ?_
    obtain ⟨p37, hp37, hf⟩ := bdE hf
    refine R_callV (As := [aR 17]) (st := []) dX9_repair_37 (ct_X0_keep _ _ o_17 hp37) mwX0_keep mvX0_keep mlX9_357 cl0 o_20 rfl rfl ⟨nle, nle, nle, nle⟩ nle rfl ?_
    refine R_iload_n dX9_repair_40 rfl rfl ?_
    cases hf; exact E_iret dX9_repair_41 rfl rfl rfl
  · replace hf := iposE hf h23
    refine R_bipush dX9_repair_26 (v := (-2)) rfl ?_
    cases hf; exact E_iret dX9_repair_28 rfl rfl rfl
/-! BracketHall.mark(I)I -/
def f_X9_mark (v1 : Int) (M : Mem) : Option (Nat × Int × Mem) :=
  (f_X9_askPlace v1 M).bind fun p2 => if p2.1 = 0 then
  if (p2.2.2 14 3) < 8 then
    (f_X0_keep 14 p2.2.2).bind fun p28 =>
    (f_X4_addMark 14 v1 p28).bind fun p36 =>
    some (0, w32 ((p36 14 3) - 1), p36)
  else
    some (0, (-2), p2.2.2)
  else some (p2.1, 0, p2.2.2)
set_option maxRecDepth 20000 in
theorem ct_X9_mark {G : Gl} (v1 : Int) (M : Mem) {res : Nat × Int × Mem}  (hf : f_X9_mark v1 M = some res) : CtX G miX9_mark yX9_mark 7 1 6 [aR 0, aI v1] M res.1 (some (aI res.2.1)) res.2.2 := by
  refine CtX.of (L := [some (aR 0), some (aI v1)]) mwX9_mark rfl trivial nle ⟨rfl, rfl, trivial⟩ ?_
  unfold f_X9_mark at hf
  refine R_aload_n dX9_mark_0 rfl rfl ?_
  refine R_iload_n dX9_mark_1 rfl rfl ?_
  obtain ⟨p2, hp2, hf⟩ := bdE hf
  refine R_callVX (As := [aI v1]) (st := []) dX9_mark_2 (ct_X9_askPlace _ _  hp2) mwX9_askPlace mvX9_askPlace wd1136 cl9 o_0 rfl rfl ⟨nle, nle, nle, nle⟩ nle rfl rfl nle nle (fun h2 => ?_) (fun h2 => ?_)
  · replace hf := inegE hf h2; cases hf; exact ⟨rfl, rfl⟩
  replace hf := iposE hf h2
  refine R_aload_n dX9_mark_5 rfl rfl ?_
  refine R_getR dX9_mark_6 cl9 flX9_49 o_0 ff9_5 (fr9_5 _) o_14.1 ?_
  refine R_getI (ki := 3) dX9_mark_9 cl4 flX9_190 o_14 ff4_3 rfl rfl ?_
  refine R_bipush dX9_mark_12 (v := 8) rfl ?_
  refine R_icmp_lt dX9_mark_14 rfl (fun h14 => ?_) (fun h14 => ?_)
  · replace hf := iposE hf h14
    refine R_aload_n dX9_mark_20 rfl rfl ?_
    refine R_getR dX9_mark_21 cl9 flX9_59 o_0 ff9_7 (fr9_7 _) o_20.1 ?_
    refine R_aload_n dX9_mark_24 rfl rfl ?_
    refine R_getR dX9_mark_25 cl9 flX9_49 o_0 ff9_5 (fr9_5 _) o_14.1 ?_
    obtain ⟨p28, hp28, hf⟩ := bdE hf
    refine R_callV (As := [aR 14]) (st := []) dX9_mark_28 (ct_X0_keep _ _ o_14 hp28) mwX0_keep mvX0_keep mlX9_357 cl0 o_20 rfl rfl ⟨nle, nle, nle, nle⟩ nle rfl ?_
    refine R_aload_n dX9_mark_31 rfl rfl ?_
    refine R_getR dX9_mark_32 cl9 flX9_49 o_0 ff9_5 (fr9_5 _) o_14.1 ?_
    refine R_iload_n dX9_mark_35 rfl rfl ?_
    obtain ⟨p36, hp36, hf⟩ := bdE hf
    refine R_callV (As := [aI v1]) (st := []) dX9_mark_36 (ct_X4_addMark _ _ _ o_14 hp36) mwX4_addMark mvX4_addMark mlX9_360 cl4 o_14 rfl rfl ⟨nle, nle, nle, nle⟩ nle rfl ?_
    refine R_aload_n dX9_mark_39 rfl rfl ?_
    refine R_getR dX9_mark_40 cl9 flX9_49 o_0 ff9_5 (fr9_5 _) o_14.1 ?_
    refine R_getI (ki := 3) dX9_mark_43 cl4 flX9_190 o_14 ff4_3 rfl rfl ?_
    refine R_iconst dX9_mark_46 (v := 1) rfl ?_
    refine R_isub dX9_mark_47 rfl ?_
    cases hf; exact R_widen nle nle (EX_iret dX9_mark_48 rfl rfl rfl rfl)
  · replace hf := inegE hf h14
    refine R_bipush dX9_mark_17 (v := (-2)) rfl ?_
    cases hf; exact R_widen nle nle (EX_iret dX9_mark_19 rfl rfl rfl rfl)
/-! BracketHall.unmark(I)I -/
def f_X9_unmark (v1 : Int) (M : Mem) : Option (Nat × Int × Mem) :=
  (f_X9_askMark v1 M).bind fun p2 => if p2.1 = 0 then
  (f_X4_placeOfMark 14 v1 p2.2.2).bind fun p10 =>
  (f_X0_keep 14 p2.2.2).bind fun p22 =>
  (f_X4_removeMark 14 v1 p22).bind fun p30 =>
  some (0, p10, p30)
  else some (p2.1, 0, p2.2.2)
set_option maxRecDepth 20000 in
theorem ct_X9_unmark {G : Gl} (v1 : Int) (M : Mem) {res : Nat × Int × Mem}  (hf : f_X9_unmark v1 M = some res) : CtX G miX9_unmark yX9_unmark 7 1 6 [aR 0, aI v1] M res.1 (some (aI res.2.1)) res.2.2 := by
  refine CtX.of (L := [some (aR 0), some (aI v1), none]) mwX9_unmark rfl trivial nle ⟨rfl, rfl, trivial⟩ ?_
  unfold f_X9_unmark at hf
  refine R_aload_n dX9_unmark_0 rfl rfl ?_
  refine R_iload_n dX9_unmark_1 rfl rfl ?_
  obtain ⟨p2, hp2, hf⟩ := bdE hf
  refine R_callVX (As := [aI v1]) (st := []) dX9_unmark_2 (ct_X9_askMark _ _  hp2) mwX9_askMark mvX9_askMark wd1120 cl9 o_0 rfl rfl ⟨nle, nle, nle, nle⟩ nle rfl rfl nle nle (fun h2 => ?_) (fun h2 => ?_)
  · replace hf := inegE hf h2; cases hf; exact ⟨rfl, rfl⟩
  replace hf := iposE hf h2
  refine R_aload_n dX9_unmark_5 rfl rfl ?_
  refine R_getR dX9_unmark_6 cl9 flX9_49 o_0 ff9_5 (fr9_5 _) o_14.1 ?_
  refine R_iload_n dX9_unmark_9 rfl rfl ?_
  obtain ⟨p10, hp10, hf⟩ := bdE hf
  refine R_callV (As := [aI v1]) (st := []) dX9_unmark_10 (ct_X4_placeOfMark _ _ _ o_14 hp10) mwX4_placeOfMark mvX4_placeOfMark mlX9_324 cl4 o_14 rfl rfl ⟨nle, nle, nle, nle⟩ nle rfl ?_
  refine R_istore_n dX9_unmark_13 rfl (by decide) rfl rfl ?_
  refine R_aload_n dX9_unmark_14 rfl rfl ?_
  refine R_getR dX9_unmark_15 cl9 flX9_59 o_0 ff9_7 (fr9_7 _) o_20.1 ?_
  refine R_aload_n dX9_unmark_18 rfl rfl ?_
  refine R_getR dX9_unmark_19 cl9 flX9_49 o_0 ff9_5 (fr9_5 _) o_14.1 ?_
  obtain ⟨p22, hp22, hf⟩ := bdE hf
  refine R_callV (As := [aR 14]) (st := []) dX9_unmark_22 (ct_X0_keep _ _ o_14 hp22) mwX0_keep mvX0_keep mlX9_357 cl0 o_20 rfl rfl ⟨nle, nle, nle, nle⟩ nle rfl ?_
  refine R_aload_n dX9_unmark_25 rfl rfl ?_
  refine R_getR dX9_unmark_26 cl9 flX9_49 o_0 ff9_5 (fr9_5 _) o_14.1 ?_
  refine R_iload_n dX9_unmark_29 rfl rfl ?_
  obtain ⟨p30, hp30, hf⟩ := bdE hf
  refine R_callV (As := [aI v1]) (st := []) dX9_unmark_30 (ct_X4_removeMark _ _ _ o_14 hp30) mwX4_removeMark mvX4_removeMark mlX9_363 cl4 o_14 rfl rfl ⟨nle, nle, nle, nle⟩ nle rfl ?_
  refine R_iload_n dX9_unmark_33 rfl rfl ?_
  cases hf; exact R_widen nle nle (EX_iret dX9_unmark_34 rfl rfl rfl rfl)
/-! BracketHall.setColours(I)I -/
def f_X9_setColours (v1 : Int) (M : Mem) : Option (Nat × Int × Mem) :=
  if v1 < 1 then
    some (2, 0, M)
  else
    if v1 ≤ 9 then
      lt1 (M 14 4) fun v2_29 =>
      (f_X0_keep 14 M).bind fun p38 =>
      lt1 (up p38 14 4 v1) fun M46 =>
      some (0, v2_29, M46)
    else
      some (2, 0, M)
set_option maxRecDepth 20000 in
theorem ct_X9_setColours {G : Gl} (v1 : Int) (M : Mem) {res : Nat × Int × Mem}  (hf : f_X9_setColours v1 M = some res) : CtX G miX9_setColours yX9_setColours 6 1 6 [aR 0, aI v1] M res.1 (some (aI res.2.1)) res.2.2 := by
  refine CtX.of (L := [some (aR 0), some (aI v1), none]) mwX9_setColours rfl trivial nle ⟨rfl, rfl, trivial⟩ ?_
  unfold f_X9_setColours at hf
  refine R_iload_n dX9_setColours_0 rfl rfl ?_
  refine R_iconst dX9_setColours_1 (v := 1) rfl ?_
  refine R_icmp_lt dX9_setColours_2 rfl (fun h2 => ?_) (fun h2 => ?_)
  · replace hf := iposE hf h2
    cases hf; exact R_throwW (j := 18) (x := 2) (cls := "java/lang/IllegalArgumentException") dX9_setColours_11 dX9_setColours_14 dX9_setColours_15 dX9_setColours_18 dX9_setColours_21 wd714 xwX9_206 xi_2 rfl rfl (by decide +kernel) (by decide) (by decide) (by decide) ⟨nle, nle⟩ ⟨nle, nle⟩ rfl rfl rfl
  · replace hf := inegE hf h2
    refine R_iload_n dX9_setColours_5 rfl rfl ?_
    refine R_bipush dX9_setColours_6 (v := 9) rfl ?_
    refine R_icmp_le dX9_setColours_8 rfl (fun h8 => ?_) (fun h8 => ?_)
    · replace hf := iposE hf h8
      refine R_aload_n dX9_setColours_22 rfl rfl ?_
      refine R_getR dX9_setColours_23 cl9 flX9_49 o_0 ff9_5 (fr9_5 _) o_14.1 ?_
      refine R_getI (ki := 4) dX9_setColours_26 cl4 flX9_141 o_14 ff4_4 rfl rfl ?_
      obtain ⟨v2_29, hv2_29, hf⟩ := ltE hf
      refine R_istore_n dX9_setColours_29 rfl (by decide) hv2_29 rfl ?_
      refine R_aload_n dX9_setColours_30 rfl rfl ?_
      refine R_getR dX9_setColours_31 cl9 flX9_59 o_0 ff9_7 (fr9_7 _) o_20.1 ?_
      refine R_aload_n dX9_setColours_34 rfl rfl ?_
      refine R_getR dX9_setColours_35 cl9 flX9_49 o_0 ff9_5 (fr9_5 _) o_14.1 ?_
      obtain ⟨p38, hp38, hf⟩ := bdE hf
      refine R_callV (As := [aR 14]) (st := []) dX9_setColours_38 (ct_X0_keep _ _ o_14 hp38) mwX0_keep mvX0_keep mlX9_357 cl0 o_20 rfl rfl ⟨nle, nle, nle, nle⟩ nle rfl ?_
      refine R_aload_n dX9_setColours_41 rfl rfl ?_
      refine R_getR dX9_setColours_42 cl9 flX9_49 o_0 ff9_5 (fr9_5 _) o_14.1 ?_
      refine R_iload_n dX9_setColours_45 rfl rfl ?_
      obtain ⟨M46, hM46, hf⟩ := ltE hf
      refine R_put (ki := 4) dX9_setColours_46 cl4 flX9_141 o_14 (Or.inl fz4_4) rfl hM46 ?_
      refine R_iload_n dX9_setColours_49 rfl rfl ?_
      cases hf; exact R_widen nle nle (EX_iret dX9_setColours_50 rfl rfl rfl rfl)
    · replace hf := inegE hf h8
      cases hf; exact R_throwW (j := 18) (x := 2) (cls := "java/lang/IllegalArgumentException") dX9_setColours_11 dX9_setColours_14 dX9_setColours_15 dX9_setColours_18 dX9_setColours_21 wd714 xwX9_206 xi_2 rfl rfl (by decide +kernel) (by decide) (by decide) (by decide) ⟨nle, nle⟩ ⟨nle, nle⟩ rfl rfl rfl
/-! BracketHall.isCost(I)Z -/
def f_X9_isCost (v0 : Int) (M : Mem) : Option (Int) :=
  if v0 < 1 then
    some 0
  else
    if 99 < v0 then
      some 0
    else
      some 1
set_option maxRecDepth 20000 in
theorem ct_X9_isCost {G : Gl} (v0 : Int) (M : Mem) {res : Int}  (hf : f_X9_isCost v0 M = some res) : Ct G miX9_isCost yX9_isCost 0 [aI v0] M (some (aI res)) M := by
  refine Ct.of (L := [some (aI v0)]) mwX9_isCost rfl trivial nle ⟨rfl, trivial⟩ ?_
  unfold f_X9_isCost at hf
  refine R_iload_n dX9_isCost_0 rfl rfl ?_
  refine R_iconst dX9_isCost_1 (v := 1) rfl ?_
  refine R_icmp_lt dX9_isCost_2 rfl (fun h2 => ?_) (fun h2 => ?_)
  · replace hf := iposE hf h2
    refine R_iconst dX9_isCost_15 (v := 0) rfl ?_
    cases hf; exact E_zret dX9_isCost_16 rfl (by decide) rfl rfl
  · replace hf := inegE hf h2
    refine R_iload_n dX9_isCost_5 rfl rfl ?_
    refine R_bipush dX9_isCost_6 (v := 99) rfl ?_
    refine R_icmp_gt dX9_isCost_8 rfl (fun h8 => ?_) (fun h8 => ?_)
    · replace hf := iposE hf h8
      refine R_iconst dX9_isCost_15 (v := 0) rfl ?_
      cases hf; exact E_zret dX9_isCost_16 rfl (by decide) rfl rfl
    · replace hf := inegE hf h8
      refine R_iconst dX9_isCost_11 (v := 1) rfl ?_
      refine R_goto dX9_isCost_12 rfl ?_
      cases hf; exact E_zret dX9_isCost_16 rfl (by decide) rfl rfl
/-! BracketHall.setCosts(III)I -/
def f_X9_setCosts (v1 : Int) (v2 : Int) (v3 : Int) (M : Mem) : Option (Nat × Int × Mem) :=
  (f_X9_isCost v1 M).bind fun p1 =>
  if p1 = 0 then
    some (2, 0, M)
  else
    (f_X9_isCost v2 M).bind fun p8 =>
    if p8 = 0 then
      some (2, 0, M)
    else
      (f_X9_isCost v3 M).bind fun p15 =>
      if p15 = 0 then
        some (2, 0, M)
      else
        (f_X9_beginChange M).bind fun p33 =>
        (f_X4_setPrices 14 v1 v2 v3 p33).bind fun p43 =>
        (f_X9_mendNow p43).bind fun p47 =>
        some (0, p47 66 12, p47)
set_option maxRecDepth 20000 in
theorem ct_X9_setCosts {G : Gl} (v1 : Int) (v2 : Int) (v3 : Int) (M : Mem) {res : Nat × Int × Mem}  (hf : f_X9_setCosts v1 v2 v3 M = some res) : CtX G miX9_setCosts yX9_setCosts 6 1 6 [aR 0, aI v1, aI v2, aI v3] M res.1 (some (aI res.2.1)) res.2.2 := by
  refine CtX.of (L := [some (aR 0), some (aI v1), some (aI v2), some (aI v3)]) mwX9_setCosts rfl trivial nle ⟨rfl, rfl, rfl, rfl, trivial⟩ ?_
  unfold f_X9_setCosts at hf
  refine R_iload_n dX9_setCosts_0 rfl rfl ?_
  obtain ⟨p1, hp1, hf⟩ := bdE hf
  refine R_callS (As := [aI v1]) (st := []) dX9_setCosts_1 (ct_X9_isCost _ _  hp1) mwX9_isCost msX9_isCost mlX9_368 rfl ⟨nle, nle, nle, nle⟩ nle rfl ?_
  refine R_if_eq dX9_setCosts_4 rfl (fun h4 => ?_) (fun h4 => ?_)
  · replace hf := iposE hf h4
    cases hf; exact R_throwW (j := 19) (x := 2) (cls := "java/lang/IllegalArgumentException") dX9_setCosts_21 dX9_setCosts_24 dX9_setCosts_25 dX9_setCosts_28 dX9_setCosts_31 wd714 xwX9_206 xi_2 rfl rfl (by decide +kernel) (by decide) (by decide) (by decide) ⟨nle, nle⟩ ⟨nle, nle⟩ rfl rfl rfl
  · replace hf := inegE hf h4
    refine R_iload_n dX9_setCosts_7 rfl rfl ?_
    obtain ⟨p8, hp8, hf⟩ := bdE hf
    refine R_callS (As := [aI v2]) (st := []) dX9_setCosts_8 (ct_X9_isCost _ _  hp8) mwX9_isCost msX9_isCost mlX9_368 rfl ⟨nle, nle, nle, nle⟩ nle rfl ?_
    refine R_if_eq dX9_setCosts_11 rfl (fun h11 => ?_) (fun h11 => ?_)
    · replace hf := iposE hf h11
      cases hf; exact R_throwW (j := 19) (x := 2) (cls := "java/lang/IllegalArgumentException") dX9_setCosts_21 dX9_setCosts_24 dX9_setCosts_25 dX9_setCosts_28 dX9_setCosts_31 wd714 xwX9_206 xi_2 rfl rfl (by decide +kernel) (by decide) (by decide) (by decide) ⟨nle, nle⟩ ⟨nle, nle⟩ rfl rfl rfl
    · replace hf := inegE hf h11
      refine R_iload_n dX9_setCosts_14 rfl rfl ?_
      obtain ⟨p15, hp15, hf⟩ := bdE hf
      refine R_callS (As := [aI v3]) (st := []) dX9_setCosts_15 (ct_X9_isCost _ _  hp15) mwX9_isCost msX9_isCost mlX9_368 rfl ⟨nle, nle, nle, nle⟩ nle rfl ?_
      refine R_if_ne dX9_setCosts_18 rfl (fun h18 => ?_) (fun h18 => ?_)
      · replace hf := inegE hf h18
        refine R_aload_n dX9_setCosts_32 rfl rfl ?_
        obtain ⟨p33, hp33, hf⟩ := bdE hf
        refine R_callV (As := []) (st := []) dX9_setCosts_33 (ct_X9_beginChange  _  hp33) mwX9_beginChange mvX9_beginChange mlX9_333 cl9 o_0 rfl rfl ⟨nle, nle, nle, nle⟩ nle rfl ?_
        refine R_aload_n dX9_setCosts_36 rfl rfl ?_
        refine R_getR dX9_setCosts_37 cl9 flX9_49 o_0 ff9_5 (fr9_5 _) o_14.1 ?_
        refine R_iload_n dX9_setCosts_40 rfl rfl ?_
        refine R_iload_n dX9_setCosts_41 rfl rfl ?_
        refine R_iload_n dX9_setCosts_42 rfl rfl ?_
        obtain ⟨p43, hp43, hf⟩ := bdE hf
        refine R_callV (As := [aI v1, aI v2, aI v3]) (st := []) dX9_setCosts_43 (ct_X4_setPrices _ _ _ _ _ o_14 hp43) mwX4_setPrices mvX4_setPrices mlX9_151 cl4 o_14 rfl rfl ⟨nle, nle, nle, nle⟩ nle rfl ?_
        refine R_aload_n dX9_setCosts_46 rfl rfl ?_
        obtain ⟨p47, hp47, hf⟩ := bdE hf
        refine R_callV (As := []) (st := []) dX9_setCosts_47 (ct_X9_mendNow  _  hp47) mwX9_mendNow mvX9_mendNow mlX9_274 cl9 o_0 rfl rfl ⟨nle, nle, nle, nle⟩ nle rfl ?_
        refine R_getI (ki := 12) dX9_setCosts_50 cl2 flX9_278 o_66 ff2_12 rfl rfl ?_
        cases hf; exact R_widen nle nle (EX_iret dX9_setCosts_53 rfl rfl rfl rfl)
      · replace hf := iposE hf h18
        cases hf; exact R_throwW (j := 19) (x := 2) (cls := "java/lang/IllegalArgumentException") dX9_setCosts_21 dX9_setCosts_24 dX9_setCosts_25 dX9_setCosts_28 dX9_setCosts_31 wd714 xwX9_206 xi_2 rfl rfl (by decide +kernel) (by decide) (by decide) (by decide) ⟨nle, nle⟩ ⟨nle, nle⟩ rfl rfl rfl
/-! BracketHall.followErase(II)Z -/
def f_X9_followErase (v1 : Int) (v2 : Int) (M : Mem) : Option (Int × Mem) :=
  (f_X4_hasRange 14 v1 v2 M).bind fun p6 =>
  if p6 = 0 then
    some (0, M)
  else
    (f_X4_takeOut 14 v1 v2 M).bind fun p20 =>
    (f_X9_textTouched p20).bind fun p24 =>
    some (1, p24)
set_option maxRecDepth 20000 in
theorem ct_X9_followErase {G : Gl} (v1 : Int) (v2 : Int) (M : Mem) {res : Int × Mem}  (hf : f_X9_followErase v1 v2 M = some res) : Ct G miX9_followErase yX9_followErase 2 [aR 0, aI v1, aI v2] M (some (aI res.1)) res.2 := by
  refine Ct.of (L := [some (aR 0), some (aI v1), some (aI v2)]) mwX9_followErase rfl trivial nle ⟨rfl, rfl, rfl, trivial⟩ ?_
  unfold f_X9_followErase at hf
  refine R_aload_n dX9_followErase_0 rfl rfl ?_
  refine R_getR dX9_followErase_1 cl9 flX9_49 o_0 ff9_5 (fr9_5 _) o_14.1 ?_
  refine R_iload_n dX9_followErase_4 rfl rfl ?_
  refine R_iload_n dX9_followErase_5 rfl rfl ?_
  obtain ⟨p6, hp6, hf⟩ := bdE hf
  refine R_callV (As := [aI v1, aI v2]) (st := []) dX9_followErase_6 (ct_X4_hasRange _ _ _ _ o_14 hp6) mwX4_hasRange mvX4_hasRange mlX9_407 cl4 o_14 rfl rfl ⟨nle, nle, nle, nle⟩ nle rfl ?_
  refine R_if_ne dX9_followErase_9 rfl (fun h9 => ?_) (fun h9 => ?_)
  · replace hf := inegE hf h9
    refine R_aload_n dX9_followErase_14 rfl rfl ?_
    refine R_getR dX9_followErase_15 cl9 flX9_49 o_0 ff9_5 (fr9_5 _) o_14.1 ?_
    refine R_iload_n dX9_followErase_18 rfl rfl ?_
    refine R_iload_n dX9_followErase_19 rfl rfl ?_
    obtain ⟨p20, hp20, hf⟩ := bdE hf
    refine R_callV (As := [aI v1, aI v2]) (st := []) dX9_followErase_20 (ct_X4_takeOut _ _ _ _ o_14 hp20) mwX4_takeOut mvX4_takeOut mlX9_340 cl4 o_14 rfl rfl ⟨nle, nle, nle, nle⟩ nle rfl ?_
    refine R_aload_n dX9_followErase_23 rfl rfl ?_
    obtain ⟨p24, hp24, hf⟩ := bdE hf
    refine R_callV (As := []) (st := []) dX9_followErase_24 (ct_X9_textTouched  _  hp24) mwX9_textTouched mvX9_textTouched mlX9_378 cl9 o_0 rfl rfl ⟨nle, nle, nle, nle⟩ nle rfl ?_
    refine R_iconst dX9_followErase_27 (v := 1) rfl ?_
    cases hf; exact E_zret dX9_followErase_28 rfl (by decide) rfl rfl
  · replace hf := iposE hf h9
    refine R_iconst dX9_followErase_12 (v := 0) rfl ?_
    cases hf; exact E_zret dX9_followErase_13 rfl (by decide) rfl rfl
