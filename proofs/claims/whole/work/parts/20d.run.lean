/-! BracketHall$Reading.isClosing(I)Z -/
def f_X5_isClosing (o0 : Nat) (v1 : Int) (M : Mem) : Option (Int) :=
  (f_X5_partnerOf o0 v1 M).bind fun p2 =>
  if p2 = (-1) then
    some 0
  else
    (f_X5_partnerOf o0 v1 M).bind fun p11 =>
    if v1 ≤ p11 then
      some 0
    else
      some 1
set_option maxRecDepth 20000 in
theorem ct_X5_isClosing {G : Gl} (o0 : Nat) (v1 : Int) (M : Mem) {res : Int} (ho0 : isO 5 o0) (hf : f_X5_isClosing o0 v1 M = some res) : Ct G miX5_isClosing yX5_isClosing 1 [aR o0, aI v1] M (some (aI res)) M := by
  refine Ct.of (L := [some (aR o0), some (aI v1)]) mwX5_isClosing rfl trivial nle ⟨rfl, rfl, trivial⟩ ?_
  unfold f_X5_isClosing at hf
  refine R_aload_n dX5_isClosing_0 rfl rfl ?_
  refine R_iload_n dX5_isClosing_1 rfl rfl ?_
  obtain ⟨p2, hp2, hf⟩ := bdE hf
  refine R_callV (As := [aI v1]) (st := []) dX5_isClosing_2 (ct_X5_partnerOf _ _ _ ho0 hp2) mwX5_partnerOf mvX5_partnerOf mlX5_99 cl5 ho0 rfl rfl ⟨nle, nle, nle, nle⟩ nle rfl ?_
  refine R_iconst dX5_isClosing_5 (v := (-1)) rfl ?_
  refine R_icmp_eq dX5_isClosing_6 rfl (fun h6 => ?_) (fun h6 => ?_)
  · replace hf := iposE hf h6
    refine R_iconst dX5_isClosing_22 (v := 0) rfl ?_
    cases hf; exact E_zret dX5_isClosing_23 rfl (by decide) rfl rfl
  · replace hf := inegE hf h6
    refine R_aload_n dX5_isClosing_9 rfl rfl ?_
    refine R_iload_n dX5_isClosing_10 rfl rfl ?_
    obtain ⟨p11, hp11, hf⟩ := bdE hf
    refine R_callV (As := [aI v1]) (st := []) dX5_isClosing_11 (ct_X5_partnerOf _ _ _ ho0 hp11) mwX5_partnerOf mvX5_partnerOf mlX5_99 cl5 ho0 rfl rfl ⟨nle, nle, nle, nle⟩ nle rfl ?_
    refine R_iload_n dX5_isClosing_14 rfl rfl ?_
    refine R_icmp_ge dX5_isClosing_15 rfl (fun h15 => ?_) (fun h15 => ?_)
    · replace hf := iposE hf h15
      refine R_iconst dX5_isClosing_22 (v := 0) rfl ?_
      cases hf; exact E_zret dX5_isClosing_23 rfl (by decide) rfl rfl
    · replace hf := inegE hf h15
      refine R_iconst dX5_isClosing_18 (v := 1) rfl ?_
      refine R_goto dX5_isClosing_19 rfl ?_
      cases hf; exact E_zret dX5_isClosing_23 rfl (by decide) rfl rfl
/-! BracketHall$Reading.isOpening(I)Z -/
def f_X5_isOpening (o0 : Nat) (v1 : Int) (M : Mem) : Option (Int) :=
  (f_X5_partnerOf o0 v1 M).bind fun p2 =>
  if p2 ≤ v1 then
    some 0
  else
    some 1
set_option maxRecDepth 20000 in
theorem ct_X5_isOpening {G : Gl} (o0 : Nat) (v1 : Int) (M : Mem) {res : Int} (ho0 : isO 5 o0) (hf : f_X5_isOpening o0 v1 M = some res) : Ct G miX5_isOpening yX5_isOpening 1 [aR o0, aI v1] M (some (aI res)) M := by
  refine Ct.of (L := [some (aR o0), some (aI v1)]) mwX5_isOpening rfl trivial nle ⟨rfl, rfl, trivial⟩ ?_
  unfold f_X5_isOpening at hf
  refine R_aload_n dX5_isOpening_0 rfl rfl ?_
  refine R_iload_n dX5_isOpening_1 rfl rfl ?_
  obtain ⟨p2, hp2, hf⟩ := bdE hf
  refine R_callV (As := [aI v1]) (st := []) dX5_isOpening_2 (ct_X5_partnerOf _ _ _ ho0 hp2) mwX5_partnerOf mvX5_partnerOf mlX5_99 cl5 ho0 rfl rfl ⟨nle, nle, nle, nle⟩ nle rfl ?_
  refine R_iload_n dX5_isOpening_5 rfl rfl ?_
  refine R_icmp_le dX5_isOpening_6 rfl (fun h6 => ?_) (fun h6 => ?_)
  · replace hf := iposE hf h6
    refine R_iconst dX5_isOpening_13 (v := 0) rfl ?_
    cases hf; exact E_zret dX5_isOpening_14 rfl (by decide) rfl rfl
  · replace hf := inegE hf h6
    refine R_iconst dX5_isOpening_9 (v := 1) rfl ?_
    refine R_goto dX5_isOpening_10 rfl ?_
    cases hf; exact E_zret dX5_isOpening_14 rfl (by decide) rfl rfl
/-! BracketHall$Reading.measureDepths()V -/
def f_X5_measureDepths_L9 : Nat → Nat → Int → Int → Mem → Option (Mem)
  | 0, _, _, _, _ => none
  | n + 1, o0, v1, v2, M =>
    if (M o0 5) ≤ v2 then
      some M
    else
      (f_X5_isClosing o0 v2 M).bind fun p19 =>
      if p19 = 0 then
        if (0 : Int) ≤ v2 ∧ v2 < 240 then
        lt1 (up M (o0 + 4) v2 v1) fun M34 =>
        (f_X5_isOpening o0 v2 M34).bind fun p37 =>
        if p37 = 0 then
          lt1 (w32 (v2 + 1)) fun v2_58 =>
          f_X5_measureDepths_L9 n o0 v1 v2_58 M34
        else
          lt1 (if (M34 o0 9) < v1 then v1 else M34 o0 9) fun x49 =>
          lt1 (up M34 o0 9 x49) fun M52 =>
          lt1 (w32 (v1 + 1)) fun v1_55 =>
          lt1 (w32 (v2 + 1)) fun v2_58 =>
          f_X5_measureDepths_L9 n o0 v1_55 v2_58 M52
        else none
      else
        lt1 (w32 (v1 + (-1))) fun v1_25 =>
        if (0 : Int) ≤ v2 ∧ v2 < 240 then
        lt1 (up M (o0 + 4) v2 v1_25) fun M34 =>
        (f_X5_isOpening o0 v2 M34).bind fun p37 =>
        if p37 = 0 then
          lt1 (w32 (v2 + 1)) fun v2_58 =>
          f_X5_measureDepths_L9 n o0 v1_25 v2_58 M34
        else
          lt1 (if (M34 o0 9) < v1_25 then v1_25 else M34 o0 9) fun x49 =>
          lt1 (up M34 o0 9 x49) fun M52 =>
          lt1 (w32 (v1_25 + 1)) fun v1_55 =>
          lt1 (w32 (v2 + 1)) fun v2_58 =>
          f_X5_measureDepths_L9 n o0 v1_55 v2_58 M52
        else none
def f_X5_measureDepths (o0 : Nat) (M : Mem) : Option (Mem) :=
  lt1 (up M o0 9 (-1)) fun M4 =>
  f_X5_measureDepths_L9 4096 o0 0 0 M4
set_option maxRecDepth 20000 in
theorem rn_X5_measureDepths_L9 {G : Gl} : ∀ (n : Nat) (o0 : Nat) (v1 : Int) (v2 : Int) (M : Mem) (res : Mem), isO 5 o0 → f_X5_measureDepths_L9 n o0 v1 v2 M = some res → Run G false (rmD 2 0 0) miX5_measureDepths (ZP G none res) 0 0 9 [some (aR o0), some (aI v1), some (aI v2)] [] M := by
  intro n
  induction n with
  | zero => intro o0 v1 v2 M res ho0 hf; cases hf
  | succ n ih =>
    intro o0 v1 v2 M res ho0 hf
    rw [f_X5_measureDepths_L9] at hf
    refine R_iload_n dX5_measureDepths_9 rfl rfl ?_
    refine R_aload_n dX5_measureDepths_10 rfl rfl ?_
    refine R_getI (ki := 5) dX5_measureDepths_11 cl5 flX5_27 ho0 ff5_5 rfl rfl ?_
    refine R_icmp_ge dX5_measureDepths_14 rfl (fun h14 => ?_) (fun h14 => ?_)
    · replace hf := iposE hf h14
      cases hf; exact E_vret dX5_measureDepths_64 rfl rfl rfl
    · replace hf := inegE hf h14
      refine R_aload_n dX5_measureDepths_17 rfl rfl ?_
      refine R_iload_n dX5_measureDepths_18 rfl rfl ?_
      obtain ⟨p19, hp19, hf⟩ := bdE hf
      refine R_callV (As := [aI v2]) (st := []) dX5_measureDepths_19 (ct_X5_isClosing _ _ _ ho0 hp19) mwX5_isClosing mvX5_isClosing mlX5_89 cl5 ho0 rfl rfl ⟨nle, nle, nle, nle⟩ nle rfl ?_
      refine R_if_eq dX5_measureDepths_22 rfl (fun h22 => ?_) (fun h22 => ?_)
      · replace hf := iposE hf h22
        refine R_aload_n dX5_measureDepths_28 rfl rfl ?_
        refine R_getR dX5_measureDepths_29 cl5 flX5_21 ho0 ff5_3 (fr5_3 _) (k5_4 ho0).1 ?_
        refine R_iload_n dX5_measureDepths_32 rfl rfl ?_
        refine R_iload_n dX5_measureDepths_33 rfl rfl ?_
        obtain ⟨hg1, hf⟩ := gdE hf
        obtain ⟨M34, hM34, hf⟩ := ltE hf
        refine R_iastore dX5_measureDepths_34 (k5_4 ho0) hg1.1 hg1.2 hM34 ?_
        refine R_aload_n dX5_measureDepths_35 rfl rfl ?_
        refine R_iload_n dX5_measureDepths_36 rfl rfl ?_
        obtain ⟨p37, hp37, hf⟩ := bdE hf
        refine R_callV (As := [aI v2]) (st := []) dX5_measureDepths_37 (ct_X5_isOpening _ _ _ ho0 hp37) mwX5_isOpening mvX5_isOpening mlX5_93 cl5 ho0 rfl rfl ⟨nle, nle, nle, nle⟩ nle rfl ?_
        refine R_if_eq dX5_measureDepths_40 rfl (fun h40 => ?_) (fun h40 => ?_)
        · replace hf := iposE hf h40
          obtain ⟨v2_58, hv2_58, hf⟩ := ltE hf
          refine R_iinc dX5_measureDepths_58 rfl rfl hv2_58 (by decide) rfl ?_
          refine R_goto dX5_measureDepths_61 rfl ?_
          exact R_subk (ih _ _ _ _ _ ho0 hf) ⟨rfl, rfl, rfl, trivial⟩
        · replace hf := inegE hf h40
          refine R_aload_n dX5_measureDepths_43 rfl rfl ?_
          refine R_aload_n dX5_measureDepths_44 rfl rfl ?_
          refine R_getI (ki := 9) dX5_measureDepths_45 cl5 flX5_40 ho0 ff5_9 rfl rfl ?_
          refine R_iload_n dX5_measureDepths_48 rfl rfl ?_
          obtain ⟨x49, hx49, hf⟩ := ltE hf
          refine R_max dX5_measureDepths_49 jlX5_96 jw_max ⟨nle, nle, nle, nle⟩ nle hx49 ?_
          obtain ⟨M52, hM52, hf⟩ := ltE hf
          refine R_put (ki := 9) dX5_measureDepths_52 cl5 flX5_40 ho0 (Or.inl fz5_9) rfl hM52 ?_
          obtain ⟨v1_55, hv1_55, hf⟩ := ltE hf
          refine R_iinc dX5_measureDepths_55 rfl rfl hv1_55 (by decide) rfl ?_
          obtain ⟨v2_58, hv2_58, hf⟩ := ltE hf
          refine R_iinc dX5_measureDepths_58 rfl rfl hv2_58 (by decide) rfl ?_
          refine R_goto dX5_measureDepths_61 rfl ?_
          exact R_subk (ih _ _ _ _ _ ho0 hf) ⟨rfl, rfl, rfl, trivial⟩
      · replace hf := inegE hf h22
        obtain ⟨v1_25, hv1_25, hf⟩ := ltE hf
        refine R_iinc dX5_measureDepths_25 rfl rfl hv1_25 (by decide) rfl ?_
        refine R_aload_n dX5_measureDepths_28 rfl rfl ?_
        refine R_getR dX5_measureDepths_29 cl5 flX5_21 ho0 ff5_3 (fr5_3 _) (k5_4 ho0).1 ?_
        refine R_iload_n dX5_measureDepths_32 rfl rfl ?_
        refine R_iload_n dX5_measureDepths_33 rfl rfl ?_
        obtain ⟨hg2, hf⟩ := gdE hf
        obtain ⟨M34, hM34, hf⟩ := ltE hf
        refine R_iastore dX5_measureDepths_34 (k5_4 ho0) hg2.1 hg2.2 hM34 ?_
        refine R_aload_n dX5_measureDepths_35 rfl rfl ?_
        refine R_iload_n dX5_measureDepths_36 rfl rfl ?_
        obtain ⟨p37, hp37, hf⟩ := bdE hf
        refine R_callV (As := [aI v2]) (st := []) dX5_measureDepths_37 (ct_X5_isOpening _ _ _ ho0 hp37) mwX5_isOpening mvX5_isOpening mlX5_93 cl5 ho0 rfl rfl ⟨nle, nle, nle, nle⟩ nle rfl ?_
        refine R_if_eq dX5_measureDepths_40 rfl (fun h40 => ?_) (fun h40 => ?_)
        · replace hf := iposE hf h40
          obtain ⟨v2_58, hv2_58, hf⟩ := ltE hf
          refine R_iinc dX5_measureDepths_58 rfl rfl hv2_58 (by decide) rfl ?_
          refine R_goto dX5_measureDepths_61 rfl ?_
          exact R_subk (ih _ _ _ _ _ ho0 hf) ⟨rfl, rfl, rfl, trivial⟩
        · replace hf := inegE hf h40
          refine R_aload_n dX5_measureDepths_43 rfl rfl ?_
          refine R_aload_n dX5_measureDepths_44 rfl rfl ?_
          refine R_getI (ki := 9) dX5_measureDepths_45 cl5 flX5_40 ho0 ff5_9 rfl rfl ?_
          refine R_iload_n dX5_measureDepths_48 rfl rfl ?_
          obtain ⟨x49, hx49, hf⟩ := ltE hf
          refine R_max dX5_measureDepths_49 jlX5_96 jw_max ⟨nle, nle, nle, nle⟩ nle hx49 ?_
          obtain ⟨M52, hM52, hf⟩ := ltE hf
          refine R_put (ki := 9) dX5_measureDepths_52 cl5 flX5_40 ho0 (Or.inl fz5_9) rfl hM52 ?_
          obtain ⟨v1_55, hv1_55, hf⟩ := ltE hf
          refine R_iinc dX5_measureDepths_55 rfl rfl hv1_55 (by decide) rfl ?_
          obtain ⟨v2_58, hv2_58, hf⟩ := ltE hf
          refine R_iinc dX5_measureDepths_58 rfl rfl hv2_58 (by decide) rfl ?_
          refine R_goto dX5_measureDepths_61 rfl ?_
          exact R_subk (ih _ _ _ _ _ ho0 hf) ⟨rfl, rfl, rfl, trivial⟩
set_option maxRecDepth 20000 in
theorem ct_X5_measureDepths {G : Gl} (o0 : Nat) (M : Mem) {res : Mem} (ho0 : isO 5 o0) (hf : f_X5_measureDepths o0 M = some res) : Ct G miX5_measureDepths yX5_measureDepths 2 [aR o0] M none res := by
  refine Ct.of (L := [some (aR o0), none, none]) mwX5_measureDepths rfl trivial nle ⟨rfl, trivial⟩ ?_
  unfold f_X5_measureDepths at hf
  refine R_iconst dX5_measureDepths_0 (v := 0) rfl ?_
  refine R_istore_n dX5_measureDepths_1 rfl (by decide) rfl rfl ?_
  refine R_aload_n dX5_measureDepths_2 rfl rfl ?_
  refine R_iconst dX5_measureDepths_3 (v := (-1)) rfl ?_
  obtain ⟨M4, hM4, hf⟩ := ltE hf
  refine R_put (ki := 9) dX5_measureDepths_4 cl5 flX5_40 ho0 (Or.inl fz5_9) rfl hM4 ?_
  refine R_iconst dX5_measureDepths_7 (v := 0) rfl ?_
  refine R_istore_n dX5_measureDepths_8 rfl (by decide) rfl rfl ?_
  exact R_subk (rn_X5_measureDepths_L9 4096 _ _ _ _ _ ho0 hf) ⟨rfl, rfl, rfl, trivial⟩
/-! BracketHall$Reading.kindOf(I)I -/
def f_X5_kindOf (o0 : Nat) (v1 : Int) (M : Mem) : Option (Int) :=
  (f_X5_roleAt o0 v1 M).bind fun p2 =>
  if p2 = (-1) then
    some (-1)
  else
    some (idv p2 2)
set_option maxRecDepth 20000 in
theorem ct_X5_kindOf {G : Gl} (o0 : Nat) (v1 : Int) (M : Mem) {res : Int} (ho0 : isO 5 o0) (hf : f_X5_kindOf o0 v1 M = some res) : Ct G miX5_kindOf yX5_kindOf 1 [aR o0, aI v1] M (some (aI res)) M := by
  refine Ct.of (L := [some (aR o0), some (aI v1), none]) mwX5_kindOf rfl trivial nle ⟨rfl, rfl, trivial⟩ ?_
  unfold f_X5_kindOf at hf
  refine R_aload_n dX5_kindOf_0 rfl rfl ?_
  refine R_iload_n dX5_kindOf_1 rfl rfl ?_
  obtain ⟨p2, hp2, hf⟩ := bdE hf
  refine R_callV (As := [aI v1]) (st := []) dX5_kindOf_2 (ct_X5_roleAt _ _ _ ho0 hp2) mwX5_roleAt mvX5_roleAt mlX5_86 cl5 ho0 rfl rfl ⟨nle, nle, nle, nle⟩ nle rfl ?_
  refine R_istore_n dX5_kindOf_5 rfl (by decide) rfl rfl ?_
  refine R_iload_n dX5_kindOf_6 rfl rfl ?_
  refine R_iconst dX5_kindOf_7 (v := (-1)) rfl ?_
  refine R_icmp_ne dX5_kindOf_8 rfl (fun h8 => ?_) (fun h8 => ?_)
  · replace hf := inegE hf h8
    refine R_iload_n dX5_kindOf_15 rfl rfl ?_
    refine R_iconst dX5_kindOf_16 (v := 2) rfl ?_
    refine R_idiv dX5_kindOf_17 (by decide) rfl ?_
    cases hf; exact E_iret dX5_kindOf_18 rfl rfl rfl
  · replace hf := iposE hf h8
    refine R_iconst dX5_kindOf_11 (v := (-1)) rfl ?_
    refine R_goto dX5_kindOf_12 rfl ?_
    cases hf; exact E_iret dX5_kindOf_18 rfl rfl rfl
/-! BracketHall$Reading.sideOf(I)I -/
def f_X5_sideOf (o0 : Nat) (v1 : Int) (M : Mem) : Option (Int) :=
  (f_X5_roleAt o0 v1 M).bind fun p2 =>
  if p2 = (-1) then
    some (-1)
  else
    some (w32 (1 - (irm p2 2)))
set_option maxRecDepth 20000 in
theorem ct_X5_sideOf {G : Gl} (o0 : Nat) (v1 : Int) (M : Mem) {res : Int} (ho0 : isO 5 o0) (hf : f_X5_sideOf o0 v1 M = some res) : Ct G miX5_sideOf yX5_sideOf 1 [aR o0, aI v1] M (some (aI res)) M := by
  refine Ct.of (L := [some (aR o0), some (aI v1), none]) mwX5_sideOf rfl trivial nle ⟨rfl, rfl, trivial⟩ ?_
  unfold f_X5_sideOf at hf
  refine R_aload_n dX5_sideOf_0 rfl rfl ?_
  refine R_iload_n dX5_sideOf_1 rfl rfl ?_
  obtain ⟨p2, hp2, hf⟩ := bdE hf
  refine R_callV (As := [aI v1]) (st := []) dX5_sideOf_2 (ct_X5_roleAt _ _ _ ho0 hp2) mwX5_roleAt mvX5_roleAt mlX5_86 cl5 ho0 rfl rfl ⟨nle, nle, nle, nle⟩ nle rfl ?_
  refine R_istore_n dX5_sideOf_5 rfl (by decide) rfl rfl ?_
  refine R_iload_n dX5_sideOf_6 rfl rfl ?_
  refine R_iconst dX5_sideOf_7 (v := (-1)) rfl ?_
  refine R_icmp_ne dX5_sideOf_8 rfl (fun h8 => ?_) (fun h8 => ?_)
  · replace hf := inegE hf h8
    refine R_iconst dX5_sideOf_15 (v := 1) rfl ?_
    refine R_iload_n dX5_sideOf_16 rfl rfl ?_
    refine R_iconst dX5_sideOf_17 (v := 2) rfl ?_
    refine R_irem dX5_sideOf_18 (by decide) rfl ?_
    refine R_isub dX5_sideOf_19 rfl ?_
    cases hf; exact E_iret dX5_sideOf_20 rfl rfl rfl
  · replace hf := iposE hf h8
    refine R_iconst dX5_sideOf_11 (v := (-1)) rfl ?_
    refine R_goto dX5_sideOf_12 rfl ?_
    cases hf; exact E_iret dX5_sideOf_20 rfl rfl rfl
/-! BracketHall$Reading.openingOf(I)I -/
def f_X5_openingOf (o0 : Nat) (v1 : Int) (M : Mem) : Option (Int) :=
  (f_X5_isClosing o0 v1 M).bind fun p2 =>
  if p2 = 0 then
    some v1
  else
    (f_X5_partnerOf o0 v1 M).bind fun p10 =>
    some p10
set_option maxRecDepth 20000 in
theorem ct_X5_openingOf {G : Gl} (o0 : Nat) (v1 : Int) (M : Mem) {res : Int} (ho0 : isO 5 o0) (hf : f_X5_openingOf o0 v1 M = some res) : Ct G miX5_openingOf yX5_openingOf 2 [aR o0, aI v1] M (some (aI res)) M := by
  refine Ct.of (L := [some (aR o0), some (aI v1)]) mwX5_openingOf rfl trivial nle ⟨rfl, rfl, trivial⟩ ?_
  unfold f_X5_openingOf at hf
  refine R_aload_n dX5_openingOf_0 rfl rfl ?_
  refine R_iload_n dX5_openingOf_1 rfl rfl ?_
  obtain ⟨p2, hp2, hf⟩ := bdE hf
  refine R_callV (As := [aI v1]) (st := []) dX5_openingOf_2 (ct_X5_isClosing _ _ _ ho0 hp2) mwX5_isClosing mvX5_isClosing mlX5_89 cl5 ho0 rfl rfl ⟨nle, nle, nle, nle⟩ nle rfl ?_
  refine R_if_eq dX5_openingOf_5 rfl (fun h5 => ?_) (fun h5 => ?_)
  · replace hf := iposE hf h5
    refine R_iload_n dX5_openingOf_16 rfl rfl ?_
    cases hf; exact E_iret dX5_openingOf_17 rfl rfl rfl
  · replace hf := inegE hf h5
    refine R_aload_n dX5_openingOf_8 rfl rfl ?_
    refine R_iload_n dX5_openingOf_9 rfl rfl ?_
    obtain ⟨p10, hp10, hf⟩ := bdE hf
    refine R_callV (As := [aI v1]) (st := []) dX5_openingOf_10 (ct_X5_partnerOf _ _ _ ho0 hp10) mwX5_partnerOf mvX5_partnerOf mlX5_99 cl5 ho0 rfl rfl ⟨nle, nle, nle, nle⟩ nle rfl ?_
    refine R_goto dX5_openingOf_13 rfl ?_
    cases hf; exact E_iret dX5_openingOf_17 rfl rfl rfl
/-! BracketHall$Reading.depthOf(I)I -/
def f_X5_depthOf (o0 : Nat) (v1 : Int) (M : Mem) : Option (Int) :=
  if v1 < 0 then
    some 0
  else
    if (M o0 5) ≤ v1 then
      some 0
    else
      if (0 : Int) ≤ v1 ∧ v1 < 240 then
      some (M (o0 + 4) v1)
      else none
set_option maxRecDepth 20000 in
theorem ct_X5_depthOf {G : Gl} (o0 : Nat) (v1 : Int) (M : Mem) {res : Int} (ho0 : isO 5 o0) (hf : f_X5_depthOf o0 v1 M = some res) : Ct G miX5_depthOf yX5_depthOf 0 [aR o0, aI v1] M (some (aI res)) M := by
  refine Ct.of (L := [some (aR o0), some (aI v1)]) mwX5_depthOf rfl trivial nle ⟨rfl, rfl, trivial⟩ ?_
  unfold f_X5_depthOf at hf
  refine R_iload_n dX5_depthOf_0 rfl rfl ?_
  refine R_if_lt dX5_depthOf_1 rfl (fun h1 => ?_) (fun h1 => ?_)
  · replace hf := iposE hf h1
    refine R_iconst dX5_depthOf_21 (v := 0) rfl ?_
    cases hf; exact E_iret dX5_depthOf_22 rfl rfl rfl
  · replace hf := inegE hf h1
    refine R_iload_n dX5_depthOf_4 rfl rfl ?_
    refine R_aload_n dX5_depthOf_5 rfl rfl ?_
    refine R_getI (ki := 5) dX5_depthOf_6 cl5 flX5_27 ho0 ff5_5 rfl rfl ?_
    refine R_icmp_ge dX5_depthOf_9 rfl (fun h9 => ?_) (fun h9 => ?_)
    · replace hf := iposE hf h9
      refine R_iconst dX5_depthOf_21 (v := 0) rfl ?_
      cases hf; exact E_iret dX5_depthOf_22 rfl rfl rfl
    · replace hf := inegE hf h9
      refine R_aload_n dX5_depthOf_12 rfl rfl ?_
      refine R_getR dX5_depthOf_13 cl5 flX5_21 ho0 ff5_3 (fr5_3 _) (k5_4 ho0).1 ?_
      refine R_iload_n dX5_depthOf_16 rfl rfl ?_
      obtain ⟨hg1, hf⟩ := gdE hf
      refine R_iaload dX5_depthOf_17 (k5_4 ho0) hg1.1 hg1.2 rfl ?_
      refine R_goto dX5_depthOf_18 rfl ?_
      cases hf; exact E_iret dX5_depthOf_22 rfl rfl rfl
/-! BracketHall$Reading.hiddenAs(I)I -/
def f_X5_hiddenAs (o0 : Nat) (v1 : Int) (M : Mem) : Option (Int) :=
  if v1 < 0 then
    some 0
  else
    if (M o0 5) ≤ v1 then
      some 0
    else
      if (0 : Int) ≤ v1 ∧ v1 < 240 then
      some (M (o0 + 1) v1)
      else none
set_option maxRecDepth 20000 in
theorem ct_X5_hiddenAs {G : Gl} (o0 : Nat) (v1 : Int) (M : Mem) {res : Int} (ho0 : isO 5 o0) (hf : f_X5_hiddenAs o0 v1 M = some res) : Ct G miX5_hiddenAs yX5_hiddenAs 0 [aR o0, aI v1] M (some (aI res)) M := by
  refine Ct.of (L := [some (aR o0), some (aI v1)]) mwX5_hiddenAs rfl trivial nle ⟨rfl, rfl, trivial⟩ ?_
  unfold f_X5_hiddenAs at hf
  refine R_iload_n dX5_hiddenAs_0 rfl rfl ?_
  refine R_if_lt dX5_hiddenAs_1 rfl (fun h1 => ?_) (fun h1 => ?_)
  · replace hf := iposE hf h1
    refine R_iconst dX5_hiddenAs_21 (v := 0) rfl ?_
    cases hf; exact E_iret dX5_hiddenAs_22 rfl rfl rfl
  · replace hf := inegE hf h1
    refine R_iload_n dX5_hiddenAs_4 rfl rfl ?_
    refine R_aload_n dX5_hiddenAs_5 rfl rfl ?_
    refine R_getI (ki := 5) dX5_hiddenAs_6 cl5 flX5_27 ho0 ff5_5 rfl rfl ?_
    refine R_icmp_ge dX5_hiddenAs_9 rfl (fun h9 => ?_) (fun h9 => ?_)
    · replace hf := iposE hf h9
      refine R_iconst dX5_hiddenAs_21 (v := 0) rfl ?_
      cases hf; exact E_iret dX5_hiddenAs_22 rfl rfl rfl
    · replace hf := inegE hf h9
      refine R_aload_n dX5_hiddenAs_12 rfl rfl ?_
      refine R_getR dX5_hiddenAs_13 cl5 flX5_9 ho0 ff5_0 (fr5_0 _) (k5_1 ho0).1 ?_
      refine R_iload_n dX5_hiddenAs_16 rfl rfl ?_
      obtain ⟨hg1, hf⟩ := gdE hf
      refine R_iaload dX5_hiddenAs_17 (k5_1 ho0) hg1.1 hg1.2 rfl ?_
      refine R_goto dX5_hiddenAs_18 rfl ?_
      cases hf; exact E_iret dX5_hiddenAs_22 rfl rfl rfl
/-! BracketHall$Reading.lones()I -/
def f_X5_lones (o0 : Nat) (M : Mem) : Option (Int) :=
  some (w32 ((M o0 6) - (w32 (2 * (M o0 7)))))
set_option maxRecDepth 20000 in
theorem ct_X5_lones {G : Gl} (o0 : Nat) (M : Mem) {res : Int} (ho0 : isO 5 o0) (hf : f_X5_lones o0 M = some res) : Ct G miX5_lones yX5_lones 0 [aR o0] M (some (aI res)) M := by
  refine Ct.of (L := [some (aR o0)]) mwX5_lones rfl trivial nle ⟨rfl, trivial⟩ ?_
  unfold f_X5_lones at hf
  refine R_aload_n dX5_lones_0 rfl rfl ?_
  refine R_getI (ki := 6) dX5_lones_1 cl5 flX5_31 ho0 ff5_6 rfl rfl ?_
  refine R_iconst dX5_lones_4 (v := 2) rfl ?_
  refine R_aload_n dX5_lones_5 rfl rfl ?_
  refine R_getI (ki := 7) dX5_lones_6 cl5 flX5_34 ho0 ff5_7 rfl rfl ?_
  refine R_imul dX5_lones_9 rfl ?_
  refine R_isub dX5_lones_10 rfl ?_
  cases hf; exact E_iret dX5_lones_11 rfl rfl rfl
/-! BracketHall$Reading.hasBracketsOf(LBracketHall$Reading;)Z -/
def f_X5_hasBracketsOf_L15 : Nat → Nat → Nat → Int → Mem → Option (Int)
  | 0, _, _, _, _ => none
  | n + 1, o0, o1, v2, M =>
    if (M o0 5) ≤ v2 then
      some 1
    else
      if (0 : Int) ≤ v2 ∧ v2 < 240 then
      (f_X5_roleAt o1 v2 M).bind fun p31 =>
      if (M (o0 + 2) v2) = p31 then
        lt1 (w32 (v2 + 1)) fun v2_39 =>
        f_X5_hasBracketsOf_L15 n o0 o1 v2_39 M
      else
        some 0
      else none
def f_X5_hasBracketsOf (o0 : Nat) (o1 : Nat) (M : Mem) : Option (Int) :=
  if (M o0 6) = (M o1 6) then
    f_X5_hasBracketsOf_L15 4096 o0 o1 0 M
  else
    some 0
set_option maxRecDepth 20000 in
theorem rn_X5_hasBracketsOf_L15 {G : Gl} : ∀ (n : Nat) (o0 : Nat) (o1 : Nat) (v2 : Int) (M : Mem) (res : Int), isO 5 o0 → isO 5 o1 → f_X5_hasBracketsOf_L15 n o0 o1 v2 M = some res → Run G false (rmD 1 0 0) miX5_hasBracketsOf (ZP G (some (aI res)) M) 0 0 15 [some (aR o0), some (aR o1), some (aI v2)] [] M := by
  intro n
  induction n with
  | zero => intro o0 o1 v2 M res ho0 ho1 hf; cases hf
  | succ n ih =>
    intro o0 o1 v2 M res ho0 ho1 hf
    rw [f_X5_hasBracketsOf_L15] at hf
    refine R_iload_n dX5_hasBracketsOf_15 rfl rfl ?_
    refine R_aload_n dX5_hasBracketsOf_16 rfl rfl ?_
    refine R_getI (ki := 5) dX5_hasBracketsOf_17 cl5 flX5_27 ho0 ff5_5 rfl rfl ?_
    refine R_icmp_ge dX5_hasBracketsOf_20 rfl (fun h20 => ?_) (fun h20 => ?_)
    · replace hf := iposE hf h20
      refine R_iconst dX5_hasBracketsOf_45 (v := 1) rfl ?_
      cases hf; exact E_zret dX5_hasBracketsOf_46 rfl (by decide) rfl rfl
    · replace hf := inegE hf h20
      refine R_aload_n dX5_hasBracketsOf_23 rfl rfl ?_
      refine R_getR dX5_hasBracketsOf_24 cl5 flX5_15 ho0 ff5_1 (fr5_1 _) (k5_2 ho0).1 ?_
      refine R_iload_n dX5_hasBracketsOf_27 rfl rfl ?_
      obtain ⟨hg1, hf⟩ := gdE hf
      refine R_iaload dX5_hasBracketsOf_28 (k5_2 ho0) hg1.1 hg1.2 rfl ?_
      refine R_aload_n dX5_hasBracketsOf_29 rfl rfl ?_
      refine R_iload_n dX5_hasBracketsOf_30 rfl rfl ?_
      obtain ⟨p31, hp31, hf⟩ := bdE hf
      refine R_callV (As := [aI v2]) (st := [aI (M (o0 + 2) v2)]) dX5_hasBracketsOf_31 (ct_X5_roleAt _ _ _ ho1 hp31) mwX5_roleAt mvX5_roleAt mlX5_86 cl5 ho1 rfl rfl ⟨nle, nle, nle, nle⟩ nle rfl ?_
      refine R_icmp_eq dX5_hasBracketsOf_34 rfl (fun h34 => ?_) (fun h34 => ?_)
      · replace hf := iposE hf h34
        obtain ⟨v2_39, hv2_39, hf⟩ := ltE hf
        refine R_iinc dX5_hasBracketsOf_39 rfl rfl hv2_39 (by decide) rfl ?_
        refine R_goto dX5_hasBracketsOf_42 rfl ?_
        exact R_subk (ih _ _ _ _ _ ho0 ho1 hf) ⟨rfl, rfl, rfl, trivial⟩
      · replace hf := inegE hf h34
        refine R_iconst dX5_hasBracketsOf_37 (v := 0) rfl ?_
        cases hf; exact E_zret dX5_hasBracketsOf_38 rfl (by decide) rfl rfl
set_option maxRecDepth 20000 in
theorem ct_X5_hasBracketsOf {G : Gl} (o0 : Nat) (o1 : Nat) (M : Mem) {res : Int} (ho0 : isO 5 o0) (ho1 : isO 5 o1) (hf : f_X5_hasBracketsOf o0 o1 M = some res) : Ct G miX5_hasBracketsOf yX5_hasBracketsOf 1 [aR o0, aR o1] M (some (aI res)) M := by
  refine Ct.of (L := [some (aR o0), some (aR o1), none]) mwX5_hasBracketsOf rfl trivial nle ⟨rfl, rfl, trivial⟩ ?_
  unfold f_X5_hasBracketsOf at hf
  refine R_aload_n dX5_hasBracketsOf_0 rfl rfl ?_
  refine R_getI (ki := 6) dX5_hasBracketsOf_1 cl5 flX5_31 ho0 ff5_6 rfl rfl ?_
  refine R_aload_n dX5_hasBracketsOf_4 rfl rfl ?_
  refine R_getI (ki := 6) dX5_hasBracketsOf_5 cl5 flX5_31 ho1 ff5_6 rfl rfl ?_
  refine R_icmp_eq dX5_hasBracketsOf_8 rfl (fun h8 => ?_) (fun h8 => ?_)
  · replace hf := iposE hf h8
    refine R_iconst dX5_hasBracketsOf_13 (v := 0) rfl ?_
    refine R_istore_n dX5_hasBracketsOf_14 rfl (by decide) rfl rfl ?_
    exact R_subk (rn_X5_hasBracketsOf_L15 4096 _ _ _ _ _ ho0 ho1 hf) ⟨rfl, rfl, rfl, trivial⟩
  · replace hf := inegE hf h8
    refine R_iconst dX5_hasBracketsOf_11 (v := 0) rfl ?_
    cases hf; exact E_zret dX5_hasBracketsOf_12 rfl (by decide) rfl rfl
/-! BracketHall$Reading.pairAround(II)I -/
def f_X5_pairAround_L7 : Nat → Nat → Int → Int → Int → Mem → Option (Int)
  | 0, _, _, _, _, _ => none
  | n + 1, o0, v1, v3, v4, M =>
    if v4 < 0 then
      some (-1)
    else
      if v3 < 0 then
        some (-1)
      else
        (f_X5_partnerOf o0 v4 M).bind fun p19 =>
        if p19 ≤ v1 then
          lt1 (w32 (v4 + (-1))) fun v4_36 =>
          f_X5_pairAround_L7 n o0 v1 v3 v4_36 M
        else
          if v3 = 0 then
            some v4
          else
            lt1 (w32 (v3 + (-1))) fun v3_33 =>
            lt1 (w32 (v4 + (-1))) fun v4_36 =>
            f_X5_pairAround_L7 n o0 v1 v3_33 v4_36 M
def f_X5_pairAround (o0 : Nat) (v1 : Int) (v2 : Int) (M : Mem) : Option (Int) :=
  lt1 (w32 (v1 - 1)) fun v4_5 =>
  f_X5_pairAround_L7 4096 o0 v1 v2 v4_5 M
set_option maxRecDepth 20000 in
theorem rn_X5_pairAround_L7 {G : Gl} : ∀ (n : Nat) (o0 : Nat) (v1 : Int) (v3 : Int) (v4 : Int) (M : Mem) (res : Int), isO 5 o0 → f_X5_pairAround_L7 n o0 v1 v3 v4 M = some res → Run G false (rmD 1 0 0) miX5_pairAround (ZP G (some (aI res)) M) 0 0 7 [some (aR o0), some (aI v1), none, some (aI v3), some (aI v4)] [] M := by
  intro n
  induction n with
  | zero => intro o0 v1 v3 v4 M res ho0 hf; cases hf
  | succ n ih =>
    intro o0 v1 v3 v4 M res ho0 hf
    rw [f_X5_pairAround_L7] at hf
    refine R_iload dX5_pairAround_7 rfl ?_
    refine R_if_lt dX5_pairAround_9 rfl (fun h9 => ?_) (fun h9 => ?_)
    · replace hf := iposE hf h9
      refine R_iconst dX5_pairAround_42 (v := (-1)) rfl ?_
      cases hf; exact E_iret dX5_pairAround_43 rfl rfl rfl
    · replace hf := inegE hf h9
      refine R_iload_n dX5_pairAround_12 rfl rfl ?_
      refine R_if_lt dX5_pairAround_13 rfl (fun h13 => ?_) (fun h13 => ?_)
      · replace hf := iposE hf h13
        refine R_iconst dX5_pairAround_42 (v := (-1)) rfl ?_
        cases hf; exact E_iret dX5_pairAround_43 rfl rfl rfl
      · replace hf := inegE hf h13
        refine R_aload_n dX5_pairAround_16 rfl rfl ?_
        refine R_iload dX5_pairAround_17 rfl ?_
        obtain ⟨p19, hp19, hf⟩ := bdE hf
        refine R_callV (As := [aI v4]) (st := []) dX5_pairAround_19 (ct_X5_partnerOf _ _ _ ho0 hp19) mwX5_partnerOf mvX5_partnerOf mlX5_99 cl5 ho0 rfl rfl ⟨nle, nle, nle, nle⟩ nle rfl ?_
        refine R_iload_n dX5_pairAround_22 rfl rfl ?_
        refine R_icmp_le dX5_pairAround_23 rfl (fun h23 => ?_) (fun h23 => ?_)
        · replace hf := iposE hf h23
          obtain ⟨v4_36, hv4_36, hf⟩ := ltE hf
          refine R_iinc dX5_pairAround_36 rfl rfl hv4_36 (by decide) rfl ?_
          refine R_goto dX5_pairAround_39 rfl ?_
          exact R_subk (ih _ _ _ _ _ _ ho0 hf) ⟨rfl, rfl, rfl, rfl, trivial⟩
        · replace hf := inegE hf h23
          refine R_iload_n dX5_pairAround_26 rfl rfl ?_
          refine R_if_ne dX5_pairAround_27 rfl (fun h27 => ?_) (fun h27 => ?_)
          · replace hf := inegE hf h27
            obtain ⟨v3_33, hv3_33, hf⟩ := ltE hf
            refine R_iinc dX5_pairAround_33 rfl rfl hv3_33 (by decide) rfl ?_
            obtain ⟨v4_36, hv4_36, hf⟩ := ltE hf
            refine R_iinc dX5_pairAround_36 rfl rfl hv4_36 (by decide) rfl ?_
            refine R_goto dX5_pairAround_39 rfl ?_
            exact R_subk (ih _ _ _ _ _ _ ho0 hf) ⟨rfl, rfl, rfl, rfl, trivial⟩
          · replace hf := iposE hf h27
            refine R_iload dX5_pairAround_30 rfl ?_
            cases hf; exact E_iret dX5_pairAround_32 rfl rfl rfl
set_option maxRecDepth 20000 in
theorem ct_X5_pairAround {G : Gl} (o0 : Nat) (v1 : Int) (v2 : Int) (M : Mem) {res : Int} (ho0 : isO 5 o0) (hf : f_X5_pairAround o0 v1 v2 M = some res) : Ct G miX5_pairAround yX5_pairAround 1 [aR o0, aI v1, aI v2] M (some (aI res)) M := by
  refine Ct.of (L := [some (aR o0), some (aI v1), some (aI v2), none, none]) mwX5_pairAround rfl trivial nle ⟨rfl, rfl, rfl, trivial⟩ ?_
  unfold f_X5_pairAround at hf
  refine R_iload_n dX5_pairAround_0 rfl rfl ?_
  refine R_istore_n dX5_pairAround_1 rfl (by decide) rfl rfl ?_
  refine R_iload_n dX5_pairAround_2 rfl rfl ?_
  refine R_iconst dX5_pairAround_3 (v := 1) rfl ?_
  refine R_isub dX5_pairAround_4 rfl ?_
  obtain ⟨v4_5, hv4_5, hf⟩ := ltE hf
  refine R_istore dX5_pairAround_5 (by decide) hv4_5 rfl ?_
  exact R_subk (rn_X5_pairAround_L7 4096 _ _ _ _ _ _ ho0 hf) ⟨rfl, rfl, rfl, rfl, trivial⟩
/-! BracketHall$Reading.pairWithin(II)I -/
def f_X5_pairWithin_L7 : Nat → Nat → Int → Int → Int → Mem → Option (Int)
  | 0, _, _, _, _, _ => none
  | n + 1, o0, v1, v3, v4, M =>
    (f_X5_partnerOf o0 v1 M).bind fun p11 =>
    if p11 ≤ v4 then
      some (-1)
    else
      if v3 < 0 then
        some (-1)
      else
        (f_X5_isOpening o0 v4 M).bind fun p24 =>
        if p24 = 0 then
          lt1 (w32 (v4 + 1)) fun v4_56 =>
          f_X5_pairWithin_L7 n o0 v1 v3 v4_56 M
        else
          (f_X5_depthOf o0 v4 M).bind fun p33 =>
          (f_X5_depthOf o0 v1 M).bind fun p38 =>
          if p33 = (w32 (p38 + 1)) then
            if v3 = 0 then
              some v4
            else
              lt1 (w32 (v3 + (-1))) fun v3_53 =>
              lt1 (w32 (v4 + 1)) fun v4_56 =>
              f_X5_pairWithin_L7 n o0 v1 v3_53 v4_56 M
          else
            lt1 (w32 (v4 + 1)) fun v4_56 =>
            f_X5_pairWithin_L7 n o0 v1 v3 v4_56 M
def f_X5_pairWithin (o0 : Nat) (v1 : Int) (v2 : Int) (M : Mem) : Option (Int) :=
  lt1 (w32 (v1 + 1)) fun v4_5 =>
  f_X5_pairWithin_L7 4096 o0 v1 v2 v4_5 M
set_option maxRecDepth 20000 in
theorem rn_X5_pairWithin_L7 {G : Gl} : ∀ (n : Nat) (o0 : Nat) (v1 : Int) (v3 : Int) (v4 : Int) (M : Mem) (res : Int), isO 5 o0 → f_X5_pairWithin_L7 n o0 v1 v3 v4 M = some res → Run G false (rmD 2 0 0) miX5_pairWithin (ZP G (some (aI res)) M) 0 0 7 [some (aR o0), some (aI v1), none, some (aI v3), some (aI v4)] [] M := by
  intro n
  induction n with
  | zero => intro o0 v1 v3 v4 M res ho0 hf; cases hf
  | succ n ih =>
    intro o0 v1 v3 v4 M res ho0 hf
    rw [f_X5_pairWithin_L7] at hf
    refine R_iload dX5_pairWithin_7 rfl ?_
    refine R_aload_n dX5_pairWithin_9 rfl rfl ?_
    refine R_iload_n dX5_pairWithin_10 rfl rfl ?_
    obtain ⟨p11, hp11, hf⟩ := bdE hf
    refine R_callV (As := [aI v1]) (st := [aI v4]) dX5_pairWithin_11 (ct_X5_partnerOf _ _ _ ho0 hp11) mwX5_partnerOf mvX5_partnerOf mlX5_99 cl5 ho0 rfl rfl ⟨nle, nle, nle, nle⟩ nle rfl ?_
    refine R_icmp_ge dX5_pairWithin_14 rfl (fun h14 => ?_) (fun h14 => ?_)
    · replace hf := iposE hf h14
      refine R_iconst dX5_pairWithin_62 (v := (-1)) rfl ?_
      cases hf; exact E_iret dX5_pairWithin_63 rfl rfl rfl
    · replace hf := inegE hf h14
      refine R_iload_n dX5_pairWithin_17 rfl rfl ?_
      refine R_if_lt dX5_pairWithin_18 rfl (fun h18 => ?_) (fun h18 => ?_)
      · replace hf := iposE hf h18
        refine R_iconst dX5_pairWithin_62 (v := (-1)) rfl ?_
        cases hf; exact E_iret dX5_pairWithin_63 rfl rfl rfl
      · replace hf := inegE hf h18
        refine R_aload_n dX5_pairWithin_21 rfl rfl ?_
        refine R_iload dX5_pairWithin_22 rfl ?_
        obtain ⟨p24, hp24, hf⟩ := bdE hf
        refine R_callV (As := [aI v4]) (st := []) dX5_pairWithin_24 (ct_X5_isOpening _ _ _ ho0 hp24) mwX5_isOpening mvX5_isOpening mlX5_93 cl5 ho0 rfl rfl ⟨nle, nle, nle, nle⟩ nle rfl ?_
        refine R_if_eq dX5_pairWithin_27 rfl (fun h27 => ?_) (fun h27 => ?_)
        · replace hf := iposE hf h27
          obtain ⟨v4_56, hv4_56, hf⟩ := ltE hf
          refine R_iinc dX5_pairWithin_56 rfl rfl hv4_56 (by decide) rfl ?_
          refine R_goto dX5_pairWithin_59 rfl ?_
          exact R_subk (ih _ _ _ _ _ _ ho0 hf) ⟨rfl, rfl, rfl, rfl, trivial⟩
        · replace hf := inegE hf h27
          refine R_aload_n dX5_pairWithin_30 rfl rfl ?_
          refine R_iload dX5_pairWithin_31 rfl ?_
          obtain ⟨p33, hp33, hf⟩ := bdE hf
          refine R_callV (As := [aI v4]) (st := []) dX5_pairWithin_33 (ct_X5_depthOf _ _ _ ho0 hp33) mwX5_depthOf mvX5_depthOf mlX5_102 cl5 ho0 rfl rfl ⟨nle, nle, nle, nle⟩ nle rfl ?_
          refine R_aload_n dX5_pairWithin_36 rfl rfl ?_
          refine R_iload_n dX5_pairWithin_37 rfl rfl ?_
          obtain ⟨p38, hp38, hf⟩ := bdE hf
          refine R_callV (As := [aI v1]) (st := [aI p33]) dX5_pairWithin_38 (ct_X5_depthOf _ _ _ ho0 hp38) mwX5_depthOf mvX5_depthOf mlX5_102 cl5 ho0 rfl rfl ⟨nle, nle, nle, nle⟩ nle rfl ?_
          refine R_iconst dX5_pairWithin_41 (v := 1) rfl ?_
          refine R_iadd dX5_pairWithin_42 rfl ?_
          refine R_icmp_ne dX5_pairWithin_43 rfl (fun h43 => ?_) (fun h43 => ?_)
          · replace hf := inegE hf h43
            obtain ⟨v4_56, hv4_56, hf⟩ := ltE hf
            refine R_iinc dX5_pairWithin_56 rfl rfl hv4_56 (by decide) rfl ?_
            refine R_goto dX5_pairWithin_59 rfl ?_
            exact R_subk (ih _ _ _ _ _ _ ho0 hf) ⟨rfl, rfl, rfl, rfl, trivial⟩
          · replace hf := iposE hf h43
            refine R_iload_n dX5_pairWithin_46 rfl rfl ?_
            refine R_if_ne dX5_pairWithin_47 rfl (fun h47 => ?_) (fun h47 => ?_)
            · replace hf := inegE hf h47
              obtain ⟨v3_53, hv3_53, hf⟩ := ltE hf
              refine R_iinc dX5_pairWithin_53 rfl rfl hv3_53 (by decide) rfl ?_
              obtain ⟨v4_56, hv4_56, hf⟩ := ltE hf
              refine R_iinc dX5_pairWithin_56 rfl rfl hv4_56 (by decide) rfl ?_
              refine R_goto dX5_pairWithin_59 rfl ?_
              exact R_subk (ih _ _ _ _ _ _ ho0 hf) ⟨rfl, rfl, rfl, rfl, trivial⟩
            · replace hf := iposE hf h47
              refine R_iload dX5_pairWithin_50 rfl ?_
              cases hf; exact E_iret dX5_pairWithin_52 rfl rfl rfl
set_option maxRecDepth 20000 in
theorem ct_X5_pairWithin {G : Gl} (o0 : Nat) (v1 : Int) (v2 : Int) (M : Mem) {res : Int} (ho0 : isO 5 o0) (hf : f_X5_pairWithin o0 v1 v2 M = some res) : Ct G miX5_pairWithin yX5_pairWithin 2 [aR o0, aI v1, aI v2] M (some (aI res)) M := by
  refine Ct.of (L := [some (aR o0), some (aI v1), some (aI v2), none, none]) mwX5_pairWithin rfl trivial nle ⟨rfl, rfl, rfl, trivial⟩ ?_
  unfold f_X5_pairWithin at hf
  refine R_iload_n dX5_pairWithin_0 rfl rfl ?_
  refine R_istore_n dX5_pairWithin_1 rfl (by decide) rfl rfl ?_
  refine R_iload_n dX5_pairWithin_2 rfl rfl ?_
  refine R_iconst dX5_pairWithin_3 (v := 1) rfl ?_
  refine R_iadd dX5_pairWithin_4 rfl ?_
  obtain ⟨v4_5, hv4_5, hf⟩ := ltE hf
  refine R_istore dX5_pairWithin_5 (by decide) hv4_5 rfl ?_
  exact R_subk (rn_X5_pairWithin_L7 4096 _ _ _ _ _ _ ho0 hf) ⟨rfl, rfl, rfl, rfl, trivial⟩
/-! BracketHall$Reading.pairBehind(I)I -/
def f_X5_pairBehind_L14 : Nat → Nat → Int → Int → Mem → Option (Int)
  | 0, _, _, _, _ => none
  | n + 1, o0, v2, v3, M =>
    if (M o0 5) ≤ v3 then
      some (-1)
    else
      (f_X5_depthOf o0 v3 M).bind fun p24 =>
      if p24 < v2 then
        some (-1)
      else
        (f_X5_isOpening o0 v3 M).bind fun p33 =>
        if p33 = 0 then
          lt1 (w32 (v3 + 1)) fun v3_50 =>
          f_X5_pairBehind_L14 n o0 v2 v3_50 M
        else
          (f_X5_depthOf o0 v3 M).bind fun p41 =>
          if p41 = v2 then
            some v3
          else
            lt1 (w32 (v3 + 1)) fun v3_50 =>
            f_X5_pairBehind_L14 n o0 v2 v3_50 M
def f_X5_pairBehind (o0 : Nat) (v1 : Int) (M : Mem) : Option (Int) :=
  (f_X5_depthOf o0 v1 M).bind fun p2 =>
  (f_X5_partnerOf o0 v1 M).bind fun p8 =>
  lt1 (w32 (p8 + 1)) fun v3_13 =>
  f_X5_pairBehind_L14 4096 o0 p2 v3_13 M
set_option maxRecDepth 20000 in
theorem rn_X5_pairBehind_L14 {G : Gl} : ∀ (n : Nat) (o0 : Nat) (v2 : Int) (v3 : Int) (M : Mem) (res : Int), isO 5 o0 → f_X5_pairBehind_L14 n o0 v2 v3 M = some res → Run G false (rmD 2 0 0) miX5_pairBehind (ZP G (some (aI res)) M) 0 0 14 [some (aR o0), none, some (aI v2), some (aI v3)] [] M := by
  intro n
  induction n with
  | zero => intro o0 v2 v3 M res ho0 hf; cases hf
  | succ n ih =>
    intro o0 v2 v3 M res ho0 hf
    rw [f_X5_pairBehind_L14] at hf
    refine R_iload_n dX5_pairBehind_14 rfl rfl ?_
    refine R_aload_n dX5_pairBehind_15 rfl rfl ?_
    refine R_getI (ki := 5) dX5_pairBehind_16 cl5 flX5_27 ho0 ff5_5 rfl rfl ?_
    refine R_icmp_ge dX5_pairBehind_19 rfl (fun h19 => ?_) (fun h19 => ?_)
    · replace hf := iposE hf h19
      refine R_iconst dX5_pairBehind_56 (v := (-1)) rfl ?_
      cases hf; exact E_iret dX5_pairBehind_57 rfl rfl rfl
    · replace hf := inegE hf h19
      refine R_aload_n dX5_pairBehind_22 rfl rfl ?_
      refine R_iload_n dX5_pairBehind_23 rfl rfl ?_
      obtain ⟨p24, hp24, hf⟩ := bdE hf
      refine R_callV (As := [aI v3]) (st := []) dX5_pairBehind_24 (ct_X5_depthOf _ _ _ ho0 hp24) mwX5_depthOf mvX5_depthOf mlX5_102 cl5 ho0 rfl rfl ⟨nle, nle, nle, nle⟩ nle rfl ?_
      refine R_iload_n dX5_pairBehind_27 rfl rfl ?_
      refine R_icmp_lt dX5_pairBehind_28 rfl (fun h28 => ?_) (fun h28 => ?_)
      · replace hf := iposE hf h28
        refine R_iconst dX5_pairBehind_56 (v := (-1)) rfl ?_
        cases hf; exact E_iret dX5_pairBehind_57 rfl rfl rfl
      · replace hf := inegE hf h28
        refine R_aload_n dX5_pairBehind_31 rfl rfl ?_
        refine R_iload_n dX5_pairBehind_32 rfl rfl ?_
        obtain ⟨p33, hp33, hf⟩ := bdE hf
        refine R_callV (As := [aI v3]) (st := []) dX5_pairBehind_33 (ct_X5_isOpening _ _ _ ho0 hp33) mwX5_isOpening mvX5_isOpening mlX5_93 cl5 ho0 rfl rfl ⟨nle, nle, nle, nle⟩ nle rfl ?_
        refine R_if_eq dX5_pairBehind_36 rfl (fun h36 => ?_) (fun h36 => ?_)
        · replace hf := iposE hf h36
          obtain ⟨v3_50, hv3_50, hf⟩ := ltE hf
          refine R_iinc dX5_pairBehind_50 rfl rfl hv3_50 (by decide) rfl ?_
          refine R_goto dX5_pairBehind_53 rfl ?_
          exact R_subk (ih _ _ _ _ _ ho0 hf) ⟨rfl, rfl, rfl, trivial⟩
        · replace hf := inegE hf h36
          refine R_aload_n dX5_pairBehind_39 rfl rfl ?_
          refine R_iload_n dX5_pairBehind_40 rfl rfl ?_
          obtain ⟨p41, hp41, hf⟩ := bdE hf
          refine R_callV (As := [aI v3]) (st := []) dX5_pairBehind_41 (ct_X5_depthOf _ _ _ ho0 hp41) mwX5_depthOf mvX5_depthOf mlX5_102 cl5 ho0 rfl rfl ⟨nle, nle, nle, nle⟩ nle rfl ?_
          refine R_iload_n dX5_pairBehind_44 rfl rfl ?_
          refine R_icmp_ne dX5_pairBehind_45 rfl (fun h45 => ?_) (fun h45 => ?_)
          · replace hf := inegE hf h45
            obtain ⟨v3_50, hv3_50, hf⟩ := ltE hf
            refine R_iinc dX5_pairBehind_50 rfl rfl hv3_50 (by decide) rfl ?_
            refine R_goto dX5_pairBehind_53 rfl ?_
            exact R_subk (ih _ _ _ _ _ ho0 hf) ⟨rfl, rfl, rfl, trivial⟩
          · replace hf := iposE hf h45
            refine R_iload_n dX5_pairBehind_48 rfl rfl ?_
            cases hf; exact E_iret dX5_pairBehind_49 rfl rfl rfl
set_option maxRecDepth 20000 in
theorem ct_X5_pairBehind {G : Gl} (o0 : Nat) (v1 : Int) (M : Mem) {res : Int} (ho0 : isO 5 o0) (hf : f_X5_pairBehind o0 v1 M = some res) : Ct G miX5_pairBehind yX5_pairBehind 2 [aR o0, aI v1] M (some (aI res)) M := by
  refine Ct.of (L := [some (aR o0), some (aI v1), none, none]) mwX5_pairBehind rfl trivial nle ⟨rfl, rfl, trivial⟩ ?_
  unfold f_X5_pairBehind at hf
  refine R_aload_n dX5_pairBehind_0 rfl rfl ?_
  refine R_iload_n dX5_pairBehind_1 rfl rfl ?_
  obtain ⟨p2, hp2, hf⟩ := bdE hf
  refine R_callV (As := [aI v1]) (st := []) dX5_pairBehind_2 (ct_X5_depthOf _ _ _ ho0 hp2) mwX5_depthOf mvX5_depthOf mlX5_102 cl5 ho0 rfl rfl ⟨nle, nle, nle, nle⟩ nle rfl ?_
  refine R_istore_n dX5_pairBehind_5 rfl (by decide) rfl rfl ?_
  refine R_aload_n dX5_pairBehind_6 rfl rfl ?_
  refine R_iload_n dX5_pairBehind_7 rfl rfl ?_
  obtain ⟨p8, hp8, hf⟩ := bdE hf
  refine R_callV (As := [aI v1]) (st := []) dX5_pairBehind_8 (ct_X5_partnerOf _ _ _ ho0 hp8) mwX5_partnerOf mvX5_partnerOf mlX5_99 cl5 ho0 rfl rfl ⟨nle, nle, nle, nle⟩ nle rfl ?_
  refine R_iconst dX5_pairBehind_11 (v := 1) rfl ?_
  refine R_iadd dX5_pairBehind_12 rfl ?_
  obtain ⟨v3_13, hv3_13, hf⟩ := ltE hf
  refine R_istore_n dX5_pairBehind_13 rfl (by decide) hv3_13 rfl ?_
  exact R_subk (rn_X5_pairBehind_L14 4096 _ _ _ _ _ ho0 hf) ⟨rfl, rfl, rfl, trivial⟩
/-! BracketHall$Reading.pairAhead(I)I -/
def f_X5_pairAhead_L10 : Nat → Nat → Int → Int → Mem → Option (Int)
  | 0, _, _, _, _ => none
  | n + 1, o0, v2, v3, M =>
    if v3 < 0 then
      some (-1)
    else
      (f_X5_depthOf o0 v3 M).bind fun p16 =>
      if p16 < v2 then
        some (-1)
      else
        (f_X5_isOpening o0 v3 M).bind fun p25 =>
        if p25 = 0 then
          lt1 (w32 (v3 + (-1))) fun v3_42 =>
          f_X5_pairAhead_L10 n o0 v2 v3_42 M
        else
          (f_X5_depthOf o0 v3 M).bind fun p33 =>
          if p33 = v2 then
            some v3
          else
            lt1 (w32 (v3 + (-1))) fun v3_42 =>
            f_X5_pairAhead_L10 n o0 v2 v3_42 M
def f_X5_pairAhead (o0 : Nat) (v1 : Int) (M : Mem) : Option (Int) :=
  (f_X5_depthOf o0 v1 M).bind fun p2 =>
  lt1 (w32 (v1 - 1)) fun v3_9 =>
  f_X5_pairAhead_L10 4096 o0 p2 v3_9 M
set_option maxRecDepth 20000 in
theorem rn_X5_pairAhead_L10 {G : Gl} : ∀ (n : Nat) (o0 : Nat) (v2 : Int) (v3 : Int) (M : Mem) (res : Int), isO 5 o0 → f_X5_pairAhead_L10 n o0 v2 v3 M = some res → Run G false (rmD 2 0 0) miX5_pairAhead (ZP G (some (aI res)) M) 0 0 10 [some (aR o0), none, some (aI v2), some (aI v3)] [] M := by
  intro n
  induction n with
  | zero => intro o0 v2 v3 M res ho0 hf; cases hf
  | succ n ih =>
    intro o0 v2 v3 M res ho0 hf
    rw [f_X5_pairAhead_L10] at hf
    refine R_iload_n dX5_pairAhead_10 rfl rfl ?_
    refine R_if_lt dX5_pairAhead_11 rfl (fun h11 => ?_) (fun h11 => ?_)
    · replace hf := iposE hf h11
      refine R_iconst dX5_pairAhead_48 (v := (-1)) rfl ?_
      cases hf; exact E_iret dX5_pairAhead_49 rfl rfl rfl
    · replace hf := inegE hf h11
      refine R_aload_n dX5_pairAhead_14 rfl rfl ?_
      refine R_iload_n dX5_pairAhead_15 rfl rfl ?_
      obtain ⟨p16, hp16, hf⟩ := bdE hf
      refine R_callV (As := [aI v3]) (st := []) dX5_pairAhead_16 (ct_X5_depthOf _ _ _ ho0 hp16) mwX5_depthOf mvX5_depthOf mlX5_102 cl5 ho0 rfl rfl ⟨nle, nle, nle, nle⟩ nle rfl ?_
      refine R_iload_n dX5_pairAhead_19 rfl rfl ?_
      refine R_icmp_lt dX5_pairAhead_20 rfl (fun h20 => ?_) (fun h20 => ?_)
      · replace hf := iposE hf h20
        refine R_iconst dX5_pairAhead_48 (v := (-1)) rfl ?_
        cases hf; exact E_iret dX5_pairAhead_49 rfl rfl rfl
      · replace hf := inegE hf h20
        refine R_aload_n dX5_pairAhead_23 rfl rfl ?_
        refine R_iload_n dX5_pairAhead_24 rfl rfl ?_
        obtain ⟨p25, hp25, hf⟩ := bdE hf
        refine R_callV (As := [aI v3]) (st := []) dX5_pairAhead_25 (ct_X5_isOpening _ _ _ ho0 hp25) mwX5_isOpening mvX5_isOpening mlX5_93 cl5 ho0 rfl rfl ⟨nle, nle, nle, nle⟩ nle rfl ?_
        refine R_if_eq dX5_pairAhead_28 rfl (fun h28 => ?_) (fun h28 => ?_)
        · replace hf := iposE hf h28
          obtain ⟨v3_42, hv3_42, hf⟩ := ltE hf
          refine R_iinc dX5_pairAhead_42 rfl rfl hv3_42 (by decide) rfl ?_
          refine R_goto dX5_pairAhead_45 rfl ?_
          exact R_subk (ih _ _ _ _ _ ho0 hf) ⟨rfl, rfl, rfl, trivial⟩
        · replace hf := inegE hf h28
          refine R_aload_n dX5_pairAhead_31 rfl rfl ?_
          refine R_iload_n dX5_pairAhead_32 rfl rfl ?_
          obtain ⟨p33, hp33, hf⟩ := bdE hf
          refine R_callV (As := [aI v3]) (st := []) dX5_pairAhead_33 (ct_X5_depthOf _ _ _ ho0 hp33) mwX5_depthOf mvX5_depthOf mlX5_102 cl5 ho0 rfl rfl ⟨nle, nle, nle, nle⟩ nle rfl ?_
          refine R_iload_n dX5_pairAhead_36 rfl rfl ?_
          refine R_icmp_ne dX5_pairAhead_37 rfl (fun h37 => ?_) (fun h37 => ?_)
          · replace hf := inegE hf h37
            obtain ⟨v3_42, hv3_42, hf⟩ := ltE hf
            refine R_iinc dX5_pairAhead_42 rfl rfl hv3_42 (by decide) rfl ?_
            refine R_goto dX5_pairAhead_45 rfl ?_
            exact R_subk (ih _ _ _ _ _ ho0 hf) ⟨rfl, rfl, rfl, trivial⟩
          · replace hf := iposE hf h37
            refine R_iload_n dX5_pairAhead_40 rfl rfl ?_
            cases hf; exact E_iret dX5_pairAhead_41 rfl rfl rfl
set_option maxRecDepth 20000 in
theorem ct_X5_pairAhead {G : Gl} (o0 : Nat) (v1 : Int) (M : Mem) {res : Int} (ho0 : isO 5 o0) (hf : f_X5_pairAhead o0 v1 M = some res) : Ct G miX5_pairAhead yX5_pairAhead 2 [aR o0, aI v1] M (some (aI res)) M := by
  refine Ct.of (L := [some (aR o0), some (aI v1), none, none]) mwX5_pairAhead rfl trivial nle ⟨rfl, rfl, trivial⟩ ?_
  unfold f_X5_pairAhead at hf
  refine R_aload_n dX5_pairAhead_0 rfl rfl ?_
  refine R_iload_n dX5_pairAhead_1 rfl rfl ?_
  obtain ⟨p2, hp2, hf⟩ := bdE hf
  refine R_callV (As := [aI v1]) (st := []) dX5_pairAhead_2 (ct_X5_depthOf _ _ _ ho0 hp2) mwX5_depthOf mvX5_depthOf mlX5_102 cl5 ho0 rfl rfl ⟨nle, nle, nle, nle⟩ nle rfl ?_
  refine R_istore_n dX5_pairAhead_5 rfl (by decide) rfl rfl ?_
  refine R_iload_n dX5_pairAhead_6 rfl rfl ?_
  refine R_iconst dX5_pairAhead_7 (v := 1) rfl ?_
  refine R_isub dX5_pairAhead_8 rfl ?_
  obtain ⟨v3_9, hv3_9, hf⟩ := ltE hf
  refine R_istore_n dX5_pairAhead_9 rfl (by decide) hv3_9 rfl ?_
  exact R_subk (rn_X5_pairAhead_L10 4096 _ _ _ _ _ ho0 hf) ⟨rfl, rfl, rfl, trivial⟩
/-! BracketHall$Reading.loneAt(I)I -/
def f_X5_loneAt_L4 : Nat → Nat → Int → Int → Mem → Option (Int)
  | 0, _, _, _, _ => none
  | n + 1, o0, v2, v3, M =>
    if (M o0 5) ≤ v3 then
      some (-1)
    else
      if v2 < 0 then
        some (-1)
      else
        (f_X5_roleAt o0 v3 M).bind fun p18 =>
        if p18 = (-1) then
          lt1 (w32 (v3 + 1)) fun v3_43 =>
          f_X5_loneAt_L4 n o0 v2 v3_43 M
        else
          (f_X5_partnerOf o0 v3 M).bind fun p27 =>
          if p27 = (-1) then
            if v2 = 0 then
              some v3
            else
              lt1 (w32 (v2 + (-1))) fun v2_40 =>
              lt1 (w32 (v3 + 1)) fun v3_43 =>
              f_X5_loneAt_L4 n o0 v2_40 v3_43 M
          else
            lt1 (w32 (v3 + 1)) fun v3_43 =>
            f_X5_loneAt_L4 n o0 v2 v3_43 M
def f_X5_loneAt (o0 : Nat) (v1 : Int) (M : Mem) : Option (Int) :=
  f_X5_loneAt_L4 4096 o0 v1 0 M
set_option maxRecDepth 20000 in
theorem rn_X5_loneAt_L4 {G : Gl} : ∀ (n : Nat) (o0 : Nat) (v2 : Int) (v3 : Int) (M : Mem) (res : Int), isO 5 o0 → f_X5_loneAt_L4 n o0 v2 v3 M = some res → Run G false (rmD 1 0 0) miX5_loneAt (ZP G (some (aI res)) M) 0 0 4 [some (aR o0), none, some (aI v2), some (aI v3)] [] M := by
  intro n
  induction n with
  | zero => intro o0 v2 v3 M res ho0 hf; cases hf
  | succ n ih =>
    intro o0 v2 v3 M res ho0 hf
    rw [f_X5_loneAt_L4] at hf
    refine R_iload_n dX5_loneAt_4 rfl rfl ?_
    refine R_aload_n dX5_loneAt_5 rfl rfl ?_
    refine R_getI (ki := 5) dX5_loneAt_6 cl5 flX5_27 ho0 ff5_5 rfl rfl ?_
    refine R_icmp_ge dX5_loneAt_9 rfl (fun h9 => ?_) (fun h9 => ?_)
    · replace hf := iposE hf h9
      refine R_iconst dX5_loneAt_49 (v := (-1)) rfl ?_
      cases hf; exact E_iret dX5_loneAt_50 rfl rfl rfl
    · replace hf := inegE hf h9
      refine R_iload_n dX5_loneAt_12 rfl rfl ?_
      refine R_if_lt dX5_loneAt_13 rfl (fun h13 => ?_) (fun h13 => ?_)
      · replace hf := iposE hf h13
        refine R_iconst dX5_loneAt_49 (v := (-1)) rfl ?_
        cases hf; exact E_iret dX5_loneAt_50 rfl rfl rfl
      · replace hf := inegE hf h13
        refine R_aload_n dX5_loneAt_16 rfl rfl ?_
        refine R_iload_n dX5_loneAt_17 rfl rfl ?_
        obtain ⟨p18, hp18, hf⟩ := bdE hf
        refine R_callV (As := [aI v3]) (st := []) dX5_loneAt_18 (ct_X5_roleAt _ _ _ ho0 hp18) mwX5_roleAt mvX5_roleAt mlX5_86 cl5 ho0 rfl rfl ⟨nle, nle, nle, nle⟩ nle rfl ?_
        refine R_iconst dX5_loneAt_21 (v := (-1)) rfl ?_
        refine R_icmp_eq dX5_loneAt_22 rfl (fun h22 => ?_) (fun h22 => ?_)
        · replace hf := iposE hf h22
          obtain ⟨v3_43, hv3_43, hf⟩ := ltE hf
          refine R_iinc dX5_loneAt_43 rfl rfl hv3_43 (by decide) rfl ?_
          refine R_goto dX5_loneAt_46 rfl ?_
          exact R_subk (ih _ _ _ _ _ ho0 hf) ⟨rfl, rfl, rfl, trivial⟩
        · replace hf := inegE hf h22
          refine R_aload_n dX5_loneAt_25 rfl rfl ?_
          refine R_iload_n dX5_loneAt_26 rfl rfl ?_
          obtain ⟨p27, hp27, hf⟩ := bdE hf
          refine R_callV (As := [aI v3]) (st := []) dX5_loneAt_27 (ct_X5_partnerOf _ _ _ ho0 hp27) mwX5_partnerOf mvX5_partnerOf mlX5_99 cl5 ho0 rfl rfl ⟨nle, nle, nle, nle⟩ nle rfl ?_
          refine R_iconst dX5_loneAt_30 (v := (-1)) rfl ?_
          refine R_icmp_ne dX5_loneAt_31 rfl (fun h31 => ?_) (fun h31 => ?_)
          · replace hf := inegE hf h31
            obtain ⟨v3_43, hv3_43, hf⟩ := ltE hf
            refine R_iinc dX5_loneAt_43 rfl rfl hv3_43 (by decide) rfl ?_
            refine R_goto dX5_loneAt_46 rfl ?_
            exact R_subk (ih _ _ _ _ _ ho0 hf) ⟨rfl, rfl, rfl, trivial⟩
          · replace hf := iposE hf h31
            refine R_iload_n dX5_loneAt_34 rfl rfl ?_
            refine R_if_ne dX5_loneAt_35 rfl (fun h35 => ?_) (fun h35 => ?_)
            · replace hf := inegE hf h35
              obtain ⟨v2_40, hv2_40, hf⟩ := ltE hf
              refine R_iinc dX5_loneAt_40 rfl rfl hv2_40 (by decide) rfl ?_
              obtain ⟨v3_43, hv3_43, hf⟩ := ltE hf
              refine R_iinc dX5_loneAt_43 rfl rfl hv3_43 (by decide) rfl ?_
              refine R_goto dX5_loneAt_46 rfl ?_
              exact R_subk (ih _ _ _ _ _ ho0 hf) ⟨rfl, rfl, rfl, trivial⟩
            · replace hf := iposE hf h35
              refine R_iload_n dX5_loneAt_38 rfl rfl ?_
              cases hf; exact E_iret dX5_loneAt_39 rfl rfl rfl
set_option maxRecDepth 20000 in
theorem ct_X5_loneAt {G : Gl} (o0 : Nat) (v1 : Int) (M : Mem) {res : Int} (ho0 : isO 5 o0) (hf : f_X5_loneAt o0 v1 M = some res) : Ct G miX5_loneAt yX5_loneAt 1 [aR o0, aI v1] M (some (aI res)) M := by
  refine Ct.of (L := [some (aR o0), some (aI v1), none, none]) mwX5_loneAt rfl trivial nle ⟨rfl, rfl, trivial⟩ ?_
  unfold f_X5_loneAt at hf
  refine R_iload_n dX5_loneAt_0 rfl rfl ?_
  refine R_istore_n dX5_loneAt_1 rfl (by decide) rfl rfl ?_
  refine R_iconst dX5_loneAt_2 (v := 0) rfl ?_
  refine R_istore_n dX5_loneAt_3 rfl (by decide) rfl rfl ?_
  exact R_subk (rn_X5_loneAt_L4 4096 _ _ _ _ _ ho0 hf) ⟨rfl, rfl, rfl, trivial⟩
/-! BracketHall$Reading.bracketsOf(IZ)I -/
def f_X5_bracketsOf_L5 : Nat → Nat → Int → Int → Int → Int → Mem → Option (Int)
  | 0, _, _, _, _, _, _ => none
  | n + 1, o0, v1, v2, v3, v4, M =>
    if (M o0 5) ≤ v4 then
      some v3
    else
      (f_X5_roleAt o0 v4 M).bind fun p17 =>
      if p17 = v1 then
        if v2 = 0 then
          lt1 (w32 (v3 + 1)) fun v3_38 =>
          lt1 (w32 (v4 + 1)) fun v4_41 =>
          f_X5_bracketsOf_L5 n o0 v1 v2 v3_38 v4_41 M
        else
          (f_X5_partnerOf o0 v4 M).bind fun p31 =>
          if p31 = (-1) then
            lt1 (w32 (v4 + 1)) fun v4_41 =>
            f_X5_bracketsOf_L5 n o0 v1 v2 v3 v4_41 M
          else
            lt1 (w32 (v3 + 1)) fun v3_38 =>
            lt1 (w32 (v4 + 1)) fun v4_41 =>
            f_X5_bracketsOf_L5 n o0 v1 v2 v3_38 v4_41 M
      else
        lt1 (w32 (v4 + 1)) fun v4_41 =>
        f_X5_bracketsOf_L5 n o0 v1 v2 v3 v4_41 M
def f_X5_bracketsOf (o0 : Nat) (v1 : Int) (v2 : Int) (M : Mem) : Option (Int) :=
  f_X5_bracketsOf_L5 4096 o0 v1 v2 0 0 M
set_option maxRecDepth 20000 in
theorem rn_X5_bracketsOf_L5 {G : Gl} : ∀ (n : Nat) (o0 : Nat) (v1 : Int) (v2 : Int) (v3 : Int) (v4 : Int) (M : Mem) (res : Int), isO 5 o0 → f_X5_bracketsOf_L5 n o0 v1 v2 v3 v4 M = some res → Run G false (rmD 1 0 0) miX5_bracketsOf (ZP G (some (aI res)) M) 0 0 5 [some (aR o0), some (aI v1), some (aI v2), some (aI v3), some (aI v4)] [] M := by
  intro n
  induction n with
  | zero => intro o0 v1 v2 v3 v4 M res ho0 hf; cases hf
  | succ n ih =>
    intro o0 v1 v2 v3 v4 M res ho0 hf
    rw [f_X5_bracketsOf_L5] at hf
    refine R_iload dX5_bracketsOf_5 rfl ?_
    refine R_aload_n dX5_bracketsOf_7 rfl rfl ?_
    refine R_getI (ki := 5) dX5_bracketsOf_8 cl5 flX5_27 ho0 ff5_5 rfl rfl ?_
    refine R_icmp_ge dX5_bracketsOf_11 rfl (fun h11 => ?_) (fun h11 => ?_)
    · replace hf := iposE hf h11
      refine R_iload_n dX5_bracketsOf_47 rfl rfl ?_
      cases hf; exact E_iret dX5_bracketsOf_48 rfl rfl rfl
    · replace hf := inegE hf h11
      refine R_aload_n dX5_bracketsOf_14 rfl rfl ?_
      refine R_iload dX5_bracketsOf_15 rfl ?_
      obtain ⟨p17, hp17, hf⟩ := bdE hf
      refine R_callV (As := [aI v4]) (st := []) dX5_bracketsOf_17 (ct_X5_roleAt _ _ _ ho0 hp17) mwX5_roleAt mvX5_roleAt mlX5_86 cl5 ho0 rfl rfl ⟨nle, nle, nle, nle⟩ nle rfl ?_
      refine R_iload_n dX5_bracketsOf_20 rfl rfl ?_
      refine R_icmp_ne dX5_bracketsOf_21 rfl (fun h21 => ?_) (fun h21 => ?_)
      · replace hf := inegE hf h21
        obtain ⟨v4_41, hv4_41, hf⟩ := ltE hf
        refine R_iinc dX5_bracketsOf_41 rfl rfl hv4_41 (by decide) rfl ?_
        refine R_goto dX5_bracketsOf_44 rfl ?_
        exact R_subk (ih _ _ _ _ _ _ _ ho0 hf) ⟨rfl, rfl, rfl, rfl, rfl, trivial⟩
      · replace hf := iposE hf h21
        refine R_iload_n dX5_bracketsOf_24 rfl rfl ?_
        refine R_if_eq dX5_bracketsOf_25 rfl (fun h25 => ?_) (fun h25 => ?_)
        · replace hf := iposE hf h25
          obtain ⟨v3_38, hv3_38, hf⟩ := ltE hf
          refine R_iinc dX5_bracketsOf_38 rfl rfl hv3_38 (by decide) rfl ?_
          obtain ⟨v4_41, hv4_41, hf⟩ := ltE hf
          refine R_iinc dX5_bracketsOf_41 rfl rfl hv4_41 (by decide) rfl ?_
          refine R_goto dX5_bracketsOf_44 rfl ?_
          exact R_subk (ih _ _ _ _ _ _ _ ho0 hf) ⟨rfl, rfl, rfl, rfl, rfl, trivial⟩
        · replace hf := inegE hf h25
          refine R_aload_n dX5_bracketsOf_28 rfl rfl ?_
          refine R_iload dX5_bracketsOf_29 rfl ?_
          obtain ⟨p31, hp31, hf⟩ := bdE hf
          refine R_callV (As := [aI v4]) (st := []) dX5_bracketsOf_31 (ct_X5_partnerOf _ _ _ ho0 hp31) mwX5_partnerOf mvX5_partnerOf mlX5_99 cl5 ho0 rfl rfl ⟨nle, nle, nle, nle⟩ nle rfl ?_
          refine R_iconst dX5_bracketsOf_34 (v := (-1)) rfl ?_
          refine R_icmp_eq dX5_bracketsOf_35 rfl (fun h35 => ?_) (fun h35 => ?_)
          · replace hf := iposE hf h35
            obtain ⟨v4_41, hv4_41, hf⟩ := ltE hf
            refine R_iinc dX5_bracketsOf_41 rfl rfl hv4_41 (by decide) rfl ?_
            refine R_goto dX5_bracketsOf_44 rfl ?_
            exact R_subk (ih _ _ _ _ _ _ _ ho0 hf) ⟨rfl, rfl, rfl, rfl, rfl, trivial⟩
          · replace hf := inegE hf h35
            obtain ⟨v3_38, hv3_38, hf⟩ := ltE hf
            refine R_iinc dX5_bracketsOf_38 rfl rfl hv3_38 (by decide) rfl ?_
            obtain ⟨v4_41, hv4_41, hf⟩ := ltE hf
            refine R_iinc dX5_bracketsOf_41 rfl rfl hv4_41 (by decide) rfl ?_
            refine R_goto dX5_bracketsOf_44 rfl ?_
            exact R_subk (ih _ _ _ _ _ _ _ ho0 hf) ⟨rfl, rfl, rfl, rfl, rfl, trivial⟩
set_option maxRecDepth 20000 in
theorem ct_X5_bracketsOf {G : Gl} (o0 : Nat) (v1 : Int) (v2 : Int) (M : Mem) {res : Int} (ho0 : isO 5 o0) (hf : f_X5_bracketsOf o0 v1 v2 M = some res) : Ct G miX5_bracketsOf yX5_bracketsOf 1 [aR o0, aI v1, aI v2] M (some (aI res)) M := by
  refine Ct.of (L := [some (aR o0), some (aI v1), some (aI v2), none, none]) mwX5_bracketsOf rfl trivial nle ⟨rfl, rfl, rfl, trivial⟩ ?_
  unfold f_X5_bracketsOf at hf
  refine R_iconst dX5_bracketsOf_0 (v := 0) rfl ?_
  refine R_istore_n dX5_bracketsOf_1 rfl (by decide) rfl rfl ?_
  refine R_iconst dX5_bracketsOf_2 (v := 0) rfl ?_
  refine R_istore dX5_bracketsOf_3 (by decide) rfl rfl ?_
  exact R_subk (rn_X5_bracketsOf_L5 4096 _ _ _ _ _ _ _ ho0 hf) ⟨rfl, rfl, rfl, rfl, rfl, trivial⟩
/-! BracketHall$Reading.widestPair()I -/
def f_X5_widestPair_L6 : Nat → Nat → Int → Int → Int → Mem → Option (Int)
  | 0, _, _, _, _, _ => none
  | n + 1, o0, v1, v2, v3, M =>
    if (M o0 5) ≤ v3 then
      some v1
    else
      (f_X5_partnerOf o0 v3 M).bind fun p16 =>
      if (w32 (p16 - v3)) ≤ v2 then
        lt1 (w32 (v3 + 1)) fun v3_35 =>
        f_X5_widestPair_L6 n o0 v1 v2 v3_35 M
      else
        (f_X5_partnerOf o0 v3 M).bind fun p29 =>
        lt1 (w32 (p29 - v3)) fun v2_34 =>
        lt1 (w32 (v3 + 1)) fun v3_35 =>
        f_X5_widestPair_L6 n o0 v3 v2_34 v3_35 M
def f_X5_widestPair (o0 : Nat) (M : Mem) : Option (Int) :=
  f_X5_widestPair_L6 4096 o0 (-1) 0 0 M
set_option maxRecDepth 20000 in
theorem rn_X5_widestPair_L6 {G : Gl} : ∀ (n : Nat) (o0 : Nat) (v1 : Int) (v2 : Int) (v3 : Int) (M : Mem) (res : Int), isO 5 o0 → f_X5_widestPair_L6 n o0 v1 v2 v3 M = some res → Run G false (rmD 1 0 0) miX5_widestPair (ZP G (some (aI res)) M) 0 0 6 [some (aR o0), some (aI v1), some (aI v2), some (aI v3)] [] M := by
  intro n
  induction n with
  | zero => intro o0 v1 v2 v3 M res ho0 hf; cases hf
  | succ n ih =>
    intro o0 v1 v2 v3 M res ho0 hf
    rw [f_X5_widestPair_L6] at hf
    refine R_iload_n dX5_widestPair_6 rfl rfl ?_
    refine R_aload_n dX5_widestPair_7 rfl rfl ?_
    refine R_getI (ki := 5) dX5_widestPair_8 cl5 flX5_27 ho0 ff5_5 rfl rfl ?_
    refine R_icmp_ge dX5_widestPair_11 rfl (fun h11 => ?_) (fun h11 => ?_)
    · replace hf := iposE hf h11
      refine R_iload_n dX5_widestPair_41 rfl rfl ?_
      cases hf; exact E_iret dX5_widestPair_42 rfl rfl rfl
    · replace hf := inegE hf h11
      refine R_aload_n dX5_widestPair_14 rfl rfl ?_
      refine R_iload_n dX5_widestPair_15 rfl rfl ?_
      obtain ⟨p16, hp16, hf⟩ := bdE hf
      refine R_callV (As := [aI v3]) (st := []) dX5_widestPair_16 (ct_X5_partnerOf _ _ _ ho0 hp16) mwX5_partnerOf mvX5_partnerOf mlX5_99 cl5 ho0 rfl rfl ⟨nle, nle, nle, nle⟩ nle rfl ?_
      refine R_iload_n dX5_widestPair_19 rfl rfl ?_
      refine R_isub dX5_widestPair_20 rfl ?_
      refine R_iload_n dX5_widestPair_21 rfl rfl ?_
      refine R_icmp_le dX5_widestPair_22 rfl (fun h22 => ?_) (fun h22 => ?_)
      · replace hf := iposE hf h22
        obtain ⟨v3_35, hv3_35, hf⟩ := ltE hf
        refine R_iinc dX5_widestPair_35 rfl rfl hv3_35 (by decide) rfl ?_
        refine R_goto dX5_widestPair_38 rfl ?_
        exact R_subk (ih _ _ _ _ _ _ ho0 hf) ⟨rfl, rfl, rfl, rfl, trivial⟩
      · replace hf := inegE hf h22
        refine R_iload_n dX5_widestPair_25 rfl rfl ?_
        refine R_istore_n dX5_widestPair_26 rfl (by decide) rfl rfl ?_
        refine R_aload_n dX5_widestPair_27 rfl rfl ?_
        refine R_iload_n dX5_widestPair_28 rfl rfl ?_
        obtain ⟨p29, hp29, hf⟩ := bdE hf
        refine R_callV (As := [aI v3]) (st := []) dX5_widestPair_29 (ct_X5_partnerOf _ _ _ ho0 hp29) mwX5_partnerOf mvX5_partnerOf mlX5_99 cl5 ho0 rfl rfl ⟨nle, nle, nle, nle⟩ nle rfl ?_
        refine R_iload_n dX5_widestPair_32 rfl rfl ?_
        refine R_isub dX5_widestPair_33 rfl ?_
        obtain ⟨v2_34, hv2_34, hf⟩ := ltE hf
        refine R_istore_n dX5_widestPair_34 rfl (by decide) hv2_34 rfl ?_
        obtain ⟨v3_35, hv3_35, hf⟩ := ltE hf
        refine R_iinc dX5_widestPair_35 rfl rfl hv3_35 (by decide) rfl ?_
        refine R_goto dX5_widestPair_38 rfl ?_
        exact R_subk (ih _ _ _ _ _ _ ho0 hf) ⟨rfl, rfl, rfl, rfl, trivial⟩
set_option maxRecDepth 20000 in
theorem ct_X5_widestPair {G : Gl} (o0 : Nat) (M : Mem) {res : Int} (ho0 : isO 5 o0) (hf : f_X5_widestPair o0 M = some res) : Ct G miX5_widestPair yX5_widestPair 1 [aR o0] M (some (aI res)) M := by
  refine Ct.of (L := [some (aR o0), none, none, none]) mwX5_widestPair rfl trivial nle ⟨rfl, trivial⟩ ?_
  unfold f_X5_widestPair at hf
  refine R_iconst dX5_widestPair_0 (v := (-1)) rfl ?_
  refine R_istore_n dX5_widestPair_1 rfl (by decide) rfl rfl ?_
  refine R_iconst dX5_widestPair_2 (v := 0) rfl ?_
  refine R_istore_n dX5_widestPair_3 rfl (by decide) rfl rfl ?_
  refine R_iconst dX5_widestPair_4 (v := 0) rfl ?_
  refine R_istore_n dX5_widestPair_5 rfl (by decide) rfl rfl ?_
  exact R_subk (rn_X5_widestPair_L6 4096 _ _ _ _ _ _ ho0 hf) ⟨rfl, rfl, rfl, rfl, trivial⟩
/-! BracketHall$Reading.depthSum()I -/
def f_X5_depthSum_L4 : Nat → Nat → Int → Int → Mem → Option (Int)
  | 0, _, _, _, _ => none
  | n + 1, o0, v1, v2, M =>
    if (M o0 5) ≤ v2 then
      some v1
    else
      (f_X5_isOpening o0 v2 M).bind fun p14 =>
      if p14 = 0 then
        lt1 (w32 (v2 + 1)) fun v2_28 =>
        f_X5_depthSum_L4 n o0 v1 v2_28 M
      else
        (f_X5_depthOf o0 v2 M).bind fun p23 =>
        lt1 (w32 (v1 + p23)) fun v1_27 =>
        lt1 (w32 (v2 + 1)) fun v2_28 =>
        f_X5_depthSum_L4 n o0 v1_27 v2_28 M
def f_X5_depthSum (o0 : Nat) (M : Mem) : Option (Int) :=
  f_X5_depthSum_L4 4096 o0 0 0 M
set_option maxRecDepth 20000 in
theorem rn_X5_depthSum_L4 {G : Gl} : ∀ (n : Nat) (o0 : Nat) (v1 : Int) (v2 : Int) (M : Mem) (res : Int), isO 5 o0 → f_X5_depthSum_L4 n o0 v1 v2 M = some res → Run G false (rmD 2 0 0) miX5_depthSum (ZP G (some (aI res)) M) 0 0 4 [some (aR o0), some (aI v1), some (aI v2)] [] M := by
  intro n
  induction n with
  | zero => intro o0 v1 v2 M res ho0 hf; cases hf
  | succ n ih =>
    intro o0 v1 v2 M res ho0 hf
    rw [f_X5_depthSum_L4] at hf
    refine R_iload_n dX5_depthSum_4 rfl rfl ?_
    refine R_aload_n dX5_depthSum_5 rfl rfl ?_
    refine R_getI (ki := 5) dX5_depthSum_6 cl5 flX5_27 ho0 ff5_5 rfl rfl ?_
    refine R_icmp_ge dX5_depthSum_9 rfl (fun h9 => ?_) (fun h9 => ?_)
    · replace hf := iposE hf h9
      refine R_iload_n dX5_depthSum_34 rfl rfl ?_
      cases hf; exact E_iret dX5_depthSum_35 rfl rfl rfl
    · replace hf := inegE hf h9
      refine R_aload_n dX5_depthSum_12 rfl rfl ?_
      refine R_iload_n dX5_depthSum_13 rfl rfl ?_
      obtain ⟨p14, hp14, hf⟩ := bdE hf
      refine R_callV (As := [aI v2]) (st := []) dX5_depthSum_14 (ct_X5_isOpening _ _ _ ho0 hp14) mwX5_isOpening mvX5_isOpening mlX5_93 cl5 ho0 rfl rfl ⟨nle, nle, nle, nle⟩ nle rfl ?_
      refine R_if_eq dX5_depthSum_17 rfl (fun h17 => ?_) (fun h17 => ?_)
      · replace hf := iposE hf h17
        obtain ⟨v2_28, hv2_28, hf⟩ := ltE hf
        refine R_iinc dX5_depthSum_28 rfl rfl hv2_28 (by decide) rfl ?_
        refine R_goto dX5_depthSum_31 rfl ?_
        exact R_subk (ih _ _ _ _ _ ho0 hf) ⟨rfl, rfl, rfl, trivial⟩
      · replace hf := inegE hf h17
        refine R_iload_n dX5_depthSum_20 rfl rfl ?_
        refine R_aload_n dX5_depthSum_21 rfl rfl ?_
        refine R_iload_n dX5_depthSum_22 rfl rfl ?_
        obtain ⟨p23, hp23, hf⟩ := bdE hf
        refine R_callV (As := [aI v2]) (st := [aI v1]) dX5_depthSum_23 (ct_X5_depthOf _ _ _ ho0 hp23) mwX5_depthOf mvX5_depthOf mlX5_102 cl5 ho0 rfl rfl ⟨nle, nle, nle, nle⟩ nle rfl ?_
        refine R_iadd dX5_depthSum_26 rfl ?_
        obtain ⟨v1_27, hv1_27, hf⟩ := ltE hf
        refine R_istore_n dX5_depthSum_27 rfl (by decide) hv1_27 rfl ?_
        obtain ⟨v2_28, hv2_28, hf⟩ := ltE hf
        refine R_iinc dX5_depthSum_28 rfl rfl hv2_28 (by decide) rfl ?_
        refine R_goto dX5_depthSum_31 rfl ?_
        exact R_subk (ih _ _ _ _ _ ho0 hf) ⟨rfl, rfl, rfl, trivial⟩
set_option maxRecDepth 20000 in
theorem ct_X5_depthSum {G : Gl} (o0 : Nat) (M : Mem) {res : Int} (ho0 : isO 5 o0) (hf : f_X5_depthSum o0 M = some res) : Ct G miX5_depthSum yX5_depthSum 2 [aR o0] M (some (aI res)) M := by
  refine Ct.of (L := [some (aR o0), none, none]) mwX5_depthSum rfl trivial nle ⟨rfl, trivial⟩ ?_
  unfold f_X5_depthSum at hf
  refine R_iconst dX5_depthSum_0 (v := 0) rfl ?_
  refine R_istore_n dX5_depthSum_1 rfl (by decide) rfl rfl ?_
  refine R_iconst dX5_depthSum_2 (v := 0) rfl ?_
  refine R_istore_n dX5_depthSum_3 rfl (by decide) rfl rfl ?_
  exact R_subk (rn_X5_depthSum_L4 4096 _ _ _ _ _ ho0 hf) ⟨rfl, rfl, rfl, trivial⟩
/-! BracketHall$Signs.clear()V -/
def f_X7_clear_L2 : Nat → Nat → Int → Mem → Option (Mem)
  | 0, _, _, _ => none
  | n + 1, o0, v1, M =>
    if 126 < v1 then
      lt1 (up M o0 2 0) fun M23 =>
      some M23
    else
      if (0 : Int) ≤ v1 ∧ v1 < 127 then
      lt1 (up M (o0 + 1) v1 (-1)) fun M14 =>
      lt1 (w32 (v1 + 1)) fun v1_15 =>
      f_X7_clear_L2 n o0 v1_15 M14
      else none
def f_X7_clear (o0 : Nat) (M : Mem) : Option (Mem) :=
  f_X7_clear_L2 4096 o0 0 M
set_option maxRecDepth 20000 in
theorem rn_X7_clear_L2 {G : Gl} : ∀ (n : Nat) (o0 : Nat) (v1 : Int) (M : Mem) (res : Mem), isO 7 o0 → f_X7_clear_L2 n o0 v1 M = some res → Run G false (rmD 0 0 0) miX7_clear (ZP G none res) 0 0 2 [some (aR o0), some (aI v1)] [] M := by
  intro n
  induction n with
  | zero => intro o0 v1 M res ho0 hf; cases hf
  | succ n ih =>
    intro o0 v1 M res ho0 hf
    rw [f_X7_clear_L2] at hf
    refine R_iload_n dX7_clear_2 rfl rfl ?_
    refine R_bipush dX7_clear_3 (v := 126) rfl ?_
    refine R_icmp_gt dX7_clear_5 rfl (fun h5 => ?_) (fun h5 => ?_)
    · replace hf := iposE hf h5
      refine R_aload_n dX7_clear_21 rfl rfl ?_
      refine R_iconst dX7_clear_22 (v := 0) rfl ?_
      obtain ⟨M23, hM23, hf⟩ := ltE hf
      refine R_put (ki := 2) dX7_clear_23 cl7 flX7_18 ho0 (Or.inl fz7_2) rfl hM23 ?_
      cases hf; exact E_vret dX7_clear_26 rfl rfl rfl
    · replace hf := inegE hf h5
      refine R_aload_n dX7_clear_8 rfl rfl ?_
      refine R_getR dX7_clear_9 cl7 flX7_9 ho0 ff7_0 (fr7_0 _) (k7_1 ho0).1 ?_
      refine R_iload_n dX7_clear_12 rfl rfl ?_
      refine R_iconst dX7_clear_13 (v := (-1)) rfl ?_
      obtain ⟨hg1, hf⟩ := gdE hf
      obtain ⟨M14, hM14, hf⟩ := ltE hf
      refine R_iastore dX7_clear_14 (k7_1 ho0) hg1.1 hg1.2 hM14 ?_
      obtain ⟨v1_15, hv1_15, hf⟩ := ltE hf
      refine R_iinc dX7_clear_15 rfl rfl hv1_15 (by decide) rfl ?_
      refine R_goto dX7_clear_18 rfl ?_
      exact R_subk (ih _ _ _ _ ho0 hf) ⟨rfl, rfl, trivial⟩
set_option maxRecDepth 20000 in
theorem ct_X7_clear {G : Gl} (o0 : Nat) (M : Mem) {res : Mem} (ho0 : isO 7 o0) (hf : f_X7_clear o0 M = some res) : Ct G miX7_clear yX7_clear 0 [aR o0] M none res := by
  refine Ct.of (L := [some (aR o0), none]) mwX7_clear rfl trivial nle ⟨rfl, trivial⟩ ?_
  unfold f_X7_clear at hf
  refine R_iconst dX7_clear_0 (v := 0) rfl ?_
  refine R_istore_n dX7_clear_1 rfl (by decide) rfl rfl ?_
  exact R_subk (rn_X7_clear_L2 4096 _ _ _ _ ho0 hf) ⟨rfl, rfl, trivial⟩
/-! BracketHall$Setting.startOver()V -/
def f_X6_startOver  (M : Mem) : Option (Mem) :=
  (f_X7_clear 5 M).bind fun p4 =>
  lt1 (up p4 4 1 3) fun M9 =>
  lt1 (up M9 4 2 2) fun M14 =>
  lt1 (up M14 4 3 3) fun M19 =>
  lt1 (up M19 4 4 4) fun M24 =>
  lt1 (up M24 4 5 0) fun M29 =>
  lt1 (up M29 4 6 0) fun M34 =>
  some M34
set_option maxRecDepth 20000 in
theorem ct_X6_startOver {G : Gl}  (M : Mem) {res : Mem}  (hf : f_X6_startOver  M = some res) : Ct G miX6_startOver yX6_startOver 1 [aR 4] M none res := by
  refine Ct.of (L := [some (aR 4)]) mwX6_startOver rfl trivial nle ⟨rfl, trivial⟩ ?_
  unfold f_X6_startOver at hf
  refine R_aload_n dX6_startOver_0 rfl rfl ?_
  refine R_getR dX6_startOver_1 cl6 flX6_12 o_4 ff6_0 (fr6_0 _) o_5.1 ?_
  obtain ⟨p4, hp4, hf⟩ := bdE hf
  refine R_callV (As := []) (st := []) dX6_startOver_4 (ct_X7_clear _ _ o_5 hp4) mwX7_clear mvX7_clear mlX6_63 cl7 o_5 rfl rfl ⟨nle, nle, nle, nle⟩ nle rfl ?_
  refine R_aload_n dX6_startOver_7 rfl rfl ?_
  refine R_iconst dX6_startOver_8 (v := 3) rfl ?_
  obtain ⟨M9, hM9, hf⟩ := ltE hf
  refine R_put (ki := 1) dX6_startOver_9 cl6 flX6_18 o_4 (Or.inl fz6_1) rfl hM9 ?_
  refine R_aload_n dX6_startOver_12 rfl rfl ?_
  refine R_iconst dX6_startOver_13 (v := 2) rfl ?_
  obtain ⟨M14, hM14, hf⟩ := ltE hf
  refine R_put (ki := 2) dX6_startOver_14 cl6 flX6_22 o_4 (Or.inl fz6_2) rfl hM14 ?_
  refine R_aload_n dX6_startOver_17 rfl rfl ?_
  refine R_iconst dX6_startOver_18 (v := 3) rfl ?_
  obtain ⟨M19, hM19, hf⟩ := ltE hf
  refine R_put (ki := 3) dX6_startOver_19 cl6 flX6_25 o_4 (Or.inl fz6_3) rfl hM19 ?_
  refine R_aload_n dX6_startOver_22 rfl rfl ?_
  refine R_iconst dX6_startOver_23 (v := 4) rfl ?_
  obtain ⟨M24, hM24, hf⟩ := ltE hf
  refine R_put (ki := 4) dX6_startOver_24 cl6 flX6_28 o_4 (Or.inl fz6_4) rfl hM24 ?_
  refine R_aload_n dX6_startOver_27 rfl rfl ?_
  refine R_iconst dX6_startOver_28 (v := 0) rfl ?_
  obtain ⟨M29, hM29, hf⟩ := ltE hf
  refine R_put (ki := 5) dX6_startOver_29 cl6 flX6_31 o_4 (Or.inr ⟨fz6_5, by decide⟩) rfl hM29 ?_
  refine R_aload_n dX6_startOver_32 rfl rfl ?_
  refine R_iconst dX6_startOver_33 (v := 0) rfl ?_
  obtain ⟨M34, hM34, hf⟩ := ltE hf
  refine R_put (ki := 6) dX6_startOver_34 cl6 flX6_35 o_4 (Or.inr ⟨fz6_6, by decide⟩) rfl hM34 ?_
  cases hf; exact E_vret dX6_startOver_37 rfl rfl rfl
/-! BracketHall$Tokens.isSigns(I)Z -/
def f_X8_isSigns (v1 : Int) (M : Mem) : Option (Int) :=
  if (M 3 4) = 4 then
    if (w32 ((M 3 3) - (M 3 2))) = v1 then
      some 1
    else
      some 0
  else
    some 0
set_option maxRecDepth 20000 in
theorem ct_X8_isSigns {G : Gl} (v1 : Int) (M : Mem) {res : Int}  (hf : f_X8_isSigns v1 M = some res) : Ct G miX8_isSigns yX8_isSigns 0 [aR 3, aI v1] M (some (aI res)) M := by
  refine Ct.of (L := [some (aR 3), some (aI v1)]) mwX8_isSigns rfl trivial nle ⟨rfl, rfl, trivial⟩ ?_
  unfold f_X8_isSigns at hf
  refine R_aload_n dX8_isSigns_0 rfl rfl ?_
  refine R_getI (ki := 4) dX8_isSigns_1 cl8 flX8_21 o_3 ff8_4 rfl rfl ?_
  refine R_iconst dX8_isSigns_4 (v := 4) rfl ?_
  refine R_icmp_ne dX8_isSigns_5 rfl (fun h5 => ?_) (fun h5 => ?_)
  · replace hf := inegE hf h5
    refine R_iconst dX8_isSigns_25 (v := 0) rfl ?_
    cases hf; exact E_zret dX8_isSigns_26 rfl (by decide) rfl rfl
  · replace hf := iposE hf h5
    refine R_aload_n dX8_isSigns_8 rfl rfl ?_
    refine R_getI (ki := 3) dX8_isSigns_9 cl8 flX8_18 o_3 ff8_3 rfl rfl ?_
    refine R_aload_n dX8_isSigns_12 rfl rfl ?_
    refine R_getI (ki := 2) dX8_isSigns_13 cl8 flX8_15 o_3 ff8_2 rfl rfl ?_
    refine R_isub dX8_isSigns_16 rfl ?_
    refine R_iload_n dX8_isSigns_17 rfl rfl ?_
    refine R_icmp_ne dX8_isSigns_18 rfl (fun h18 => ?_) (fun h18 => ?_)
    · replace hf := inegE hf h18
      refine R_iconst dX8_isSigns_25 (v := 0) rfl ?_
      cases hf; exact E_zret dX8_isSigns_26 rfl (by decide) rfl rfl
    · replace hf := iposE hf h18
      refine R_iconst dX8_isSigns_21 (v := 1) rfl ?_
      refine R_goto dX8_isSigns_22 rfl ?_
      cases hf; exact E_zret dX8_isSigns_26 rfl (by decide) rfl rfl
/-! BracketHall$Tokens.signAt(I)I -/
def f_X8_signAt (v1 : Int) (M : Mem) : Option (Int) :=
  (f_X1_byteAt (w32 ((M 3 2) + v1)) M).bind fun p10 =>
  some p10
set_option maxRecDepth 20000 in
theorem ct_X8_signAt {G : Gl} (v1 : Int) (M : Mem) {res : Int}  (hf : f_X8_signAt v1 M = some res) : Ct G miX8_signAt yX8_signAt 1 [aR 3, aI v1] M (some (aI res)) M := by
  refine Ct.of (L := [some (aR 3), some (aI v1)]) mwX8_signAt rfl trivial nle ⟨rfl, rfl, trivial⟩ ?_
  unfold f_X8_signAt at hf
  refine R_aload_n dX8_signAt_0 rfl rfl ?_
  refine R_getR dX8_signAt_1 cl8 flX8_24 o_3 ff8_0 (fr8_0 _) o_1.1 ?_
  refine R_aload_n dX8_signAt_4 rfl rfl ?_
  refine R_getI (ki := 2) dX8_signAt_5 cl8 flX8_15 o_3 ff8_2 rfl rfl ?_
  refine R_iload_n dX8_signAt_8 rfl rfl ?_
  refine R_iadd dX8_signAt_9 rfl ?_
  obtain ⟨p10, hp10, hf⟩ := bdE hf
  refine R_callV (As := [aI (w32 ((M 3 2) + v1))]) (st := []) dX8_signAt_10 (ct_X1_byteAt _ _  hp10) mwX1_byteAt mvX1_byteAt mlX8_31 cl1 o_1 rfl rfl ⟨nle, nle, nle, nle⟩ nle rfl ?_
  cases hf; exact E_iret dX8_signAt_13 rfl rfl rfl
