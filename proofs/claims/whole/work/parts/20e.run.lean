/-! BracketHall$Signs.tell(II)I -/
def f_X7_tell (o0 : Nat) (v1 : Int) (v2 : Int) (M : Mem) : Option (Int × Mem) :=
  if v1 < 0 then
    some (1, M)
  else
    if v1 ≤ 126 then
      if (0 : Int) ≤ v1 ∧ v1 < 127 then
      if (M (o0 + 1) v1) = (-1) then
        lt1 (up M (o0 + 1) v1 v2) fun M30 =>
        some (0, M30)
      else
        some (3, M)
      else none
    else
      some (1, M)
set_option maxRecDepth 20000 in
theorem ct_X7_tell {G : Gl} (o0 : Nat) (v1 : Int) (v2 : Int) (M : Mem) {res : Int × Mem} (ho0 : isO 7 o0) (hf : f_X7_tell o0 v1 v2 M = some res) : Ct G miX7_tell yX7_tell 0 [aR o0, aI v1, aI v2] M (some (aI res.1)) res.2 := by
  refine Ct.of (L := [some (aR o0), some (aI v1), some (aI v2)]) mwX7_tell rfl trivial nle ⟨rfl, rfl, rfl, trivial⟩ ?_
  unfold f_X7_tell at hf
  refine R_iload_n dX7_tell_0 rfl rfl ?_
  refine R_if_lt dX7_tell_1 rfl (fun h1 => ?_) (fun h1 => ?_)
  · replace hf := iposE hf h1
    refine R_iconst dX7_tell_10 (v := 1) rfl ?_
    cases hf; exact E_iret dX7_tell_11 rfl rfl rfl
  · replace hf := inegE hf h1
    refine R_iload_n dX7_tell_4 rfl rfl ?_
    refine R_bipush dX7_tell_5 (v := 126) rfl ?_
    refine R_icmp_le dX7_tell_7 rfl (fun h7 => ?_) (fun h7 => ?_)
    · replace hf := iposE hf h7
      refine R_aload_n dX7_tell_12 rfl rfl ?_
      refine R_getR dX7_tell_13 cl7 flX7_9 ho0 ff7_0 (fr7_0 _) (k7_1 ho0).1 ?_
      refine R_iload_n dX7_tell_16 rfl rfl ?_
      obtain ⟨hg1, hf⟩ := gdE hf
      refine R_iaload dX7_tell_17 (k7_1 ho0) hg1.1 hg1.2 rfl ?_
      refine R_iconst dX7_tell_18 (v := (-1)) rfl ?_
      refine R_icmp_eq dX7_tell_19 rfl (fun h19 => ?_) (fun h19 => ?_)
      · replace hf := iposE hf h19
        refine R_aload_n dX7_tell_24 rfl rfl ?_
        refine R_getR dX7_tell_25 cl7 flX7_9 ho0 ff7_0 (fr7_0 _) (k7_1 ho0).1 ?_
        refine R_iload_n dX7_tell_28 rfl rfl ?_
        refine R_iload_n dX7_tell_29 rfl rfl ?_
        obtain ⟨M30, hM30, hf⟩ := ltE hf
        refine R_iastore dX7_tell_30 (k7_1 ho0) hg1.1 hg1.2 hM30 ?_
        refine R_iconst dX7_tell_31 (v := 0) rfl ?_
        cases hf; exact E_iret dX7_tell_32 rfl rfl rfl
      · replace hf := inegE hf h19
        refine R_iconst dX7_tell_22 (v := 3) rfl ?_
        cases hf; exact E_iret dX7_tell_23 rfl rfl rfl
    · replace hf := inegE hf h7
      refine R_iconst dX7_tell_10 (v := 1) rfl ?_
      cases hf; exact E_iret dX7_tell_11 rfl rfl rfl
/-! BracketHall$Signs.addKind(II)I -/
def f_X7_addKind (o0 : Nat) (v1 : Int) (v2 : Int) (M : Mem) : Option (Int × Mem) :=
  if v1 = v2 then
    some (3, M)
  else
    (f_X7_roleOf o0 v1 M).bind fun p7 =>
    if p7 = (-1) then
      (f_X7_roleOf o0 v2 M).bind fun p16 =>
      if p16 = (-1) then
        if (M o0 2) < 4 then
          if (0 : Int) ≤ w32 (2 * (M o0 2)) ∧ w32 (2 * (M o0 2)) < 8 then
          lt1 (up M (o0 + 2) (w32 (2 * (M o0 2))) v1) fun M46 =>
          if (0 : Int) ≤ w32 ((w32 (2 * (M46 o0 2))) + 1) ∧ w32 ((w32 (2 * (M46 o0 2))) + 1) < 8 then
          lt1 (up M46 (o0 + 2) (w32 ((w32 (2 * (M46 o0 2))) + 1)) v2) fun M60 =>
          (f_X7_tell o0 v1 (w32 (2 * (M60 o0 2))) M60).bind fun p69 =>
          (f_X7_tell o0 v2 (w32 ((w32 (2 * (p69.2 o0 2))) + 1)) p69.2).bind fun p83 =>
          lt1 (up p83.2 o0 2 (w32 ((p83.2 o0 2) + 1))) fun M94 =>
          some (0, M94)
          else none
          else none
        else
          some (4, M)
      else
        some (3, M)
    else
      some (3, M)
set_option maxRecDepth 20000 in
theorem ct_X7_addKind {G : Gl} (o0 : Nat) (v1 : Int) (v2 : Int) (M : Mem) {res : Int × Mem} (ho0 : isO 7 o0) (hf : f_X7_addKind o0 v1 v2 M = some res) : Ct G miX7_addKind yX7_addKind 1 [aR o0, aI v1, aI v2] M (some (aI res.1)) res.2 := by
  refine Ct.of (L := [some (aR o0), some (aI v1), some (aI v2)]) mwX7_addKind rfl trivial nle ⟨rfl, rfl, rfl, trivial⟩ ?_
  unfold f_X7_addKind at hf
  refine R_iload_n dX7_addKind_0 rfl rfl ?_
  refine R_iload_n dX7_addKind_1 rfl rfl ?_
  refine R_icmp_eq dX7_addKind_2 rfl (fun h2 => ?_) (fun h2 => ?_)
  · replace hf := iposE hf h2
    refine R_iconst dX7_addKind_23 (v := 3) rfl ?_
    cases hf; exact E_iret dX7_addKind_24 rfl rfl rfl
  · replace hf := inegE hf h2
    refine R_aload_n dX7_addKind_5 rfl rfl ?_
    refine R_iload_n dX7_addKind_6 rfl rfl ?_
    obtain ⟨p7, hp7, hf⟩ := bdE hf
    refine R_callV (As := [aI v1]) (st := []) dX7_addKind_7 (ct_X7_roleOf _ _ _ ho0 hp7) mwX7_roleOf mvX7_roleOf mlX7_35 cl7 ho0 rfl rfl ⟨nle, nle, nle, nle⟩ nle rfl ?_
    refine R_iconst dX7_addKind_10 (v := (-1)) rfl ?_
    refine R_icmp_ne dX7_addKind_11 rfl (fun h11 => ?_) (fun h11 => ?_)
    · replace hf := inegE hf h11
      refine R_iconst dX7_addKind_23 (v := 3) rfl ?_
      cases hf; exact E_iret dX7_addKind_24 rfl rfl rfl
    · replace hf := iposE hf h11
      refine R_aload_n dX7_addKind_14 rfl rfl ?_
      refine R_iload_n dX7_addKind_15 rfl rfl ?_
      obtain ⟨p16, hp16, hf⟩ := bdE hf
      refine R_callV (As := [aI v2]) (st := []) dX7_addKind_16 (ct_X7_roleOf _ _ _ ho0 hp16) mwX7_roleOf mvX7_roleOf mlX7_35 cl7 ho0 rfl rfl ⟨nle, nle, nle, nle⟩ nle rfl ?_
      refine R_iconst dX7_addKind_19 (v := (-1)) rfl ?_
      refine R_icmp_eq dX7_addKind_20 rfl (fun h20 => ?_) (fun h20 => ?_)
      · replace hf := iposE hf h20
        refine R_aload_n dX7_addKind_25 rfl rfl ?_
        refine R_getI (ki := 2) dX7_addKind_26 cl7 flX7_18 ho0 ff7_2 rfl rfl ?_
        refine R_iconst dX7_addKind_29 (v := 4) rfl ?_
        refine R_icmp_lt dX7_addKind_30 rfl (fun h30 => ?_) (fun h30 => ?_)
        · replace hf := iposE hf h30
          refine R_aload_n dX7_addKind_35 rfl rfl ?_
          refine R_getR dX7_addKind_36 cl7 flX7_15 ho0 ff7_1 (fr7_1 _) (k7_2 ho0).1 ?_
          refine R_iconst dX7_addKind_39 (v := 2) rfl ?_
          refine R_aload_n dX7_addKind_40 rfl rfl ?_
          refine R_getI (ki := 2) dX7_addKind_41 cl7 flX7_18 ho0 ff7_2 rfl rfl ?_
          refine R_imul dX7_addKind_44 rfl ?_
          refine R_iload_n dX7_addKind_45 rfl rfl ?_
          obtain ⟨hg1, hf⟩ := gdE hf
          obtain ⟨M46, hM46, hf⟩ := ltE hf
          refine R_iastore dX7_addKind_46 (k7_2 ho0) hg1.1 hg1.2 hM46 ?_
          refine R_aload_n dX7_addKind_47 rfl rfl ?_
          refine R_getR dX7_addKind_48 cl7 flX7_15 ho0 ff7_1 (fr7_1 _) (k7_2 ho0).1 ?_
          refine R_iconst dX7_addKind_51 (v := 2) rfl ?_
          refine R_aload_n dX7_addKind_52 rfl rfl ?_
          refine R_getI (ki := 2) dX7_addKind_53 cl7 flX7_18 ho0 ff7_2 rfl rfl ?_
          refine R_imul dX7_addKind_56 rfl ?_
          refine R_iconst dX7_addKind_57 (v := 1) rfl ?_
          refine R_iadd dX7_addKind_58 rfl ?_
          refine R_iload_n dX7_addKind_59 rfl rfl ?_
          obtain ⟨hg2, hf⟩ := gdE hf
          obtain ⟨M60, hM60, hf⟩ := ltE hf
          refine R_iastore dX7_addKind_60 (k7_2 ho0) hg2.1 hg2.2 hM60 ?_
          refine R_aload_n dX7_addKind_61 rfl rfl ?_
          refine R_iload_n dX7_addKind_62 rfl rfl ?_
          refine R_iconst dX7_addKind_63 (v := 2) rfl ?_
          refine R_aload_n dX7_addKind_64 rfl rfl ?_
          refine R_getI (ki := 2) dX7_addKind_65 cl7 flX7_18 ho0 ff7_2 rfl rfl ?_
          refine R_imul dX7_addKind_68 rfl ?_
          obtain ⟨p69, hp69, hf⟩ := bdE hf
          refine R_callV (As := [aI v1, aI (w32 (2 * (M60 o0 2)))]) (st := []) dX7_addKind_69 (ct_X7_tell _ _ _ _ ho0 hp69) mwX7_tell mvX7_tell mlX7_39 cl7 ho0 rfl rfl ⟨nle, nle, nle, nle⟩ nle rfl ?_
          refine R_popI dX7_addKind_72 ?_
          refine R_aload_n dX7_addKind_73 rfl rfl ?_
          refine R_iload_n dX7_addKind_74 rfl rfl ?_
          refine R_iconst dX7_addKind_75 (v := 2) rfl ?_
          refine R_aload_n dX7_addKind_76 rfl rfl ?_
          refine R_getI (ki := 2) dX7_addKind_77 cl7 flX7_18 ho0 ff7_2 rfl rfl ?_
          refine R_imul dX7_addKind_80 rfl ?_
          refine R_iconst dX7_addKind_81 (v := 1) rfl ?_
          refine R_iadd dX7_addKind_82 rfl ?_
          obtain ⟨p83, hp83, hf⟩ := bdE hf
          refine R_callV (As := [aI v2, aI (w32 ((w32 (2 * (p69.2 o0 2))) + 1))]) (st := []) dX7_addKind_83 (ct_X7_tell _ _ _ _ ho0 hp83) mwX7_tell mvX7_tell mlX7_39 cl7 ho0 rfl rfl ⟨nle, nle, nle, nle⟩ nle rfl ?_
          refine R_popI dX7_addKind_86 ?_
          refine R_aload_n dX7_addKind_87 rfl rfl ?_
          refine R_dupR dX7_addKind_88 ?_
          refine R_getI (ki := 2) dX7_addKind_89 cl7 flX7_18 ho0 ff7_2 rfl rfl ?_
          refine R_iconst dX7_addKind_92 (v := 1) rfl ?_
          refine R_iadd dX7_addKind_93 rfl ?_
          obtain ⟨M94, hM94, hf⟩ := ltE hf
          refine R_put (ki := 2) dX7_addKind_94 cl7 flX7_18 ho0 (Or.inl fz7_2) rfl hM94 ?_
          refine R_iconst dX7_addKind_97 (v := 0) rfl ?_
          cases hf; exact E_iret dX7_addKind_98 rfl rfl rfl
        · replace hf := inegE hf h30
          refine R_iconst dX7_addKind_33 (v := 4) rfl ?_
          cases hf; exact E_iret dX7_addKind_34 rfl rfl rfl
      · replace hf := inegE hf h20
        refine R_iconst dX7_addKind_23 (v := 3) rfl ?_
        cases hf; exact E_iret dX7_addKind_24 rfl rfl rfl
/-! BracketHall$Setting.parseKinds(LBracketHall$Tokens;)I -/
def f_X6_parseKinds_L12 : Nat → Int → Mem → Option (Int × Mem)
  | 0, _, _ => none
  | n + 1, v2, M =>
    if 4 < v2 then
      (f_X8_passSemicolon M).bind fun p60 =>
      some (p60.1, p60.2)
    else
      (f_X8_isSigns 2 M).bind fun p19 =>
      if p19 = 0 then
        (f_X8_passSemicolon M).bind fun p60 =>
        some (p60.1, p60.2)
      else
        (f_X8_signAt 0 M).bind fun p31 =>
        (f_X8_signAt 1 M).bind fun p36 =>
        (f_X7_addKind 5 p31 p36 M).bind fun p39 =>
        lt1 (p39.1) fun v3_42 =>
        if v3_42 = 0 then
          (f_X8_moveOn p39.2).bind fun p50 =>
          lt1 (w32 (v2 + 1)) fun v2_53 =>
          f_X6_parseKinds_L12 n v2_53 p50
        else
          some (v3_42, p39.2)
def f_X6_parseKinds  (M : Mem) : Option (Int × Mem) :=
  (f_X8_isSigns 2 M).bind fun p2 =>
  if p2 = 0 then
    some (1, M)
  else
    f_X6_parseKinds_L12 4096 0 M
set_option maxRecDepth 20000 in
theorem rn_X6_parseKinds_L12 {G : Gl} : ∀ (n : Nat) (v2 : Int) (M : Mem) (res : Int × Mem),  f_X6_parseKinds_L12 n v2 M = some res → Run G false (rmD 3 0 0) miX6_parseKinds (ZP G (some (aI res.1)) res.2) 0 0 12 [some (aR 4), some (aR 3), some (aI v2), none] [] M := by
  intro n
  induction n with
  | zero => intro v2 M res  hf; cases hf
  | succ n ih =>
    intro v2 M res  hf
    rw [f_X6_parseKinds_L12] at hf
    refine R_iload_n dX6_parseKinds_12 rfl rfl ?_
    refine R_iconst dX6_parseKinds_13 (v := 4) rfl ?_
    refine R_icmp_gt dX6_parseKinds_14 rfl (fun h14 => ?_) (fun h14 => ?_)
    · replace hf := iposE hf h14
      refine R_aload_n dX6_parseKinds_59 rfl rfl ?_
      obtain ⟨p60, hp60, hf⟩ := bdE hf
      refine R_callV (As := []) (st := []) dX6_parseKinds_60 (ct_X8_passSemicolon  _  hp60) mwX8_passSemicolon mvX8_passSemicolon mlX6_80 cl8 o_3 rfl rfl ⟨nle, nle, nle, nle⟩ nle rfl ?_
      cases hf; exact E_iret dX6_parseKinds_63 rfl rfl rfl
    · replace hf := inegE hf h14
      refine R_aload_n dX6_parseKinds_17 rfl rfl ?_
      refine R_iconst dX6_parseKinds_18 (v := 2) rfl ?_
      obtain ⟨p19, hp19, hf⟩ := bdE hf
      refine R_callV (As := [aI 2]) (st := []) dX6_parseKinds_19 (ct_X8_isSigns _ _  hp19) mwX8_isSigns mvX8_isSigns mlX6_68 cl8 o_3 rfl rfl ⟨nle, nle, nle, nle⟩ nle rfl ?_
      refine R_if_eq dX6_parseKinds_22 rfl (fun h22 => ?_) (fun h22 => ?_)
      · replace hf := iposE hf h22
        refine R_aload_n dX6_parseKinds_59 rfl rfl ?_
        obtain ⟨p60, hp60, hf⟩ := bdE hf
        refine R_callV (As := []) (st := []) dX6_parseKinds_60 (ct_X8_passSemicolon  _  hp60) mwX8_passSemicolon mvX8_passSemicolon mlX6_80 cl8 o_3 rfl rfl ⟨nle, nle, nle, nle⟩ nle rfl ?_
        cases hf; exact E_iret dX6_parseKinds_63 rfl rfl rfl
      · replace hf := inegE hf h22
        refine R_aload_n dX6_parseKinds_25 rfl rfl ?_
        refine R_getR dX6_parseKinds_26 cl6 flX6_12 o_4 ff6_0 (fr6_0 _) o_5.1 ?_
        refine R_aload_n dX6_parseKinds_29 rfl rfl ?_
        refine R_iconst dX6_parseKinds_30 (v := 0) rfl ?_
        obtain ⟨p31, hp31, hf⟩ := bdE hf
        refine R_callV (As := [aI 0]) (st := [aR 5]) dX6_parseKinds_31 (ct_X8_signAt _ _  hp31) mwX8_signAt mvX8_signAt mlX6_72 cl8 o_3 rfl rfl ⟨nle, nle, nle, nle⟩ nle rfl ?_
        refine R_aload_n dX6_parseKinds_34 rfl rfl ?_
        refine R_iconst dX6_parseKinds_35 (v := 1) rfl ?_
        obtain ⟨p36, hp36, hf⟩ := bdE hf
        refine R_callV (As := [aI 1]) (st := [aI p31, aR 5]) dX6_parseKinds_36 (ct_X8_signAt _ _  hp36) mwX8_signAt mvX8_signAt mlX6_72 cl8 o_3 rfl rfl ⟨nle, nle, nle, nle⟩ nle rfl ?_
        obtain ⟨p39, hp39, hf⟩ := bdE hf
        refine R_callV (As := [aI p31, aI p36]) (st := []) dX6_parseKinds_39 (ct_X7_addKind _ _ _ _ o_5 hp39) mwX7_addKind mvX7_addKind mlX6_76 cl7 o_5 rfl rfl ⟨nle, nle, nle, nle⟩ nle rfl ?_
        obtain ⟨v3_42, hv3_42, hf⟩ := ltE hf
        refine R_istore_n dX6_parseKinds_42 rfl (by decide) hv3_42 rfl ?_
        refine R_iload_n dX6_parseKinds_43 rfl rfl ?_
        refine R_if_eq dX6_parseKinds_44 rfl (fun h44 => ?_) (fun h44 => ?_)
        · replace hf := iposE hf h44
          refine R_aload_n dX6_parseKinds_49 rfl rfl ?_
          obtain ⟨p50, hp50, hf⟩ := bdE hf
          refine R_callV (As := []) (st := []) dX6_parseKinds_50 (ct_X8_moveOn  _  hp50) mwX8_moveOn mvX8_moveOn mlX6_49 cl8 o_3 rfl rfl ⟨nle, nle, nle, nle⟩ nle rfl ?_
          obtain ⟨v2_53, hv2_53, hf⟩ := ltE hf
          refine R_iinc dX6_parseKinds_53 rfl rfl hv2_53 (by decide) rfl ?_
          refine R_goto dX6_parseKinds_56 rfl ?_
          exact R_subk (ih _ _ _  hf) ⟨rfl, rfl, rfl, trivial⟩
        · replace hf := inegE hf h44
          refine R_iload_n dX6_parseKinds_47 rfl rfl ?_
          cases hf; exact E_iret dX6_parseKinds_48 rfl rfl rfl
set_option maxRecDepth 20000 in
theorem ct_X6_parseKinds {G : Gl}  (M : Mem) {res : Int × Mem}  (hf : f_X6_parseKinds  M = some res) : Ct G miX6_parseKinds yX6_parseKinds 3 [aR 4, aR 3] M (some (aI res.1)) res.2 := by
  refine Ct.of (L := [some (aR 4), some (aR 3), none, none]) mwX6_parseKinds rfl trivial nle ⟨rfl, rfl, trivial⟩ ?_
  unfold f_X6_parseKinds at hf
  refine R_aload_n dX6_parseKinds_0 rfl rfl ?_
  refine R_iconst dX6_parseKinds_1 (v := 2) rfl ?_
  obtain ⟨p2, hp2, hf⟩ := bdE hf
  refine R_callV (As := [aI 2]) (st := []) dX6_parseKinds_2 (ct_X8_isSigns _ _  hp2) mwX8_isSigns mvX8_isSigns mlX6_68 cl8 o_3 rfl rfl ⟨nle, nle, nle, nle⟩ nle rfl ?_
  refine R_if_ne dX6_parseKinds_5 rfl (fun h5 => ?_) (fun h5 => ?_)
  · replace hf := inegE hf h5
    refine R_iconst dX6_parseKinds_10 (v := 0) rfl ?_
    refine R_istore_n dX6_parseKinds_11 rfl (by decide) rfl rfl ?_
    exact R_subk (rn_X6_parseKinds_L12 4096 _ _ _  hf) ⟨rfl, rfl, rfl, trivial⟩
  · replace hf := iposE hf h5
    refine R_iconst dX6_parseKinds_8 (v := 1) rfl ?_
    cases hf; exact E_iret dX6_parseKinds_9 rfl rfl rfl
/-! BracketHall$Setting.parseSign(LBracketHall$Tokens;I)I -/
def f_X6_parseSign (v2 : Int) (M : Mem) : Option (Int × Mem) :=
  (f_X8_isSigns 1 M).bind fun p2 =>
  if p2 = 0 then
    some (1, M)
  else
    (f_X8_signAt 0 M).bind fun p16 =>
    (f_X7_tell 5 p16 v2 M).bind fun p20 =>
    lt1 (p20.1) fun v3_23 =>
    if v3_23 = 0 then
      (f_X8_moveOn p20.2).bind fun p29 =>
      some (v3_23, p29)
    else
      some (v3_23, p20.2)
set_option maxRecDepth 20000 in
theorem ct_X6_parseSign {G : Gl} (v2 : Int) (M : Mem) {res : Int × Mem}  (hf : f_X6_parseSign v2 M = some res) : Ct G miX6_parseSign yX6_parseSign 2 [aR 4, aR 3, aI v2] M (some (aI res.1)) res.2 := by
  refine Ct.of (L := [some (aR 4), some (aR 3), some (aI v2), none]) mwX6_parseSign rfl trivial nle ⟨rfl, rfl, rfl, trivial⟩ ?_
  unfold f_X6_parseSign at hf
  refine R_aload_n dX6_parseSign_0 rfl rfl ?_
  refine R_iconst dX6_parseSign_1 (v := 1) rfl ?_
  obtain ⟨p2, hp2, hf⟩ := bdE hf
  refine R_callV (As := [aI 1]) (st := []) dX6_parseSign_2 (ct_X8_isSigns _ _  hp2) mwX8_isSigns mvX8_isSigns mlX6_68 cl8 o_3 rfl rfl ⟨nle, nle, nle, nle⟩ nle rfl ?_
  refine R_if_ne dX6_parseSign_5 rfl (fun h5 => ?_) (fun h5 => ?_)
  · replace hf := inegE hf h5
    refine R_aload_n dX6_parseSign_10 rfl rfl ?_
    refine R_getR dX6_parseSign_11 cl6 flX6_12 o_4 ff6_0 (fr6_0 _) o_5.1 ?_
    refine R_aload_n dX6_parseSign_14 rfl rfl ?_
    refine R_iconst dX6_parseSign_15 (v := 0) rfl ?_
    obtain ⟨p16, hp16, hf⟩ := bdE hf
    refine R_callV (As := [aI 0]) (st := [aR 5]) dX6_parseSign_16 (ct_X8_signAt _ _  hp16) mwX8_signAt mvX8_signAt mlX6_72 cl8 o_3 rfl rfl ⟨nle, nle, nle, nle⟩ nle rfl ?_
    refine R_iload_n dX6_parseSign_19 rfl rfl ?_
    obtain ⟨p20, hp20, hf⟩ := bdE hf
    refine R_callV (As := [aI p16, aI v2]) (st := []) dX6_parseSign_20 (ct_X7_tell _ _ _ _ o_5 hp20) mwX7_tell mvX7_tell mlX6_109 cl7 o_5 rfl rfl ⟨nle, nle, nle, nle⟩ nle rfl ?_
    obtain ⟨v3_23, hv3_23, hf⟩ := ltE hf
    refine R_istore_n dX6_parseSign_23 rfl (by decide) hv3_23 rfl ?_
    refine R_iload_n dX6_parseSign_24 rfl rfl ?_
    refine R_if_ne dX6_parseSign_25 rfl (fun h25 => ?_) (fun h25 => ?_)
    · replace hf := inegE hf h25
      refine R_iload_n dX6_parseSign_32 rfl rfl ?_
      cases hf; exact E_iret dX6_parseSign_33 rfl rfl rfl
    · replace hf := iposE hf h25
      refine R_aload_n dX6_parseSign_28 rfl rfl ?_
      obtain ⟨p29, hp29, hf⟩ := bdE hf
      refine R_callV (As := []) (st := []) dX6_parseSign_29 (ct_X8_moveOn  _  hp29) mwX8_moveOn mvX8_moveOn mlX6_49 cl8 o_3 rfl rfl ⟨nle, nle, nle, nle⟩ nle rfl ?_
      refine R_iload_n dX6_parseSign_32 rfl rfl ?_
      cases hf; exact E_iret dX6_parseSign_33 rfl rfl rfl
  · replace hf := iposE hf h5
    refine R_iconst dX6_parseSign_8 (v := 1) rfl ?_
    cases hf; exact E_iret dX6_parseSign_9 rfl rfl rfl
/-! BracketHall$Setting.parseQuote(LBracketHall$Tokens;)I -/
def f_X6_parseQuote  (M : Mem) : Option (Int × Mem) :=
  if (M 4 5) = 0 then
    lt1 (up M 4 5 1) fun M11 =>
    (f_X8_moveOn M11).bind fun p15 =>
    (f_X6_parseSign 8 p15).bind fun p22 =>
    lt1 (p22.1) fun v2_25 =>
    if v2_25 = 0 then
      (f_X8_isWord 203 p22.2).bind fun p33 =>
      if p33 = 0 then
        some (v2_25, p22.2)
      else
        (f_X8_moveOn p22.2).bind fun p42 =>
        (f_X6_parseSign 9 p42).bind fun p49 =>
        some (p49.1, p49.2)
    else
      some (v2_25, p22.2)
  else
    some (4, M)
set_option maxRecDepth 20000 in
theorem ct_X6_parseQuote {G : Gl}  (M : Mem) {res : Int × Mem}  (hf : f_X6_parseQuote  M = some res) : Ct G miX6_parseQuote yX6_parseQuote 5 [aR 4, aR 3] M (some (aI res.1)) res.2 := by
  refine Ct.of (L := [some (aR 4), some (aR 3), none]) mwX6_parseQuote rfl trivial nle ⟨rfl, rfl, trivial⟩ ?_
  unfold f_X6_parseQuote at hf
  refine R_aload_n dX6_parseQuote_0 rfl rfl ?_
  refine R_getI (ki := 5) dX6_parseQuote_1 cl6 flX6_31 o_4 ff6_5 rfl rfl ?_
  refine R_if_eq dX6_parseQuote_4 rfl (fun h4 => ?_) (fun h4 => ?_)
  · replace hf := iposE hf h4
    refine R_aload_n dX6_parseQuote_9 rfl rfl ?_
    refine R_iconst dX6_parseQuote_10 (v := 1) rfl ?_
    obtain ⟨M11, hM11, hf⟩ := ltE hf
    refine R_put (ki := 5) dX6_parseQuote_11 cl6 flX6_31 o_4 (Or.inr ⟨fz6_5, by decide⟩) rfl hM11 ?_
    refine R_aload_n dX6_parseQuote_14 rfl rfl ?_
    obtain ⟨p15, hp15, hf⟩ := bdE hf
    refine R_callV (As := []) (st := []) dX6_parseQuote_15 (ct_X8_moveOn  _  hp15) mwX8_moveOn mvX8_moveOn mlX6_49 cl8 o_3 rfl rfl ⟨nle, nle, nle, nle⟩ nle rfl ?_
    refine R_aload_n dX6_parseQuote_18 rfl rfl ?_
    refine R_aload_n dX6_parseQuote_19 rfl rfl ?_
    refine R_bipush dX6_parseQuote_20 (v := 8) rfl ?_
    obtain ⟨p22, hp22, hf⟩ := bdE hf
    refine R_callV (As := [aR 3, aI 8]) (st := []) dX6_parseQuote_22 (ct_X6_parseSign _ _  hp22) mwX6_parseSign mvX6_parseSign mlX6_103 cl6 o_4 rfl rfl ⟨nle, nle, nle, nle⟩ nle rfl ?_
    obtain ⟨v2_25, hv2_25, hf⟩ := ltE hf
    refine R_istore_n dX6_parseQuote_25 rfl (by decide) hv2_25 rfl ?_
    refine R_iload_n dX6_parseQuote_26 rfl rfl ?_
    refine R_if_ne dX6_parseQuote_27 rfl (fun h27 => ?_) (fun h27 => ?_)
    · replace hf := inegE hf h27
      refine R_iload_n dX6_parseQuote_39 rfl rfl ?_
      cases hf; exact E_iret dX6_parseQuote_40 rfl rfl rfl
    · replace hf := iposE hf h27
      refine R_aload_n dX6_parseQuote_30 rfl rfl ?_
      refine R_ldcS dX6_parseQuote_31 (j := 3) rfl rfl ?_
      obtain ⟨p33, hp33, hf⟩ := bdE hf
      refine R_callV (As := [aR 203]) (st := []) dX6_parseQuote_33 (ct_X8_isWord _ _ s_3 hp33) mwX8_isWord mvX8_isWord mlX6_43 cl8 o_3 rfl rfl ⟨nle, nle, nle, nle⟩ nle rfl ?_
      refine R_if_ne dX6_parseQuote_36 rfl (fun h36 => ?_) (fun h36 => ?_)
      · replace hf := inegE hf h36
        refine R_aload_n dX6_parseQuote_41 rfl rfl ?_
        obtain ⟨p42, hp42, hf⟩ := bdE hf
        refine R_callV (As := []) (st := []) dX6_parseQuote_42 (ct_X8_moveOn  _  hp42) mwX8_moveOn mvX8_moveOn mlX6_49 cl8 o_3 rfl rfl ⟨nle, nle, nle, nle⟩ nle rfl ?_
        refine R_aload_n dX6_parseQuote_45 rfl rfl ?_
        refine R_aload_n dX6_parseQuote_46 rfl rfl ?_
        refine R_bipush dX6_parseQuote_47 (v := 9) rfl ?_
        obtain ⟨p49, hp49, hf⟩ := bdE hf
        refine R_callV (As := [aR 3, aI 9]) (st := []) dX6_parseQuote_49 (ct_X6_parseSign _ _  hp49) mwX6_parseSign mvX6_parseSign mlX6_103 cl6 o_4 rfl rfl ⟨nle, nle, nle, nle⟩ nle rfl ?_
        cases hf; exact E_iret dX6_parseQuote_52 rfl rfl rfl
      · replace hf := iposE hf h36
        refine R_iload_n dX6_parseQuote_39 rfl rfl ?_
        cases hf; exact E_iret dX6_parseQuote_40 rfl rfl rfl
  · replace hf := inegE hf h4
    refine R_iconst dX6_parseQuote_7 (v := 4) rfl ?_
    cases hf; exact E_iret dX6_parseQuote_8 rfl rfl rfl
/-! BracketHall$Setting.parseNote(LBracketHall$Tokens;)I -/
def f_X6_parseNote  (M : Mem) : Option (Int × Mem) :=
  if (M 4 6) = 0 then
    lt1 (up M 4 6 1) fun M11 =>
    (f_X8_moveOn M11).bind fun p15 =>
    (f_X6_parseSign 10 p15).bind fun p22 =>
    some (p22.1, p22.2)
  else
    some (4, M)
set_option maxRecDepth 20000 in
theorem ct_X6_parseNote {G : Gl}  (M : Mem) {res : Int × Mem}  (hf : f_X6_parseNote  M = some res) : Ct G miX6_parseNote yX6_parseNote 3 [aR 4, aR 3] M (some (aI res.1)) res.2 := by
  refine Ct.of (L := [some (aR 4), some (aR 3)]) mwX6_parseNote rfl trivial nle ⟨rfl, rfl, trivial⟩ ?_
  unfold f_X6_parseNote at hf
  refine R_aload_n dX6_parseNote_0 rfl rfl ?_
  refine R_getI (ki := 6) dX6_parseNote_1 cl6 flX6_35 o_4 ff6_6 rfl rfl ?_
  refine R_if_eq dX6_parseNote_4 rfl (fun h4 => ?_) (fun h4 => ?_)
  · replace hf := iposE hf h4
    refine R_aload_n dX6_parseNote_9 rfl rfl ?_
    refine R_iconst dX6_parseNote_10 (v := 1) rfl ?_
    obtain ⟨M11, hM11, hf⟩ := ltE hf
    refine R_put (ki := 6) dX6_parseNote_11 cl6 flX6_35 o_4 (Or.inr ⟨fz6_6, by decide⟩) rfl hM11 ?_
    refine R_aload_n dX6_parseNote_14 rfl rfl ?_
    obtain ⟨p15, hp15, hf⟩ := bdE hf
    refine R_callV (As := []) (st := []) dX6_parseNote_15 (ct_X8_moveOn  _  hp15) mwX8_moveOn mvX8_moveOn mlX6_49 cl8 o_3 rfl rfl ⟨nle, nle, nle, nle⟩ nle rfl ?_
    refine R_aload_n dX6_parseNote_18 rfl rfl ?_
    refine R_aload_n dX6_parseNote_19 rfl rfl ?_
    refine R_bipush dX6_parseNote_20 (v := 10) rfl ?_
    obtain ⟨p22, hp22, hf⟩ := bdE hf
    refine R_callV (As := [aR 3, aI 10]) (st := []) dX6_parseNote_22 (ct_X6_parseSign _ _  hp22) mwX6_parseSign mvX6_parseSign mlX6_103 cl6 o_4 rfl rfl ⟨nle, nle, nle, nle⟩ nle rfl ?_
    cases hf; exact E_iret dX6_parseNote_25 rfl rfl rfl
  · replace hf := inegE hf h4
    refine R_iconst dX6_parseNote_7 (v := 4) rfl ?_
    cases hf; exact E_iret dX6_parseNote_8 rfl rfl rfl
/-! BracketHall$Setting.parseColours(LBracketHall$Tokens;)I -/
def f_X6_parseColours  (M : Mem) : Option (Int × Mem) :=
  (f_X8_moveOn M).bind fun p1 =>
  (f_X8_takeNumber 1 9 p1).bind fun p9 =>
  lt1 (up p9.2 4 1 p9.1) fun M12 =>
  if 0 ≤ (M12 4 1) then
    some (0, M12)
  else
    some (w32 (-(M12 4 1)), M12)
set_option maxRecDepth 20000 in
theorem ct_X6_parseColours {G : Gl}  (M : Mem) {res : Int × Mem}  (hf : f_X6_parseColours  M = some res) : Ct G miX6_parseColours yX6_parseColours 3 [aR 4, aR 3] M (some (aI res.1)) res.2 := by
  refine Ct.of (L := [some (aR 4), some (aR 3)]) mwX6_parseColours rfl trivial nle ⟨rfl, rfl, trivial⟩ ?_
  unfold f_X6_parseColours at hf
  refine R_aload_n dX6_parseColours_0 rfl rfl ?_
  obtain ⟨p1, hp1, hf⟩ := bdE hf
  refine R_callV (As := []) (st := []) dX6_parseColours_1 (ct_X8_moveOn  _  hp1) mwX8_moveOn mvX8_moveOn mlX6_49 cl8 o_3 rfl rfl ⟨nle, nle, nle, nle⟩ nle rfl ?_
  refine R_aload_n dX6_parseColours_4 rfl rfl ?_
  refine R_aload_n dX6_parseColours_5 rfl rfl ?_
  refine R_iconst dX6_parseColours_6 (v := 1) rfl ?_
  refine R_bipush dX6_parseColours_7 (v := 9) rfl ?_
  obtain ⟨p9, hp9, hf⟩ := bdE hf
  refine R_callV (As := [aI 1, aI 9]) (st := [aR 4]) dX6_parseColours_9 (ct_X8_takeNumber _ _ _  hp9) mwX8_takeNumber mvX8_takeNumber mlX6_112 cl8 o_3 rfl rfl ⟨nle, nle, nle, nle⟩ nle rfl ?_
  obtain ⟨M12, hM12, hf⟩ := ltE hf
  refine R_put (ki := 1) dX6_parseColours_12 cl6 flX6_18 o_4 (Or.inl fz6_1) rfl hM12 ?_
  refine R_aload_n dX6_parseColours_15 rfl rfl ?_
  refine R_getI (ki := 1) dX6_parseColours_16 cl6 flX6_18 o_4 ff6_1 rfl rfl ?_
  refine R_if_ge dX6_parseColours_19 rfl (fun h19 => ?_) (fun h19 => ?_)
  · replace hf := iposE hf h19
    refine R_iconst dX6_parseColours_30 (v := 0) rfl ?_
    cases hf; exact E_iret dX6_parseColours_31 rfl rfl rfl
  · replace hf := inegE hf h19
    refine R_aload_n dX6_parseColours_22 rfl rfl ?_
    refine R_getI (ki := 1) dX6_parseColours_23 cl6 flX6_18 o_4 ff6_1 rfl rfl ?_
    refine R_ineg dX6_parseColours_26 rfl ?_
    refine R_goto dX6_parseColours_27 rfl ?_
    cases hf; exact E_iret dX6_parseColours_31 rfl rfl rfl
/-! BracketHall$Setting.parseCosts(LBracketHall$Tokens;)I -/
def f_X6_parseCosts  (M : Mem) : Option (Int × Mem) :=
  (f_X8_moveOn M).bind fun p1 =>
  (f_X8_takeNumber 1 99 p1).bind fun p9 =>
  lt1 (up p9.2 4 2 p9.1) fun M12 =>
  if 0 ≤ (M12 4 2) then
    (f_X8_takeNumber 1 99 M12).bind fun p33 =>
    lt1 (up p33.2 4 3 p33.1) fun M36 =>
    if 0 ≤ (M36 4 3) then
      (f_X8_takeNumber 1 99 M36).bind fun p57 =>
      lt1 (up p57.2 4 4 p57.1) fun M60 =>
      if 0 ≤ (M60 4 4) then
        some (0, M60)
      else
        some (w32 (-(M60 4 4)), M60)
    else
      some (w32 (-(M36 4 3)), M36)
  else
    some (w32 (-(M12 4 2)), M12)
set_option maxRecDepth 20000 in
theorem ct_X6_parseCosts {G : Gl}  (M : Mem) {res : Int × Mem}  (hf : f_X6_parseCosts  M = some res) : Ct G miX6_parseCosts yX6_parseCosts 3 [aR 4, aR 3] M (some (aI res.1)) res.2 := by
  refine Ct.of (L := [some (aR 4), some (aR 3)]) mwX6_parseCosts rfl trivial nle ⟨rfl, rfl, trivial⟩ ?_
  unfold f_X6_parseCosts at hf
  refine R_aload_n dX6_parseCosts_0 rfl rfl ?_
  obtain ⟨p1, hp1, hf⟩ := bdE hf
  refine R_callV (As := []) (st := []) dX6_parseCosts_1 (ct_X8_moveOn  _  hp1) mwX8_moveOn mvX8_moveOn mlX6_49 cl8 o_3 rfl rfl ⟨nle, nle, nle, nle⟩ nle rfl ?_
  refine R_aload_n dX6_parseCosts_4 rfl rfl ?_
  refine R_aload_n dX6_parseCosts_5 rfl rfl ?_
  refine R_iconst dX6_parseCosts_6 (v := 1) rfl ?_
  refine R_bipush dX6_parseCosts_7 (v := 99) rfl ?_
  obtain ⟨p9, hp9, hf⟩ := bdE hf
  refine R_callV (As := [aI 1, aI 99]) (st := [aR 4]) dX6_parseCosts_9 (ct_X8_takeNumber _ _ _  hp9) mwX8_takeNumber mvX8_takeNumber mlX6_112 cl8 o_3 rfl rfl ⟨nle, nle, nle, nle⟩ nle rfl ?_
  obtain ⟨M12, hM12, hf⟩ := ltE hf
  refine R_put (ki := 2) dX6_parseCosts_12 cl6 flX6_22 o_4 (Or.inl fz6_2) rfl hM12 ?_
  refine R_aload_n dX6_parseCosts_15 rfl rfl ?_
  refine R_getI (ki := 2) dX6_parseCosts_16 cl6 flX6_22 o_4 ff6_2 rfl rfl ?_
  refine R_if_ge dX6_parseCosts_19 rfl (fun h19 => ?_) (fun h19 => ?_)
  · replace hf := iposE hf h19
    refine R_aload_n dX6_parseCosts_28 rfl rfl ?_
    refine R_aload_n dX6_parseCosts_29 rfl rfl ?_
    refine R_iconst dX6_parseCosts_30 (v := 1) rfl ?_
    refine R_bipush dX6_parseCosts_31 (v := 99) rfl ?_
    obtain ⟨p33, hp33, hf⟩ := bdE hf
    refine R_callV (As := [aI 1, aI 99]) (st := [aR 4]) dX6_parseCosts_33 (ct_X8_takeNumber _ _ _  hp33) mwX8_takeNumber mvX8_takeNumber mlX6_112 cl8 o_3 rfl rfl ⟨nle, nle, nle, nle⟩ nle rfl ?_
    obtain ⟨M36, hM36, hf⟩ := ltE hf
    refine R_put (ki := 3) dX6_parseCosts_36 cl6 flX6_25 o_4 (Or.inl fz6_3) rfl hM36 ?_
    refine R_aload_n dX6_parseCosts_39 rfl rfl ?_
    refine R_getI (ki := 3) dX6_parseCosts_40 cl6 flX6_25 o_4 ff6_3 rfl rfl ?_
    refine R_if_ge dX6_parseCosts_43 rfl (fun h43 => ?_) (fun h43 => ?_)
    · replace hf := iposE hf h43
      refine R_aload_n dX6_parseCosts_52 rfl rfl ?_
      refine R_aload_n dX6_parseCosts_53 rfl rfl ?_
      refine R_iconst dX6_parseCosts_54 (v := 1) rfl ?_
      refine R_bipush dX6_parseCosts_55 (v := 99) rfl ?_
      obtain ⟨p57, hp57, hf⟩ := bdE hf
      refine R_callV (As := [aI 1, aI 99]) (st := [aR 4]) dX6_parseCosts_57 (ct_X8_takeNumber _ _ _  hp57) mwX8_takeNumber mvX8_takeNumber mlX6_112 cl8 o_3 rfl rfl ⟨nle, nle, nle, nle⟩ nle rfl ?_
      obtain ⟨M60, hM60, hf⟩ := ltE hf
      refine R_put (ki := 4) dX6_parseCosts_60 cl6 flX6_28 o_4 (Or.inl fz6_4) rfl hM60 ?_
      refine R_aload_n dX6_parseCosts_63 rfl rfl ?_
      refine R_getI (ki := 4) dX6_parseCosts_64 cl6 flX6_28 o_4 ff6_4 rfl rfl ?_
      refine R_if_ge dX6_parseCosts_67 rfl (fun h67 => ?_) (fun h67 => ?_)
      · replace hf := iposE hf h67
        refine R_iconst dX6_parseCosts_78 (v := 0) rfl ?_
        cases hf; exact E_iret dX6_parseCosts_79 rfl rfl rfl
      · replace hf := inegE hf h67
        refine R_aload_n dX6_parseCosts_70 rfl rfl ?_
        refine R_getI (ki := 4) dX6_parseCosts_71 cl6 flX6_28 o_4 ff6_4 rfl rfl ?_
        refine R_ineg dX6_parseCosts_74 rfl ?_
        refine R_goto dX6_parseCosts_75 rfl ?_
        cases hf; exact E_iret dX6_parseCosts_79 rfl rfl rfl
    · replace hf := inegE hf h43
      refine R_aload_n dX6_parseCosts_46 rfl rfl ?_
      refine R_getI (ki := 3) dX6_parseCosts_47 cl6 flX6_25 o_4 ff6_3 rfl rfl ?_
      refine R_ineg dX6_parseCosts_50 rfl ?_
      cases hf; exact E_iret dX6_parseCosts_51 rfl rfl rfl
  · replace hf := inegE hf h19
    refine R_aload_n dX6_parseCosts_22 rfl rfl ?_
    refine R_getI (ki := 2) dX6_parseCosts_23 cl6 flX6_22 o_4 ff6_2 rfl rfl ?_
    refine R_ineg dX6_parseCosts_26 rfl ?_
    cases hf; exact E_iret dX6_parseCosts_27 rfl rfl rfl
/-! BracketHall$Setting.parseStatement(LBracketHall$Tokens;)I -/
def f_X6_parseStatement  (M : Mem) : Option (Int × Mem) :=
  (f_X8_isWord 202 M).bind fun p5 =>
  if p5 = 0 then
    (f_X8_isWord 204 M).bind fun p23 =>
    if p23 = 0 then
      (f_X8_isWord 205 M).bind fun p41 =>
      if p41 = 0 then
        (f_X8_isWord 206 M).bind fun p59 =>
        if p59 = 0 then
          some (1, M)
        else
          (f_X6_parseCosts M).bind fun p67 =>
          lt1 (p67.1) fun v2_70 =>
          if v2_70 = 0 then
            (f_X8_passSemicolon p67.2).bind fun p76 =>
            some (p76.1, p76.2)
          else
            some (v2_70, p67.2)
      else
        (f_X6_parseColours M).bind fun p49 =>
        lt1 (p49.1) fun v2_52 =>
        if v2_52 = 0 then
          (f_X8_passSemicolon p49.2).bind fun p76 =>
          some (p76.1, p76.2)
        else
          some (v2_52, p49.2)
    else
      (f_X6_parseNote M).bind fun p31 =>
      lt1 (p31.1) fun v2_34 =>
      if v2_34 = 0 then
        (f_X8_passSemicolon p31.2).bind fun p76 =>
        some (p76.1, p76.2)
      else
        some (v2_34, p31.2)
  else
    (f_X6_parseQuote M).bind fun p13 =>
    lt1 (p13.1) fun v2_16 =>
    if v2_16 = 0 then
      (f_X8_passSemicolon p13.2).bind fun p76 =>
      some (p76.1, p76.2)
    else
      some (v2_16, p13.2)
set_option maxRecDepth 20000 in
theorem ct_X6_parseStatement {G : Gl}  (M : Mem) {res : Int × Mem}  (hf : f_X6_parseStatement  M = some res) : Ct G miX6_parseStatement yX6_parseStatement 6 [aR 4, aR 3] M (some (aI res.1)) res.2 := by
  refine Ct.of (L := [some (aR 4), some (aR 3), none]) mwX6_parseStatement rfl trivial nle ⟨rfl, rfl, trivial⟩ ?_
  unfold f_X6_parseStatement at hf
  refine R_iconst dX6_parseStatement_0 (v := 1) rfl ?_
  refine R_istore_n dX6_parseStatement_1 rfl (by decide) rfl rfl ?_
  refine R_aload_n dX6_parseStatement_2 rfl rfl ?_
  refine R_ldcS dX6_parseStatement_3 (j := 2) rfl rfl ?_
  obtain ⟨p5, hp5, hf⟩ := bdE hf
  refine R_callV (As := [aR 202]) (st := []) dX6_parseStatement_5 (ct_X8_isWord _ _ s_2 hp5) mwX8_isWord mvX8_isWord mlX6_43 cl8 o_3 rfl rfl ⟨nle, nle, nle, nle⟩ nle rfl ?_
  refine R_if_eq dX6_parseStatement_8 rfl (fun h8 => ?_) (fun h8 => ?_)
  · replace hf := iposE hf h8
    refine R_aload_n dX6_parseStatement_20 rfl rfl ?_
    refine R_ldcS dX6_parseStatement_21 (j := 4) rfl rfl ?_
    obtain ⟨p23, hp23, hf⟩ := bdE hf
    refine R_callV (As := [aR 204]) (st := []) dX6_parseStatement_23 (ct_X8_isWord _ _ s_4 hp23) mwX8_isWord mvX8_isWord mlX6_43 cl8 o_3 rfl rfl ⟨nle, nle, nle, nle⟩ nle rfl ?_
    refine R_if_eq dX6_parseStatement_26 rfl (fun h26 => ?_) (fun h26 => ?_)
    · replace hf := iposE hf h26
      refine R_aload_n dX6_parseStatement_38 rfl rfl ?_
      refine R_ldcS dX6_parseStatement_39 (j := 5) rfl rfl ?_
      obtain ⟨p41, hp41, hf⟩ := bdE hf
      refine R_callV (As := [aR 205]) (st := []) dX6_parseStatement_41 (ct_X8_isWord _ _ s_5 hp41) mwX8_isWord mvX8_isWord mlX6_43 cl8 o_3 rfl rfl ⟨nle, nle, nle, nle⟩ nle rfl ?_
      refine R_if_eq dX6_parseStatement_44 rfl (fun h44 => ?_) (fun h44 => ?_)
      · replace hf := iposE hf h44
        refine R_aload_n dX6_parseStatement_56 rfl rfl ?_
        refine R_ldcS dX6_parseStatement_57 (j := 6) rfl rfl ?_
        obtain ⟨p59, hp59, hf⟩ := bdE hf
        refine R_callV (As := [aR 206]) (st := []) dX6_parseStatement_59 (ct_X8_isWord _ _ s_6 hp59) mwX8_isWord mvX8_isWord mlX6_43 cl8 o_3 rfl rfl ⟨nle, nle, nle, nle⟩ nle rfl ?_
        refine R_if_eq dX6_parseStatement_62 rfl (fun h62 => ?_) (fun h62 => ?_)
        · replace hf := iposE hf h62
          refine R_iload_n dX6_parseStatement_71 rfl rfl ?_
          refine R_if_ne dX6_parseStatement_72 rfl (fun _ => ?_) (fun h => absurd h (by decide))
          refine R_iload_n dX6_parseStatement_82 rfl rfl ?_
          cases hf; exact E_iret dX6_parseStatement_83 rfl rfl rfl
        · replace hf := inegE hf h62
          refine R_aload_n dX6_parseStatement_65 rfl rfl ?_
          refine R_aload_n dX6_parseStatement_66 rfl rfl ?_
          obtain ⟨p67, hp67, hf⟩ := bdE hf
          refine R_callV (As := [aR 3]) (st := []) dX6_parseStatement_67 (ct_X6_parseCosts  _  hp67) mwX6_parseCosts mvX6_parseCosts mlX6_100 cl6 o_4 rfl rfl ⟨nle, nle, nle, nle⟩ nle rfl ?_
          obtain ⟨v2_70, hv2_70, hf⟩ := ltE hf
          refine R_istore_n dX6_parseStatement_70 rfl (by decide) hv2_70 rfl ?_
          refine R_iload_n dX6_parseStatement_71 rfl rfl ?_
          refine R_if_ne dX6_parseStatement_72 rfl (fun h72 => ?_) (fun h72 => ?_)
          · replace hf := inegE hf h72
            refine R_iload_n dX6_parseStatement_82 rfl rfl ?_
            cases hf; exact E_iret dX6_parseStatement_83 rfl rfl rfl
          · replace hf := iposE hf h72
            refine R_aload_n dX6_parseStatement_75 rfl rfl ?_
            obtain ⟨p76, hp76, hf⟩ := bdE hf
            refine R_callV (As := []) (st := []) dX6_parseStatement_76 (ct_X8_passSemicolon  _  hp76) mwX8_passSemicolon mvX8_passSemicolon mlX6_80 cl8 o_3 rfl rfl ⟨nle, nle, nle, nle⟩ nle rfl ?_
            refine R_goto dX6_parseStatement_79 rfl ?_
            cases hf; exact E_iret dX6_parseStatement_83 rfl rfl rfl
      · replace hf := inegE hf h44
        refine R_aload_n dX6_parseStatement_47 rfl rfl ?_
        refine R_aload_n dX6_parseStatement_48 rfl rfl ?_
        obtain ⟨p49, hp49, hf⟩ := bdE hf
        refine R_callV (As := [aR 3]) (st := []) dX6_parseStatement_49 (ct_X6_parseColours  _  hp49) mwX6_parseColours mvX6_parseColours mlX6_95 cl6 o_4 rfl rfl ⟨nle, nle, nle, nle⟩ nle rfl ?_
        obtain ⟨v2_52, hv2_52, hf⟩ := ltE hf
        refine R_istore_n dX6_parseStatement_52 rfl (by decide) hv2_52 rfl ?_
        refine R_goto dX6_parseStatement_53 rfl ?_
        refine R_iload_n dX6_parseStatement_71 rfl rfl ?_
        refine R_if_ne dX6_parseStatement_72 rfl (fun h72 => ?_) (fun h72 => ?_)
        · replace hf := inegE hf h72
          refine R_iload_n dX6_parseStatement_82 rfl rfl ?_
          cases hf; exact E_iret dX6_parseStatement_83 rfl rfl rfl
        · replace hf := iposE hf h72
          refine R_aload_n dX6_parseStatement_75 rfl rfl ?_
          obtain ⟨p76, hp76, hf⟩ := bdE hf
          refine R_callV (As := []) (st := []) dX6_parseStatement_76 (ct_X8_passSemicolon  _  hp76) mwX8_passSemicolon mvX8_passSemicolon mlX6_80 cl8 o_3 rfl rfl ⟨nle, nle, nle, nle⟩ nle rfl ?_
          refine R_goto dX6_parseStatement_79 rfl ?_
          cases hf; exact E_iret dX6_parseStatement_83 rfl rfl rfl
    · replace hf := inegE hf h26
      refine R_aload_n dX6_parseStatement_29 rfl rfl ?_
      refine R_aload_n dX6_parseStatement_30 rfl rfl ?_
      obtain ⟨p31, hp31, hf⟩ := bdE hf
      refine R_callV (As := [aR 3]) (st := []) dX6_parseStatement_31 (ct_X6_parseNote  _  hp31) mwX6_parseNote mvX6_parseNote mlX6_91 cl6 o_4 rfl rfl ⟨nle, nle, nle, nle⟩ nle rfl ?_
      obtain ⟨v2_34, hv2_34, hf⟩ := ltE hf
      refine R_istore_n dX6_parseStatement_34 rfl (by decide) hv2_34 rfl ?_
      refine R_goto dX6_parseStatement_35 rfl ?_
      refine R_iload_n dX6_parseStatement_71 rfl rfl ?_
      refine R_if_ne dX6_parseStatement_72 rfl (fun h72 => ?_) (fun h72 => ?_)
      · replace hf := inegE hf h72
        refine R_iload_n dX6_parseStatement_82 rfl rfl ?_
        cases hf; exact E_iret dX6_parseStatement_83 rfl rfl rfl
      · replace hf := iposE hf h72
        refine R_aload_n dX6_parseStatement_75 rfl rfl ?_
        obtain ⟨p76, hp76, hf⟩ := bdE hf
        refine R_callV (As := []) (st := []) dX6_parseStatement_76 (ct_X8_passSemicolon  _  hp76) mwX8_passSemicolon mvX8_passSemicolon mlX6_80 cl8 o_3 rfl rfl ⟨nle, nle, nle, nle⟩ nle rfl ?_
        refine R_goto dX6_parseStatement_79 rfl ?_
        cases hf; exact E_iret dX6_parseStatement_83 rfl rfl rfl
  · replace hf := inegE hf h8
    refine R_aload_n dX6_parseStatement_11 rfl rfl ?_
    refine R_aload_n dX6_parseStatement_12 rfl rfl ?_
    obtain ⟨p13, hp13, hf⟩ := bdE hf
    refine R_callV (As := [aR 3]) (st := []) dX6_parseStatement_13 (ct_X6_parseQuote  _  hp13) mwX6_parseQuote mvX6_parseQuote mlX6_86 cl6 o_4 rfl rfl ⟨nle, nle, nle, nle⟩ nle rfl ?_
    obtain ⟨v2_16, hv2_16, hf⟩ := ltE hf
    refine R_istore_n dX6_parseStatement_16 rfl (by decide) hv2_16 rfl ?_
    refine R_goto dX6_parseStatement_17 rfl ?_
    refine R_iload_n dX6_parseStatement_71 rfl rfl ?_
    refine R_if_ne dX6_parseStatement_72 rfl (fun h72 => ?_) (fun h72 => ?_)
    · replace hf := inegE hf h72
      refine R_iload_n dX6_parseStatement_82 rfl rfl ?_
      cases hf; exact E_iret dX6_parseStatement_83 rfl rfl rfl
    · replace hf := iposE hf h72
      refine R_aload_n dX6_parseStatement_75 rfl rfl ?_
      obtain ⟨p76, hp76, hf⟩ := bdE hf
      refine R_callV (As := []) (st := []) dX6_parseStatement_76 (ct_X8_passSemicolon  _  hp76) mwX8_passSemicolon mvX8_passSemicolon mlX6_80 cl8 o_3 rfl rfl ⟨nle, nle, nle, nle⟩ nle rfl ?_
      refine R_goto dX6_parseStatement_79 rfl ?_
      cases hf; exact E_iret dX6_parseStatement_83 rfl rfl rfl
/-! BracketHall$Setting.parse(LBracketHall$Tokens;)I -/
def f_X6_parse_L27 : Nat → Int → Int → Mem → Option (Int × Mem)
  | 0, _, _, _ => none
  | n + 1, v2, v3, M =>
    if 600 ≤ v3 then
      some (v2, M)
    else
      if v2 = 0 then
        (f_X8_isEnd M).bind fun p39 =>
        if p39 = 0 then
          (f_X6_parseStatement M).bind fun p47 =>
          lt1 (p47.1) fun v2_50 =>
          lt1 (w32 (v3 + 1)) fun v3_51 =>
          f_X6_parse_L27 n v2_50 v3_51 p47.2
        else
          some (v2, M)
      else
        some (v2, M)
def f_X6_parse  (M : Mem) : Option (Int × Mem) :=
  (f_X6_startOver M).bind fun p1 =>
  (f_X8_isWord 201 p1).bind fun p7 =>
  if p7 = 0 then
    some (1, p1)
  else
    (f_X8_moveOn p1).bind fun p16 =>
    (f_X6_parseKinds p16).bind fun p21 =>
    lt1 (p21.1) fun v2_24 =>
    f_X6_parse_L27 4096 v2_24 0 p21.2
set_option maxRecDepth 20000 in
theorem rn_X6_parse_L27 {G : Gl} : ∀ (n : Nat) (v2 : Int) (v3 : Int) (M : Mem) (res : Int × Mem),  f_X6_parse_L27 n v2 v3 M = some res → Run G false (rmD 7 0 0) miX6_parse (ZP G (some (aI res.1)) res.2) 0 0 27 [some (aR 4), some (aR 3), some (aI v2), some (aI v3)] [] M := by
  intro n
  induction n with
  | zero => intro v2 v3 M res  hf; cases hf
  | succ n ih =>
    intro v2 v3 M res  hf
    rw [f_X6_parse_L27] at hf
    refine R_iload_n dX6_parse_27 rfl rfl ?_
    refine R_sipush dX6_parse_28 (v := 600) rfl ?_
    refine R_icmp_ge dX6_parse_31 rfl (fun h31 => ?_) (fun h31 => ?_)
    · replace hf := iposE hf h31
      refine R_iload_n dX6_parse_57 rfl rfl ?_
      cases hf; exact E_iret dX6_parse_58 rfl rfl rfl
    · replace hf := inegE hf h31
      refine R_iload_n dX6_parse_34 rfl rfl ?_
      refine R_if_ne dX6_parse_35 rfl (fun h35 => ?_) (fun h35 => ?_)
      · replace hf := inegE hf h35
        refine R_iload_n dX6_parse_57 rfl rfl ?_
        cases hf; exact E_iret dX6_parse_58 rfl rfl rfl
      · replace hf := iposE hf h35
        refine R_aload_n dX6_parse_38 rfl rfl ?_
        obtain ⟨p39, hp39, hf⟩ := bdE hf
        refine R_callV (As := []) (st := []) dX6_parse_39 (ct_X8_isEnd  _  hp39) mwX8_isEnd mvX8_isEnd mlX6_56 cl8 o_3 rfl rfl ⟨nle, nle, nle, nle⟩ nle rfl ?_
        refine R_if_ne dX6_parse_42 rfl (fun h42 => ?_) (fun h42 => ?_)
        · replace hf := inegE hf h42
          refine R_iload_n dX6_parse_57 rfl rfl ?_
          cases hf; exact E_iret dX6_parse_58 rfl rfl rfl
        · replace hf := iposE hf h42
          refine R_aload_n dX6_parse_45 rfl rfl ?_
          refine R_aload_n dX6_parse_46 rfl rfl ?_
          obtain ⟨p47, hp47, hf⟩ := bdE hf
          refine R_callV (As := [aR 3]) (st := []) dX6_parse_47 (ct_X6_parseStatement  _  hp47) mwX6_parseStatement mvX6_parseStatement mlX6_60 cl6 o_4 rfl rfl ⟨nle, nle, nle, nle⟩ nle rfl ?_
          obtain ⟨v2_50, hv2_50, hf⟩ := ltE hf
          refine R_istore_n dX6_parse_50 rfl (by decide) hv2_50 rfl ?_
          obtain ⟨v3_51, hv3_51, hf⟩ := ltE hf
          refine R_iinc dX6_parse_51 rfl rfl hv3_51 (by decide) rfl ?_
          refine R_goto dX6_parse_54 rfl ?_
          exact R_subk (ih _ _ _ _  hf) ⟨rfl, rfl, rfl, rfl, trivial⟩
set_option maxRecDepth 20000 in
theorem ct_X6_parse {G : Gl}  (M : Mem) {res : Int × Mem}  (hf : f_X6_parse  M = some res) : Ct G miX6_parse yX6_parse 7 [aR 4, aR 3] M (some (aI res.1)) res.2 := by
  refine Ct.of (L := [some (aR 4), some (aR 3), none, none]) mwX6_parse rfl trivial nle ⟨rfl, rfl, trivial⟩ ?_
  unfold f_X6_parse at hf
  refine R_aload_n dX6_parse_0 rfl rfl ?_
  obtain ⟨p1, hp1, hf⟩ := bdE hf
  refine R_callV (As := []) (st := []) dX6_parse_1 (ct_X6_startOver  _  hp1) mwX6_startOver mvX6_startOver mlX6_38 cl6 o_4 rfl rfl ⟨nle, nle, nle, nle⟩ nle rfl ?_
  refine R_aload_n dX6_parse_4 rfl rfl ?_
  refine R_ldcS dX6_parse_5 (j := 1) rfl rfl ?_
  obtain ⟨p7, hp7, hf⟩ := bdE hf
  refine R_callV (As := [aR 201]) (st := []) dX6_parse_7 (ct_X8_isWord _ _ s_1 hp7) mwX8_isWord mvX8_isWord mlX6_43 cl8 o_3 rfl rfl ⟨nle, nle, nle, nle⟩ nle rfl ?_
  refine R_if_ne dX6_parse_10 rfl (fun h10 => ?_) (fun h10 => ?_)
  · replace hf := inegE hf h10
    refine R_aload_n dX6_parse_15 rfl rfl ?_
    obtain ⟨p16, hp16, hf⟩ := bdE hf
    refine R_callV (As := []) (st := []) dX6_parse_16 (ct_X8_moveOn  _  hp16) mwX8_moveOn mvX8_moveOn mlX6_49 cl8 o_3 rfl rfl ⟨nle, nle, nle, nle⟩ nle rfl ?_
    refine R_aload_n dX6_parse_19 rfl rfl ?_
    refine R_aload_n dX6_parse_20 rfl rfl ?_
    obtain ⟨p21, hp21, hf⟩ := bdE hf
    refine R_callV (As := [aR 3]) (st := []) dX6_parse_21 (ct_X6_parseKinds  _  hp21) mwX6_parseKinds mvX6_parseKinds mlX6_52 cl6 o_4 rfl rfl ⟨nle, nle, nle, nle⟩ nle rfl ?_
    obtain ⟨v2_24, hv2_24, hf⟩ := ltE hf
    refine R_istore_n dX6_parse_24 rfl (by decide) hv2_24 rfl ?_
    refine R_iconst dX6_parse_25 (v := 0) rfl ?_
    refine R_istore_n dX6_parse_26 rfl (by decide) rfl rfl ?_
    exact R_subk (rn_X6_parse_L27 4096 _ _ _ _  hf) ⟨rfl, rfl, rfl, rfl, trivial⟩
  · replace hf := iposE hf h10
    refine R_iconst dX6_parse_13 (v := 1) rfl ?_
    cases hf; exact E_iret dX6_parse_14 rfl rfl rfl
/-! BracketHall$Signs.copyFrom(LBracketHall$Signs;)V -/
def f_X7_copyFrom (o0 : Nat) (o1 : Nat) (M : Mem) : Option (Mem) :=
  if (0 : Int) ≤ 0 ∧ (0 : Int) ≤ 0 ∧ (0 : Int) ≤ 127 ∧ 0 + 127 ≤ (127 : Int) ∧ 0 + 127 ≤ (127 : Int) then
  lt1 (upc M (o1 + 1) 0 (o0 + 1) 0 127) fun M12 =>
  if (0 : Int) ≤ 0 ∧ (0 : Int) ≤ 0 ∧ (0 : Int) ≤ 8 ∧ 0 + 8 ≤ (8 : Int) ∧ 0 + 8 ≤ (8 : Int) then
  lt1 (upc M12 (o1 + 2) 0 (o0 + 2) 0 8) fun M27 =>
  lt1 (up M27 o0 2 (M27 o1 2)) fun M35 =>
  some M35
  else none
  else none
set_option maxRecDepth 20000 in
theorem ct_X7_copyFrom {G : Gl} (o0 : Nat) (o1 : Nat) (M : Mem) {res : Mem} (ho0 : isO 7 o0) (ho1 : isO 7 o1) (hf : f_X7_copyFrom o0 o1 M = some res) : Ct G miX7_copyFrom yX7_copyFrom 1 [aR o0, aR o1] M none res := by
  refine Ct.of (L := [some (aR o0), some (aR o1)]) mwX7_copyFrom rfl trivial nle ⟨rfl, rfl, trivial⟩ ?_
  unfold f_X7_copyFrom at hf
  refine R_aload_n dX7_copyFrom_0 rfl rfl ?_
  refine R_getR dX7_copyFrom_1 cl7 flX7_9 ho1 ff7_0 (fr7_0 _) (k7_1 ho1).1 ?_
  refine R_iconst dX7_copyFrom_4 (v := 0) rfl ?_
  refine R_aload_n dX7_copyFrom_5 rfl rfl ?_
  refine R_getR dX7_copyFrom_6 cl7 flX7_9 ho0 ff7_0 (fr7_0 _) (k7_1 ho0).1 ?_
  refine R_iconst dX7_copyFrom_9 (v := 0) rfl ?_
  refine R_bipush dX7_copyFrom_10 (v := 127) rfl ?_
  obtain ⟨hg1, hf⟩ := gdE hf
  obtain ⟨M12, hM12, hf⟩ := ltE hf
  refine R_copy dX7_copyFrom_12 jlX7_25 jw_copy ⟨nle, nle⟩ nle (k7_1 ho1) (k7_1 ho0) hg1.1 hg1.2.1 hg1.2.2.1 hg1.2.2.2.1 hg1.2.2.2.2 hM12 ?_
  refine R_aload_n dX7_copyFrom_15 rfl rfl ?_
  refine R_getR dX7_copyFrom_16 cl7 flX7_15 ho1 ff7_1 (fr7_1 _) (k7_2 ho1).1 ?_
  refine R_iconst dX7_copyFrom_19 (v := 0) rfl ?_
  refine R_aload_n dX7_copyFrom_20 rfl rfl ?_
  refine R_getR dX7_copyFrom_21 cl7 flX7_15 ho0 ff7_1 (fr7_1 _) (k7_2 ho0).1 ?_
  refine R_iconst dX7_copyFrom_24 (v := 0) rfl ?_
  refine R_bipush dX7_copyFrom_25 (v := 8) rfl ?_
  obtain ⟨hg2, hf⟩ := gdE hf
  obtain ⟨M27, hM27, hf⟩ := ltE hf
  refine R_copy dX7_copyFrom_27 jlX7_25 jw_copy ⟨nle, nle⟩ nle (k7_2 ho1) (k7_2 ho0) hg2.1 hg2.2.1 hg2.2.2.1 hg2.2.2.2.1 hg2.2.2.2.2 hM27 ?_
  refine R_aload_n dX7_copyFrom_30 rfl rfl ?_
  refine R_aload_n dX7_copyFrom_31 rfl rfl ?_
  refine R_getI (ki := 2) dX7_copyFrom_32 cl7 flX7_18 ho1 ff7_2 rfl rfl ?_
  obtain ⟨M35, hM35, hf⟩ := ltE hf
  refine R_put (ki := 2) dX7_copyFrom_35 cl7 flX7_18 ho0 (Or.inl fz7_2) rfl hM35 ?_
  cases hf; exact E_vret dX7_copyFrom_38 rfl rfl rfl
/-! BracketHall$Signs.hasKind(I)Z -/
def f_X7_hasKind (o0 : Nat) (v1 : Int) (M : Mem) : Option (Int) :=
  if v1 < 0 then
    some 0
  else
    if (M o0 2) ≤ v1 then
      some 0
    else
      some 1
set_option maxRecDepth 20000 in
theorem ct_X7_hasKind {G : Gl} (o0 : Nat) (v1 : Int) (M : Mem) {res : Int} (ho0 : isO 7 o0) (hf : f_X7_hasKind o0 v1 M = some res) : Ct G miX7_hasKind yX7_hasKind 0 [aR o0, aI v1] M (some (aI res)) M := by
  refine Ct.of (L := [some (aR o0), some (aI v1)]) mwX7_hasKind rfl trivial nle ⟨rfl, rfl, trivial⟩ ?_
  unfold f_X7_hasKind at hf
  refine R_iload_n dX7_hasKind_0 rfl rfl ?_
  refine R_if_lt dX7_hasKind_1 rfl (fun h1 => ?_) (fun h1 => ?_)
  · replace hf := iposE hf h1
    refine R_iconst dX7_hasKind_16 (v := 0) rfl ?_
    cases hf; exact E_zret dX7_hasKind_17 rfl (by decide) rfl rfl
  · replace hf := inegE hf h1
    refine R_iload_n dX7_hasKind_4 rfl rfl ?_
    refine R_aload_n dX7_hasKind_5 rfl rfl ?_
    refine R_getI (ki := 2) dX7_hasKind_6 cl7 flX7_18 ho0 ff7_2 rfl rfl ?_
    refine R_icmp_ge dX7_hasKind_9 rfl (fun h9 => ?_) (fun h9 => ?_)
    · replace hf := iposE hf h9
      refine R_iconst dX7_hasKind_16 (v := 0) rfl ?_
      cases hf; exact E_zret dX7_hasKind_17 rfl (by decide) rfl rfl
    · replace hf := inegE hf h9
      refine R_iconst dX7_hasKind_12 (v := 1) rfl ?_
      refine R_goto dX7_hasKind_13 rfl ?_
      cases hf; exact E_zret dX7_hasKind_17 rfl (by decide) rfl rfl
/-! BracketHall$Signs.openingOf(I)I -/
def f_X7_openingOf (o0 : Nat) (v1 : Int) (M : Mem) : Option (Int) :=
  (f_X7_hasKind o0 v1 M).bind fun p2 =>
  if p2 = 0 then
    some (-1)
  else
    if 4 ≤ v1 then
      some (-1)
    else
      if (0 : Int) ≤ w32 (2 * v1) ∧ w32 (2 * v1) < 8 then
      some (M (o0 + 2) (w32 (2 * v1)))
      else none
set_option maxRecDepth 20000 in
theorem ct_X7_openingOf {G : Gl} (o0 : Nat) (v1 : Int) (M : Mem) {res : Int} (ho0 : isO 7 o0) (hf : f_X7_openingOf o0 v1 M = some res) : Ct G miX7_openingOf yX7_openingOf 1 [aR o0, aI v1] M (some (aI res)) M := by
  refine Ct.of (L := [some (aR o0), some (aI v1)]) mwX7_openingOf rfl trivial nle ⟨rfl, rfl, trivial⟩ ?_
  unfold f_X7_openingOf at hf
  refine R_aload_n dX7_openingOf_0 rfl rfl ?_
  refine R_iload_n dX7_openingOf_1 rfl rfl ?_
  obtain ⟨p2, hp2, hf⟩ := bdE hf
  refine R_callV (As := [aI v1]) (st := []) dX7_openingOf_2 (ct_X7_hasKind _ _ _ ho0 hp2) mwX7_hasKind mvX7_hasKind mlX7_31 cl7 ho0 rfl rfl ⟨nle, nle, nle, nle⟩ nle rfl ?_
  refine R_if_eq dX7_openingOf_5 rfl (fun h5 => ?_) (fun h5 => ?_)
  · replace hf := iposE hf h5
    refine R_iconst dX7_openingOf_24 (v := (-1)) rfl ?_
    cases hf; exact E_iret dX7_openingOf_25 rfl rfl rfl
  · replace hf := inegE hf h5
    refine R_iload_n dX7_openingOf_8 rfl rfl ?_
    refine R_iconst dX7_openingOf_9 (v := 4) rfl ?_
    refine R_icmp_ge dX7_openingOf_10 rfl (fun h10 => ?_) (fun h10 => ?_)
    · replace hf := iposE hf h10
      refine R_iconst dX7_openingOf_24 (v := (-1)) rfl ?_
      cases hf; exact E_iret dX7_openingOf_25 rfl rfl rfl
    · replace hf := inegE hf h10
      refine R_aload_n dX7_openingOf_13 rfl rfl ?_
      refine R_getR dX7_openingOf_14 cl7 flX7_15 ho0 ff7_1 (fr7_1 _) (k7_2 ho0).1 ?_
      refine R_iconst dX7_openingOf_17 (v := 2) rfl ?_
      refine R_iload_n dX7_openingOf_18 rfl rfl ?_
      refine R_imul dX7_openingOf_19 rfl ?_
      obtain ⟨hg1, hf⟩ := gdE hf
      refine R_iaload dX7_openingOf_20 (k7_2 ho0) hg1.1 hg1.2 rfl ?_
      refine R_goto dX7_openingOf_21 rfl ?_
      cases hf; exact E_iret dX7_openingOf_25 rfl rfl rfl
/-! BracketHall$Signs.closingOf(I)I -/
def f_X7_closingOf (o0 : Nat) (v1 : Int) (M : Mem) : Option (Int) :=
  (f_X7_hasKind o0 v1 M).bind fun p2 =>
  if p2 = 0 then
    some (-1)
  else
    if 4 ≤ v1 then
      some (-1)
    else
      if (0 : Int) ≤ w32 ((w32 (2 * v1)) + 1) ∧ w32 ((w32 (2 * v1)) + 1) < 8 then
      some (M (o0 + 2) (w32 ((w32 (2 * v1)) + 1)))
      else none
set_option maxRecDepth 20000 in
theorem ct_X7_closingOf {G : Gl} (o0 : Nat) (v1 : Int) (M : Mem) {res : Int} (ho0 : isO 7 o0) (hf : f_X7_closingOf o0 v1 M = some res) : Ct G miX7_closingOf yX7_closingOf 1 [aR o0, aI v1] M (some (aI res)) M := by
  refine Ct.of (L := [some (aR o0), some (aI v1)]) mwX7_closingOf rfl trivial nle ⟨rfl, rfl, trivial⟩ ?_
  unfold f_X7_closingOf at hf
  refine R_aload_n dX7_closingOf_0 rfl rfl ?_
  refine R_iload_n dX7_closingOf_1 rfl rfl ?_
  obtain ⟨p2, hp2, hf⟩ := bdE hf
  refine R_callV (As := [aI v1]) (st := []) dX7_closingOf_2 (ct_X7_hasKind _ _ _ ho0 hp2) mwX7_hasKind mvX7_hasKind mlX7_31 cl7 ho0 rfl rfl ⟨nle, nle, nle, nle⟩ nle rfl ?_
  refine R_if_eq dX7_closingOf_5 rfl (fun h5 => ?_) (fun h5 => ?_)
  · replace hf := iposE hf h5
    refine R_iconst dX7_closingOf_26 (v := (-1)) rfl ?_
    cases hf; exact E_iret dX7_closingOf_27 rfl rfl rfl
  · replace hf := inegE hf h5
    refine R_iload_n dX7_closingOf_8 rfl rfl ?_
    refine R_iconst dX7_closingOf_9 (v := 4) rfl ?_
    refine R_icmp_ge dX7_closingOf_10 rfl (fun h10 => ?_) (fun h10 => ?_)
    · replace hf := iposE hf h10
      refine R_iconst dX7_closingOf_26 (v := (-1)) rfl ?_
      cases hf; exact E_iret dX7_closingOf_27 rfl rfl rfl
    · replace hf := inegE hf h10
      refine R_aload_n dX7_closingOf_13 rfl rfl ?_
      refine R_getR dX7_closingOf_14 cl7 flX7_15 ho0 ff7_1 (fr7_1 _) (k7_2 ho0).1 ?_
      refine R_iconst dX7_closingOf_17 (v := 2) rfl ?_
      refine R_iload_n dX7_closingOf_18 rfl rfl ?_
      refine R_imul dX7_closingOf_19 rfl ?_
      refine R_iconst dX7_closingOf_20 (v := 1) rfl ?_
      refine R_iadd dX7_closingOf_21 rfl ?_
      obtain ⟨hg1, hf⟩ := gdE hf
      refine R_iaload dX7_closingOf_22 (k7_2 ho0) hg1.1 hg1.2 rfl ?_
      refine R_goto dX7_closingOf_23 rfl ?_
      cases hf; exact E_iret dX7_closingOf_27 rfl rfl rfl
/-! BracketHall$Tokens.begin(I)V -/
def f_X8_begin (v1 : Int) (M : Mem) : Option (Mem) :=
  lt1 (up M 3 1 v1) fun M2 =>
  lt1 (up M2 3 3 0) fun M7 =>
  (f_X8_moveOn M7).bind fun p11 =>
  some p11
set_option maxRecDepth 20000 in
theorem ct_X8_begin {G : Gl} (v1 : Int) (M : Mem) {res : Mem}  (hf : f_X8_begin v1 M = some res) : Ct G miX8_begin yX8_begin 2 [aR 3, aI v1] M none res := by
  refine Ct.of (L := [some (aR 3), some (aI v1)]) mwX8_begin rfl trivial nle ⟨rfl, rfl, trivial⟩ ?_
  unfold f_X8_begin at hf
  refine R_aload_n dX8_begin_0 rfl rfl ?_
  refine R_iload_n dX8_begin_1 rfl rfl ?_
  obtain ⟨M2, hM2, hf⟩ := ltE hf
  refine R_put (ki := 1) dX8_begin_2 cl8 flX8_9 o_3 (Or.inl fz8_1) rfl hM2 ?_
  refine R_aload_n dX8_begin_5 rfl rfl ?_
  refine R_iconst dX8_begin_6 (v := 0) rfl ?_
  obtain ⟨M7, hM7, hf⟩ := ltE hf
  refine R_put (ki := 3) dX8_begin_7 cl8 flX8_18 o_3 (Or.inl fz8_3) rfl hM7 ?_
  refine R_aload_n dX8_begin_10 rfl rfl ?_
  obtain ⟨p11, hp11, hf⟩ := bdE hf
  refine R_callV (As := []) (st := []) dX8_begin_11 (ct_X8_moveOn  _  hp11) mwX8_moveOn mvX8_moveOn mlX8_28 cl8 o_3 rfl rfl ⟨nle, nle, nle, nle⟩ nle rfl ?_
  cases hf; exact E_vret dX8_begin_14 rfl rfl rfl
/-! BracketHall.append(IIIII)I -/
def f_X9_append (v1 : Int) (v2 : Int) (v3 : Int) (v4 : Int) (v5 : Int) (M : Mem) : Option (Int × Mem) :=
  if (w32 ((M 1 1) + 20)) ≤ 600 then
    (f_X1_addFour v1 M).bind fun p23 =>
    (f_X1_addFour v2 p23).bind fun p31 =>
    (f_X1_addFour v3 p31).bind fun p39 =>
    (f_X1_addFour v4 p39).bind fun p48 =>
    (f_X1_addFour v5 p48).bind fun p57 =>
    some (p57 1 1, p57)
  else
    some ((-1), M)
set_option maxRecDepth 20000 in
theorem ct_X9_append {G : Gl} (v1 : Int) (v2 : Int) (v3 : Int) (v4 : Int) (v5 : Int) (M : Mem) {res : Int × Mem}  (hf : f_X9_append v1 v2 v3 v4 v5 M = some res) : Ct G miX9_append yX9_append 1 [aR 0, aI v1, aI v2, aI v3, aI v4, aI v5] M (some (aI res.1)) res.2 := by
  refine Ct.of (L := [some (aR 0), some (aI v1), some (aI v2), some (aI v3), some (aI v4), some (aI v5)]) mwX9_append rfl trivial nle ⟨rfl, rfl, rfl, rfl, rfl, rfl, trivial⟩ ?_
  unfold f_X9_append at hf
  refine R_aload_n dX9_append_0 rfl rfl ?_
  refine R_getR dX9_append_1 cl9 flX9_12 o_0 ff9_0 (fr9_0 _) o_1.1 ?_
  refine R_getI (ki := 1) dX9_append_4 cl1 flX9_110 o_1 ff1_1 rfl rfl ?_
  refine R_bipush dX9_append_7 (v := 20) rfl ?_
  refine R_iadd dX9_append_9 rfl ?_
  refine R_sipush dX9_append_10 (v := 600) rfl ?_
  refine R_icmp_le dX9_append_13 rfl (fun h13 => ?_) (fun h13 => ?_)
  · replace hf := iposE hf h13
    refine R_aload_n dX9_append_18 rfl rfl ?_
    refine R_getR dX9_append_19 cl9 flX9_12 o_0 ff9_0 (fr9_0 _) o_1.1 ?_
    refine R_iload_n dX9_append_22 rfl rfl ?_
    obtain ⟨p23, hp23, hf⟩ := bdE hf
    refine R_callV (As := [aI v1]) (st := []) dX9_append_23 (ct_X1_addFour _ _  hp23) mwX1_addFour mvX1_addFour mlX9_113 cl1 o_1 rfl rfl ⟨nle, nle, nle, nle⟩ nle rfl ?_
    refine R_aload_n dX9_append_26 rfl rfl ?_
    refine R_getR dX9_append_27 cl9 flX9_12 o_0 ff9_0 (fr9_0 _) o_1.1 ?_
    refine R_iload_n dX9_append_30 rfl rfl ?_
    obtain ⟨p31, hp31, hf⟩ := bdE hf
    refine R_callV (As := [aI v2]) (st := []) dX9_append_31 (ct_X1_addFour _ _  hp31) mwX1_addFour mvX1_addFour mlX9_113 cl1 o_1 rfl rfl ⟨nle, nle, nle, nle⟩ nle rfl ?_
    refine R_aload_n dX9_append_34 rfl rfl ?_
    refine R_getR dX9_append_35 cl9 flX9_12 o_0 ff9_0 (fr9_0 _) o_1.1 ?_
    refine R_iload_n dX9_append_38 rfl rfl ?_
    obtain ⟨p39, hp39, hf⟩ := bdE hf
    refine R_callV (As := [aI v3]) (st := []) dX9_append_39 (ct_X1_addFour _ _  hp39) mwX1_addFour mvX1_addFour mlX9_113 cl1 o_1 rfl rfl ⟨nle, nle, nle, nle⟩ nle rfl ?_
    refine R_aload_n dX9_append_42 rfl rfl ?_
    refine R_getR dX9_append_43 cl9 flX9_12 o_0 ff9_0 (fr9_0 _) o_1.1 ?_
    refine R_iload dX9_append_46 rfl ?_
    obtain ⟨p48, hp48, hf⟩ := bdE hf
    refine R_callV (As := [aI v4]) (st := []) dX9_append_48 (ct_X1_addFour _ _  hp48) mwX1_addFour mvX1_addFour mlX9_113 cl1 o_1 rfl rfl ⟨nle, nle, nle, nle⟩ nle rfl ?_
    refine R_aload_n dX9_append_51 rfl rfl ?_
    refine R_getR dX9_append_52 cl9 flX9_12 o_0 ff9_0 (fr9_0 _) o_1.1 ?_
    refine R_iload dX9_append_55 rfl ?_
    obtain ⟨p57, hp57, hf⟩ := bdE hf
    refine R_callV (As := [aI v5]) (st := []) dX9_append_57 (ct_X1_addFour _ _  hp57) mwX1_addFour mvX1_addFour mlX9_113 cl1 o_1 rfl rfl ⟨nle, nle, nle, nle⟩ nle rfl ?_
    refine R_aload_n dX9_append_60 rfl rfl ?_
    refine R_getR dX9_append_61 cl9 flX9_12 o_0 ff9_0 (fr9_0 _) o_1.1 ?_
    refine R_getI (ki := 1) dX9_append_64 cl1 flX9_110 o_1 ff1_1 rfl rfl ?_
    cases hf; exact E_iret dX9_append_67 rfl rfl rfl
  · replace hf := inegE hf h13
    refine R_iconst dX9_append_16 (v := (-1)) rfl ?_
    cases hf; exact E_iret dX9_append_17 rfl rfl rfl
/-! BracketHall.askInput(I)V -/
def f_X9_askInput (v1 : Int) (M : Mem) : Option (Nat × Int × Mem) :=
  if v1 < 0 then
    some (2, 0, M)
  else
    if v1 ≤ (M 1 1) then
      some (0, 0, M)
    else
      some (2, 0, M)
set_option maxRecDepth 20000 in
theorem ct_X9_askInput {G : Gl} (v1 : Int) (M : Mem) {res : Nat × Int × Mem}  (hf : f_X9_askInput v1 M = some res) : CtX G miX9_askInput yX9_askInput 6 1 6 [aR 0, aI v1] M res.1 none res.2.2 := by
  refine CtX.of (L := [some (aR 0), some (aI v1)]) mwX9_askInput rfl trivial nle ⟨rfl, rfl, trivial⟩ ?_
  unfold f_X9_askInput at hf
  refine R_iload_n dX9_askInput_0 rfl rfl ?_
  refine R_if_lt dX9_askInput_1 rfl (fun h1 => ?_) (fun h1 => ?_)
  · replace hf := iposE hf h1
    cases hf; exact R_throwW (j := 0) (x := 2) (cls := "java/lang/IllegalArgumentException") dX9_askInput_15 dX9_askInput_18 dX9_askInput_19 dX9_askInput_22 dX9_askInput_25 wd714 xwX9_206 xi_2 rfl rfl (by decide +kernel) (by decide) (by decide) (by decide) ⟨nle, nle⟩ ⟨nle, nle⟩ rfl rfl rfl
  · replace hf := inegE hf h1
    refine R_iload_n dX9_askInput_4 rfl rfl ?_
    refine R_aload_n dX9_askInput_5 rfl rfl ?_
    refine R_getR dX9_askInput_6 cl9 flX9_12 o_0 ff9_0 (fr9_0 _) o_1.1 ?_
    refine R_getI (ki := 1) dX9_askInput_9 cl1 flX9_110 o_1 ff1_1 rfl rfl ?_
    refine R_icmp_le dX9_askInput_12 rfl (fun h12 => ?_) (fun h12 => ?_)
    · replace hf := iposE hf h12
      cases hf; exact R_widen nle nle (EX_vret dX9_askInput_26 rfl rfl rfl)
    · replace hf := inegE hf h12
      cases hf; exact R_throwW (j := 0) (x := 2) (cls := "java/lang/IllegalArgumentException") dX9_askInput_15 dX9_askInput_18 dX9_askInput_19 dX9_askInput_22 dX9_askInput_25 wd714 xwX9_206 xi_2 rfl rfl (by decide +kernel) (by decide) (by decide) (by decide) ⟨nle, nle⟩ ⟨nle, nle⟩ rfl rfl rfl
/-! BracketHall.noteError(I)V -/
def f_X9_noteError (v1 : Int) (M : Mem) : Option (Mem) :=
  if v1 = 0 then
    lt1 (up M 0 15 (-1)) fun M16 =>
    some M16
  else
    lt1 (up M 0 15 (M 3 2)) fun M16 =>
    some M16
set_option maxRecDepth 20000 in
theorem ct_X9_noteError {G : Gl} (v1 : Int) (M : Mem) {res : Mem}  (hf : f_X9_noteError v1 M = some res) : Ct G miX9_noteError yX9_noteError 0 [aR 0, aI v1] M none res := by
  refine Ct.of (L := [some (aR 0), some (aI v1)]) mwX9_noteError rfl trivial nle ⟨rfl, rfl, trivial⟩ ?_
  unfold f_X9_noteError at hf
  refine R_aload_n dX9_noteError_0 rfl rfl ?_
  refine R_iload_n dX9_noteError_1 rfl rfl ?_
  refine R_if_ne dX9_noteError_2 rfl (fun h2 => ?_) (fun h2 => ?_)
  · replace hf := inegE hf h2
    refine R_aload_n dX9_noteError_9 rfl rfl ?_
    refine R_getR dX9_noteError_10 cl9 flX9_21 o_0 ff9_1 (fr9_1 _) o_3.1 ?_
    refine R_getI (ki := 2) dX9_noteError_13 cl8 flX9_449 o_3 ff8_2 rfl rfl ?_
    obtain ⟨M16, hM16, hf⟩ := ltE hf
    refine R_put (ki := 15) dX9_noteError_16 cl9 flX9_96 o_0 (Or.inl fz9_15) rfl hM16 ?_
    cases hf; exact E_vret dX9_noteError_19 rfl rfl rfl
  · replace hf := iposE hf h2
    refine R_iconst dX9_noteError_5 (v := (-1)) rfl ?_
    refine R_goto dX9_noteError_6 rfl ?_
    obtain ⟨M16, hM16, hf⟩ := ltE hf
    refine R_put (ki := 15) dX9_noteError_16 cl9 flX9_96 o_0 (Or.inl fz9_15) rfl hM16 ?_
    cases hf; exact E_vret dX9_noteError_19 rfl rfl rfl
/-! BracketHall.textTouched()V -/
def f_X9_textTouched  (M : Mem) : Option (Mem) :=
  lt1 (up M 0 16 1) fun M2 =>
  lt1 (up M2 0 17 1) fun M7 =>
  some M7
set_option maxRecDepth 20000 in
theorem ct_X9_textTouched {G : Gl}  (M : Mem) {res : Mem}  (hf : f_X9_textTouched  M = some res) : Ct G miX9_textTouched yX9_textTouched 0 [aR 0] M none res := by
  refine Ct.of (L := [some (aR 0)]) mwX9_textTouched rfl trivial nle ⟨rfl, trivial⟩ ?_
  unfold f_X9_textTouched at hf
  refine R_aload_n dX9_textTouched_0 rfl rfl ?_
  refine R_iconst dX9_textTouched_1 (v := 1) rfl ?_
  obtain ⟨M2, hM2, hf⟩ := ltE hf
  refine R_put (ki := 16) dX9_textTouched_2 cl9 flX9_99 o_0 (Or.inr ⟨fz9_16, by decide⟩) rfl hM2 ?_
  refine R_aload_n dX9_textTouched_5 rfl rfl ?_
  refine R_iconst dX9_textTouched_6 (v := 1) rfl ?_
  obtain ⟨M7, hM7, hf⟩ := ltE hf
  refine R_put (ki := 17) dX9_textTouched_7 cl9 flX9_103 o_0 (Or.inr ⟨fz9_17, by decide⟩) rfl hM7 ?_
  cases hf; exact E_vret dX9_textTouched_10 rfl rfl rfl
/-! BracketHall.startAnew()V -/
def f_X9_startAnew_L10 : Nat → Int → Mem → Option (Mem)
  | 0, _, _ => none
  | n + 1, v1, M =>
    if 2 ≤ v1 then
      (f_X9_textTouched M).bind fun p29 =>
      some p29
    else
      if (0 : Int) ≤ v1 ∧ v1 < 2 then
      lt1 (up M 53 v1 0) fun M21 =>
      lt1 (w32 (v1 + 1)) fun v1_22 =>
      f_X9_startAnew_L10 n v1_22 M21
      else none
def f_X9_startAnew  (M : Mem) : Option (Mem) :=
  lt1 (up M 20 2 0) fun M5 =>
  f_X9_startAnew_L10 4096 0 M5
set_option maxRecDepth 20000 in
theorem rn_X9_startAnew_L10 {G : Gl} : ∀ (n : Nat) (v1 : Int) (M : Mem) (res : Mem),  f_X9_startAnew_L10 n v1 M = some res → Run G false (rmD 1 0 0) miX9_startAnew (ZP G none res) 0 0 10 [some (aR 0), some (aI v1)] [] M := by
  intro n
  induction n with
  | zero => intro v1 M res  hf; cases hf
  | succ n ih =>
    intro v1 M res  hf
    rw [f_X9_startAnew_L10] at hf
    refine R_iload_n dX9_startAnew_10 rfl rfl ?_
    refine R_iconst dX9_startAnew_11 (v := 2) rfl ?_
    refine R_icmp_ge dX9_startAnew_12 rfl (fun h12 => ?_) (fun h12 => ?_)
    · replace hf := iposE hf h12
      refine R_aload_n dX9_startAnew_28 rfl rfl ?_
      obtain ⟨p29, hp29, hf⟩ := bdE hf
      refine R_callV (As := []) (st := []) dX9_startAnew_29 (ct_X9_textTouched  _  hp29) mwX9_textTouched mvX9_textTouched mlX9_378 cl9 o_0 rfl rfl ⟨nle, nle, nle, nle⟩ nle rfl ?_
      cases hf; exact E_vret dX9_startAnew_32 rfl rfl rfl
    · replace hf := inegE hf h12
      refine R_aload_n dX9_startAnew_15 rfl rfl ?_
      refine R_getR dX9_startAnew_16 cl9 flX9_67 o_0 ff9_9 (fr9_9 _) a_53.1 ?_
      refine R_iload_n dX9_startAnew_19 rfl rfl ?_
      refine R_iconst dX9_startAnew_20 (v := 0) rfl ?_
      obtain ⟨hg1, hf⟩ := gdE hf
      obtain ⟨M21, hM21, hf⟩ := ltE hf
      refine R_zastore dX9_startAnew_21 a_53 hg1.1 hg1.2 (by decide) hM21 ?_
      obtain ⟨v1_22, hv1_22, hf⟩ := ltE hf
      refine R_iinc dX9_startAnew_22 rfl rfl hv1_22 (by decide) rfl ?_
      refine R_goto dX9_startAnew_25 rfl ?_
      exact R_subk (ih _ _ _  hf) ⟨rfl, rfl, trivial⟩
set_option maxRecDepth 20000 in
theorem ct_X9_startAnew {G : Gl}  (M : Mem) {res : Mem}  (hf : f_X9_startAnew  M = some res) : Ct G miX9_startAnew yX9_startAnew 1 [aR 0] M none res := by
  refine Ct.of (L := [some (aR 0), none]) mwX9_startAnew rfl trivial nle ⟨rfl, trivial⟩ ?_
  unfold f_X9_startAnew at hf
  refine R_aload_n dX9_startAnew_0 rfl rfl ?_
  refine R_getR dX9_startAnew_1 cl9 flX9_59 o_0 ff9_7 (fr9_7 _) o_20.1 ?_
  refine R_iconst dX9_startAnew_4 (v := 0) rfl ?_
  obtain ⟨M5, hM5, hf⟩ := ltE hf
  refine R_put (ki := 2) dX9_startAnew_5 cl0 flX9_193 o_20 (Or.inl fz0_2) rfl hM5 ?_
  refine R_iconst dX9_startAnew_8 (v := 0) rfl ?_
  refine R_istore_n dX9_startAnew_9 rfl (by decide) rfl rfl ?_
  exact R_subk (rn_X9_startAnew_L10 4096 _ _ _  hf) ⟨rfl, rfl, trivial⟩
/-! BracketHall.setup(I)I -/
def f_X9_setup (v1 : Int) (M : Mem) : Option (Nat × Int × Mem) :=
  (f_X9_askInput v1 M).bind fun p2 => if p2.1 = 0 then
  (f_X8_begin v1 p2.2.2).bind fun p10 =>
  (f_X6_parse p10).bind fun p21 =>
  lt1 (p21.1) fun v2_24 =>
  (f_X9_noteError v2_24 p21.2).bind fun p27 =>
  lt1 (up p27 1 1 0) fun M35 =>
  if v2_24 = 0 then
    (f_X7_copyFrom 11 5 M35).bind fun p53 =>
    (f_X4_clearText 14 p53).bind fun p60 =>
    lt1 (up p60 14 4 (p60 4 1)) fun M74 =>
    (f_X4_setPrices 14 (M74 4 2) (M74 4 3) (M74 4 4) M74).bind fun p102 =>
    (f_X9_startAnew p102).bind fun p106 =>
    some (0, v2_24, p106)
  else
    some (0, v2_24, M35)
  else some (p2.1, 0, p2.2.2)
set_option maxRecDepth 20000 in
theorem ct_X9_setup {G : Gl} (v1 : Int) (M : Mem) {res : Nat × Int × Mem}  (hf : f_X9_setup v1 M = some res) : CtX G miX9_setup yX9_setup 8 1 6 [aR 0, aI v1] M res.1 (some (aI res.2.1)) res.2.2 := by
  refine CtX.of (L := [some (aR 0), some (aI v1), none]) mwX9_setup rfl trivial nle ⟨rfl, rfl, trivial⟩ ?_
  unfold f_X9_setup at hf
  refine R_aload_n dX9_setup_0 rfl rfl ?_
  refine R_iload_n dX9_setup_1 rfl rfl ?_
  obtain ⟨p2, hp2, hf⟩ := bdE hf
  refine R_callVX (As := [aI v1]) (st := []) dX9_setup_2 (ct_X9_askInput _ _  hp2) mwX9_askInput mvX9_askInput wd710 cl9 o_0 rfl rfl ⟨nle, nle, nle, nle⟩ nle rfl rfl nle nle (fun h2 => ?_) (fun h2 => ?_)
  · replace hf := inegE hf h2; cases hf; exact ⟨rfl, rfl⟩
  replace hf := iposE hf h2
  refine R_aload_n dX9_setup_5 rfl rfl ?_
  refine R_getR dX9_setup_6 cl9 flX9_21 o_0 ff9_1 (fr9_1 _) o_3.1 ?_
  refine R_iload_n dX9_setup_9 rfl rfl ?_
  obtain ⟨p10, hp10, hf⟩ := bdE hf
  refine R_callV (As := [aI v1]) (st := []) dX9_setup_10 (ct_X8_begin _ _  hp10) mwX8_begin mvX8_begin mlX9_120 cl8 o_3 rfl rfl ⟨nle, nle, nle, nle⟩ nle rfl ?_
  refine R_aload_n dX9_setup_13 rfl rfl ?_
  refine R_getR dX9_setup_14 cl9 flX9_28 o_0 ff9_2 (fr9_2 _) o_4.1 ?_
  refine R_aload_n dX9_setup_17 rfl rfl ?_
  refine R_getR dX9_setup_18 cl9 flX9_21 o_0 ff9_1 (fr9_1 _) o_3.1 ?_
  obtain ⟨p21, hp21, hf⟩ := bdE hf
  refine R_callV (As := [aR 3]) (st := []) dX9_setup_21 (ct_X6_parse  _  hp21) mwX6_parse mvX6_parse mlX9_123 cl6 o_4 rfl rfl ⟨nle, nle, nle, nle⟩ nle rfl ?_
  obtain ⟨v2_24, hv2_24, hf⟩ := ltE hf
  refine R_istore_n dX9_setup_24 rfl (by decide) hv2_24 rfl ?_
  refine R_aload_n dX9_setup_25 rfl rfl ?_
  refine R_iload_n dX9_setup_26 rfl rfl ?_
  obtain ⟨p27, hp27, hf⟩ := bdE hf
  refine R_callV (As := [aI v2_24]) (st := []) dX9_setup_27 (ct_X9_noteError _ _  hp27) mwX9_noteError mvX9_noteError mlX9_127 cl9 o_0 rfl rfl ⟨nle, nle, nle, nle⟩ nle rfl ?_
  refine R_aload_n dX9_setup_30 rfl rfl ?_
  refine R_getR dX9_setup_31 cl9 flX9_12 o_0 ff9_0 (fr9_0 _) o_1.1 ?_
  refine R_iconst dX9_setup_34 (v := 0) rfl ?_
  obtain ⟨M35, hM35, hf⟩ := ltE hf
  refine R_put (ki := 1) dX9_setup_35 cl1 flX9_110 o_1 (Or.inl fz1_1) rfl hM35 ?_
  refine R_iload_n dX9_setup_38 rfl rfl ?_
  refine R_if_ne dX9_setup_39 rfl (fun h39 => ?_) (fun h39 => ?_)
  · replace hf := inegE hf h39
    refine R_iload_n dX9_setup_109 rfl rfl ?_
    cases hf; exact R_widen nle nle (EX_iret dX9_setup_110 rfl rfl rfl rfl)
  · replace hf := iposE hf h39
    refine R_aload_n dX9_setup_42 rfl rfl ?_
    refine R_getR dX9_setup_43 cl9 flX9_42 o_0 ff9_4 (fr9_4 _) o_11.1 ?_
    refine R_aload_n dX9_setup_46 rfl rfl ?_
    refine R_getR dX9_setup_47 cl9 flX9_28 o_0 ff9_2 (fr9_2 _) o_4.1 ?_
    refine R_getR dX9_setup_50 cl6 flX9_130 o_4 ff6_0 (fr6_0 _) o_5.1 ?_
    obtain ⟨p53, hp53, hf⟩ := bdE hf
    refine R_callV (As := [aR 5]) (st := []) dX9_setup_53 (ct_X7_copyFrom _ _ _ o_11 o_5 hp53) mwX7_copyFrom mvX7_copyFrom mlX9_131 cl7 o_11 rfl rfl ⟨nle, nle, nle, nle⟩ nle rfl ?_
    refine R_aload_n dX9_setup_56 rfl rfl ?_
    refine R_getR dX9_setup_57 cl9 flX9_49 o_0 ff9_5 (fr9_5 _) o_14.1 ?_
    obtain ⟨p60, hp60, hf⟩ := bdE hf
    refine R_callV (As := []) (st := []) dX9_setup_60 (ct_X4_clearText _ _ o_14 hp60) mwX4_clearText mvX4_clearText mlX9_135 cl4 o_14 rfl rfl ⟨nle, nle, nle, nle⟩ nle rfl ?_
    refine R_aload_n dX9_setup_63 rfl rfl ?_
    refine R_getR dX9_setup_64 cl9 flX9_49 o_0 ff9_5 (fr9_5 _) o_14.1 ?_
    refine R_aload_n dX9_setup_67 rfl rfl ?_
    refine R_getR dX9_setup_68 cl9 flX9_28 o_0 ff9_2 (fr9_2 _) o_4.1 ?_
    refine R_getI (ki := 1) dX9_setup_71 cl6 flX9_138 o_4 ff6_1 rfl rfl ?_
    obtain ⟨M74, hM74, hf⟩ := ltE hf
    refine R_put (ki := 4) dX9_setup_74 cl4 flX9_141 o_14 (Or.inl fz4_4) rfl hM74 ?_
    refine R_aload_n dX9_setup_77 rfl rfl ?_
    refine R_getR dX9_setup_78 cl9 flX9_49 o_0 ff9_5 (fr9_5 _) o_14.1 ?_
    refine R_aload_n dX9_setup_81 rfl rfl ?_
    refine R_getR dX9_setup_82 cl9 flX9_28 o_0 ff9_2 (fr9_2 _) o_4.1 ?_
    refine R_getI (ki := 2) dX9_setup_85 cl6 flX9_142 o_4 ff6_2 rfl rfl ?_
    refine R_aload_n dX9_setup_88 rfl rfl ?_
    refine R_getR dX9_setup_89 cl9 flX9_28 o_0 ff9_2 (fr9_2 _) o_4.1 ?_
    refine R_getI (ki := 3) dX9_setup_92 cl6 flX9_145 o_4 ff6_3 rfl rfl ?_
    refine R_aload_n dX9_setup_95 rfl rfl ?_
    refine R_getR dX9_setup_96 cl9 flX9_28 o_0 ff9_2 (fr9_2 _) o_4.1 ?_
    refine R_getI (ki := 4) dX9_setup_99 cl6 flX9_148 o_4 ff6_4 rfl rfl ?_
    obtain ⟨p102, hp102, hf⟩ := bdE hf
    refine R_callV (As := [aI (M74 4 2), aI (M74 4 3), aI (M74 4 4)]) (st := []) dX9_setup_102 (ct_X4_setPrices _ _ _ _ _ o_14 hp102) mwX4_setPrices mvX4_setPrices mlX9_151 cl4 o_14 rfl rfl ⟨nle, nle, nle, nle⟩ nle rfl ?_
    refine R_aload_n dX9_setup_105 rfl rfl ?_
    obtain ⟨p106, hp106, hf⟩ := bdE hf
    refine R_callV (As := []) (st := []) dX9_setup_106 (ct_X9_startAnew  _  hp106) mwX9_startAnew mvX9_startAnew mlX9_155 cl9 o_0 rfl rfl ⟨nle, nle, nle, nle⟩ nle rfl ?_
    refine R_iload_n dX9_setup_109 rfl rfl ?_
    cases hf; exact R_widen nle nle (EX_iret dX9_setup_110 rfl rfl rfl rfl)
/-! BracketHall.refusalOf(II)I -/
def f_X9_refusalOf (v1 : Int) (v2 : Int) (M : Mem) : Option (Int) :=
  if (w32 (v1 + v2)) ≤ 240 then
    (f_X1_isText v1 M).bind fun p17 =>
    if p17 = 0 then
      some (-3)
    else
      some 0
  else
    some (-2)
set_option maxRecDepth 20000 in
theorem ct_X9_refusalOf {G : Gl} (v1 : Int) (v2 : Int) (M : Mem) {res : Int}  (hf : f_X9_refusalOf v1 v2 M = some res) : Ct G miX9_refusalOf yX9_refusalOf 2 [aR 0, aI v1, aI v2] M (some (aI res)) M := by
  refine Ct.of (L := [some (aR 0), some (aI v1), some (aI v2)]) mwX9_refusalOf rfl trivial nle ⟨rfl, rfl, rfl, trivial⟩ ?_
  unfold f_X9_refusalOf at hf
  refine R_iload_n dX9_refusalOf_0 rfl rfl ?_
  refine R_iload_n dX9_refusalOf_1 rfl rfl ?_
  refine R_iadd dX9_refusalOf_2 rfl ?_
  refine R_sipush dX9_refusalOf_3 (v := 240) rfl ?_
  refine R_icmp_le dX9_refusalOf_6 rfl (fun h6 => ?_) (fun h6 => ?_)
  · replace hf := iposE hf h6
    refine R_aload_n dX9_refusalOf_12 rfl rfl ?_
    refine R_getR dX9_refusalOf_13 cl9 flX9_12 o_0 ff9_0 (fr9_0 _) o_1.1 ?_
    refine R_iload_n dX9_refusalOf_16 rfl rfl ?_
    obtain ⟨p17, hp17, hf⟩ := bdE hf
    refine R_callV (As := [aI v1]) (st := []) dX9_refusalOf_17 (ct_X1_isText _ _  hp17) mwX1_isText mvX1_isText mlX9_424 cl1 o_1 rfl rfl ⟨nle, nle, nle, nle⟩ nle rfl ?_
    refine R_if_eq dX9_refusalOf_20 rfl (fun h20 => ?_) (fun h20 => ?_)
    · replace hf := iposE hf h20
      refine R_bipush dX9_refusalOf_27 (v := (-3)) rfl ?_
      cases hf; exact E_iret dX9_refusalOf_29 rfl rfl rfl
    · replace hf := inegE hf h20
      refine R_iconst dX9_refusalOf_23 (v := 0) rfl ?_
      refine R_goto dX9_refusalOf_24 rfl ?_
      cases hf; exact E_iret dX9_refusalOf_29 rfl rfl rfl
  · replace hf := inegE hf h6
    refine R_bipush dX9_refusalOf_9 (v := (-2)) rfl ?_
    cases hf; exact E_iret dX9_refusalOf_11 rfl rfl rfl
