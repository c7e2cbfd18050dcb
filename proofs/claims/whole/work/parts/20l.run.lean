/-! BracketHallModel.repairs()V -/
def f_X10_repairs_L7 : Nat → Int → Mem → Option (Mem)
  | 0, _, _ => none
  | n + 1, v1, M =>
    if v1 < 0 then
      some M
    else
      if (0 : Int) ≤ v1 ∧ v1 < 240 then
      if (M 100 v1) = 0 then
        (f_X10_takesOut (M 93 v1) (w32 ((M 93 v1) + 1)) M).bind fun p35 =>
        lt1 (w32 (v1 + (-1))) fun v1_153 =>
        f_X10_repairs_L7 n v1_153 p35
      else
        if (M 100 v1) = 1 then
          if (M 95 v1) = 0 then
            if (M 95 v1) = 0 then
              if (0 : Int) ≤ M 94 v1 ∧ M 94 v1 < 4 then
              (f_X10_puts (M 93 v1) (M 85 (M 94 v1)) M).bind fun p112 =>
              lt1 (w32 (v1 + (-1))) fun v1_153 =>
              f_X10_repairs_L7 n v1_153 p112
              else none
            else
              if (0 : Int) ≤ M 94 v1 ∧ M 94 v1 < 4 then
              (f_X10_puts (M 93 v1) (M 86 (M 94 v1)) M).bind fun p112 =>
              lt1 (w32 (v1 + (-1))) fun v1_153 =>
              f_X10_repairs_L7 n v1_153 p112
              else none
          else
            if (M 95 v1) = 0 then
              if (0 : Int) ≤ M 94 v1 ∧ M 94 v1 < 4 then
              (f_X10_puts (w32 ((M 93 v1) + 1)) (M 85 (M 94 v1)) M).bind fun p112 =>
              lt1 (w32 (v1 + (-1))) fun v1_153 =>
              f_X10_repairs_L7 n v1_153 p112
              else none
            else
              if (0 : Int) ≤ M 94 v1 ∧ M 94 v1 < 4 then
              (f_X10_puts (w32 ((M 93 v1) + 1)) (M 86 (M 94 v1)) M).bind fun p112 =>
              lt1 (w32 (v1 + (-1))) fun v1_153 =>
              f_X10_repairs_L7 n v1_153 p112
              else none
        else
          if (M 100 v1) = 2 then
            if (0 : Int) ≤ M 101 v1 ∧ M 101 v1 < 4 then
            if (0 : Int) ≤ w32 (14 + (M 93 v1)) ∧ w32 (14 + (M 93 v1)) < 254 then
            lt1 (up M 90 (w32 (14 + (M 93 v1))) (M 86 (M 101 v1))) fun M152 =>
            lt1 (w32 (v1 + (-1))) fun v1_153 =>
            f_X10_repairs_L7 n v1_153 M152
            else none
            else none
          else
            lt1 (w32 (v1 + (-1))) fun v1_153 =>
            f_X10_repairs_L7 n v1_153 M
      else none
def f_X10_repairs  (M : Mem) : Option (Mem) :=
  lt1 (w32 ((M 84 26) - 1)) fun v1_6 =>
  f_X10_repairs_L7 4096 v1_6 M
set_option maxRecDepth 20000 in
theorem rn_X10_repairs_L7 {G : Gl} : ∀ (n : Nat) (v1 : Int) (M : Mem) (res : Mem),  f_X10_repairs_L7 n v1 M = some res → Run G false (rmD 1 0 0) miX10_repairs (ZP G none res) 0 0 7 [some (aR 84), some (aI v1)] [] M := by
  intro n
  induction n with
  | zero => intro v1 M res  hf; cases hf
  | succ n ih =>
    intro v1 M res  hf
    rw [f_X10_repairs_L7] at hf
    refine R_iload_n dX10_repairs_7 rfl rfl ?_
    refine R_if_lt dX10_repairs_8 rfl (fun h8 => ?_) (fun h8 => ?_)
    · replace hf := iposE hf h8
      cases hf; exact E_vret dX10_repairs_159 rfl rfl rfl
    · replace hf := inegE hf h8
      refine R_aload_n dX10_repairs_11 rfl rfl ?_
      refine R_getR dX10_repairs_12 cl10 flX10_71 o_84 ff10_34 (fr10_34 _) a_100.1 ?_
      refine R_iload_n dX10_repairs_15 rfl rfl ?_
      obtain ⟨hg1, hf⟩ := gdE hf
      refine R_iaload dX10_repairs_16 a_100 hg1.1 hg1.2 rfl ?_
      refine R_if_ne dX10_repairs_17 rfl (fun h17 => ?_) (fun h17 => ?_)
      · replace hf := inegE hf h17
        refine R_aload_n dX10_repairs_41 rfl rfl ?_
        refine R_getR dX10_repairs_42 cl10 flX10_71 o_84 ff10_34 (fr10_34 _) a_100.1 ?_
        refine R_iload_n dX10_repairs_45 rfl rfl ?_
        refine R_iaload dX10_repairs_46 a_100 hg1.1 hg1.2 rfl ?_
        refine R_iconst dX10_repairs_47 (v := 1) rfl ?_
        refine R_icmp_ne dX10_repairs_48 rfl (fun h48 => ?_) (fun h48 => ?_)
        · replace hf := inegE hf h48
          refine R_aload_n dX10_repairs_118 rfl rfl ?_
          refine R_getR dX10_repairs_119 cl10 flX10_71 o_84 ff10_34 (fr10_34 _) a_100.1 ?_
          refine R_iload_n dX10_repairs_122 rfl rfl ?_
          refine R_iaload dX10_repairs_123 a_100 hg1.1 hg1.2 rfl ?_
          refine R_iconst dX10_repairs_124 (v := 2) rfl ?_
          refine R_icmp_ne dX10_repairs_125 rfl (fun h125 => ?_) (fun h125 => ?_)
          · replace hf := inegE hf h125
            obtain ⟨v1_153, hv1_153, hf⟩ := ltE hf
            refine R_iinc dX10_repairs_153 rfl rfl hv1_153 (by decide) rfl ?_
            refine R_goto dX10_repairs_156 rfl ?_
            exact R_subk (ih _ _ _  hf) ⟨rfl, rfl, trivial⟩
          · replace hf := iposE hf h125
            refine R_aload_n dX10_repairs_128 rfl rfl ?_
            refine R_getR dX10_repairs_129 cl10 flX10_35 o_84 ff10_14 (fr10_14 _) a_90.1 ?_
            refine R_bipush dX10_repairs_132 (v := 14) rfl ?_
            refine R_aload_n dX10_repairs_134 rfl rfl ?_
            refine R_getR dX10_repairs_135 cl10 flX10_48 o_84 ff10_27 (fr10_27 _) a_93.1 ?_
            refine R_iload_n dX10_repairs_138 rfl rfl ?_
            refine R_iaload dX10_repairs_139 a_93 hg1.1 hg1.2 rfl ?_
            refine R_iadd dX10_repairs_140 rfl ?_
            refine R_aload_n dX10_repairs_141 rfl rfl ?_
            refine R_getR dX10_repairs_142 cl10 flX10_13 o_84 ff10_3 (fr10_3 _) a_86.1 ?_
            refine R_aload_n dX10_repairs_145 rfl rfl ?_
            refine R_getR dX10_repairs_146 cl10 flX10_74 o_84 ff10_35 (fr10_35 _) a_101.1 ?_
            refine R_iload_n dX10_repairs_149 rfl rfl ?_
            refine R_iaload dX10_repairs_150 a_101 hg1.1 hg1.2 rfl ?_
            obtain ⟨hg2, hf⟩ := gdE hf
            refine R_iaload dX10_repairs_151 a_86 hg2.1 hg2.2 rfl ?_
            obtain ⟨hg3, hf⟩ := gdE hf
            obtain ⟨M152, hM152, hf⟩ := ltE hf
            refine R_iastore dX10_repairs_152 a_90 hg3.1 hg3.2 hM152 ?_
            obtain ⟨v1_153, hv1_153, hf⟩ := ltE hf
            refine R_iinc dX10_repairs_153 rfl rfl hv1_153 (by decide) rfl ?_
            refine R_goto dX10_repairs_156 rfl ?_
            exact R_subk (ih _ _ _  hf) ⟨rfl, rfl, trivial⟩
        · replace hf := iposE hf h48
          refine R_aload_n dX10_repairs_51 rfl rfl ?_
          refine R_aload_n dX10_repairs_52 rfl rfl ?_
          refine R_getR dX10_repairs_53 cl10 flX10_54 o_84 ff10_29 (fr10_29 _) a_95.1 ?_
          refine R_iload_n dX10_repairs_56 rfl rfl ?_
          refine R_zaload dX10_repairs_57 a_95 hg1.1 hg1.2 rfl ?_
          refine R_if_eq dX10_repairs_58 rfl (fun h58 => ?_) (fun h58 => ?_)
          · replace hf := iposE hf h58
            refine R_aload_n dX10_repairs_72 rfl rfl ?_
            refine R_getR dX10_repairs_73 cl10 flX10_48 o_84 ff10_27 (fr10_27 _) a_93.1 ?_
            refine R_iload_n dX10_repairs_76 rfl rfl ?_
            refine R_iaload dX10_repairs_77 a_93 hg1.1 hg1.2 rfl ?_
            refine R_aload_n dX10_repairs_78 rfl rfl ?_
            refine R_getR dX10_repairs_79 cl10 flX10_54 o_84 ff10_29 (fr10_29 _) a_95.1 ?_
            refine R_iload_n dX10_repairs_82 rfl rfl ?_
            refine R_zaload dX10_repairs_83 a_95 hg1.1 hg1.2 rfl ?_
            refine R_if_eq dX10_repairs_84 rfl (fun h84 => ?_) (fun h84 => ?_)
            · replace hf := iposE hf h84
              refine R_aload_n dX10_repairs_101 rfl rfl ?_
              refine R_getR dX10_repairs_102 cl10 flX10_7 o_84 ff10_2 (fr10_2 _) a_85.1 ?_
              refine R_aload_n dX10_repairs_105 rfl rfl ?_
              refine R_getR dX10_repairs_106 cl10 flX10_51 o_84 ff10_28 (fr10_28 _) a_94.1 ?_
              refine R_iload_n dX10_repairs_109 rfl rfl ?_
              refine R_iaload dX10_repairs_110 a_94 hg1.1 hg1.2 rfl ?_
              obtain ⟨hg4, hf⟩ := gdE hf
              refine R_iaload dX10_repairs_111 a_85 hg4.1 hg4.2 rfl ?_
              obtain ⟨p112, hp112, hf⟩ := bdE hf
              refine R_callV (As := [aI (M 93 v1), aI (M 85 (M 94 v1))]) (st := []) dX10_repairs_112 (ct_X10_puts _ _ _  hp112) mwX10_puts mvX10_puts mlX10_358 cl10 o_84 rfl rfl ⟨nle, nle, nle, nle⟩ nle rfl ?_
              refine R_goto dX10_repairs_115 rfl ?_
              obtain ⟨v1_153, hv1_153, hf⟩ := ltE hf
              refine R_iinc dX10_repairs_153 rfl rfl hv1_153 (by decide) rfl ?_
              refine R_goto dX10_repairs_156 rfl ?_
              exact R_subk (ih _ _ _  hf) ⟨rfl, rfl, trivial⟩
            · replace hf := inegE hf h84
              refine R_aload_n dX10_repairs_87 rfl rfl ?_
              refine R_getR dX10_repairs_88 cl10 flX10_13 o_84 ff10_3 (fr10_3 _) a_86.1 ?_
              refine R_aload_n dX10_repairs_91 rfl rfl ?_
              refine R_getR dX10_repairs_92 cl10 flX10_51 o_84 ff10_28 (fr10_28 _) a_94.1 ?_
              refine R_iload_n dX10_repairs_95 rfl rfl ?_
              refine R_iaload dX10_repairs_96 a_94 hg1.1 hg1.2 rfl ?_
              obtain ⟨hg5, hf⟩ := gdE hf
              refine R_iaload dX10_repairs_97 a_86 hg5.1 hg5.2 rfl ?_
              refine R_goto dX10_repairs_98 rfl ?_
              obtain ⟨p112, hp112, hf⟩ := bdE hf
              refine R_callV (As := [aI (M 93 v1), aI (M 86 (M 94 v1))]) (st := []) dX10_repairs_112 (ct_X10_puts _ _ _  hp112) mwX10_puts mvX10_puts mlX10_358 cl10 o_84 rfl rfl ⟨nle, nle, nle, nle⟩ nle rfl ?_
              refine R_goto dX10_repairs_115 rfl ?_
              obtain ⟨v1_153, hv1_153, hf⟩ := ltE hf
              refine R_iinc dX10_repairs_153 rfl rfl hv1_153 (by decide) rfl ?_
              refine R_goto dX10_repairs_156 rfl ?_
              exact R_subk (ih _ _ _  hf) ⟨rfl, rfl, trivial⟩
          · replace hf := inegE hf h58
            refine R_aload_n dX10_repairs_61 rfl rfl ?_
            refine R_getR dX10_repairs_62 cl10 flX10_48 o_84 ff10_27 (fr10_27 _) a_93.1 ?_
            refine R_iload_n dX10_repairs_65 rfl rfl ?_
            refine R_iaload dX10_repairs_66 a_93 hg1.1 hg1.2 rfl ?_
            refine R_iconst dX10_repairs_67 (v := 1) rfl ?_
            refine R_iadd dX10_repairs_68 rfl ?_
            refine R_goto dX10_repairs_69 rfl ?_
            refine R_aload_n dX10_repairs_78 rfl rfl ?_
            refine R_getR dX10_repairs_79 cl10 flX10_54 o_84 ff10_29 (fr10_29 _) a_95.1 ?_
            refine R_iload_n dX10_repairs_82 rfl rfl ?_
            refine R_zaload dX10_repairs_83 a_95 hg1.1 hg1.2 rfl ?_
            refine R_if_eq dX10_repairs_84 rfl (fun h84 => ?_) (fun h84 => ?_)
            · replace hf := iposE hf h84
              refine R_aload_n dX10_repairs_101 rfl rfl ?_
              refine R_getR dX10_repairs_102 cl10 flX10_7 o_84 ff10_2 (fr10_2 _) a_85.1 ?_
              refine R_aload_n dX10_repairs_105 rfl rfl ?_
              refine R_getR dX10_repairs_106 cl10 flX10_51 o_84 ff10_28 (fr10_28 _) a_94.1 ?_
              refine R_iload_n dX10_repairs_109 rfl rfl ?_
              refine R_iaload dX10_repairs_110 a_94 hg1.1 hg1.2 rfl ?_
              obtain ⟨hg6, hf⟩ := gdE hf
              refine R_iaload dX10_repairs_111 a_85 hg6.1 hg6.2 rfl ?_
              obtain ⟨p112, hp112, hf⟩ := bdE hf
              refine R_callV (As := [aI (w32 ((M 93 v1) + 1)), aI (M 85 (M 94 v1))]) (st := []) dX10_repairs_112 (ct_X10_puts _ _ _  hp112) mwX10_puts mvX10_puts mlX10_358 cl10 o_84 rfl rfl ⟨nle, nle, nle, nle⟩ nle rfl ?_
              refine R_goto dX10_repairs_115 rfl ?_
              obtain ⟨v1_153, hv1_153, hf⟩ := ltE hf
              refine R_iinc dX10_repairs_153 rfl rfl hv1_153 (by decide) rfl ?_
              refine R_goto dX10_repairs_156 rfl ?_
              exact R_subk (ih _ _ _  hf) ⟨rfl, rfl, trivial⟩
            · replace hf := inegE hf h84
              refine R_aload_n dX10_repairs_87 rfl rfl ?_
              refine R_getR dX10_repairs_88 cl10 flX10_13 o_84 ff10_3 (fr10_3 _) a_86.1 ?_
              refine R_aload_n dX10_repairs_91 rfl rfl ?_
              refine R_getR dX10_repairs_92 cl10 flX10_51 o_84 ff10_28 (fr10_28 _) a_94.1 ?_
              refine R_iload_n dX10_repairs_95 rfl rfl ?_
              refine R_iaload dX10_repairs_96 a_94 hg1.1 hg1.2 rfl ?_
              obtain ⟨hg7, hf⟩ := gdE hf
              refine R_iaload dX10_repairs_97 a_86 hg7.1 hg7.2 rfl ?_
              refine R_goto dX10_repairs_98 rfl ?_
              obtain ⟨p112, hp112, hf⟩ := bdE hf
              refine R_callV (As := [aI (w32 ((M 93 v1) + 1)), aI (M 86 (M 94 v1))]) (st := []) dX10_repairs_112 (ct_X10_puts _ _ _  hp112) mwX10_puts mvX10_puts mlX10_358 cl10 o_84 rfl rfl ⟨nle, nle, nle, nle⟩ nle rfl ?_
              refine R_goto dX10_repairs_115 rfl ?_
              obtain ⟨v1_153, hv1_153, hf⟩ := ltE hf
              refine R_iinc dX10_repairs_153 rfl rfl hv1_153 (by decide) rfl ?_
              refine R_goto dX10_repairs_156 rfl ?_
              exact R_subk (ih _ _ _  hf) ⟨rfl, rfl, trivial⟩
      · replace hf := iposE hf h17
        refine R_aload_n dX10_repairs_20 rfl rfl ?_
        refine R_aload_n dX10_repairs_21 rfl rfl ?_
        refine R_getR dX10_repairs_22 cl10 flX10_48 o_84 ff10_27 (fr10_27 _) a_93.1 ?_
        refine R_iload_n dX10_repairs_25 rfl rfl ?_
        refine R_iaload dX10_repairs_26 a_93 hg1.1 hg1.2 rfl ?_
        refine R_aload_n dX10_repairs_27 rfl rfl ?_
        refine R_getR dX10_repairs_28 cl10 flX10_48 o_84 ff10_27 (fr10_27 _) a_93.1 ?_
        refine R_iload_n dX10_repairs_31 rfl rfl ?_
        refine R_iaload dX10_repairs_32 a_93 hg1.1 hg1.2 rfl ?_
        refine R_iconst dX10_repairs_33 (v := 1) rfl ?_
        refine R_iadd dX10_repairs_34 rfl ?_
        obtain ⟨p35, hp35, hf⟩ := bdE hf
        refine R_callV (As := [aI (M 93 v1), aI (w32 ((M 93 v1) + 1))]) (st := []) dX10_repairs_35 (ct_X10_takesOut _ _ _  hp35) mwX10_takesOut mvX10_takesOut mlX10_361 cl10 o_84 rfl rfl ⟨nle, nle, nle, nle⟩ nle rfl ?_
        refine R_goto dX10_repairs_38 rfl ?_
        obtain ⟨v1_153, hv1_153, hf⟩ := ltE hf
        refine R_iinc dX10_repairs_153 rfl rfl hv1_153 (by decide) rfl ?_
        refine R_goto dX10_repairs_156 rfl ?_
        exact R_subk (ih _ _ _  hf) ⟨rfl, rfl, trivial⟩
set_option maxRecDepth 20000 in
theorem ct_X10_repairs {G : Gl}  (M : Mem) {res : Mem}  (hf : f_X10_repairs  M = some res) : Ct G miX10_repairs yX10_repairs 1 [aR 84] M none res := by
  refine Ct.of (L := [some (aR 84), none]) mwX10_repairs rfl trivial nle ⟨rfl, trivial⟩ ?_
  unfold f_X10_repairs at hf
  refine R_aload_n dX10_repairs_0 rfl rfl ?_
  refine R_getI (ki := 26) dX10_repairs_1 cl10 flX10_264 o_84 ff10_26 rfl rfl ?_
  refine R_iconst dX10_repairs_4 (v := 1) rfl ?_
  refine R_isub dX10_repairs_5 rfl ?_
  obtain ⟨v1_6, hv1_6, hf⟩ := ltE hf
  refine R_istore_n dX10_repairs_6 rfl (by decide) hv1_6 rfl ?_
  exact R_subk (rn_X10_repairs_L7 4096 _ _ _  hf) ⟨rfl, rfl, trivial⟩
/-! BracketHallModel.noRange(II)Z -/
def f_X10_noRange (v1 : Int) (v2 : Int) (M : Mem) : Option (Int × Mem) :=
  if v1 < 0 then
    (f_X10_throwsIf 1 1 M).bind fun p26 =>
    if p26.1 = 0 ∨ p26.1 = 1 then
    some (p26.1, p26.2)
    else none
  else
    if v2 < v1 then
      (f_X10_throwsIf 1 1 M).bind fun p26 =>
      if p26.1 = 0 ∨ p26.1 = 1 then
      some (p26.1, p26.2)
      else none
    else
      if v2 ≤ (M 90 0) then
        (f_X10_throwsIf 0 1 M).bind fun p26 =>
        if p26.1 = 0 ∨ p26.1 = 1 then
        some (p26.1, p26.2)
        else none
      else
        (f_X10_throwsIf 1 1 M).bind fun p26 =>
        if p26.1 = 0 ∨ p26.1 = 1 then
        some (p26.1, p26.2)
        else none
set_option maxRecDepth 20000 in
theorem ct_X10_noRange {G : Gl} (v1 : Int) (v2 : Int) (M : Mem) {res : Int × Mem}  (hf : f_X10_noRange v1 v2 M = some res) : Ct G miX10_noRange yX10_noRange 1 [aR 84, aI v1, aI v2] M (some (aI res.1)) res.2 := by
  refine Ct.of (L := [some (aR 84), some (aI v1), some (aI v2)]) mwX10_noRange rfl trivial nle ⟨rfl, rfl, rfl, trivial⟩ ?_
  unfold f_X10_noRange at hf
  refine R_aload_n dX10_noRange_0 rfl rfl ?_
  refine R_iload_n dX10_noRange_1 rfl rfl ?_
  refine R_if_lt dX10_noRange_2 rfl (fun h2 => ?_) (fun h2 => ?_)
  · replace hf := iposE hf h2
    refine R_iconst dX10_noRange_20 (v := 1) rfl ?_
    refine R_goto dX10_noRange_21 rfl ?_
    refine R_iconst dX10_noRange_25 (v := 1) rfl ?_
    obtain ⟨p26, hp26, hf⟩ := bdE hf
    refine R_callV (As := [aI 1, aI 1]) (st := []) dX10_noRange_26 (ct_X10_throwsIf _ _ _  hp26) mwX10_throwsIf mvX10_throwsIf mlX10_227 cl10 o_84 rfl rfl ⟨nle, nle, nle, nle⟩ nle rfl ?_
    obtain ⟨hb, hf⟩ := gdE hf
    cases hf; exact E_zret dX10_noRange_29 rfl hb rfl rfl
  · replace hf := inegE hf h2
    refine R_iload_n dX10_noRange_5 rfl rfl ?_
    refine R_iload_n dX10_noRange_6 rfl rfl ?_
    refine R_icmp_lt dX10_noRange_7 rfl (fun h7 => ?_) (fun h7 => ?_)
    · replace hf := iposE hf h7
      refine R_iconst dX10_noRange_20 (v := 1) rfl ?_
      refine R_goto dX10_noRange_21 rfl ?_
      refine R_iconst dX10_noRange_25 (v := 1) rfl ?_
      obtain ⟨p26, hp26, hf⟩ := bdE hf
      refine R_callV (As := [aI 1, aI 1]) (st := []) dX10_noRange_26 (ct_X10_throwsIf _ _ _  hp26) mwX10_throwsIf mvX10_throwsIf mlX10_227 cl10 o_84 rfl rfl ⟨nle, nle, nle, nle⟩ nle rfl ?_
      obtain ⟨hb, hf⟩ := gdE hf
      cases hf; exact E_zret dX10_noRange_29 rfl hb rfl rfl
    · replace hf := inegE hf h7
      refine R_iload_n dX10_noRange_10 rfl rfl ?_
      refine R_aload_n dX10_noRange_11 rfl rfl ?_
      refine R_getR dX10_noRange_12 cl10 flX10_35 o_84 ff10_14 (fr10_14 _) a_90.1 ?_
      refine R_iconst dX10_noRange_15 (v := 0) rfl ?_
      refine R_iaload dX10_noRange_16 a_90 (by decide) (by decide) rfl ?_
      refine R_icmp_le dX10_noRange_17 rfl (fun h17 => ?_) (fun h17 => ?_)
      · replace hf := iposE hf h17
        refine R_iconst dX10_noRange_24 (v := 0) rfl ?_
        refine R_iconst dX10_noRange_25 (v := 1) rfl ?_
        obtain ⟨p26, hp26, hf⟩ := bdE hf
        refine R_callV (As := [aI 0, aI 1]) (st := []) dX10_noRange_26 (ct_X10_throwsIf _ _ _  hp26) mwX10_throwsIf mvX10_throwsIf mlX10_227 cl10 o_84 rfl rfl ⟨nle, nle, nle, nle⟩ nle rfl ?_
        obtain ⟨hb, hf⟩ := gdE hf
        cases hf; exact E_zret dX10_noRange_29 rfl hb rfl rfl
      · replace hf := inegE hf h17
        refine R_iconst dX10_noRange_20 (v := 1) rfl ?_
        refine R_goto dX10_noRange_21 rfl ?_
        refine R_iconst dX10_noRange_25 (v := 1) rfl ?_
        obtain ⟨p26, hp26, hf⟩ := bdE hf
        refine R_callV (As := [aI 1, aI 1]) (st := []) dX10_noRange_26 (ct_X10_throwsIf _ _ _  hp26) mwX10_throwsIf mvX10_throwsIf mlX10_227 cl10 o_84 rfl rfl ⟨nle, nle, nle, nle⟩ nle rfl ?_
        obtain ⟨hb, hf⟩ := gdE hf
        cases hf; exact E_zret dX10_noRange_29 rfl hb rfl rfl
/-! BracketHallModel.keepsRow([I)V -/
def f_X10_keepsRow_K58 (o1 : Nat) (M : Mem) : Option (Mem) :=
  (f_X10_copies o1 0 110 (w32 (254 * (M 84 46))) M).bind fun p72 =>
  lt1 (up p72 84 46 (w32 ((p72 84 46) + 1))) fun M82 =>
  some M82
def f_X10_keepsRow_L21 : Nat → Nat → Int → Mem → Option (Mem)
  | 0, _, _, _ => none
  | n + 1, o1, v2, M =>
    if (M 84 46) ≤ v2 then
      f_X10_keepsRow_K58 o1 M
    else
      (f_X10_copies 110 (w32 (254 * (w32 (v2 + 1)))) 110 (w32 (254 * v2)) M).bind fun p49 =>
      lt1 (w32 (v2 + 1)) fun v2_52 =>
      f_X10_keepsRow_L21 n o1 v2_52 p49
def f_X10_keepsRow (o1 : Nat) (M : Mem) : Option (Mem) :=
  if (M 84 46) = 10 then
    lt1 (up M 84 46 (w32 ((M 84 46) - 1))) fun M16 =>
    f_X10_keepsRow_L21 4096 o1 0 M16
  else
    f_X10_keepsRow_K58 o1 M
set_option maxRecDepth 20000 in
theorem rn_X10_keepsRow_K58 {G : Gl} (o1 : Nat) (M : Mem) (res : Mem) (ho1 : isI 20 o1) (hf : f_X10_keepsRow_K58 o1 M = some res) : Run G false (rmD 1 0 0) miX10_keepsRow (ZP G none res) 0 0 58 [some (aR 84), some (aR o1), none] [] M := by
  unfold f_X10_keepsRow_K58 at hf
  refine R_aload_n dX10_keepsRow_58 rfl rfl ?_
  refine R_iconst dX10_keepsRow_59 (v := 0) rfl ?_
  refine R_aload_n dX10_keepsRow_60 rfl rfl ?_
  refine R_getR dX10_keepsRow_61 cl10 flX10_101 o_84 ff10_47 (fr10_47 _) a_110.1 ?_
  refine R_sipush dX10_keepsRow_64 (v := 254) rfl ?_
  refine R_aload_n dX10_keepsRow_67 rfl rfl ?_
  refine R_getI (ki := 46) dX10_keepsRow_68 cl10 flX10_251 o_84 ff10_46 rfl rfl ?_
  refine R_imul dX10_keepsRow_71 rfl ?_
  obtain ⟨p72, hp72, hf⟩ := bdE hf
  refine R_callS (As := [aR o1, aI 0, aR 110, aI (w32 (254 * (M 84 46)))]) (st := []) dX10_keepsRow_72 (ct_X10_copies _ _ _ _ _ ho1 a_110.i hp72) mwX10_copies msX10_copies mlX10_244 rfl ⟨nle, nle, nle, nle⟩ nle rfl ?_
  refine R_aload_n dX10_keepsRow_75 rfl rfl ?_
  refine R_dupR dX10_keepsRow_76 ?_
  refine R_getI (ki := 46) dX10_keepsRow_77 cl10 flX10_251 o_84 ff10_46 rfl rfl ?_
  refine R_iconst dX10_keepsRow_80 (v := 1) rfl ?_
  refine R_iadd dX10_keepsRow_81 rfl ?_
  obtain ⟨M82, hM82, hf⟩ := ltE hf
  refine R_put (ki := 46) dX10_keepsRow_82 cl10 flX10_251 o_84 (Or.inl fz10_46) rfl hM82 ?_
  cases hf; exact E_vret dX10_keepsRow_85 rfl rfl rfl
set_option maxRecDepth 20000 in
theorem rn_X10_keepsRow_L21 {G : Gl} : ∀ (n : Nat) (o1 : Nat) (v2 : Int) (M : Mem) (res : Mem), isI 20 o1 → f_X10_keepsRow_L21 n o1 v2 M = some res → Run G false (rmD 1 0 0) miX10_keepsRow (ZP G none res) 0 0 21 [some (aR 84), some (aR o1), some (aI v2)] [] M := by
  intro n
  induction n with
  | zero => intro o1 v2 M res ho1 hf; cases hf
  | succ n ih =>
    intro o1 v2 M res ho1 hf
    rw [f_X10_keepsRow_L21] at hf
    refine R_iload_n dX10_keepsRow_21 rfl rfl ?_
    refine R_aload_n dX10_keepsRow_22 rfl rfl ?_
    refine R_getI (ki := 46) dX10_keepsRow_23 cl10 flX10_251 o_84 ff10_46 rfl rfl ?_
    refine R_icmp_ge dX10_keepsRow_26 rfl (fun h26 => ?_) (fun h26 => ?_)
    · replace hf := iposE hf h26
      exact R_subk (rn_X10_keepsRow_K58 _ _ _ ho1 hf) ⟨rfl, rfl, trivial⟩
    · replace hf := inegE hf h26
      refine R_aload_n dX10_keepsRow_29 rfl rfl ?_
      refine R_getR dX10_keepsRow_30 cl10 flX10_101 o_84 ff10_47 (fr10_47 _) a_110.1 ?_
      refine R_sipush dX10_keepsRow_33 (v := 254) rfl ?_
      refine R_iload_n dX10_keepsRow_36 rfl rfl ?_
      refine R_iconst dX10_keepsRow_37 (v := 1) rfl ?_
      refine R_iadd dX10_keepsRow_38 rfl ?_
      refine R_imul dX10_keepsRow_39 rfl ?_
      refine R_aload_n dX10_keepsRow_40 rfl rfl ?_
      refine R_getR dX10_keepsRow_41 cl10 flX10_101 o_84 ff10_47 (fr10_47 _) a_110.1 ?_
      refine R_sipush dX10_keepsRow_44 (v := 254) rfl ?_
      refine R_iload_n dX10_keepsRow_47 rfl rfl ?_
      refine R_imul dX10_keepsRow_48 rfl ?_
      obtain ⟨p49, hp49, hf⟩ := bdE hf
      refine R_callS (As := [aR 110, aI (w32 (254 * (w32 (v2 + 1)))), aR 110, aI (w32 (254 * v2))]) (st := []) dX10_keepsRow_49 (ct_X10_copies _ _ _ _ _ a_110.i a_110.i hp49) mwX10_copies msX10_copies mlX10_244 rfl ⟨nle, nle, nle, nle⟩ nle rfl ?_
      obtain ⟨v2_52, hv2_52, hf⟩ := ltE hf
      refine R_iinc dX10_keepsRow_52 rfl rfl hv2_52 (by decide) rfl ?_
      refine R_goto dX10_keepsRow_55 rfl ?_
      exact R_subk (ih _ _ _ _ ho1 hf) ⟨rfl, rfl, rfl, trivial⟩
set_option maxRecDepth 20000 in
theorem ct_X10_keepsRow {G : Gl} (o1 : Nat) (M : Mem) {res : Mem} (ho1 : isI 20 o1) (hf : f_X10_keepsRow o1 M = some res) : Ct G miX10_keepsRow yX10_keepsRow 1 [aR 84, aR o1] M none res := by
  refine Ct.of (L := [some (aR 84), some (aR o1), none]) mwX10_keepsRow rfl trivial nle ⟨rfl, rfl, trivial⟩ ?_
  unfold f_X10_keepsRow at hf
  refine R_aload_n dX10_keepsRow_0 rfl rfl ?_
  refine R_getI (ki := 46) dX10_keepsRow_1 cl10 flX10_251 o_84 ff10_46 rfl rfl ?_
  refine R_bipush dX10_keepsRow_4 (v := 10) rfl ?_
  refine R_icmp_ne dX10_keepsRow_6 rfl (fun h6 => ?_) (fun h6 => ?_)
  · replace hf := inegE hf h6
    exact R_subk (rn_X10_keepsRow_K58 _ _ _ ho1 hf) ⟨rfl, rfl, trivial⟩
  · replace hf := iposE hf h6
    refine R_aload_n dX10_keepsRow_9 rfl rfl ?_
    refine R_dupR dX10_keepsRow_10 ?_
    refine R_getI (ki := 46) dX10_keepsRow_11 cl10 flX10_251 o_84 ff10_46 rfl rfl ?_
    refine R_iconst dX10_keepsRow_14 (v := 1) rfl ?_
    refine R_isub dX10_keepsRow_15 rfl ?_
    obtain ⟨M16, hM16, hf⟩ := ltE hf
    refine R_put (ki := 46) dX10_keepsRow_16 cl10 flX10_251 o_84 (Or.inl fz10_46) rfl hM16 ?_
    refine R_iconst dX10_keepsRow_19 (v := 0) rfl ?_
    refine R_istore_n dX10_keepsRow_20 rfl (by decide) rfl rfl ?_
    exact R_subk (rn_X10_keepsRow_L21 4096 _ _ _ _ ho1 hf) ⟨rfl, rfl, rfl, trivial⟩
/-! BracketHallModel.keeps()V -/
def f_X10_keeps  (M : Mem) : Option (Mem) :=
  (f_X10_keepsRow 90 M).bind fun p5 =>
  some p5
set_option maxRecDepth 20000 in
theorem ct_X10_keeps {G : Gl}  (M : Mem) {res : Mem}  (hf : f_X10_keeps  M = some res) : Ct G miX10_keeps yX10_keeps 2 [aR 84] M none res := by
  refine Ct.of (L := [some (aR 84)]) mwX10_keeps rfl trivial nle ⟨rfl, trivial⟩ ?_
  unfold f_X10_keeps at hf
  refine R_aload_n dX10_keeps_0 rfl rfl ?_
  refine R_aload_n dX10_keeps_1 rfl rfl ?_
  refine R_getR dX10_keeps_2 cl10 flX10_35 o_84 ff10_14 (fr10_14 _) a_90.1 ?_
  obtain ⟨p5, hp5, hf⟩ := bdE hf
  refine R_callV (As := [aR 90]) (st := []) dX10_keeps_5 (ct_X10_keepsRow _ _ a_90.i hp5) mwX10_keepsRow mvX10_keepsRow mlX10_410 cl10 o_84 rfl rfl ⟨nle, nle, nle, nle⟩ nle rfl ?_
  cases hf; exact E_vret dX10_keeps_8 rfl rfl rfl
/-! BracketHallModel.insert(II)I -/
def f_X10_insert_L91 : Nat → Int → Int → Mem → Option (Int × Mem)
  | 0, _, _, _ => none
  | n + 1, v1, v4, M =>
    if v4 < 0 then
      some (M 90 0, M)
    else
      if (0 : Int) ≤ v4 ∧ v4 < 600 then
      (f_X10_puts v1 (M 91 v4) M).bind fun p105 =>
      lt1 (w32 (v4 + (-1))) fun v4_108 =>
      f_X10_insert_L91 n v1 v4_108 p105
      else none
def f_X10_insert (v1 : Int) (v2 : Int) (M : Mem) : Option (Int × Mem) :=
  lt1 (up M 84 0 0) fun M2 =>
  (f_X10_isIn v1 0 (M2 90 0) M2).bind fun p14 =>
  if p14 = 0 then
    (f_X10_throwsIf 1 1 M2).bind fun p26 =>
    if p26.1 = 0 then
      (f_X10_isIn v2 0 (p26.2 84 16) p26.2).bind fun p39 =>
      if p39 = 0 then
        (f_X10_throwsIf 1 2 p26.2).bind fun p51 =>
        if p51.1 = 0 then
          lt1 (up p51.2 84 16 0) fun M61 =>
          (f_X10_refusal (M61 90 0) v2 M61).bind fun p72 =>
          if p72 = 0 then
            (f_X10_keeps M61).bind fun p83 =>
            lt1 (w32 (v2 - 1)) fun v4_89 =>
            f_X10_insert_L91 4096 v1 v4_89 p83
          else
            some (p72, M61)
        else
          some (0, p51.2)
      else
        (f_X10_throwsIf 0 2 p26.2).bind fun p51 =>
        if p51.1 = 0 then
          lt1 (up p51.2 84 16 0) fun M61 =>
          (f_X10_refusal (M61 90 0) v2 M61).bind fun p72 =>
          if p72 = 0 then
            (f_X10_keeps M61).bind fun p83 =>
            lt1 (w32 (v2 - 1)) fun v4_89 =>
            f_X10_insert_L91 4096 v1 v4_89 p83
          else
            some (p72, M61)
        else
          some (0, p51.2)
    else
      some (0, p26.2)
  else
    (f_X10_throwsIf 0 1 M2).bind fun p26 =>
    if p26.1 = 0 then
      (f_X10_isIn v2 0 (p26.2 84 16) p26.2).bind fun p39 =>
      if p39 = 0 then
        (f_X10_throwsIf 1 2 p26.2).bind fun p51 =>
        if p51.1 = 0 then
          lt1 (up p51.2 84 16 0) fun M61 =>
          (f_X10_refusal (M61 90 0) v2 M61).bind fun p72 =>
          if p72 = 0 then
            (f_X10_keeps M61).bind fun p83 =>
            lt1 (w32 (v2 - 1)) fun v4_89 =>
            f_X10_insert_L91 4096 v1 v4_89 p83
          else
            some (p72, M61)
        else
          some (0, p51.2)
      else
        (f_X10_throwsIf 0 2 p26.2).bind fun p51 =>
        if p51.1 = 0 then
          lt1 (up p51.2 84 16 0) fun M61 =>
          (f_X10_refusal (M61 90 0) v2 M61).bind fun p72 =>
          if p72 = 0 then
            (f_X10_keeps M61).bind fun p83 =>
            lt1 (w32 (v2 - 1)) fun v4_89 =>
            f_X10_insert_L91 4096 v1 v4_89 p83
          else
            some (p72, M61)
        else
          some (0, p51.2)
    else
      some (0, p26.2)
set_option maxRecDepth 20000 in
theorem rn_X10_insert_L91 {G : Gl} : ∀ (n : Nat) (v1 : Int) (v4 : Int) (M : Mem) (res : Int × Mem),  f_X10_insert_L91 n v1 v4 M = some res → Run G false (rmD 3 0 0) miX10_insert (ZP G (some (aI res.1)) res.2) 0 0 91 [some (aR 84), some (aI v1), none, none, some (aI v4)] [] M := by
  intro n
  induction n with
  | zero => intro v1 v4 M res  hf; cases hf
  | succ n ih =>
    intro v1 v4 M res  hf
    rw [f_X10_insert_L91] at hf
    refine R_iload dX10_insert_91 rfl ?_
    refine R_if_lt dX10_insert_93 rfl (fun h93 => ?_) (fun h93 => ?_)
    · replace hf := iposE hf h93
      refine R_aload_n dX10_insert_114 rfl rfl ?_
      refine R_getR dX10_insert_115 cl10 flX10_35 o_84 ff10_14 (fr10_14 _) a_90.1 ?_
      refine R_iconst dX10_insert_118 (v := 0) rfl ?_
      refine R_iaload dX10_insert_119 a_90 (by decide) (by decide) rfl ?_
      cases hf; exact E_iret dX10_insert_120 rfl rfl rfl
    · replace hf := inegE hf h93
      refine R_aload_n dX10_insert_96 rfl rfl ?_
      refine R_iload_n dX10_insert_97 rfl rfl ?_
      refine R_aload_n dX10_insert_98 rfl rfl ?_
      refine R_getR dX10_insert_99 cl10 flX10_38 o_84 ff10_15 (fr10_15 _) a_91.1 ?_
      refine R_iload dX10_insert_102 rfl ?_
      obtain ⟨hg1, hf⟩ := gdE hf
      refine R_baload dX10_insert_104 a_91 hg1.1 hg1.2 rfl ?_
      obtain ⟨p105, hp105, hf⟩ := bdE hf
      refine R_callV (As := [aI v1, aI (M 91 v4)]) (st := []) dX10_insert_105 (ct_X10_puts _ _ _  hp105) mwX10_puts mvX10_puts mlX10_358 cl10 o_84 rfl rfl ⟨nle, nle, nle, nle⟩ nle rfl ?_
      obtain ⟨v4_108, hv4_108, hf⟩ := ltE hf
      refine R_iinc dX10_insert_108 rfl rfl hv4_108 (by decide) rfl ?_
      refine R_goto dX10_insert_111 rfl ?_
      exact R_subk (ih _ _ _ _  hf) ⟨rfl, rfl, rfl, trivial⟩
set_option maxRecDepth 20000 in
theorem ct_X10_insert {G : Gl} (v1 : Int) (v2 : Int) (M : Mem) {res : Int × Mem}  (hf : f_X10_insert v1 v2 M = some res) : Ct G miX10_insert yX10_insert 3 [aR 84, aI v1, aI v2] M (some (aI res.1)) res.2 := by
  refine Ct.of (L := [some (aR 84), some (aI v1), some (aI v2), none, none]) mwX10_insert rfl trivial nle ⟨rfl, rfl, rfl, trivial⟩ ?_
  unfold f_X10_insert at hf
  refine R_aload_n dX10_insert_0 rfl rfl ?_
  refine R_iconst dX10_insert_1 (v := 0) rfl ?_
  obtain ⟨M2, hM2, hf⟩ := ltE hf
  refine R_put (ki := 0) dX10_insert_2 cl10 flX10_117 o_84 (Or.inl fz10_0) rfl hM2 ?_
  refine R_aload_n dX10_insert_5 rfl rfl ?_
  refine R_iload_n dX10_insert_6 rfl rfl ?_
  refine R_iconst dX10_insert_7 (v := 0) rfl ?_
  refine R_aload_n dX10_insert_8 rfl rfl ?_
  refine R_getR dX10_insert_9 cl10 flX10_35 o_84 ff10_14 (fr10_14 _) a_90.1 ?_
  refine R_iconst dX10_insert_12 (v := 0) rfl ?_
  refine R_iaload dX10_insert_13 a_90 (by decide) (by decide) rfl ?_
  obtain ⟨p14, hp14, hf⟩ := bdE hf
  refine R_callS (As := [aI v1, aI 0, aI (M2 90 0)]) (st := [aR 84]) dX10_insert_14 (ct_X10_isIn _ _ _ _  hp14) mwX10_isIn msX10_isIn mlX10_130 rfl ⟨nle, nle, nle, nle⟩ nle rfl ?_
  refine R_if_ne dX10_insert_17 rfl (fun h17 => ?_) (fun h17 => ?_)
  · replace hf := inegE hf h17
    refine R_iconst dX10_insert_24 (v := 0) rfl ?_
    refine R_iconst dX10_insert_25 (v := 1) rfl ?_
    obtain ⟨p26, hp26, hf⟩ := bdE hf
    refine R_callV (As := [aI 0, aI 1]) (st := []) dX10_insert_26 (ct_X10_throwsIf _ _ _  hp26) mwX10_throwsIf mvX10_throwsIf mlX10_227 cl10 o_84 rfl rfl ⟨nle, nle, nle, nle⟩ nle rfl ?_
    refine R_if_ne dX10_insert_29 rfl (fun h29 => ?_) (fun h29 => ?_)
    · replace hf := inegE hf h29
      refine R_iconst dX10_insert_57 (v := 0) rfl ?_
      cases hf; exact E_iret dX10_insert_58 rfl rfl rfl
    · replace hf := iposE hf h29
      refine R_aload_n dX10_insert_32 rfl rfl ?_
      refine R_iload_n dX10_insert_33 rfl rfl ?_
      refine R_iconst dX10_insert_34 (v := 0) rfl ?_
      refine R_aload_n dX10_insert_35 rfl rfl ?_
      refine R_getI (ki := 16) dX10_insert_36 cl10 flX10_120 o_84 ff10_16 rfl rfl ?_
      obtain ⟨p39, hp39, hf⟩ := bdE hf
      refine R_callS (As := [aI v2, aI 0, aI (p26.2 84 16)]) (st := [aR 84]) dX10_insert_39 (ct_X10_isIn _ _ _ _  hp39) mwX10_isIn msX10_isIn mlX10_130 rfl ⟨nle, nle, nle, nle⟩ nle rfl ?_
      refine R_if_ne dX10_insert_42 rfl (fun h42 => ?_) (fun h42 => ?_)
      · replace hf := inegE hf h42
        refine R_iconst dX10_insert_49 (v := 0) rfl ?_
        refine R_iconst dX10_insert_50 (v := 2) rfl ?_
        obtain ⟨p51, hp51, hf⟩ := bdE hf
        refine R_callV (As := [aI 0, aI 2]) (st := []) dX10_insert_51 (ct_X10_throwsIf _ _ _  hp51) mwX10_throwsIf mvX10_throwsIf mlX10_227 cl10 o_84 rfl rfl ⟨nle, nle, nle, nle⟩ nle rfl ?_
        refine R_if_eq dX10_insert_54 rfl (fun h54 => ?_) (fun h54 => ?_)
        · replace hf := iposE hf h54
          refine R_aload_n dX10_insert_59 rfl rfl ?_
          refine R_iconst dX10_insert_60 (v := 0) rfl ?_
          obtain ⟨M61, hM61, hf⟩ := ltE hf
          refine R_put (ki := 16) dX10_insert_61 cl10 flX10_120 o_84 (Or.inl fz10_16) rfl hM61 ?_
          refine R_aload_n dX10_insert_64 rfl rfl ?_
          refine R_aload_n dX10_insert_65 rfl rfl ?_
          refine R_getR dX10_insert_66 cl10 flX10_35 o_84 ff10_14 (fr10_14 _) a_90.1 ?_
          refine R_iconst dX10_insert_69 (v := 0) rfl ?_
          refine R_iaload dX10_insert_70 a_90 (by decide) (by decide) rfl ?_
          refine R_iload_n dX10_insert_71 rfl rfl ?_
          obtain ⟨p72, hp72, hf⟩ := bdE hf
          refine R_callV (As := [aI (M61 90 0), aI v2]) (st := []) dX10_insert_72 (ct_X10_refusal _ _ _  hp72) mwX10_refusal mvX10_refusal mlX10_257 cl10 o_84 rfl rfl ⟨nle, nle, nle, nle⟩ nle rfl ?_
          refine R_istore_n dX10_insert_75 rfl (by decide) rfl rfl ?_
          refine R_iload_n dX10_insert_76 rfl rfl ?_
          refine R_if_eq dX10_insert_77 rfl (fun h77 => ?_) (fun h77 => ?_)
          · replace hf := iposE hf h77
            refine R_aload_n dX10_insert_82 rfl rfl ?_
            obtain ⟨p83, hp83, hf⟩ := bdE hf
            refine R_callV (As := []) (st := []) dX10_insert_83 (ct_X10_keeps  _  hp83) mwX10_keeps mvX10_keeps mlX10_364 cl10 o_84 rfl rfl ⟨nle, nle, nle, nle⟩ nle rfl ?_
            refine R_iload_n dX10_insert_86 rfl rfl ?_
            refine R_iconst dX10_insert_87 (v := 1) rfl ?_
            refine R_isub dX10_insert_88 rfl ?_
            obtain ⟨v4_89, hv4_89, hf⟩ := ltE hf
            refine R_istore dX10_insert_89 (by decide) hv4_89 rfl ?_
            exact R_subk (rn_X10_insert_L91 4096 _ _ _ _  hf) ⟨rfl, rfl, rfl, trivial⟩
          · replace hf := inegE hf h77
            refine R_iload_n dX10_insert_80 rfl rfl ?_
            cases hf; exact E_iret dX10_insert_81 rfl rfl rfl
        · replace hf := inegE hf h54
          refine R_iconst dX10_insert_57 (v := 0) rfl ?_
          cases hf; exact E_iret dX10_insert_58 rfl rfl rfl
      · replace hf := iposE hf h42
        refine R_iconst dX10_insert_45 (v := 1) rfl ?_
        refine R_goto dX10_insert_46 rfl ?_
        refine R_iconst dX10_insert_50 (v := 2) rfl ?_
        obtain ⟨p51, hp51, hf⟩ := bdE hf
        refine R_callV (As := [aI 1, aI 2]) (st := []) dX10_insert_51 (ct_X10_throwsIf _ _ _  hp51) mwX10_throwsIf mvX10_throwsIf mlX10_227 cl10 o_84 rfl rfl ⟨nle, nle, nle, nle⟩ nle rfl ?_
        refine R_if_eq dX10_insert_54 rfl (fun h54 => ?_) (fun h54 => ?_)
        · replace hf := iposE hf h54
          refine R_aload_n dX10_insert_59 rfl rfl ?_
          refine R_iconst dX10_insert_60 (v := 0) rfl ?_
          obtain ⟨M61, hM61, hf⟩ := ltE hf
          refine R_put (ki := 16) dX10_insert_61 cl10 flX10_120 o_84 (Or.inl fz10_16) rfl hM61 ?_
          refine R_aload_n dX10_insert_64 rfl rfl ?_
          refine R_aload_n dX10_insert_65 rfl rfl ?_
          refine R_getR dX10_insert_66 cl10 flX10_35 o_84 ff10_14 (fr10_14 _) a_90.1 ?_
          refine R_iconst dX10_insert_69 (v := 0) rfl ?_
          refine R_iaload dX10_insert_70 a_90 (by decide) (by decide) rfl ?_
          refine R_iload_n dX10_insert_71 rfl rfl ?_
          obtain ⟨p72, hp72, hf⟩ := bdE hf
          refine R_callV (As := [aI (M61 90 0), aI v2]) (st := []) dX10_insert_72 (ct_X10_refusal _ _ _  hp72) mwX10_refusal mvX10_refusal mlX10_257 cl10 o_84 rfl rfl ⟨nle, nle, nle, nle⟩ nle rfl ?_
          refine R_istore_n dX10_insert_75 rfl (by decide) rfl rfl ?_
          refine R_iload_n dX10_insert_76 rfl rfl ?_
          refine R_if_eq dX10_insert_77 rfl (fun h77 => ?_) (fun h77 => ?_)
          · replace hf := iposE hf h77
            refine R_aload_n dX10_insert_82 rfl rfl ?_
            obtain ⟨p83, hp83, hf⟩ := bdE hf
            refine R_callV (As := []) (st := []) dX10_insert_83 (ct_X10_keeps  _  hp83) mwX10_keeps mvX10_keeps mlX10_364 cl10 o_84 rfl rfl ⟨nle, nle, nle, nle⟩ nle rfl ?_
            refine R_iload_n dX10_insert_86 rfl rfl ?_
            refine R_iconst dX10_insert_87 (v := 1) rfl ?_
            refine R_isub dX10_insert_88 rfl ?_
            obtain ⟨v4_89, hv4_89, hf⟩ := ltE hf
            refine R_istore dX10_insert_89 (by decide) hv4_89 rfl ?_
            exact R_subk (rn_X10_insert_L91 4096 _ _ _ _  hf) ⟨rfl, rfl, rfl, trivial⟩
          · replace hf := inegE hf h77
            refine R_iload_n dX10_insert_80 rfl rfl ?_
            cases hf; exact E_iret dX10_insert_81 rfl rfl rfl
        · replace hf := inegE hf h54
          refine R_iconst dX10_insert_57 (v := 0) rfl ?_
          cases hf; exact E_iret dX10_insert_58 rfl rfl rfl
  · replace hf := iposE hf h17
    refine R_iconst dX10_insert_20 (v := 1) rfl ?_
    refine R_goto dX10_insert_21 rfl ?_
    refine R_iconst dX10_insert_25 (v := 1) rfl ?_
    obtain ⟨p26, hp26, hf⟩ := bdE hf
    refine R_callV (As := [aI 1, aI 1]) (st := []) dX10_insert_26 (ct_X10_throwsIf _ _ _  hp26) mwX10_throwsIf mvX10_throwsIf mlX10_227 cl10 o_84 rfl rfl ⟨nle, nle, nle, nle⟩ nle rfl ?_
    refine R_if_ne dX10_insert_29 rfl (fun h29 => ?_) (fun h29 => ?_)
    · replace hf := inegE hf h29
      refine R_iconst dX10_insert_57 (v := 0) rfl ?_
      cases hf; exact E_iret dX10_insert_58 rfl rfl rfl
    · replace hf := iposE hf h29
      refine R_aload_n dX10_insert_32 rfl rfl ?_
      refine R_iload_n dX10_insert_33 rfl rfl ?_
      refine R_iconst dX10_insert_34 (v := 0) rfl ?_
      refine R_aload_n dX10_insert_35 rfl rfl ?_
      refine R_getI (ki := 16) dX10_insert_36 cl10 flX10_120 o_84 ff10_16 rfl rfl ?_
      obtain ⟨p39, hp39, hf⟩ := bdE hf
      refine R_callS (As := [aI v2, aI 0, aI (p26.2 84 16)]) (st := [aR 84]) dX10_insert_39 (ct_X10_isIn _ _ _ _  hp39) mwX10_isIn msX10_isIn mlX10_130 rfl ⟨nle, nle, nle, nle⟩ nle rfl ?_
      refine R_if_ne dX10_insert_42 rfl (fun h42 => ?_) (fun h42 => ?_)
      · replace hf := inegE hf h42
        refine R_iconst dX10_insert_49 (v := 0) rfl ?_
        refine R_iconst dX10_insert_50 (v := 2) rfl ?_
        obtain ⟨p51, hp51, hf⟩ := bdE hf
        refine R_callV (As := [aI 0, aI 2]) (st := []) dX10_insert_51 (ct_X10_throwsIf _ _ _  hp51) mwX10_throwsIf mvX10_throwsIf mlX10_227 cl10 o_84 rfl rfl ⟨nle, nle, nle, nle⟩ nle rfl ?_
        refine R_if_eq dX10_insert_54 rfl (fun h54 => ?_) (fun h54 => ?_)
        · replace hf := iposE hf h54
          refine R_aload_n dX10_insert_59 rfl rfl ?_
          refine R_iconst dX10_insert_60 (v := 0) rfl ?_
          obtain ⟨M61, hM61, hf⟩ := ltE hf
          refine R_put (ki := 16) dX10_insert_61 cl10 flX10_120 o_84 (Or.inl fz10_16) rfl hM61 ?_
          refine R_aload_n dX10_insert_64 rfl rfl ?_
          refine R_aload_n dX10_insert_65 rfl rfl ?_
          refine R_getR dX10_insert_66 cl10 flX10_35 o_84 ff10_14 (fr10_14 _) a_90.1 ?_
          refine R_iconst dX10_insert_69 (v := 0) rfl ?_
          refine R_iaload dX10_insert_70 a_90 (by decide) (by decide) rfl ?_
          refine R_iload_n dX10_insert_71 rfl rfl ?_
          obtain ⟨p72, hp72, hf⟩ := bdE hf
          refine R_callV (As := [aI (M61 90 0), aI v2]) (st := []) dX10_insert_72 (ct_X10_refusal _ _ _  hp72) mwX10_refusal mvX10_refusal mlX10_257 cl10 o_84 rfl rfl ⟨nle, nle, nle, nle⟩ nle rfl ?_
          refine R_istore_n dX10_insert_75 rfl (by decide) rfl rfl ?_
          refine R_iload_n dX10_insert_76 rfl rfl ?_
          refine R_if_eq dX10_insert_77 rfl (fun h77 => ?_) (fun h77 => ?_)
          · replace hf := iposE hf h77
            refine R_aload_n dX10_insert_82 rfl rfl ?_
            obtain ⟨p83, hp83, hf⟩ := bdE hf
            refine R_callV (As := []) (st := []) dX10_insert_83 (ct_X10_keeps  _  hp83) mwX10_keeps mvX10_keeps mlX10_364 cl10 o_84 rfl rfl ⟨nle, nle, nle, nle⟩ nle rfl ?_
            refine R_iload_n dX10_insert_86 rfl rfl ?_
            refine R_iconst dX10_insert_87 (v := 1) rfl ?_
            refine R_isub dX10_insert_88 rfl ?_
            obtain ⟨v4_89, hv4_89, hf⟩ := ltE hf
            refine R_istore dX10_insert_89 (by decide) hv4_89 rfl ?_
            exact R_subk (rn_X10_insert_L91 4096 _ _ _ _  hf) ⟨rfl, rfl, rfl, trivial⟩
          · replace hf := inegE hf h77
            refine R_iload_n dX10_insert_80 rfl rfl ?_
            cases hf; exact E_iret dX10_insert_81 rfl rfl rfl
        · replace hf := inegE hf h54
          refine R_iconst dX10_insert_57 (v := 0) rfl ?_
          cases hf; exact E_iret dX10_insert_58 rfl rfl rfl
      · replace hf := iposE hf h42
        refine R_iconst dX10_insert_45 (v := 1) rfl ?_
        refine R_goto dX10_insert_46 rfl ?_
        refine R_iconst dX10_insert_50 (v := 2) rfl ?_
        obtain ⟨p51, hp51, hf⟩ := bdE hf
        refine R_callV (As := [aI 1, aI 2]) (st := []) dX10_insert_51 (ct_X10_throwsIf _ _ _  hp51) mwX10_throwsIf mvX10_throwsIf mlX10_227 cl10 o_84 rfl rfl ⟨nle, nle, nle, nle⟩ nle rfl ?_
        refine R_if_eq dX10_insert_54 rfl (fun h54 => ?_) (fun h54 => ?_)
        · replace hf := iposE hf h54
          refine R_aload_n dX10_insert_59 rfl rfl ?_
          refine R_iconst dX10_insert_60 (v := 0) rfl ?_
          obtain ⟨M61, hM61, hf⟩ := ltE hf
          refine R_put (ki := 16) dX10_insert_61 cl10 flX10_120 o_84 (Or.inl fz10_16) rfl hM61 ?_
          refine R_aload_n dX10_insert_64 rfl rfl ?_
          refine R_aload_n dX10_insert_65 rfl rfl ?_
          refine R_getR dX10_insert_66 cl10 flX10_35 o_84 ff10_14 (fr10_14 _) a_90.1 ?_
          refine R_iconst dX10_insert_69 (v := 0) rfl ?_
          refine R_iaload dX10_insert_70 a_90 (by decide) (by decide) rfl ?_
          refine R_iload_n dX10_insert_71 rfl rfl ?_
          obtain ⟨p72, hp72, hf⟩ := bdE hf
          refine R_callV (As := [aI (M61 90 0), aI v2]) (st := []) dX10_insert_72 (ct_X10_refusal _ _ _  hp72) mwX10_refusal mvX10_refusal mlX10_257 cl10 o_84 rfl rfl ⟨nle, nle, nle, nle⟩ nle rfl ?_
          refine R_istore_n dX10_insert_75 rfl (by decide) rfl rfl ?_
          refine R_iload_n dX10_insert_76 rfl rfl ?_
          refine R_if_eq dX10_insert_77 rfl (fun h77 => ?_) (fun h77 => ?_)
          · replace hf := iposE hf h77
            refine R_aload_n dX10_insert_82 rfl rfl ?_
            obtain ⟨p83, hp83, hf⟩ := bdE hf
            refine R_callV (As := []) (st := []) dX10_insert_83 (ct_X10_keeps  _  hp83) mwX10_keeps mvX10_keeps mlX10_364 cl10 o_84 rfl rfl ⟨nle, nle, nle, nle⟩ nle rfl ?_
            refine R_iload_n dX10_insert_86 rfl rfl ?_
            refine R_iconst dX10_insert_87 (v := 1) rfl ?_
            refine R_isub dX10_insert_88 rfl ?_
            obtain ⟨v4_89, hv4_89, hf⟩ := ltE hf
            refine R_istore dX10_insert_89 (by decide) hv4_89 rfl ?_
            exact R_subk (rn_X10_insert_L91 4096 _ _ _ _  hf) ⟨rfl, rfl, rfl, trivial⟩
          · replace hf := inegE hf h77
            refine R_iload_n dX10_insert_80 rfl rfl ?_
            cases hf; exact E_iret dX10_insert_81 rfl rfl rfl
        · replace hf := inegE hf h54
          refine R_iconst dX10_insert_57 (v := 0) rfl ?_
          cases hf; exact E_iret dX10_insert_58 rfl rfl rfl
/-! BracketHallModel.erase(II)I -/
def f_X10_erase (v1 : Int) (v2 : Int) (M : Mem) : Option (Int × Mem) :=
  lt1 (up M 84 0 0) fun M2 =>
  (f_X10_noRange v1 v2 M2).bind fun p8 =>
  if p8.1 = 0 then
    (f_X10_keeps p8.2).bind fun p17 =>
    (f_X10_takesOut v1 v2 p17).bind fun p23 =>
    some (p23 90 0, p23)
  else
    some (0, p8.2)
set_option maxRecDepth 20000 in
theorem ct_X10_erase {G : Gl} (v1 : Int) (v2 : Int) (M : Mem) {res : Int × Mem}  (hf : f_X10_erase v1 v2 M = some res) : Ct G miX10_erase yX10_erase 3 [aR 84, aI v1, aI v2] M (some (aI res.1)) res.2 := by
  refine Ct.of (L := [some (aR 84), some (aI v1), some (aI v2)]) mwX10_erase rfl trivial nle ⟨rfl, rfl, rfl, trivial⟩ ?_
  unfold f_X10_erase at hf
  refine R_aload_n dX10_erase_0 rfl rfl ?_
  refine R_iconst dX10_erase_1 (v := 0) rfl ?_
  obtain ⟨M2, hM2, hf⟩ := ltE hf
  refine R_put (ki := 0) dX10_erase_2 cl10 flX10_117 o_84 (Or.inl fz10_0) rfl hM2 ?_
  refine R_aload_n dX10_erase_5 rfl rfl ?_
  refine R_iload_n dX10_erase_6 rfl rfl ?_
  refine R_iload_n dX10_erase_7 rfl rfl ?_
  obtain ⟨p8, hp8, hf⟩ := bdE hf
  refine R_callV (As := [aI v1, aI v2]) (st := []) dX10_erase_8 (ct_X10_noRange _ _ _  hp8) mwX10_noRange mvX10_noRange mlX10_367 cl10 o_84 rfl rfl ⟨nle, nle, nle, nle⟩ nle rfl ?_
  refine R_if_eq dX10_erase_11 rfl (fun h11 => ?_) (fun h11 => ?_)
  · replace hf := iposE hf h11
    refine R_aload_n dX10_erase_16 rfl rfl ?_
    obtain ⟨p17, hp17, hf⟩ := bdE hf
    refine R_callV (As := []) (st := []) dX10_erase_17 (ct_X10_keeps  _  hp17) mwX10_keeps mvX10_keeps mlX10_364 cl10 o_84 rfl rfl ⟨nle, nle, nle, nle⟩ nle rfl ?_
    refine R_aload_n dX10_erase_20 rfl rfl ?_
    refine R_iload_n dX10_erase_21 rfl rfl ?_
    refine R_iload_n dX10_erase_22 rfl rfl ?_
    obtain ⟨p23, hp23, hf⟩ := bdE hf
    refine R_callV (As := [aI v1, aI v2]) (st := []) dX10_erase_23 (ct_X10_takesOut _ _ _  hp23) mwX10_takesOut mvX10_takesOut mlX10_361 cl10 o_84 rfl rfl ⟨nle, nle, nle, nle⟩ nle rfl ?_
    refine R_aload_n dX10_erase_26 rfl rfl ?_
    refine R_getR dX10_erase_27 cl10 flX10_35 o_84 ff10_14 (fr10_14 _) a_90.1 ?_
    refine R_iconst dX10_erase_30 (v := 0) rfl ?_
    refine R_iaload dX10_erase_31 a_90 (by decide) (by decide) rfl ?_
    cases hf; exact E_iret dX10_erase_32 rfl rfl rfl
  · replace hf := inegE hf h11
    refine R_iconst dX10_erase_14 (v := 0) rfl ?_
    cases hf; exact E_iret dX10_erase_15 rfl rfl rfl
/-! BracketHallModel.wrap(III)I -/
def f_X10_wrap (v1 : Int) (v2 : Int) (v3 : Int) (M : Mem) : Option (Int × Mem) :=
  lt1 (up M 84 0 0) fun M2 =>
  (f_X10_noRange v1 v2 M2).bind fun p8 =>
  if p8.1 = 0 then
    (f_X10_noKind v3 p8.2).bind fun p16 =>
    if p16.1 = 0 then
      if (w32 ((p16.2 90 0) + 2)) ≤ 240 then
        (f_X10_keeps p16.2).bind fun p42 =>
        (f_X10_wraps v1 v2 v3 p42).bind fun p49 =>
        some (p49 90 0, p49)
      else
        some ((-2), p16.2)
    else
      some (0, p16.2)
  else
    some (0, p8.2)
set_option maxRecDepth 20000 in
theorem ct_X10_wrap {G : Gl} (v1 : Int) (v2 : Int) (v3 : Int) (M : Mem) {res : Int × Mem}  (hf : f_X10_wrap v1 v2 v3 M = some res) : Ct G miX10_wrap yX10_wrap 3 [aR 84, aI v1, aI v2, aI v3] M (some (aI res.1)) res.2 := by
  refine Ct.of (L := [some (aR 84), some (aI v1), some (aI v2), some (aI v3)]) mwX10_wrap rfl trivial nle ⟨rfl, rfl, rfl, rfl, trivial⟩ ?_
  unfold f_X10_wrap at hf
  refine R_aload_n dX10_wrap_0 rfl rfl ?_
  refine R_iconst dX10_wrap_1 (v := 0) rfl ?_
  obtain ⟨M2, hM2, hf⟩ := ltE hf
  refine R_put (ki := 0) dX10_wrap_2 cl10 flX10_117 o_84 (Or.inl fz10_0) rfl hM2 ?_
  refine R_aload_n dX10_wrap_5 rfl rfl ?_
  refine R_iload_n dX10_wrap_6 rfl rfl ?_
  refine R_iload_n dX10_wrap_7 rfl rfl ?_
  obtain ⟨p8, hp8, hf⟩ := bdE hf
  refine R_callV (As := [aI v1, aI v2]) (st := []) dX10_wrap_8 (ct_X10_noRange _ _ _  hp8) mwX10_noRange mvX10_noRange mlX10_367 cl10 o_84 rfl rfl ⟨nle, nle, nle, nle⟩ nle rfl ?_
  refine R_if_ne dX10_wrap_11 rfl (fun h11 => ?_) (fun h11 => ?_)
  · replace hf := inegE hf h11
    refine R_iconst dX10_wrap_22 (v := 0) rfl ?_
    cases hf; exact E_iret dX10_wrap_23 rfl rfl rfl
  · replace hf := iposE hf h11
    refine R_aload_n dX10_wrap_14 rfl rfl ?_
    refine R_iload_n dX10_wrap_15 rfl rfl ?_
    obtain ⟨p16, hp16, hf⟩ := bdE hf
    refine R_callV (As := [aI v3]) (st := []) dX10_wrap_16 (ct_X10_noKind _ _  hp16) mwX10_noKind mvX10_noKind mlX10_331 cl10 o_84 rfl rfl ⟨nle, nle, nle, nle⟩ nle rfl ?_
    refine R_if_eq dX10_wrap_19 rfl (fun h19 => ?_) (fun h19 => ?_)
    · replace hf := iposE hf h19
      refine R_aload_n dX10_wrap_24 rfl rfl ?_
      refine R_getR dX10_wrap_25 cl10 flX10_35 o_84 ff10_14 (fr10_14 _) a_90.1 ?_
      refine R_iconst dX10_wrap_28 (v := 0) rfl ?_
      refine R_iaload dX10_wrap_29 a_90 (by decide) (by decide) rfl ?_
      refine R_iconst dX10_wrap_30 (v := 2) rfl ?_
      refine R_iadd dX10_wrap_31 rfl ?_
      refine R_sipush dX10_wrap_32 (v := 240) rfl ?_
      refine R_icmp_le dX10_wrap_35 rfl (fun h35 => ?_) (fun h35 => ?_)
      · replace hf := iposE hf h35
        refine R_aload_n dX10_wrap_41 rfl rfl ?_
        obtain ⟨p42, hp42, hf⟩ := bdE hf
        refine R_callV (As := []) (st := []) dX10_wrap_42 (ct_X10_keeps  _  hp42) mwX10_keeps mvX10_keeps mlX10_364 cl10 o_84 rfl rfl ⟨nle, nle, nle, nle⟩ nle rfl ?_
        refine R_aload_n dX10_wrap_45 rfl rfl ?_
        refine R_iload_n dX10_wrap_46 rfl rfl ?_
        refine R_iload_n dX10_wrap_47 rfl rfl ?_
        refine R_iload_n dX10_wrap_48 rfl rfl ?_
        obtain ⟨p49, hp49, hf⟩ := bdE hf
        refine R_callV (As := [aI v1, aI v2, aI v3]) (st := []) dX10_wrap_49 (ct_X10_wraps _ _ _ _  hp49) mwX10_wraps mvX10_wraps mlX10_370 cl10 o_84 rfl rfl ⟨nle, nle, nle, nle⟩ nle rfl ?_
        refine R_aload_n dX10_wrap_52 rfl rfl ?_
        refine R_getR dX10_wrap_53 cl10 flX10_35 o_84 ff10_14 (fr10_14 _) a_90.1 ?_
        refine R_iconst dX10_wrap_56 (v := 0) rfl ?_
        refine R_iaload dX10_wrap_57 a_90 (by decide) (by decide) rfl ?_
        cases hf; exact E_iret dX10_wrap_58 rfl rfl rfl
      · replace hf := inegE hf h35
        refine R_bipush dX10_wrap_38 (v := (-2)) rfl ?_
        cases hf; exact E_iret dX10_wrap_40 rfl rfl rfl
    · replace hf := inegE hf h19
      refine R_iconst dX10_wrap_22 (v := 0) rfl ?_
      cases hf; exact E_iret dX10_wrap_23 rfl rfl rfl
/-! BracketHallModel.unwrap(I)I -/
def f_X10_unwrap (v1 : Int) (M : Mem) : Option (Int × Mem) :=
  (f_X10_noPair v1 M).bind fun p2 =>
  if p2.1 = 0 then
    (f_X10_pairAt v1 p2.2).bind fun p12 =>
    if (0 : Int) ≤ p12 ∧ p12 < 240 then
    lt1 (p2.2 93 p12) fun v3_22 =>
    (f_X10_end p12 p2.2).bind fun p25 =>
    (f_X10_keeps p2.2).bind fun p31 =>
    (f_X10_takesOut p25 (w32 (p25 + 1)) p31).bind fun p41 =>
    (f_X10_takesOut v3_22 (w32 (v3_22 + 1)) p41).bind fun p49 =>
    some (p49 90 0, p49)
    else none
  else
    some (0, p2.2)
set_option maxRecDepth 20000 in
theorem ct_X10_unwrap {G : Gl} (v1 : Int) (M : Mem) {res : Int × Mem}  (hf : f_X10_unwrap v1 M = some res) : Ct G miX10_unwrap yX10_unwrap 6 [aR 84, aI v1] M (some (aI res.1)) res.2 := by
  refine Ct.of (L := [some (aR 84), some (aI v1), none, none, none]) mwX10_unwrap rfl trivial nle ⟨rfl, rfl, trivial⟩ ?_
  unfold f_X10_unwrap at hf
  refine R_aload_n dX10_unwrap_0 rfl rfl ?_
  refine R_iload_n dX10_unwrap_1 rfl rfl ?_
  obtain ⟨p2, hp2, hf⟩ := bdE hf
  refine R_callV (As := [aI v1]) (st := []) dX10_unwrap_2 (ct_X10_noPair _ _  hp2) mwX10_noPair mvX10_noPair mlX10_322 cl10 o_84 rfl rfl ⟨nle, nle, nle, nle⟩ nle rfl ?_
  refine R_if_eq dX10_unwrap_5 rfl (fun h5 => ?_) (fun h5 => ?_)
  · replace hf := iposE hf h5
    refine R_aload_n dX10_unwrap_10 rfl rfl ?_
    refine R_iload_n dX10_unwrap_11 rfl rfl ?_
    obtain ⟨p12, hp12, hf⟩ := bdE hf
    refine R_callV (As := [aI v1]) (st := []) dX10_unwrap_12 (ct_X10_pairAt _ _  hp12) mwX10_pairAt mvX10_pairAt mlX10_325 cl10 o_84 rfl rfl ⟨nle, nle, nle, nle⟩ nle rfl ?_
    refine R_istore_n dX10_unwrap_15 rfl (by decide) rfl rfl ?_
    refine R_aload_n dX10_unwrap_16 rfl rfl ?_
    refine R_getR dX10_unwrap_17 cl10 flX10_48 o_84 ff10_27 (fr10_27 _) a_93.1 ?_
    refine R_iload_n dX10_unwrap_20 rfl rfl ?_
    obtain ⟨hg1, hf⟩ := gdE hf
    refine R_iaload dX10_unwrap_21 a_93 hg1.1 hg1.2 rfl ?_
    obtain ⟨v3_22, hv3_22, hf⟩ := ltE hf
    refine R_istore_n dX10_unwrap_22 rfl (by decide) hv3_22 rfl ?_
    refine R_aload_n dX10_unwrap_23 rfl rfl ?_
    refine R_iload_n dX10_unwrap_24 rfl rfl ?_
    obtain ⟨p25, hp25, hf⟩ := bdE hf
    refine R_callV (As := [aI p12]) (st := []) dX10_unwrap_25 (ct_X10_end _ _  hp25) mwX10_end mvX10_end mlX10_278 cl10 o_84 rfl rfl ⟨nle, nle, nle, nle⟩ nle rfl ?_
    refine R_istore dX10_unwrap_28 (by decide) rfl rfl ?_
    refine R_aload_n dX10_unwrap_30 rfl rfl ?_
    obtain ⟨p31, hp31, hf⟩ := bdE hf
    refine R_callV (As := []) (st := []) dX10_unwrap_31 (ct_X10_keeps  _  hp31) mwX10_keeps mvX10_keeps mlX10_364 cl10 o_84 rfl rfl ⟨nle, nle, nle, nle⟩ nle rfl ?_
    refine R_aload_n dX10_unwrap_34 rfl rfl ?_
    refine R_iload dX10_unwrap_35 rfl ?_
    refine R_iload dX10_unwrap_37 rfl ?_
    refine R_iconst dX10_unwrap_39 (v := 1) rfl ?_
    refine R_iadd dX10_unwrap_40 rfl ?_
    obtain ⟨p41, hp41, hf⟩ := bdE hf
    refine R_callV (As := [aI p25, aI (w32 (p25 + 1))]) (st := []) dX10_unwrap_41 (ct_X10_takesOut _ _ _  hp41) mwX10_takesOut mvX10_takesOut mlX10_361 cl10 o_84 rfl rfl ⟨nle, nle, nle, nle⟩ nle rfl ?_
    refine R_aload_n dX10_unwrap_44 rfl rfl ?_
    refine R_iload_n dX10_unwrap_45 rfl rfl ?_
    refine R_iload_n dX10_unwrap_46 rfl rfl ?_
    refine R_iconst dX10_unwrap_47 (v := 1) rfl ?_
    refine R_iadd dX10_unwrap_48 rfl ?_
    obtain ⟨p49, hp49, hf⟩ := bdE hf
    refine R_callV (As := [aI v3_22, aI (w32 (v3_22 + 1))]) (st := []) dX10_unwrap_49 (ct_X10_takesOut _ _ _  hp49) mwX10_takesOut mvX10_takesOut mlX10_361 cl10 o_84 rfl rfl ⟨nle, nle, nle, nle⟩ nle rfl ?_
    refine R_aload_n dX10_unwrap_52 rfl rfl ?_
    refine R_getR dX10_unwrap_53 cl10 flX10_35 o_84 ff10_14 (fr10_14 _) a_90.1 ?_
    refine R_iconst dX10_unwrap_56 (v := 0) rfl ?_
    refine R_iaload dX10_unwrap_57 a_90 (by decide) (by decide) rfl ?_
    cases hf; exact E_iret dX10_unwrap_58 rfl rfl rfl
  · replace hf := inegE hf h5
    refine R_iconst dX10_unwrap_8 (v := 0) rfl ?_
    cases hf; exact E_iret dX10_unwrap_9 rfl rfl rfl
/-! BracketHallModel.repair()I -/
def f_X10_repair  (M : Mem) : Option (Int × Mem) :=
  lt1 (up M 84 0 0) fun M2 =>
  (f_X10_laysRepair M2).bind fun p6 =>
  lt1 (p6.1) fun v1_9 =>
  (f_X10_longBehind p6.2).bind fun p11 =>
  if p11 ≤ 240 then
    (f_X10_keeps p6.2).bind fun p24 =>
    (f_X10_repairs p24).bind fun p28 =>
    some (v1_9, p28)
  else
    some ((-2), p6.2)
set_option maxRecDepth 20000 in
theorem ct_X10_repair {G : Gl}  (M : Mem) {res : Int × Mem}  (hf : f_X10_repair  M = some res) : Ct G miX10_repair yX10_repair 5 [aR 84] M (some (aI res.1)) res.2 := by
  refine Ct.of (L := [some (aR 84), none]) mwX10_repair rfl trivial nle ⟨rfl, trivial⟩ ?_
  unfold f_X10_repair at hf
  refine R_aload_n dX10_repair_0 rfl rfl ?_
  refine R_iconst dX10_repair_1 (v := 0) rfl ?_
  obtain ⟨M2, hM2, hf⟩ := ltE hf
  refine R_put (ki := 0) dX10_repair_2 cl10 flX10_117 o_84 (Or.inl fz10_0) rfl hM2 ?_
  refine R_aload_n dX10_repair_5 rfl rfl ?_
  obtain ⟨p6, hp6, hf⟩ := bdE hf
  refine R_callV (As := []) (st := []) dX10_repair_6 (ct_X10_laysRepair  _  hp6) mwX10_laysRepair mvX10_laysRepair mlX10_346 cl10 o_84 rfl rfl ⟨nle, nle, nle, nle⟩ nle rfl ?_
  obtain ⟨v1_9, hv1_9, hf⟩ := ltE hf
  refine R_istore_n dX10_repair_9 rfl (by decide) hv1_9 rfl ?_
  refine R_aload_n dX10_repair_10 rfl rfl ?_
  obtain ⟨p11, hp11, hf⟩ := bdE hf
  refine R_callV (As := []) (st := []) dX10_repair_11 (ct_X10_longBehind  _  hp11) mwX10_longBehind mvX10_longBehind mlX10_374 cl10 o_84 rfl rfl ⟨nle, nle, nle, nle⟩ nle rfl ?_
  refine R_sipush dX10_repair_14 (v := 240) rfl ?_
  refine R_icmp_le dX10_repair_17 rfl (fun h17 => ?_) (fun h17 => ?_)
  · replace hf := iposE hf h17
    refine R_aload_n dX10_repair_23 rfl rfl ?_
    obtain ⟨p24, hp24, hf⟩ := bdE hf
    refine R_callV (As := []) (st := []) dX10_repair_24 (ct_X10_keeps  _  hp24) mwX10_keeps mvX10_keeps mlX10_364 cl10 o_84 rfl rfl ⟨nle, nle, nle, nle⟩ nle rfl ?_
    refine R_aload_n dX10_repair_27 rfl rfl ?_
    obtain ⟨p28, hp28, hf⟩ := bdE hf
    refine R_callV (As := []) (st := []) dX10_repair_28 (ct_X10_repairs  _  hp28) mwX10_repairs mvX10_repairs mlX10_377 cl10 o_84 rfl rfl ⟨nle, nle, nle, nle⟩ nle rfl ?_
    refine R_iload_n dX10_repair_31 rfl rfl ?_
    cases hf; exact E_iret dX10_repair_32 rfl rfl rfl
  · replace hf := inegE hf h17
    refine R_bipush dX10_repair_20 (v := (-2)) rfl ?_
    cases hf; exact E_iret dX10_repair_22 rfl rfl rfl
/-! BracketHallModel.mark(I)I -/
def f_X10_mark (v1 : Int) (M : Mem) : Option (Int × Mem) :=
  lt1 (up M 84 0 0) fun M2 =>
  (f_X10_isIn v1 0 (M2 90 0) M2).bind fun p14 =>
  if p14 = 0 then
    (f_X10_throwsIf 1 1 M2).bind fun p26 =>
    if p26.1 = 0 then
      if (p26.2 90 1) = 8 then
        some ((-2), p26.2)
      else
        (f_X10_keeps p26.2).bind fun p49 =>
        if (0 : Int) ≤ w32 (2 + (p49 90 1)) ∧ w32 (2 + (p49 90 1)) < 254 then
        lt1 (up p49 90 (w32 (2 + (p49 90 1))) v1) fun M65 =>
        lt1 (up M65 90 1 (w32 ((M65 90 1) + 1))) fun M75 =>
        some (w32 ((M75 90 1) - 1), M75)
        else none
    else
      some (0, p26.2)
  else
    (f_X10_throwsIf 0 1 M2).bind fun p26 =>
    if p26.1 = 0 then
      if (p26.2 90 1) = 8 then
        some ((-2), p26.2)
      else
        (f_X10_keeps p26.2).bind fun p49 =>
        if (0 : Int) ≤ w32 (2 + (p49 90 1)) ∧ w32 (2 + (p49 90 1)) < 254 then
        lt1 (up p49 90 (w32 (2 + (p49 90 1))) v1) fun M65 =>
        lt1 (up M65 90 1 (w32 ((M65 90 1) + 1))) fun M75 =>
        some (w32 ((M75 90 1) - 1), M75)
        else none
    else
      some (0, p26.2)
set_option maxRecDepth 20000 in
theorem ct_X10_mark {G : Gl} (v1 : Int) (M : Mem) {res : Int × Mem}  (hf : f_X10_mark v1 M = some res) : Ct G miX10_mark yX10_mark 3 [aR 84, aI v1] M (some (aI res.1)) res.2 := by
  refine Ct.of (L := [some (aR 84), some (aI v1)]) mwX10_mark rfl trivial nle ⟨rfl, rfl, trivial⟩ ?_
  unfold f_X10_mark at hf
  refine R_aload_n dX10_mark_0 rfl rfl ?_
  refine R_iconst dX10_mark_1 (v := 0) rfl ?_
  obtain ⟨M2, hM2, hf⟩ := ltE hf
  refine R_put (ki := 0) dX10_mark_2 cl10 flX10_117 o_84 (Or.inl fz10_0) rfl hM2 ?_
  refine R_aload_n dX10_mark_5 rfl rfl ?_
  refine R_iload_n dX10_mark_6 rfl rfl ?_
  refine R_iconst dX10_mark_7 (v := 0) rfl ?_
  refine R_aload_n dX10_mark_8 rfl rfl ?_
  refine R_getR dX10_mark_9 cl10 flX10_35 o_84 ff10_14 (fr10_14 _) a_90.1 ?_
  refine R_iconst dX10_mark_12 (v := 0) rfl ?_
  refine R_iaload dX10_mark_13 a_90 (by decide) (by decide) rfl ?_
  obtain ⟨p14, hp14, hf⟩ := bdE hf
  refine R_callS (As := [aI v1, aI 0, aI (M2 90 0)]) (st := [aR 84]) dX10_mark_14 (ct_X10_isIn _ _ _ _  hp14) mwX10_isIn msX10_isIn mlX10_130 rfl ⟨nle, nle, nle, nle⟩ nle rfl ?_
  refine R_if_ne dX10_mark_17 rfl (fun h17 => ?_) (fun h17 => ?_)
  · replace hf := inegE hf h17
    refine R_iconst dX10_mark_24 (v := 0) rfl ?_
    refine R_iconst dX10_mark_25 (v := 1) rfl ?_
    obtain ⟨p26, hp26, hf⟩ := bdE hf
    refine R_callV (As := [aI 0, aI 1]) (st := []) dX10_mark_26 (ct_X10_throwsIf _ _ _  hp26) mwX10_throwsIf mvX10_throwsIf mlX10_227 cl10 o_84 rfl rfl ⟨nle, nle, nle, nle⟩ nle rfl ?_
    refine R_if_eq dX10_mark_29 rfl (fun h29 => ?_) (fun h29 => ?_)
    · replace hf := iposE hf h29
      refine R_aload_n dX10_mark_34 rfl rfl ?_
      refine R_getR dX10_mark_35 cl10 flX10_35 o_84 ff10_14 (fr10_14 _) a_90.1 ?_
      refine R_iconst dX10_mark_38 (v := 1) rfl ?_
      refine R_iaload dX10_mark_39 a_90 (by decide) (by decide) rfl ?_
      refine R_bipush dX10_mark_40 (v := 8) rfl ?_
      refine R_icmp_ne dX10_mark_42 rfl (fun h42 => ?_) (fun h42 => ?_)
      · replace hf := inegE hf h42
        refine R_aload_n dX10_mark_48 rfl rfl ?_
        obtain ⟨p49, hp49, hf⟩ := bdE hf
        refine R_callV (As := []) (st := []) dX10_mark_49 (ct_X10_keeps  _  hp49) mwX10_keeps mvX10_keeps mlX10_364 cl10 o_84 rfl rfl ⟨nle, nle, nle, nle⟩ nle rfl ?_
        refine R_aload_n dX10_mark_52 rfl rfl ?_
        refine R_getR dX10_mark_53 cl10 flX10_35 o_84 ff10_14 (fr10_14 _) a_90.1 ?_
        refine R_iconst dX10_mark_56 (v := 2) rfl ?_
        refine R_aload_n dX10_mark_57 rfl rfl ?_
        refine R_getR dX10_mark_58 cl10 flX10_35 o_84 ff10_14 (fr10_14 _) a_90.1 ?_
        refine R_iconst dX10_mark_61 (v := 1) rfl ?_
        refine R_iaload dX10_mark_62 a_90 (by decide) (by decide) rfl ?_
        refine R_iadd dX10_mark_63 rfl ?_
        refine R_iload_n dX10_mark_64 rfl rfl ?_
        obtain ⟨hg1, hf⟩ := gdE hf
        obtain ⟨M65, hM65, hf⟩ := ltE hf
        refine R_iastore dX10_mark_65 a_90 hg1.1 hg1.2 hM65 ?_
        refine R_aload_n dX10_mark_66 rfl rfl ?_
        refine R_getR dX10_mark_67 cl10 flX10_35 o_84 ff10_14 (fr10_14 _) a_90.1 ?_
        refine R_iconst dX10_mark_70 (v := 1) rfl ?_
        refine R_dup2 dX10_mark_71 ?_
        refine R_iaload dX10_mark_72 a_90 (by decide) (by decide) rfl ?_
        refine R_iconst dX10_mark_73 (v := 1) rfl ?_
        refine R_iadd dX10_mark_74 rfl ?_
        obtain ⟨M75, hM75, hf⟩ := ltE hf
        refine R_iastore dX10_mark_75 a_90 (by decide) (by decide) hM75 ?_
        refine R_aload_n dX10_mark_76 rfl rfl ?_
        refine R_getR dX10_mark_77 cl10 flX10_35 o_84 ff10_14 (fr10_14 _) a_90.1 ?_
        refine R_iconst dX10_mark_80 (v := 1) rfl ?_
        refine R_iaload dX10_mark_81 a_90 (by decide) (by decide) rfl ?_
        refine R_iconst dX10_mark_82 (v := 1) rfl ?_
        refine R_isub dX10_mark_83 rfl ?_
        cases hf; exact E_iret dX10_mark_84 rfl rfl rfl
      · replace hf := iposE hf h42
        refine R_bipush dX10_mark_45 (v := (-2)) rfl ?_
        cases hf; exact E_iret dX10_mark_47 rfl rfl rfl
    · replace hf := inegE hf h29
      refine R_iconst dX10_mark_32 (v := 0) rfl ?_
      cases hf; exact E_iret dX10_mark_33 rfl rfl rfl
  · replace hf := iposE hf h17
    refine R_iconst dX10_mark_20 (v := 1) rfl ?_
    refine R_goto dX10_mark_21 rfl ?_
    refine R_iconst dX10_mark_25 (v := 1) rfl ?_
    obtain ⟨p26, hp26, hf⟩ := bdE hf
    refine R_callV (As := [aI 1, aI 1]) (st := []) dX10_mark_26 (ct_X10_throwsIf _ _ _  hp26) mwX10_throwsIf mvX10_throwsIf mlX10_227 cl10 o_84 rfl rfl ⟨nle, nle, nle, nle⟩ nle rfl ?_
    refine R_if_eq dX10_mark_29 rfl (fun h29 => ?_) (fun h29 => ?_)
    · replace hf := iposE hf h29
      refine R_aload_n dX10_mark_34 rfl rfl ?_
      refine R_getR dX10_mark_35 cl10 flX10_35 o_84 ff10_14 (fr10_14 _) a_90.1 ?_
      refine R_iconst dX10_mark_38 (v := 1) rfl ?_
      refine R_iaload dX10_mark_39 a_90 (by decide) (by decide) rfl ?_
      refine R_bipush dX10_mark_40 (v := 8) rfl ?_
      refine R_icmp_ne dX10_mark_42 rfl (fun h42 => ?_) (fun h42 => ?_)
      · replace hf := inegE hf h42
        refine R_aload_n dX10_mark_48 rfl rfl ?_
        obtain ⟨p49, hp49, hf⟩ := bdE hf
        refine R_callV (As := []) (st := []) dX10_mark_49 (ct_X10_keeps  _  hp49) mwX10_keeps mvX10_keeps mlX10_364 cl10 o_84 rfl rfl ⟨nle, nle, nle, nle⟩ nle rfl ?_
        refine R_aload_n dX10_mark_52 rfl rfl ?_
        refine R_getR dX10_mark_53 cl10 flX10_35 o_84 ff10_14 (fr10_14 _) a_90.1 ?_
        refine R_iconst dX10_mark_56 (v := 2) rfl ?_
        refine R_aload_n dX10_mark_57 rfl rfl ?_
        refine R_getR dX10_mark_58 cl10 flX10_35 o_84 ff10_14 (fr10_14 _) a_90.1 ?_
        refine R_iconst dX10_mark_61 (v := 1) rfl ?_
        refine R_iaload dX10_mark_62 a_90 (by decide) (by decide) rfl ?_
        refine R_iadd dX10_mark_63 rfl ?_
        refine R_iload_n dX10_mark_64 rfl rfl ?_
        obtain ⟨hg2, hf⟩ := gdE hf
        obtain ⟨M65, hM65, hf⟩ := ltE hf
        refine R_iastore dX10_mark_65 a_90 hg2.1 hg2.2 hM65 ?_
        refine R_aload_n dX10_mark_66 rfl rfl ?_
        refine R_getR dX10_mark_67 cl10 flX10_35 o_84 ff10_14 (fr10_14 _) a_90.1 ?_
        refine R_iconst dX10_mark_70 (v := 1) rfl ?_
        refine R_dup2 dX10_mark_71 ?_
        refine R_iaload dX10_mark_72 a_90 (by decide) (by decide) rfl ?_
        refine R_iconst dX10_mark_73 (v := 1) rfl ?_
        refine R_iadd dX10_mark_74 rfl ?_
        obtain ⟨M75, hM75, hf⟩ := ltE hf
        refine R_iastore dX10_mark_75 a_90 (by decide) (by decide) hM75 ?_
        refine R_aload_n dX10_mark_76 rfl rfl ?_
        refine R_getR dX10_mark_77 cl10 flX10_35 o_84 ff10_14 (fr10_14 _) a_90.1 ?_
        refine R_iconst dX10_mark_80 (v := 1) rfl ?_
        refine R_iaload dX10_mark_81 a_90 (by decide) (by decide) rfl ?_
        refine R_iconst dX10_mark_82 (v := 1) rfl ?_
        refine R_isub dX10_mark_83 rfl ?_
        cases hf; exact E_iret dX10_mark_84 rfl rfl rfl
      · replace hf := iposE hf h42
        refine R_bipush dX10_mark_45 (v := (-2)) rfl ?_
        cases hf; exact E_iret dX10_mark_47 rfl rfl rfl
    · replace hf := inegE hf h29
      refine R_iconst dX10_mark_32 (v := 0) rfl ?_
      cases hf; exact E_iret dX10_mark_33 rfl rfl rfl
/-! BracketHallModel.unmark(I)I -/
def f_X10_unmark_L61 : Nat → Int → Int → Mem → Option (Int × Mem)
  | 0, _, _, _ => none
  | n + 1, v2, v3, M =>
    if (M 90 1) ≤ v3 then
      some (v2, M)
    else
      if (0 : Int) ≤ w32 ((w32 (2 + v3)) + 1) ∧ w32 ((w32 (2 + v3)) + 1) < 254 then
      if (0 : Int) ≤ w32 (2 + v3) ∧ w32 (2 + v3) < 254 then
      lt1 (up M 90 (w32 (2 + v3)) (M 90 (w32 ((w32 (2 + v3)) + 1)))) fun M88 =>
      lt1 (w32 (v3 + 1)) fun v3_89 =>
      f_X10_unmark_L61 n v2 v3_89 M88
      else none
      else none
def f_X10_unmark (v1 : Int) (M : Mem) : Option (Int × Mem) :=
  lt1 (up M 84 0 0) fun M2 =>
  (f_X10_isIn v1 0 (w32 ((M2 90 1) - 1)) M2).bind fun p16 =>
  if p16 = 0 then
    (f_X10_throwsIf 1 1 M2).bind fun p28 =>
    if p28.1 = 0 then
      (f_X10_keeps p28.2).bind fun p37 =>
      if (0 : Int) ≤ w32 (2 + v1) ∧ w32 (2 + v1) < 254 then
      lt1 (p37 90 (w32 (2 + v1))) fun v2_48 =>
      lt1 (up p37 90 1 (w32 ((p37 90 1) - 1))) fun M58 =>
      f_X10_unmark_L61 4096 v2_48 v1 M58
      else none
    else
      some (0, p28.2)
  else
    (f_X10_throwsIf 0 1 M2).bind fun p28 =>
    if p28.1 = 0 then
      (f_X10_keeps p28.2).bind fun p37 =>
      if (0 : Int) ≤ w32 (2 + v1) ∧ w32 (2 + v1) < 254 then
      lt1 (p37 90 (w32 (2 + v1))) fun v2_48 =>
      lt1 (up p37 90 1 (w32 ((p37 90 1) - 1))) fun M58 =>
      f_X10_unmark_L61 4096 v2_48 v1 M58
      else none
    else
      some (0, p28.2)
set_option maxRecDepth 20000 in
theorem rn_X10_unmark_L61 {G : Gl} : ∀ (n : Nat) (v2 : Int) (v3 : Int) (M : Mem) (res : Int × Mem),  f_X10_unmark_L61 n v2 v3 M = some res → Run G false (rmD 3 0 0) miX10_unmark (ZP G (some (aI res.1)) res.2) 0 0 61 [some (aR 84), none, some (aI v2), some (aI v3)] [] M := by
  intro n
  induction n with
  | zero => intro v2 v3 M res  hf; cases hf
  | succ n ih =>
    intro v2 v3 M res  hf
    rw [f_X10_unmark_L61] at hf
    refine R_iload_n dX10_unmark_61 rfl rfl ?_
    refine R_aload_n dX10_unmark_62 rfl rfl ?_
    refine R_getR dX10_unmark_63 cl10 flX10_35 o_84 ff10_14 (fr10_14 _) a_90.1 ?_
    refine R_iconst dX10_unmark_66 (v := 1) rfl ?_
    refine R_iaload dX10_unmark_67 a_90 (by decide) (by decide) rfl ?_
    refine R_icmp_ge dX10_unmark_68 rfl (fun h68 => ?_) (fun h68 => ?_)
    · replace hf := iposE hf h68
      refine R_iload_n dX10_unmark_95 rfl rfl ?_
      cases hf; exact E_iret dX10_unmark_96 rfl rfl rfl
    · replace hf := inegE hf h68
      refine R_aload_n dX10_unmark_71 rfl rfl ?_
      refine R_getR dX10_unmark_72 cl10 flX10_35 o_84 ff10_14 (fr10_14 _) a_90.1 ?_
      refine R_iconst dX10_unmark_75 (v := 2) rfl ?_
      refine R_iload_n dX10_unmark_76 rfl rfl ?_
      refine R_iadd dX10_unmark_77 rfl ?_
      refine R_aload_n dX10_unmark_78 rfl rfl ?_
      refine R_getR dX10_unmark_79 cl10 flX10_35 o_84 ff10_14 (fr10_14 _) a_90.1 ?_
      refine R_iconst dX10_unmark_82 (v := 2) rfl ?_
      refine R_iload_n dX10_unmark_83 rfl rfl ?_
      refine R_iadd dX10_unmark_84 rfl ?_
      refine R_iconst dX10_unmark_85 (v := 1) rfl ?_
      refine R_iadd dX10_unmark_86 rfl ?_
      obtain ⟨hg1, hf⟩ := gdE hf
      refine R_iaload dX10_unmark_87 a_90 hg1.1 hg1.2 rfl ?_
      obtain ⟨hg2, hf⟩ := gdE hf
      obtain ⟨M88, hM88, hf⟩ := ltE hf
      refine R_iastore dX10_unmark_88 a_90 hg2.1 hg2.2 hM88 ?_
      obtain ⟨v3_89, hv3_89, hf⟩ := ltE hf
      refine R_iinc dX10_unmark_89 rfl rfl hv3_89 (by decide) rfl ?_
      refine R_goto dX10_unmark_92 rfl ?_
      exact R_subk (ih _ _ _ _  hf) ⟨rfl, rfl, rfl, trivial⟩
set_option maxRecDepth 20000 in
theorem ct_X10_unmark {G : Gl} (v1 : Int) (M : Mem) {res : Int × Mem}  (hf : f_X10_unmark v1 M = some res) : Ct G miX10_unmark yX10_unmark 3 [aR 84, aI v1] M (some (aI res.1)) res.2 := by
  refine Ct.of (L := [some (aR 84), some (aI v1), none, none]) mwX10_unmark rfl trivial nle ⟨rfl, rfl, trivial⟩ ?_
  unfold f_X10_unmark at hf
  refine R_aload_n dX10_unmark_0 rfl rfl ?_
  refine R_iconst dX10_unmark_1 (v := 0) rfl ?_
  obtain ⟨M2, hM2, hf⟩ := ltE hf
  refine R_put (ki := 0) dX10_unmark_2 cl10 flX10_117 o_84 (Or.inl fz10_0) rfl hM2 ?_
  refine R_aload_n dX10_unmark_5 rfl rfl ?_
  refine R_iload_n dX10_unmark_6 rfl rfl ?_
  refine R_iconst dX10_unmark_7 (v := 0) rfl ?_
  refine R_aload_n dX10_unmark_8 rfl rfl ?_
  refine R_getR dX10_unmark_9 cl10 flX10_35 o_84 ff10_14 (fr10_14 _) a_90.1 ?_
  refine R_iconst dX10_unmark_12 (v := 1) rfl ?_
  refine R_iaload dX10_unmark_13 a_90 (by decide) (by decide) rfl ?_
  refine R_iconst dX10_unmark_14 (v := 1) rfl ?_
  refine R_isub dX10_unmark_15 rfl ?_
  obtain ⟨p16, hp16, hf⟩ := bdE hf
  refine R_callS (As := [aI v1, aI 0, aI (w32 ((M2 90 1) - 1))]) (st := [aR 84]) dX10_unmark_16 (ct_X10_isIn _ _ _ _  hp16) mwX10_isIn msX10_isIn mlX10_130 rfl ⟨nle, nle, nle, nle⟩ nle rfl ?_
  refine R_if_ne dX10_unmark_19 rfl (fun h19 => ?_) (fun h19 => ?_)
  · replace hf := inegE hf h19
    refine R_iconst dX10_unmark_26 (v := 0) rfl ?_
    refine R_iconst dX10_unmark_27 (v := 1) rfl ?_
    obtain ⟨p28, hp28, hf⟩ := bdE hf
    refine R_callV (As := [aI 0, aI 1]) (st := []) dX10_unmark_28 (ct_X10_throwsIf _ _ _  hp28) mwX10_throwsIf mvX10_throwsIf mlX10_227 cl10 o_84 rfl rfl ⟨nle, nle, nle, nle⟩ nle rfl ?_
    refine R_if_eq dX10_unmark_31 rfl (fun h31 => ?_) (fun h31 => ?_)
    · replace hf := iposE hf h31
      refine R_aload_n dX10_unmark_36 rfl rfl ?_
      obtain ⟨p37, hp37, hf⟩ := bdE hf
      refine R_callV (As := []) (st := []) dX10_unmark_37 (ct_X10_keeps  _  hp37) mwX10_keeps mvX10_keeps mlX10_364 cl10 o_84 rfl rfl ⟨nle, nle, nle, nle⟩ nle rfl ?_
      refine R_aload_n dX10_unmark_40 rfl rfl ?_
      refine R_getR dX10_unmark_41 cl10 flX10_35 o_84 ff10_14 (fr10_14 _) a_90.1 ?_
      refine R_iconst dX10_unmark_44 (v := 2) rfl ?_
      refine R_iload_n dX10_unmark_45 rfl rfl ?_
      refine R_iadd dX10_unmark_46 rfl ?_
      obtain ⟨hg3, hf⟩ := gdE hf
      refine R_iaload dX10_unmark_47 a_90 hg3.1 hg3.2 rfl ?_
      obtain ⟨v2_48, hv2_48, hf⟩ := ltE hf
      refine R_istore_n dX10_unmark_48 rfl (by decide) hv2_48 rfl ?_
      refine R_aload_n dX10_unmark_49 rfl rfl ?_
      refine R_getR dX10_unmark_50 cl10 flX10_35 o_84 ff10_14 (fr10_14 _) a_90.1 ?_
      refine R_iconst dX10_unmark_53 (v := 1) rfl ?_
      refine R_dup2 dX10_unmark_54 ?_
      refine R_iaload dX10_unmark_55 a_90 (by decide) (by decide) rfl ?_
      refine R_iconst dX10_unmark_56 (v := 1) rfl ?_
      refine R_isub dX10_unmark_57 rfl ?_
      obtain ⟨M58, hM58, hf⟩ := ltE hf
      refine R_iastore dX10_unmark_58 a_90 (by decide) (by decide) hM58 ?_
      refine R_iload_n dX10_unmark_59 rfl rfl ?_
      refine R_istore_n dX10_unmark_60 rfl (by decide) rfl rfl ?_
      exact R_subk (rn_X10_unmark_L61 4096 _ _ _ _  hf) ⟨rfl, rfl, rfl, trivial⟩
    · replace hf := inegE hf h31
      refine R_iconst dX10_unmark_34 (v := 0) rfl ?_
      cases hf; exact E_iret dX10_unmark_35 rfl rfl rfl
  · replace hf := iposE hf h19
    refine R_iconst dX10_unmark_22 (v := 1) rfl ?_
    refine R_goto dX10_unmark_23 rfl ?_
    refine R_iconst dX10_unmark_27 (v := 1) rfl ?_
    obtain ⟨p28, hp28, hf⟩ := bdE hf
    refine R_callV (As := [aI 1, aI 1]) (st := []) dX10_unmark_28 (ct_X10_throwsIf _ _ _  hp28) mwX10_throwsIf mvX10_throwsIf mlX10_227 cl10 o_84 rfl rfl ⟨nle, nle, nle, nle⟩ nle rfl ?_
    refine R_if_eq dX10_unmark_31 rfl (fun h31 => ?_) (fun h31 => ?_)
    · replace hf := iposE hf h31
      refine R_aload_n dX10_unmark_36 rfl rfl ?_
      obtain ⟨p37, hp37, hf⟩ := bdE hf
      refine R_callV (As := []) (st := []) dX10_unmark_37 (ct_X10_keeps  _  hp37) mwX10_keeps mvX10_keeps mlX10_364 cl10 o_84 rfl rfl ⟨nle, nle, nle, nle⟩ nle rfl ?_
      refine R_aload_n dX10_unmark_40 rfl rfl ?_
      refine R_getR dX10_unmark_41 cl10 flX10_35 o_84 ff10_14 (fr10_14 _) a_90.1 ?_
      refine R_iconst dX10_unmark_44 (v := 2) rfl ?_
      refine R_iload_n dX10_unmark_45 rfl rfl ?_
      refine R_iadd dX10_unmark_46 rfl ?_
      obtain ⟨hg4, hf⟩ := gdE hf
      refine R_iaload dX10_unmark_47 a_90 hg4.1 hg4.2 rfl ?_
      obtain ⟨v2_48, hv2_48, hf⟩ := ltE hf
      refine R_istore_n dX10_unmark_48 rfl (by decide) hv2_48 rfl ?_
      refine R_aload_n dX10_unmark_49 rfl rfl ?_
      refine R_getR dX10_unmark_50 cl10 flX10_35 o_84 ff10_14 (fr10_14 _) a_90.1 ?_
      refine R_iconst dX10_unmark_53 (v := 1) rfl ?_
      refine R_dup2 dX10_unmark_54 ?_
      refine R_iaload dX10_unmark_55 a_90 (by decide) (by decide) rfl ?_
      refine R_iconst dX10_unmark_56 (v := 1) rfl ?_
      refine R_isub dX10_unmark_57 rfl ?_
      obtain ⟨M58, hM58, hf⟩ := ltE hf
      refine R_iastore dX10_unmark_58 a_90 (by decide) (by decide) hM58 ?_
      refine R_iload_n dX10_unmark_59 rfl rfl ?_
      refine R_istore_n dX10_unmark_60 rfl (by decide) rfl rfl ?_
      exact R_subk (rn_X10_unmark_L61 4096 _ _ _ _  hf) ⟨rfl, rfl, rfl, trivial⟩
    · replace hf := inegE hf h31
      refine R_iconst dX10_unmark_34 (v := 0) rfl ?_
      cases hf; exact E_iret dX10_unmark_35 rfl rfl rfl
/-! BracketHallModel.setColours(I)I -/
def f_X10_setColours (v1 : Int) (M : Mem) : Option (Int × Mem) :=
  lt1 (up M 84 0 0) fun M2 =>
  (f_X10_isIn v1 1 9 M2).bind fun p10 =>
  if p10 = 0 then
    (f_X10_throwsIf 1 1 M2).bind fun p22 =>
    if p22.1 = 0 then
      (f_X10_keeps p22.2).bind fun p31 =>
      lt1 (p31 90 10) fun v2_41 =>
      lt1 (up p31 90 10 v1) fun M49 =>
      some (v2_41, M49)
    else
      some (0, p22.2)
  else
    (f_X10_throwsIf 0 1 M2).bind fun p22 =>
    if p22.1 = 0 then
      (f_X10_keeps p22.2).bind fun p31 =>
      lt1 (p31 90 10) fun v2_41 =>
      lt1 (up p31 90 10 v1) fun M49 =>
      some (v2_41, M49)
    else
      some (0, p22.2)
set_option maxRecDepth 20000 in
theorem ct_X10_setColours {G : Gl} (v1 : Int) (M : Mem) {res : Int × Mem}  (hf : f_X10_setColours v1 M = some res) : Ct G miX10_setColours yX10_setColours 3 [aR 84, aI v1] M (some (aI res.1)) res.2 := by
  refine Ct.of (L := [some (aR 84), some (aI v1), none]) mwX10_setColours rfl trivial nle ⟨rfl, rfl, trivial⟩ ?_
  unfold f_X10_setColours at hf
  refine R_aload_n dX10_setColours_0 rfl rfl ?_
  refine R_iconst dX10_setColours_1 (v := 0) rfl ?_
  obtain ⟨M2, hM2, hf⟩ := ltE hf
  refine R_put (ki := 0) dX10_setColours_2 cl10 flX10_117 o_84 (Or.inl fz10_0) rfl hM2 ?_
  refine R_aload_n dX10_setColours_5 rfl rfl ?_
  refine R_iload_n dX10_setColours_6 rfl rfl ?_
  refine R_iconst dX10_setColours_7 (v := 1) rfl ?_
  refine R_bipush dX10_setColours_8 (v := 9) rfl ?_
  obtain ⟨p10, hp10, hf⟩ := bdE hf
  refine R_callS (As := [aI v1, aI 1, aI 9]) (st := [aR 84]) dX10_setColours_10 (ct_X10_isIn _ _ _ _  hp10) mwX10_isIn msX10_isIn mlX10_130 rfl ⟨nle, nle, nle, nle⟩ nle rfl ?_
  refine R_if_ne dX10_setColours_13 rfl (fun h13 => ?_) (fun h13 => ?_)
  · replace hf := inegE hf h13
    refine R_iconst dX10_setColours_20 (v := 0) rfl ?_
    refine R_iconst dX10_setColours_21 (v := 1) rfl ?_
    obtain ⟨p22, hp22, hf⟩ := bdE hf
    refine R_callV (As := [aI 0, aI 1]) (st := []) dX10_setColours_22 (ct_X10_throwsIf _ _ _  hp22) mwX10_throwsIf mvX10_throwsIf mlX10_227 cl10 o_84 rfl rfl ⟨nle, nle, nle, nle⟩ nle rfl ?_
    refine R_if_eq dX10_setColours_25 rfl (fun h25 => ?_) (fun h25 => ?_)
    · replace hf := iposE hf h25
      refine R_aload_n dX10_setColours_30 rfl rfl ?_
      obtain ⟨p31, hp31, hf⟩ := bdE hf
      refine R_callV (As := []) (st := []) dX10_setColours_31 (ct_X10_keeps  _  hp31) mwX10_keeps mvX10_keeps mlX10_364 cl10 o_84 rfl rfl ⟨nle, nle, nle, nle⟩ nle rfl ?_
      refine R_aload_n dX10_setColours_34 rfl rfl ?_
      refine R_getR dX10_setColours_35 cl10 flX10_35 o_84 ff10_14 (fr10_14 _) a_90.1 ?_
      refine R_bipush dX10_setColours_38 (v := 10) rfl ?_
      refine R_iaload dX10_setColours_40 a_90 (by decide) (by decide) rfl ?_
      obtain ⟨v2_41, hv2_41, hf⟩ := ltE hf
      refine R_istore_n dX10_setColours_41 rfl (by decide) hv2_41 rfl ?_
      refine R_aload_n dX10_setColours_42 rfl rfl ?_
      refine R_getR dX10_setColours_43 cl10 flX10_35 o_84 ff10_14 (fr10_14 _) a_90.1 ?_
      refine R_bipush dX10_setColours_46 (v := 10) rfl ?_
      refine R_iload_n dX10_setColours_48 rfl rfl ?_
      obtain ⟨M49, hM49, hf⟩ := ltE hf
      refine R_iastore dX10_setColours_49 a_90 (by decide) (by decide) hM49 ?_
      refine R_iload_n dX10_setColours_50 rfl rfl ?_
      cases hf; exact E_iret dX10_setColours_51 rfl rfl rfl
    · replace hf := inegE hf h25
      refine R_iconst dX10_setColours_28 (v := 0) rfl ?_
      cases hf; exact E_iret dX10_setColours_29 rfl rfl rfl
  · replace hf := iposE hf h13
    refine R_iconst dX10_setColours_16 (v := 1) rfl ?_
    refine R_goto dX10_setColours_17 rfl ?_
    refine R_iconst dX10_setColours_21 (v := 1) rfl ?_
    obtain ⟨p22, hp22, hf⟩ := bdE hf
    refine R_callV (As := [aI 1, aI 1]) (st := []) dX10_setColours_22 (ct_X10_throwsIf _ _ _  hp22) mwX10_throwsIf mvX10_throwsIf mlX10_227 cl10 o_84 rfl rfl ⟨nle, nle, nle, nle⟩ nle rfl ?_
    refine R_if_eq dX10_setColours_25 rfl (fun h25 => ?_) (fun h25 => ?_)
    · replace hf := iposE hf h25
      refine R_aload_n dX10_setColours_30 rfl rfl ?_
      obtain ⟨p31, hp31, hf⟩ := bdE hf
      refine R_callV (As := []) (st := []) dX10_setColours_31 (ct_X10_keeps  _  hp31) mwX10_keeps mvX10_keeps mlX10_364 cl10 o_84 rfl rfl ⟨nle, nle, nle, nle⟩ nle rfl ?_
      refine R_aload_n dX10_setColours_34 rfl rfl ?_
      refine R_getR dX10_setColours_35 cl10 flX10_35 o_84 ff10_14 (fr10_14 _) a_90.1 ?_
      refine R_bipush dX10_setColours_38 (v := 10) rfl ?_
      refine R_iaload dX10_setColours_40 a_90 (by decide) (by decide) rfl ?_
      obtain ⟨v2_41, hv2_41, hf⟩ := ltE hf
      refine R_istore_n dX10_setColours_41 rfl (by decide) hv2_41 rfl ?_
      refine R_aload_n dX10_setColours_42 rfl rfl ?_
      refine R_getR dX10_setColours_43 cl10 flX10_35 o_84 ff10_14 (fr10_14 _) a_90.1 ?_
      refine R_bipush dX10_setColours_46 (v := 10) rfl ?_
      refine R_iload_n dX10_setColours_48 rfl rfl ?_
      obtain ⟨M49, hM49, hf⟩ := ltE hf
      refine R_iastore dX10_setColours_49 a_90 (by decide) (by decide) hM49 ?_
      refine R_iload_n dX10_setColours_50 rfl rfl ?_
      cases hf; exact E_iret dX10_setColours_51 rfl rfl rfl
    · replace hf := inegE hf h25
      refine R_iconst dX10_setColours_28 (v := 0) rfl ?_
      cases hf; exact E_iret dX10_setColours_29 rfl rfl rfl
/-! BracketHallModel.setCosts(III)I -/
def f_X10_setCosts (v1 : Int) (v2 : Int) (v3 : Int) (M : Mem) : Option (Int × Mem) :=
  lt1 (up M 84 0 0) fun M2 =>
  (f_X10_isIn v1 1 99 M2).bind fun p10 =>
  if p10 = 0 then
    (f_X10_throwsIf 1 1 M2).bind fun p42 =>
    if p42.1 = 0 then
      (f_X10_keeps p42.2).bind fun p51 =>
      lt1 (up p51 90 11 v1) fun M61 =>
      lt1 (up M61 90 12 v2) fun M69 =>
      lt1 (up M69 90 13 v3) fun M77 =>
      (f_X10_costOf (-1) M77).bind fun p80 =>
      some (p80.1, p80.2)
    else
      some (0, p42.2)
  else
    (f_X10_isIn v2 1 99 M2).bind fun p20 =>
    if p20 = 0 then
      (f_X10_throwsIf 1 1 M2).bind fun p42 =>
      if p42.1 = 0 then
        (f_X10_keeps p42.2).bind fun p51 =>
        lt1 (up p51 90 11 v1) fun M61 =>
        lt1 (up M61 90 12 v2) fun M69 =>
        lt1 (up M69 90 13 v3) fun M77 =>
        (f_X10_costOf (-1) M77).bind fun p80 =>
        some (p80.1, p80.2)
      else
        some (0, p42.2)
    else
      (f_X10_isIn v3 1 99 M2).bind fun p30 =>
      if p30 = 0 then
        (f_X10_throwsIf 1 1 M2).bind fun p42 =>
        if p42.1 = 0 then
          (f_X10_keeps p42.2).bind fun p51 =>
          lt1 (up p51 90 11 v1) fun M61 =>
          lt1 (up M61 90 12 v2) fun M69 =>
          lt1 (up M69 90 13 v3) fun M77 =>
          (f_X10_costOf (-1) M77).bind fun p80 =>
          some (p80.1, p80.2)
        else
          some (0, p42.2)
      else
        (f_X10_throwsIf 0 1 M2).bind fun p42 =>
        if p42.1 = 0 then
          (f_X10_keeps p42.2).bind fun p51 =>
          lt1 (up p51 90 11 v1) fun M61 =>
          lt1 (up M61 90 12 v2) fun M69 =>
          lt1 (up M69 90 13 v3) fun M77 =>
          (f_X10_costOf (-1) M77).bind fun p80 =>
          some (p80.1, p80.2)
        else
          some (0, p42.2)
set_option maxRecDepth 20000 in
theorem ct_X10_setCosts {G : Gl} (v1 : Int) (v2 : Int) (v3 : Int) (M : Mem) {res : Int × Mem}  (hf : f_X10_setCosts v1 v2 v3 M = some res) : Ct G miX10_setCosts yX10_setCosts 4 [aR 84, aI v1, aI v2, aI v3] M (some (aI res.1)) res.2 := by
  refine Ct.of (L := [some (aR 84), some (aI v1), some (aI v2), some (aI v3)]) mwX10_setCosts rfl trivial nle ⟨rfl, rfl, rfl, rfl, trivial⟩ ?_
  unfold f_X10_setCosts at hf
  refine R_aload_n dX10_setCosts_0 rfl rfl ?_
  refine R_iconst dX10_setCosts_1 (v := 0) rfl ?_
  obtain ⟨M2, hM2, hf⟩ := ltE hf
  refine R_put (ki := 0) dX10_setCosts_2 cl10 flX10_117 o_84 (Or.inl fz10_0) rfl hM2 ?_
  refine R_aload_n dX10_setCosts_5 rfl rfl ?_
  refine R_iload_n dX10_setCosts_6 rfl rfl ?_
  refine R_iconst dX10_setCosts_7 (v := 1) rfl ?_
  refine R_bipush dX10_setCosts_8 (v := 99) rfl ?_
  obtain ⟨p10, hp10, hf⟩ := bdE hf
  refine R_callS (As := [aI v1, aI 1, aI 99]) (st := [aR 84]) dX10_setCosts_10 (ct_X10_isIn _ _ _ _  hp10) mwX10_isIn msX10_isIn mlX10_130 rfl ⟨nle, nle, nle, nle⟩ nle rfl ?_
  refine R_if_eq dX10_setCosts_13 rfl (fun h13 => ?_) (fun h13 => ?_)
  · replace hf := iposE hf h13
    refine R_iconst dX10_setCosts_36 (v := 1) rfl ?_
    refine R_goto dX10_setCosts_37 rfl ?_
    refine R_iconst dX10_setCosts_41 (v := 1) rfl ?_
    obtain ⟨p42, hp42, hf⟩ := bdE hf
    refine R_callV (As := [aI 1, aI 1]) (st := []) dX10_setCosts_42 (ct_X10_throwsIf _ _ _  hp42) mwX10_throwsIf mvX10_throwsIf mlX10_227 cl10 o_84 rfl rfl ⟨nle, nle, nle, nle⟩ nle rfl ?_
    refine R_if_eq dX10_setCosts_45 rfl (fun h45 => ?_) (fun h45 => ?_)
    · replace hf := iposE hf h45
      refine R_aload_n dX10_setCosts_50 rfl rfl ?_
      obtain ⟨p51, hp51, hf⟩ := bdE hf
      refine R_callV (As := []) (st := []) dX10_setCosts_51 (ct_X10_keeps  _  hp51) mwX10_keeps mvX10_keeps mlX10_364 cl10 o_84 rfl rfl ⟨nle, nle, nle, nle⟩ nle rfl ?_
      refine R_aload_n dX10_setCosts_54 rfl rfl ?_
      refine R_getR dX10_setCosts_55 cl10 flX10_35 o_84 ff10_14 (fr10_14 _) a_90.1 ?_
      refine R_bipush dX10_setCosts_58 (v := 11) rfl ?_
      refine R_iload_n dX10_setCosts_60 rfl rfl ?_
      obtain ⟨M61, hM61, hf⟩ := ltE hf
      refine R_iastore dX10_setCosts_61 a_90 (by decide) (by decide) hM61 ?_
      refine R_aload_n dX10_setCosts_62 rfl rfl ?_
      refine R_getR dX10_setCosts_63 cl10 flX10_35 o_84 ff10_14 (fr10_14 _) a_90.1 ?_
      refine R_bipush dX10_setCosts_66 (v := 12) rfl ?_
      refine R_iload_n dX10_setCosts_68 rfl rfl ?_
      obtain ⟨M69, hM69, hf⟩ := ltE hf
      refine R_iastore dX10_setCosts_69 a_90 (by decide) (by decide) hM69 ?_
      refine R_aload_n dX10_setCosts_70 rfl rfl ?_
      refine R_getR dX10_setCosts_71 cl10 flX10_35 o_84 ff10_14 (fr10_14 _) a_90.1 ?_
      refine R_bipush dX10_setCosts_74 (v := 13) rfl ?_
      refine R_iload_n dX10_setCosts_76 rfl rfl ?_
      obtain ⟨M77, hM77, hf⟩ := ltE hf
      refine R_iastore dX10_setCosts_77 a_90 (by decide) (by decide) hM77 ?_
      refine R_aload_n dX10_setCosts_78 rfl rfl ?_
      refine R_iconst dX10_setCosts_79 (v := (-1)) rfl ?_
      obtain ⟨p80, hp80, hf⟩ := bdE hf
      refine R_callV (As := [aI (-1)]) (st := []) dX10_setCosts_80 (ct_X10_costOf _ _  hp80) mwX10_costOf mvX10_costOf mlX10_343 cl10 o_84 rfl rfl ⟨nle, nle, nle, nle⟩ nle rfl ?_
      cases hf; exact E_iret dX10_setCosts_83 rfl rfl rfl
    · replace hf := inegE hf h45
      refine R_iconst dX10_setCosts_48 (v := 0) rfl ?_
      cases hf; exact E_iret dX10_setCosts_49 rfl rfl rfl
  · replace hf := inegE hf h13
    refine R_iload_n dX10_setCosts_16 rfl rfl ?_
    refine R_iconst dX10_setCosts_17 (v := 1) rfl ?_
    refine R_bipush dX10_setCosts_18 (v := 99) rfl ?_
    obtain ⟨p20, hp20, hf⟩ := bdE hf
    refine R_callS (As := [aI v2, aI 1, aI 99]) (st := [aR 84]) dX10_setCosts_20 (ct_X10_isIn _ _ _ _  hp20) mwX10_isIn msX10_isIn mlX10_130 rfl ⟨nle, nle, nle, nle⟩ nle rfl ?_
    refine R_if_eq dX10_setCosts_23 rfl (fun h23 => ?_) (fun h23 => ?_)
    · replace hf := iposE hf h23
      refine R_iconst dX10_setCosts_36 (v := 1) rfl ?_
      refine R_goto dX10_setCosts_37 rfl ?_
      refine R_iconst dX10_setCosts_41 (v := 1) rfl ?_
      obtain ⟨p42, hp42, hf⟩ := bdE hf
      refine R_callV (As := [aI 1, aI 1]) (st := []) dX10_setCosts_42 (ct_X10_throwsIf _ _ _  hp42) mwX10_throwsIf mvX10_throwsIf mlX10_227 cl10 o_84 rfl rfl ⟨nle, nle, nle, nle⟩ nle rfl ?_
      refine R_if_eq dX10_setCosts_45 rfl (fun h45 => ?_) (fun h45 => ?_)
      · replace hf := iposE hf h45
        refine R_aload_n dX10_setCosts_50 rfl rfl ?_
        obtain ⟨p51, hp51, hf⟩ := bdE hf
        refine R_callV (As := []) (st := []) dX10_setCosts_51 (ct_X10_keeps  _  hp51) mwX10_keeps mvX10_keeps mlX10_364 cl10 o_84 rfl rfl ⟨nle, nle, nle, nle⟩ nle rfl ?_
        refine R_aload_n dX10_setCosts_54 rfl rfl ?_
        refine R_getR dX10_setCosts_55 cl10 flX10_35 o_84 ff10_14 (fr10_14 _) a_90.1 ?_
        refine R_bipush dX10_setCosts_58 (v := 11) rfl ?_
        refine R_iload_n dX10_setCosts_60 rfl rfl ?_
        obtain ⟨M61, hM61, hf⟩ := ltE hf
        refine R_iastore dX10_setCosts_61 a_90 (by decide) (by decide) hM61 ?_
        refine R_aload_n dX10_setCosts_62 rfl rfl ?_
        refine R_getR dX10_setCosts_63 cl10 flX10_35 o_84 ff10_14 (fr10_14 _) a_90.1 ?_
        refine R_bipush dX10_setCosts_66 (v := 12) rfl ?_
        refine R_iload_n dX10_setCosts_68 rfl rfl ?_
        obtain ⟨M69, hM69, hf⟩ := ltE hf
        refine R_iastore dX10_setCosts_69 a_90 (by decide) (by decide) hM69 ?_
        refine R_aload_n dX10_setCosts_70 rfl rfl ?_
        refine R_getR dX10_setCosts_71 cl10 flX10_35 o_84 ff10_14 (fr10_14 _) a_90.1 ?_
        refine R_bipush dX10_setCosts_74 (v := 13) rfl ?_
        refine R_iload_n dX10_setCosts_76 rfl rfl ?_
        obtain ⟨M77, hM77, hf⟩ := ltE hf
        refine R_iastore dX10_setCosts_77 a_90 (by decide) (by decide) hM77 ?_
        refine R_aload_n dX10_setCosts_78 rfl rfl ?_
        refine R_iconst dX10_setCosts_79 (v := (-1)) rfl ?_
        obtain ⟨p80, hp80, hf⟩ := bdE hf
        refine R_callV (As := [aI (-1)]) (st := []) dX10_setCosts_80 (ct_X10_costOf _ _  hp80) mwX10_costOf mvX10_costOf mlX10_343 cl10 o_84 rfl rfl ⟨nle, nle, nle, nle⟩ nle rfl ?_
        cases hf; exact E_iret dX10_setCosts_83 rfl rfl rfl
      · replace hf := inegE hf h45
        refine R_iconst dX10_setCosts_48 (v := 0) rfl ?_
        cases hf; exact E_iret dX10_setCosts_49 rfl rfl rfl
    · replace hf := inegE hf h23
      refine R_iload_n dX10_setCosts_26 rfl rfl ?_
      refine R_iconst dX10_setCosts_27 (v := 1) rfl ?_
      refine R_bipush dX10_setCosts_28 (v := 99) rfl ?_
      obtain ⟨p30, hp30, hf⟩ := bdE hf
      refine R_callS (As := [aI v3, aI 1, aI 99]) (st := [aR 84]) dX10_setCosts_30 (ct_X10_isIn _ _ _ _  hp30) mwX10_isIn msX10_isIn mlX10_130 rfl ⟨nle, nle, nle, nle⟩ nle rfl ?_
      refine R_if_ne dX10_setCosts_33 rfl (fun h33 => ?_) (fun h33 => ?_)
      · replace hf := inegE hf h33
        refine R_iconst dX10_setCosts_40 (v := 0) rfl ?_
        refine R_iconst dX10_setCosts_41 (v := 1) rfl ?_
        obtain ⟨p42, hp42, hf⟩ := bdE hf
        refine R_callV (As := [aI 0, aI 1]) (st := []) dX10_setCosts_42 (ct_X10_throwsIf _ _ _  hp42) mwX10_throwsIf mvX10_throwsIf mlX10_227 cl10 o_84 rfl rfl ⟨nle, nle, nle, nle⟩ nle rfl ?_
        refine R_if_eq dX10_setCosts_45 rfl (fun h45 => ?_) (fun h45 => ?_)
        · replace hf := iposE hf h45
          refine R_aload_n dX10_setCosts_50 rfl rfl ?_
          obtain ⟨p51, hp51, hf⟩ := bdE hf
          refine R_callV (As := []) (st := []) dX10_setCosts_51 (ct_X10_keeps  _  hp51) mwX10_keeps mvX10_keeps mlX10_364 cl10 o_84 rfl rfl ⟨nle, nle, nle, nle⟩ nle rfl ?_
          refine R_aload_n dX10_setCosts_54 rfl rfl ?_
          refine R_getR dX10_setCosts_55 cl10 flX10_35 o_84 ff10_14 (fr10_14 _) a_90.1 ?_
          refine R_bipush dX10_setCosts_58 (v := 11) rfl ?_
          refine R_iload_n dX10_setCosts_60 rfl rfl ?_
          obtain ⟨M61, hM61, hf⟩ := ltE hf
          refine R_iastore dX10_setCosts_61 a_90 (by decide) (by decide) hM61 ?_
          refine R_aload_n dX10_setCosts_62 rfl rfl ?_
          refine R_getR dX10_setCosts_63 cl10 flX10_35 o_84 ff10_14 (fr10_14 _) a_90.1 ?_
          refine R_bipush dX10_setCosts_66 (v := 12) rfl ?_
          refine R_iload_n dX10_setCosts_68 rfl rfl ?_
          obtain ⟨M69, hM69, hf⟩ := ltE hf
          refine R_iastore dX10_setCosts_69 a_90 (by decide) (by decide) hM69 ?_
          refine R_aload_n dX10_setCosts_70 rfl rfl ?_
          refine R_getR dX10_setCosts_71 cl10 flX10_35 o_84 ff10_14 (fr10_14 _) a_90.1 ?_
          refine R_bipush dX10_setCosts_74 (v := 13) rfl ?_
          refine R_iload_n dX10_setCosts_76 rfl rfl ?_
          obtain ⟨M77, hM77, hf⟩ := ltE hf
          refine R_iastore dX10_setCosts_77 a_90 (by decide) (by decide) hM77 ?_
          refine R_aload_n dX10_setCosts_78 rfl rfl ?_
          refine R_iconst dX10_setCosts_79 (v := (-1)) rfl ?_
          obtain ⟨p80, hp80, hf⟩ := bdE hf
          refine R_callV (As := [aI (-1)]) (st := []) dX10_setCosts_80 (ct_X10_costOf _ _  hp80) mwX10_costOf mvX10_costOf mlX10_343 cl10 o_84 rfl rfl ⟨nle, nle, nle, nle⟩ nle rfl ?_
          cases hf; exact E_iret dX10_setCosts_83 rfl rfl rfl
        · replace hf := inegE hf h45
          refine R_iconst dX10_setCosts_48 (v := 0) rfl ?_
          cases hf; exact E_iret dX10_setCosts_49 rfl rfl rfl
      · replace hf := iposE hf h33
        refine R_iconst dX10_setCosts_36 (v := 1) rfl ?_
        refine R_goto dX10_setCosts_37 rfl ?_
        refine R_iconst dX10_setCosts_41 (v := 1) rfl ?_
        obtain ⟨p42, hp42, hf⟩ := bdE hf
        refine R_callV (As := [aI 1, aI 1]) (st := []) dX10_setCosts_42 (ct_X10_throwsIf _ _ _  hp42) mwX10_throwsIf mvX10_throwsIf mlX10_227 cl10 o_84 rfl rfl ⟨nle, nle, nle, nle⟩ nle rfl ?_
        refine R_if_eq dX10_setCosts_45 rfl (fun h45 => ?_) (fun h45 => ?_)
        · replace hf := iposE hf h45
          refine R_aload_n dX10_setCosts_50 rfl rfl ?_
          obtain ⟨p51, hp51, hf⟩ := bdE hf
          refine R_callV (As := []) (st := []) dX10_setCosts_51 (ct_X10_keeps  _  hp51) mwX10_keeps mvX10_keeps mlX10_364 cl10 o_84 rfl rfl ⟨nle, nle, nle, nle⟩ nle rfl ?_
          refine R_aload_n dX10_setCosts_54 rfl rfl ?_
          refine R_getR dX10_setCosts_55 cl10 flX10_35 o_84 ff10_14 (fr10_14 _) a_90.1 ?_
          refine R_bipush dX10_setCosts_58 (v := 11) rfl ?_
          refine R_iload_n dX10_setCosts_60 rfl rfl ?_
          obtain ⟨M61, hM61, hf⟩ := ltE hf
          refine R_iastore dX10_setCosts_61 a_90 (by decide) (by decide) hM61 ?_
          refine R_aload_n dX10_setCosts_62 rfl rfl ?_
          refine R_getR dX10_setCosts_63 cl10 flX10_35 o_84 ff10_14 (fr10_14 _) a_90.1 ?_
          refine R_bipush dX10_setCosts_66 (v := 12) rfl ?_
          refine R_iload_n dX10_setCosts_68 rfl rfl ?_
          obtain ⟨M69, hM69, hf⟩ := ltE hf
          refine R_iastore dX10_setCosts_69 a_90 (by decide) (by decide) hM69 ?_
          refine R_aload_n dX10_setCosts_70 rfl rfl ?_
          refine R_getR dX10_setCosts_71 cl10 flX10_35 o_84 ff10_14 (fr10_14 _) a_90.1 ?_
          refine R_bipush dX10_setCosts_74 (v := 13) rfl ?_
          refine R_iload_n dX10_setCosts_76 rfl rfl ?_
          obtain ⟨M77, hM77, hf⟩ := ltE hf
          refine R_iastore dX10_setCosts_77 a_90 (by decide) (by decide) hM77 ?_
          refine R_aload_n dX10_setCosts_78 rfl rfl ?_
          refine R_iconst dX10_setCosts_79 (v := (-1)) rfl ?_
          obtain ⟨p80, hp80, hf⟩ := bdE hf
          refine R_callV (As := [aI (-1)]) (st := []) dX10_setCosts_80 (ct_X10_costOf _ _  hp80) mwX10_costOf mvX10_costOf mlX10_343 cl10 o_84 rfl rfl ⟨nle, nle, nle, nle⟩ nle rfl ?_
          cases hf; exact E_iret dX10_setCosts_83 rfl rfl rfl
        · replace hf := inegE hf h45
          refine R_iconst dX10_setCosts_48 (v := 0) rfl ?_
          cases hf; exact E_iret dX10_setCosts_49 rfl rfl rfl
/-! BracketHallModel.readCommand()Z -/
def f_X10_readCommand_K249  (M : Mem) : Option (Int × Mem) :=
  lt1 (up M 84 40 (w32 ((M 84 40) + 1))) fun M256 =>
  (f_X10_semicolon M256).bind fun p260 =>
  if p260.1 = 0 ∨ p260.1 = 1 then
  some (p260.1, p260.2)
  else none
def f_X10_readCommand_L150 : Nat → Int → Int → Int → Mem → Option (Int × Mem)
  | 0, _, _, _, _ => none
  | n + 1, v1, v3, v4, M =>
    if v3 ≤ v4 then
      f_X10_readCommand_K249 M
    else
      (f_X10_takes 0 999 M).bind fun p161 =>
      if p161.1 = 0 then
        some (0, p161.2)
      else
        if v4 = 0 then
          if (0 : Int) ≤ v1 ∧ v1 < 200 then
          lt1 (up p161.2 106 v1 (p161.2 84 24)) fun M192 =>
          if v4 = 1 then
            lt1 (up M192 107 v1 (M192 84 24)) fun M217 =>
            if v4 = 2 then
              lt1 (up M217 108 v1 (M217 84 24)) fun M242 =>
              lt1 (w32 (v4 + 1)) fun v4_243 =>
              f_X10_readCommand_L150 n v1 v3 v4_243 M242
            else
              lt1 (up M217 108 v1 (M217 108 v1)) fun M242 =>
              lt1 (w32 (v4 + 1)) fun v4_243 =>
              f_X10_readCommand_L150 n v1 v3 v4_243 M242
          else
            lt1 (up M192 107 v1 (M192 107 v1)) fun M217 =>
            if v4 = 2 then
              lt1 (up M217 108 v1 (M217 84 24)) fun M242 =>
              lt1 (w32 (v4 + 1)) fun v4_243 =>
              f_X10_readCommand_L150 n v1 v3 v4_243 M242
            else
              lt1 (up M217 108 v1 (M217 108 v1)) fun M242 =>
              lt1 (w32 (v4 + 1)) fun v4_243 =>
              f_X10_readCommand_L150 n v1 v3 v4_243 M242
          else none
        else
          if (0 : Int) ≤ v1 ∧ v1 < 200 then
          lt1 (up p161.2 106 v1 (p161.2 106 v1)) fun M192 =>
          if v4 = 1 then
            lt1 (up M192 107 v1 (M192 84 24)) fun M217 =>
            if v4 = 2 then
              lt1 (up M217 108 v1 (M217 84 24)) fun M242 =>
              lt1 (w32 (v4 + 1)) fun v4_243 =>
              f_X10_readCommand_L150 n v1 v3 v4_243 M242
            else
              lt1 (up M217 108 v1 (M217 108 v1)) fun M242 =>
              lt1 (w32 (v4 + 1)) fun v4_243 =>
              f_X10_readCommand_L150 n v1 v3 v4_243 M242
          else
            lt1 (up M192 107 v1 (M192 107 v1)) fun M217 =>
            if v4 = 2 then
              lt1 (up M217 108 v1 (M217 84 24)) fun M242 =>
              lt1 (w32 (v4 + 1)) fun v4_243 =>
              f_X10_readCommand_L150 n v1 v3 v4_243 M242
            else
              lt1 (up M217 108 v1 (M217 108 v1)) fun M242 =>
              lt1 (w32 (v4 + 1)) fun v4_243 =>
              f_X10_readCommand_L150 n v1 v3 v4_243 M242
          else none
def f_X10_readCommand  (M : Mem) : Option (Int × Mem) :=
  lt1 (M 84 40) fun v1_4 =>
  (f_X10_isWord 234 M).bind fun p9 =>
  if p9 = 0 then
    (f_X10_isWord 235 M).bind fun p23 =>
    if p23 = 0 then
      (f_X10_isWord 236 M).bind fun p37 =>
      if p37 = 0 then
        (f_X10_isWord 237 M).bind fun p51 =>
        if p51 = 0 then
          (f_X10_isWord 238 M).bind fun p65 =>
          if p65 = 0 then
            (f_X10_isWord 239 M).bind fun p79 =>
            if p79 = 0 then
              (f_X10_starts 1 0 M).bind fun p103 =>
              if p103.1 = 0 then
                some (0, p103.2)
              else
                if (0 : Int) ≤ v1_4 ∧ v1_4 < 200 then
                lt1 (up p103.2 105 v1_4 (-1)) fun M117 =>
                f_X10_readCommand_L150 4096 v1_4 2 0 M117
                else none
            else
              (f_X10_starts 1 1 M).bind fun p103 =>
              if p103.1 = 0 then
                some (0, p103.2)
              else
                if (0 : Int) ≤ v1_4 ∧ v1_4 < 200 then
                lt1 (up p103.2 105 v1_4 5) fun M117 =>
                f_X10_readCommand_L150 4096 v1_4 1 0 M117
                else none
          else
            (f_X10_starts 1 1 M).bind fun p103 =>
            if p103.1 = 0 then
              some (0, p103.2)
            else
              if (0 : Int) ≤ v1_4 ∧ v1_4 < 200 then
              lt1 (up p103.2 105 v1_4 4) fun M117 =>
              f_X10_readCommand_L150 4096 v1_4 0 0 M117
              else none
        else
          (f_X10_starts 1 1 M).bind fun p103 =>
          if p103.1 = 0 then
            some (0, p103.2)
          else
            if (0 : Int) ≤ v1_4 ∧ v1_4 < 200 then
            lt1 (up p103.2 105 v1_4 3) fun M117 =>
            f_X10_readCommand_L150 4096 v1_4 3 0 M117
            else none
      else
        (f_X10_starts 1 1 M).bind fun p103 =>
        if p103.1 = 0 then
          some (0, p103.2)
        else
          if (0 : Int) ≤ v1_4 ∧ v1_4 < 200 then
          lt1 (up p103.2 105 v1_4 2) fun M117 =>
          f_X10_readCommand_L150 4096 v1_4 2 0 M117
          else none
    else
      (f_X10_starts 1 1 M).bind fun p103 =>
      if p103.1 = 0 then
        some (0, p103.2)
      else
        if (0 : Int) ≤ v1_4 ∧ v1_4 < 200 then
        lt1 (up p103.2 105 v1_4 1) fun M117 =>
        f_X10_readCommand_L150 4096 v1_4 2 0 M117
        else none
  else
    (f_X10_starts 1 1 M).bind fun p103 =>
    if p103.1 = 0 then
      some (0, p103.2)
    else
      if (0 : Int) ≤ v1_4 ∧ v1_4 < 200 then
      lt1 (up p103.2 105 v1_4 0) fun M117 =>
      f_X10_readCommand_L150 4096 v1_4 2 0 M117
      else none
set_option maxRecDepth 20000 in
theorem rn_X10_readCommand_K249 {G : Gl}  (M : Mem) (res : Int × Mem)  (hf : f_X10_readCommand_K249  M = some res) : Run G false (rmD 6 0 0) miX10_readCommand (ZP G (some (aI res.1)) res.2) 0 0 249 [some (aR 84), none, none, none, none] [] M := by
  unfold f_X10_readCommand_K249 at hf
  refine R_aload_n dX10_readCommand_249 rfl rfl ?_
  refine R_dupR dX10_readCommand_250 ?_
  refine R_getI (ki := 40) dX10_readCommand_251 cl10 flX10_380 o_84 ff10_40 rfl rfl ?_
  refine R_iconst dX10_readCommand_254 (v := 1) rfl ?_
  refine R_iadd dX10_readCommand_255 rfl ?_
  obtain ⟨M256, hM256, hf⟩ := ltE hf
  refine R_put (ki := 40) dX10_readCommand_256 cl10 flX10_380 o_84 (Or.inl fz10_40) rfl hM256 ?_
  refine R_aload_n dX10_readCommand_259 rfl rfl ?_
  obtain ⟨p260, hp260, hf⟩ := bdE hf
  refine R_callV (As := []) (st := []) dX10_readCommand_260 (ct_X10_semicolon  _  hp260) mwX10_semicolon mvX10_semicolon mlX10_238 cl10 o_84 rfl rfl ⟨nle, nle, nle, nle⟩ nle rfl ?_
  obtain ⟨hb, hf⟩ := gdE hf
  cases hf; exact E_zret dX10_readCommand_263 rfl hb rfl rfl
set_option maxRecDepth 20000 in
theorem rn_X10_readCommand_L150 {G : Gl} : ∀ (n : Nat) (v1 : Int) (v3 : Int) (v4 : Int) (M : Mem) (res : Int × Mem),  f_X10_readCommand_L150 n v1 v3 v4 M = some res → Run G false (rmD 6 0 0) miX10_readCommand (ZP G (some (aI res.1)) res.2) 0 0 150 [some (aR 84), some (aI v1), none, some (aI v3), some (aI v4)] [] M := by
  intro n
  induction n with
  | zero => intro v1 v3 v4 M res  hf; cases hf
  | succ n ih =>
    intro v1 v3 v4 M res  hf
    rw [f_X10_readCommand_L150] at hf
    refine R_iload dX10_readCommand_150 rfl ?_
    refine R_iload_n dX10_readCommand_152 rfl rfl ?_
    refine R_icmp_ge dX10_readCommand_153 rfl (fun h153 => ?_) (fun h153 => ?_)
    · replace hf := iposE hf h153
      exact R_subk (rn_X10_readCommand_K249  _ _  hf) ⟨rfl, trivial⟩
    · replace hf := inegE hf h153
      refine R_aload_n dX10_readCommand_156 rfl rfl ?_
      refine R_iconst dX10_readCommand_157 (v := 0) rfl ?_
      refine R_sipush dX10_readCommand_158 (v := 999) rfl ?_
      obtain ⟨p161, hp161, hf⟩ := bdE hf
      refine R_callV (As := [aI 0, aI 999]) (st := []) dX10_readCommand_161 (ct_X10_takes _ _ _  hp161) mwX10_takes mvX10_takes mlX10_209 cl10 o_84 rfl rfl ⟨nle, nle, nle, nle⟩ nle rfl ?_
      refine R_if_ne dX10_readCommand_164 rfl (fun h164 => ?_) (fun h164 => ?_)
      · replace hf := inegE hf h164
        refine R_aload_n dX10_readCommand_169 rfl rfl ?_
        refine R_getR dX10_readCommand_170 cl10 flX10_89 o_84 ff10_42 (fr10_42 _) a_106.1 ?_
        refine R_iload_n dX10_readCommand_173 rfl rfl ?_
        refine R_iload dX10_readCommand_174 rfl ?_
        refine R_if_ne dX10_readCommand_176 rfl (fun h176 => ?_) (fun h176 => ?_)
        · replace hf := inegE hf h176
          refine R_aload_n dX10_readCommand_186 rfl rfl ?_
          refine R_getR dX10_readCommand_187 cl10 flX10_89 o_84 ff10_42 (fr10_42 _) a_106.1 ?_
          refine R_iload_n dX10_readCommand_190 rfl rfl ?_
          obtain ⟨hg1, hf⟩ := gdE hf
          refine R_iaload dX10_readCommand_191 a_106 hg1.1 hg1.2 rfl ?_
          obtain ⟨M192, hM192, hf⟩ := ltE hf
          refine R_iastore dX10_readCommand_192 a_106 hg1.1 hg1.2 hM192 ?_
          refine R_aload_n dX10_readCommand_193 rfl rfl ?_
          refine R_getR dX10_readCommand_194 cl10 flX10_92 o_84 ff10_43 (fr10_43 _) a_107.1 ?_
          refine R_iload_n dX10_readCommand_197 rfl rfl ?_
          refine R_iload dX10_readCommand_198 rfl ?_
          refine R_iconst dX10_readCommand_200 (v := 1) rfl ?_
          refine R_icmp_ne dX10_readCommand_201 rfl (fun h201 => ?_) (fun h201 => ?_)
          · replace hf := inegE hf h201
            refine R_aload_n dX10_readCommand_211 rfl rfl ?_
            refine R_getR dX10_readCommand_212 cl10 flX10_92 o_84 ff10_43 (fr10_43 _) a_107.1 ?_
            refine R_iload_n dX10_readCommand_215 rfl rfl ?_
            refine R_iaload dX10_readCommand_216 a_107 hg1.1 hg1.2 rfl ?_
            obtain ⟨M217, hM217, hf⟩ := ltE hf
            refine R_iastore dX10_readCommand_217 a_107 hg1.1 hg1.2 hM217 ?_
            refine R_aload_n dX10_readCommand_218 rfl rfl ?_
            refine R_getR dX10_readCommand_219 cl10 flX10_95 o_84 ff10_44 (fr10_44 _) a_108.1 ?_
            refine R_iload_n dX10_readCommand_222 rfl rfl ?_
            refine R_iload dX10_readCommand_223 rfl ?_
            refine R_iconst dX10_readCommand_225 (v := 2) rfl ?_
            refine R_icmp_ne dX10_readCommand_226 rfl (fun h226 => ?_) (fun h226 => ?_)
            · replace hf := inegE hf h226
              refine R_aload_n dX10_readCommand_236 rfl rfl ?_
              refine R_getR dX10_readCommand_237 cl10 flX10_95 o_84 ff10_44 (fr10_44 _) a_108.1 ?_
              refine R_iload_n dX10_readCommand_240 rfl rfl ?_
              refine R_iaload dX10_readCommand_241 a_108 hg1.1 hg1.2 rfl ?_
              obtain ⟨M242, hM242, hf⟩ := ltE hf
              refine R_iastore dX10_readCommand_242 a_108 hg1.1 hg1.2 hM242 ?_
              obtain ⟨v4_243, hv4_243, hf⟩ := ltE hf
              refine R_iinc dX10_readCommand_243 rfl rfl hv4_243 (by decide) rfl ?_
              refine R_goto dX10_readCommand_246 rfl ?_
              exact R_subk (ih _ _ _ _ _  hf) ⟨rfl, rfl, rfl, rfl, trivial⟩
            · replace hf := iposE hf h226
              refine R_aload_n dX10_readCommand_229 rfl rfl ?_
              refine R_getI (ki := 24) dX10_readCommand_230 cl10 flX10_178 o_84 ff10_24 rfl rfl ?_
              refine R_goto dX10_readCommand_233 rfl ?_
              obtain ⟨M242, hM242, hf⟩ := ltE hf
              refine R_iastore dX10_readCommand_242 a_108 hg1.1 hg1.2 hM242 ?_
              obtain ⟨v4_243, hv4_243, hf⟩ := ltE hf
              refine R_iinc dX10_readCommand_243 rfl rfl hv4_243 (by decide) rfl ?_
              refine R_goto dX10_readCommand_246 rfl ?_
              exact R_subk (ih _ _ _ _ _  hf) ⟨rfl, rfl, rfl, rfl, trivial⟩
          · replace hf := iposE hf h201
            refine R_aload_n dX10_readCommand_204 rfl rfl ?_
            refine R_getI (ki := 24) dX10_readCommand_205 cl10 flX10_178 o_84 ff10_24 rfl rfl ?_
            refine R_goto dX10_readCommand_208 rfl ?_
            obtain ⟨M217, hM217, hf⟩ := ltE hf
            refine R_iastore dX10_readCommand_217 a_107 hg1.1 hg1.2 hM217 ?_
            refine R_aload_n dX10_readCommand_218 rfl rfl ?_
            refine R_getR dX10_readCommand_219 cl10 flX10_95 o_84 ff10_44 (fr10_44 _) a_108.1 ?_
            refine R_iload_n dX10_readCommand_222 rfl rfl ?_
            refine R_iload dX10_readCommand_223 rfl ?_
            refine R_iconst dX10_readCommand_225 (v := 2) rfl ?_
            refine R_icmp_ne dX10_readCommand_226 rfl (fun h226 => ?_) (fun h226 => ?_)
            · replace hf := inegE hf h226
              refine R_aload_n dX10_readCommand_236 rfl rfl ?_
              refine R_getR dX10_readCommand_237 cl10 flX10_95 o_84 ff10_44 (fr10_44 _) a_108.1 ?_
              refine R_iload_n dX10_readCommand_240 rfl rfl ?_
              refine R_iaload dX10_readCommand_241 a_108 hg1.1 hg1.2 rfl ?_
              obtain ⟨M242, hM242, hf⟩ := ltE hf
              refine R_iastore dX10_readCommand_242 a_108 hg1.1 hg1.2 hM242 ?_
              obtain ⟨v4_243, hv4_243, hf⟩ := ltE hf
              refine R_iinc dX10_readCommand_243 rfl rfl hv4_243 (by decide) rfl ?_
              refine R_goto dX10_readCommand_246 rfl ?_
              exact R_subk (ih _ _ _ _ _  hf) ⟨rfl, rfl, rfl, rfl, trivial⟩
            · replace hf := iposE hf h226
              refine R_aload_n dX10_readCommand_229 rfl rfl ?_
              refine R_getI (ki := 24) dX10_readCommand_230 cl10 flX10_178 o_84 ff10_24 rfl rfl ?_
              refine R_goto dX10_readCommand_233 rfl ?_
              obtain ⟨M242, hM242, hf⟩ := ltE hf
              refine R_iastore dX10_readCommand_242 a_108 hg1.1 hg1.2 hM242 ?_
              obtain ⟨v4_243, hv4_243, hf⟩ := ltE hf
              refine R_iinc dX10_readCommand_243 rfl rfl hv4_243 (by decide) rfl ?_
              refine R_goto dX10_readCommand_246 rfl ?_
              exact R_subk (ih _ _ _ _ _  hf) ⟨rfl, rfl, rfl, rfl, trivial⟩
        · replace hf := iposE hf h176
          refine R_aload_n dX10_readCommand_179 rfl rfl ?_
          refine R_getI (ki := 24) dX10_readCommand_180 cl10 flX10_178 o_84 ff10_24 rfl rfl ?_
          refine R_goto dX10_readCommand_183 rfl ?_
          obtain ⟨hg2, hf⟩ := gdE hf
          obtain ⟨M192, hM192, hf⟩ := ltE hf
          refine R_iastore dX10_readCommand_192 a_106 hg2.1 hg2.2 hM192 ?_
          refine R_aload_n dX10_readCommand_193 rfl rfl ?_
          refine R_getR dX10_readCommand_194 cl10 flX10_92 o_84 ff10_43 (fr10_43 _) a_107.1 ?_
          refine R_iload_n dX10_readCommand_197 rfl rfl ?_
          refine R_iload dX10_readCommand_198 rfl ?_
          refine R_iconst dX10_readCommand_200 (v := 1) rfl ?_
          refine R_icmp_ne dX10_readCommand_201 rfl (fun h201 => ?_) (fun h201 => ?_)
          · replace hf := inegE hf h201
            refine R_aload_n dX10_readCommand_211 rfl rfl ?_
            refine R_getR dX10_readCommand_212 cl10 flX10_92 o_84 ff10_43 (fr10_43 _) a_107.1 ?_
            refine R_iload_n dX10_readCommand_215 rfl rfl ?_
            refine R_iaload dX10_readCommand_216 a_107 hg2.1 hg2.2 rfl ?_
            obtain ⟨M217, hM217, hf⟩ := ltE hf
            refine R_iastore dX10_readCommand_217 a_107 hg2.1 hg2.2 hM217 ?_
            refine R_aload_n dX10_readCommand_218 rfl rfl ?_
            refine R_getR dX10_readCommand_219 cl10 flX10_95 o_84 ff10_44 (fr10_44 _) a_108.1 ?_
            refine R_iload_n dX10_readCommand_222 rfl rfl ?_
            refine R_iload dX10_readCommand_223 rfl ?_
            refine R_iconst dX10_readCommand_225 (v := 2) rfl ?_
            refine R_icmp_ne dX10_readCommand_226 rfl (fun h226 => ?_) (fun h226 => ?_)
            · replace hf := inegE hf h226
              refine R_aload_n dX10_readCommand_236 rfl rfl ?_
              refine R_getR dX10_readCommand_237 cl10 flX10_95 o_84 ff10_44 (fr10_44 _) a_108.1 ?_
              refine R_iload_n dX10_readCommand_240 rfl rfl ?_
              refine R_iaload dX10_readCommand_241 a_108 hg2.1 hg2.2 rfl ?_
              obtain ⟨M242, hM242, hf⟩ := ltE hf
              refine R_iastore dX10_readCommand_242 a_108 hg2.1 hg2.2 hM242 ?_
              obtain ⟨v4_243, hv4_243, hf⟩ := ltE hf
              refine R_iinc dX10_readCommand_243 rfl rfl hv4_243 (by decide) rfl ?_
              refine R_goto dX10_readCommand_246 rfl ?_
              exact R_subk (ih _ _ _ _ _  hf) ⟨rfl, rfl, rfl, rfl, trivial⟩
            · replace hf := iposE hf h226
              refine R_aload_n dX10_readCommand_229 rfl rfl ?_
              refine R_getI (ki := 24) dX10_readCommand_230 cl10 flX10_178 o_84 ff10_24 rfl rfl ?_
              refine R_goto dX10_readCommand_233 rfl ?_
              obtain ⟨M242, hM242, hf⟩ := ltE hf
              refine R_iastore dX10_readCommand_242 a_108 hg2.1 hg2.2 hM242 ?_
              obtain ⟨v4_243, hv4_243, hf⟩ := ltE hf
              refine R_iinc dX10_readCommand_243 rfl rfl hv4_243 (by decide) rfl ?_
              refine R_goto dX10_readCommand_246 rfl ?_
              exact R_subk (ih _ _ _ _ _  hf) ⟨rfl, rfl, rfl, rfl, trivial⟩
          · replace hf := iposE hf h201
            refine R_aload_n dX10_readCommand_204 rfl rfl ?_
            refine R_getI (ki := 24) dX10_readCommand_205 cl10 flX10_178 o_84 ff10_24 rfl rfl ?_
            refine R_goto dX10_readCommand_208 rfl ?_
            obtain ⟨M217, hM217, hf⟩ := ltE hf
            refine R_iastore dX10_readCommand_217 a_107 hg2.1 hg2.2 hM217 ?_
            refine R_aload_n dX10_readCommand_218 rfl rfl ?_
            refine R_getR dX10_readCommand_219 cl10 flX10_95 o_84 ff10_44 (fr10_44 _) a_108.1 ?_
            refine R_iload_n dX10_readCommand_222 rfl rfl ?_
            refine R_iload dX10_readCommand_223 rfl ?_
            refine R_iconst dX10_readCommand_225 (v := 2) rfl ?_
            refine R_icmp_ne dX10_readCommand_226 rfl (fun h226 => ?_) (fun h226 => ?_)
            · replace hf := inegE hf h226
              refine R_aload_n dX10_readCommand_236 rfl rfl ?_
              refine R_getR dX10_readCommand_237 cl10 flX10_95 o_84 ff10_44 (fr10_44 _) a_108.1 ?_
              refine R_iload_n dX10_readCommand_240 rfl rfl ?_
              refine R_iaload dX10_readCommand_241 a_108 hg2.1 hg2.2 rfl ?_
              obtain ⟨M242, hM242, hf⟩ := ltE hf
              refine R_iastore dX10_readCommand_242 a_108 hg2.1 hg2.2 hM242 ?_
              obtain ⟨v4_243, hv4_243, hf⟩ := ltE hf
              refine R_iinc dX10_readCommand_243 rfl rfl hv4_243 (by decide) rfl ?_
              refine R_goto dX10_readCommand_246 rfl ?_
              exact R_subk (ih _ _ _ _ _  hf) ⟨rfl, rfl, rfl, rfl, trivial⟩
            · replace hf := iposE hf h226
              refine R_aload_n dX10_readCommand_229 rfl rfl ?_
              refine R_getI (ki := 24) dX10_readCommand_230 cl10 flX10_178 o_84 ff10_24 rfl rfl ?_
              refine R_goto dX10_readCommand_233 rfl ?_
              obtain ⟨M242, hM242, hf⟩ := ltE hf
              refine R_iastore dX10_readCommand_242 a_108 hg2.1 hg2.2 hM242 ?_
              obtain ⟨v4_243, hv4_243, hf⟩ := ltE hf
              refine R_iinc dX10_readCommand_243 rfl rfl hv4_243 (by decide) rfl ?_
              refine R_goto dX10_readCommand_246 rfl ?_
              exact R_subk (ih _ _ _ _ _  hf) ⟨rfl, rfl, rfl, rfl, trivial⟩
      · replace hf := iposE hf h164
        refine R_iconst dX10_readCommand_167 (v := 0) rfl ?_
        cases hf; exact E_zret dX10_readCommand_168 rfl (by decide) rfl rfl
set_option maxRecDepth 20000 in
theorem ct_X10_readCommand {G : Gl}  (M : Mem) {res : Int × Mem}  (hf : f_X10_readCommand  M = some res) : Ct G miX10_readCommand yX10_readCommand 6 [aR 84] M (some (aI res.1)) res.2 := by
  refine Ct.of (L := [some (aR 84), none, none, none, none]) mwX10_readCommand rfl trivial nle ⟨rfl, trivial⟩ ?_
  unfold f_X10_readCommand at hf
  refine R_aload_n dX10_readCommand_0 rfl rfl ?_
  refine R_getI (ki := 40) dX10_readCommand_1 cl10 flX10_380 o_84 ff10_40 rfl rfl ?_
  obtain ⟨v1_4, hv1_4, hf⟩ := ltE hf
  refine R_istore_n dX10_readCommand_4 rfl (by decide) hv1_4 rfl ?_
  refine R_aload_n dX10_readCommand_5 rfl rfl ?_
  refine R_ldcSW dX10_readCommand_6 (j := 34) rfl rfl ?_
  obtain ⟨p9, hp9, hf⟩ := bdE hf
  refine R_callV (As := [aR 234]) (st := []) dX10_readCommand_9 (ct_X10_isWord _ _ s_34 hp9) mwX10_isWord mvX10_isWord mlX10_205 cl10 o_84 rfl rfl ⟨nle, nle, nle, nle⟩ nle rfl ?_
  refine R_if_eq dX10_readCommand_12 rfl (fun h12 => ?_) (fun h12 => ?_)
  · replace hf := iposE hf h12
    refine R_aload_n dX10_readCommand_19 rfl rfl ?_
    refine R_ldcSW dX10_readCommand_20 (j := 35) rfl rfl ?_
    obtain ⟨p23, hp23, hf⟩ := bdE hf
    refine R_callV (As := [aR 235]) (st := []) dX10_readCommand_23 (ct_X10_isWord _ _ s_35 hp23) mwX10_isWord mvX10_isWord mlX10_205 cl10 o_84 rfl rfl ⟨nle, nle, nle, nle⟩ nle rfl ?_
    refine R_if_eq dX10_readCommand_26 rfl (fun h26 => ?_) (fun h26 => ?_)
    · replace hf := iposE hf h26
      refine R_aload_n dX10_readCommand_33 rfl rfl ?_
      refine R_ldcSW dX10_readCommand_34 (j := 36) rfl rfl ?_
      obtain ⟨p37, hp37, hf⟩ := bdE hf
      refine R_callV (As := [aR 236]) (st := []) dX10_readCommand_37 (ct_X10_isWord _ _ s_36 hp37) mwX10_isWord mvX10_isWord mlX10_205 cl10 o_84 rfl rfl ⟨nle, nle, nle, nle⟩ nle rfl ?_
      refine R_if_eq dX10_readCommand_40 rfl (fun h40 => ?_) (fun h40 => ?_)
      · replace hf := iposE hf h40
        refine R_aload_n dX10_readCommand_47 rfl rfl ?_
        refine R_ldcSW dX10_readCommand_48 (j := 37) rfl rfl ?_
        obtain ⟨p51, hp51, hf⟩ := bdE hf
        refine R_callV (As := [aR 237]) (st := []) dX10_readCommand_51 (ct_X10_isWord _ _ s_37 hp51) mwX10_isWord mvX10_isWord mlX10_205 cl10 o_84 rfl rfl ⟨nle, nle, nle, nle⟩ nle rfl ?_
        refine R_if_eq dX10_readCommand_54 rfl (fun h54 => ?_) (fun h54 => ?_)
        · replace hf := iposE hf h54
          refine R_aload_n dX10_readCommand_61 rfl rfl ?_
          refine R_ldcSW dX10_readCommand_62 (j := 38) rfl rfl ?_
          obtain ⟨p65, hp65, hf⟩ := bdE hf
          refine R_callV (As := [aR 238]) (st := []) dX10_readCommand_65 (ct_X10_isWord _ _ s_38 hp65) mwX10_isWord mvX10_isWord mlX10_205 cl10 o_84 rfl rfl ⟨nle, nle, nle, nle⟩ nle rfl ?_
          refine R_if_eq dX10_readCommand_68 rfl (fun h68 => ?_) (fun h68 => ?_)
          · replace hf := iposE hf h68
            refine R_aload_n dX10_readCommand_75 rfl rfl ?_
            refine R_ldcSW dX10_readCommand_76 (j := 39) rfl rfl ?_
            obtain ⟨p79, hp79, hf⟩ := bdE hf
            refine R_callV (As := [aR 239]) (st := []) dX10_readCommand_79 (ct_X10_isWord _ _ s_39 hp79) mwX10_isWord mvX10_isWord mlX10_205 cl10 o_84 rfl rfl ⟨nle, nle, nle, nle⟩ nle rfl ?_
            refine R_if_eq dX10_readCommand_82 rfl (fun h82 => ?_) (fun h82 => ?_)
            · replace hf := iposE hf h82
              refine R_iconst dX10_readCommand_89 (v := (-1)) rfl ?_
              refine R_istore_n dX10_readCommand_90 rfl (by decide) rfl rfl ?_
              refine R_aload_n dX10_readCommand_91 rfl rfl ?_
              refine R_iconst dX10_readCommand_92 (v := 1) rfl ?_
              refine R_iload_n dX10_readCommand_93 rfl rfl ?_
              refine R_iconst dX10_readCommand_94 (v := (-1)) rfl ?_
              refine R_icmp_eq dX10_readCommand_95 rfl (fun _ => ?_) (fun h => absurd h (by decide))
              refine R_iconst dX10_readCommand_102 (v := 0) rfl ?_
              obtain ⟨p103, hp103, hf⟩ := bdE hf
              refine R_callV (As := [aI 1, aI 0]) (st := []) dX10_readCommand_103 (ct_X10_starts _ _ _  hp103) mwX10_starts mvX10_starts mlX10_181 cl10 o_84 rfl rfl ⟨nle, nle, nle, nle⟩ nle rfl ?_
              refine R_if_ne dX10_readCommand_106 rfl (fun h106 => ?_) (fun h106 => ?_)
              · replace hf := inegE hf h106
                refine R_aload_n dX10_readCommand_111 rfl rfl ?_
                refine R_getR dX10_readCommand_112 cl10 flX10_86 o_84 ff10_41 (fr10_41 _) a_105.1 ?_
                refine R_iload_n dX10_readCommand_115 rfl rfl ?_
                refine R_iload_n dX10_readCommand_116 rfl rfl ?_
                obtain ⟨hg3, hf⟩ := gdE hf
                obtain ⟨M117, hM117, hf⟩ := ltE hf
                refine R_iastore dX10_readCommand_117 a_105 hg3.1 hg3.2 hM117 ?_
                refine R_iload_n dX10_readCommand_118 rfl rfl ?_
                refine R_iconst dX10_readCommand_119 (v := 4) rfl ?_
                refine R_icmp_ne dX10_readCommand_120 rfl (fun _ => ?_) (fun h => absurd h (by decide))
                refine R_iload_n dX10_readCommand_127 rfl rfl ?_
                refine R_iconst dX10_readCommand_128 (v := 5) rfl ?_
                refine R_icmp_ne dX10_readCommand_129 rfl (fun _ => ?_) (fun h => absurd h (by decide))
                refine R_iload_n dX10_readCommand_136 rfl rfl ?_
                refine R_iconst dX10_readCommand_137 (v := 3) rfl ?_
                refine R_icmp_ne dX10_readCommand_138 rfl (fun _ => ?_) (fun h => absurd h (by decide))
                refine R_iconst dX10_readCommand_145 (v := 2) rfl ?_
                refine R_istore_n dX10_readCommand_146 rfl (by decide) rfl rfl ?_
                refine R_iconst dX10_readCommand_147 (v := 0) rfl ?_
                refine R_istore dX10_readCommand_148 (by decide) rfl rfl ?_
                exact R_subk (rn_X10_readCommand_L150 4096 _ _ _ _ _  hf) ⟨rfl, rfl, rfl, rfl, trivial⟩
              · replace hf := iposE hf h106
                refine R_iconst dX10_readCommand_109 (v := 0) rfl ?_
                cases hf; exact E_zret dX10_readCommand_110 rfl (by decide) rfl rfl
            · replace hf := inegE hf h82
              refine R_iconst dX10_readCommand_85 (v := 5) rfl ?_
              refine R_goto dX10_readCommand_86 rfl ?_
              refine R_istore_n dX10_readCommand_90 rfl (by decide) rfl rfl ?_
              refine R_aload_n dX10_readCommand_91 rfl rfl ?_
              refine R_iconst dX10_readCommand_92 (v := 1) rfl ?_
              refine R_iload_n dX10_readCommand_93 rfl rfl ?_
              refine R_iconst dX10_readCommand_94 (v := (-1)) rfl ?_
              refine R_icmp_eq dX10_readCommand_95 rfl (fun h => absurd h (by decide)) (fun _ => ?_)
              refine R_iconst dX10_readCommand_98 (v := 1) rfl ?_
              refine R_goto dX10_readCommand_99 rfl ?_
              obtain ⟨p103, hp103, hf⟩ := bdE hf
              refine R_callV (As := [aI 1, aI 1]) (st := []) dX10_readCommand_103 (ct_X10_starts _ _ _  hp103) mwX10_starts mvX10_starts mlX10_181 cl10 o_84 rfl rfl ⟨nle, nle, nle, nle⟩ nle rfl ?_
              refine R_if_ne dX10_readCommand_106 rfl (fun h106 => ?_) (fun h106 => ?_)
              · replace hf := inegE hf h106
                refine R_aload_n dX10_readCommand_111 rfl rfl ?_
                refine R_getR dX10_readCommand_112 cl10 flX10_86 o_84 ff10_41 (fr10_41 _) a_105.1 ?_
                refine R_iload_n dX10_readCommand_115 rfl rfl ?_
                refine R_iload_n dX10_readCommand_116 rfl rfl ?_
                obtain ⟨hg4, hf⟩ := gdE hf
                obtain ⟨M117, hM117, hf⟩ := ltE hf
                refine R_iastore dX10_readCommand_117 a_105 hg4.1 hg4.2 hM117 ?_
                refine R_iload_n dX10_readCommand_118 rfl rfl ?_
                refine R_iconst dX10_readCommand_119 (v := 4) rfl ?_
                refine R_icmp_ne dX10_readCommand_120 rfl (fun _ => ?_) (fun h => absurd h (by decide))
                refine R_iload_n dX10_readCommand_127 rfl rfl ?_
                refine R_iconst dX10_readCommand_128 (v := 5) rfl ?_
                refine R_icmp_ne dX10_readCommand_129 rfl (fun h => absurd h (by decide)) (fun _ => ?_)
                refine R_iconst dX10_readCommand_132 (v := 1) rfl ?_
                refine R_goto dX10_readCommand_133 rfl ?_
                refine R_istore_n dX10_readCommand_146 rfl (by decide) rfl rfl ?_
                refine R_iconst dX10_readCommand_147 (v := 0) rfl ?_
                refine R_istore dX10_readCommand_148 (by decide) rfl rfl ?_
                exact R_subk (rn_X10_readCommand_L150 4096 _ _ _ _ _  hf) ⟨rfl, rfl, rfl, rfl, trivial⟩
              · replace hf := iposE hf h106
                refine R_iconst dX10_readCommand_109 (v := 0) rfl ?_
                cases hf; exact E_zret dX10_readCommand_110 rfl (by decide) rfl rfl
          · replace hf := inegE hf h68
            refine R_iconst dX10_readCommand_71 (v := 4) rfl ?_
            refine R_goto dX10_readCommand_72 rfl ?_
            refine R_istore_n dX10_readCommand_90 rfl (by decide) rfl rfl ?_
            refine R_aload_n dX10_readCommand_91 rfl rfl ?_
            refine R_iconst dX10_readCommand_92 (v := 1) rfl ?_
            refine R_iload_n dX10_readCommand_93 rfl rfl ?_
            refine R_iconst dX10_readCommand_94 (v := (-1)) rfl ?_
            refine R_icmp_eq dX10_readCommand_95 rfl (fun h => absurd h (by decide)) (fun _ => ?_)
            refine R_iconst dX10_readCommand_98 (v := 1) rfl ?_
            refine R_goto dX10_readCommand_99 rfl ?_
            obtain ⟨p103, hp103, hf⟩ := bdE hf
            refine R_callV (As := [aI 1, aI 1]) (st := []) dX10_readCommand_103 (ct_X10_starts _ _ _  hp103) mwX10_starts mvX10_starts mlX10_181 cl10 o_84 rfl rfl ⟨nle, nle, nle, nle⟩ nle rfl ?_
            refine R_if_ne dX10_readCommand_106 rfl (fun h106 => ?_) (fun h106 => ?_)
            · replace hf := inegE hf h106
              refine R_aload_n dX10_readCommand_111 rfl rfl ?_
              refine R_getR dX10_readCommand_112 cl10 flX10_86 o_84 ff10_41 (fr10_41 _) a_105.1 ?_
              refine R_iload_n dX10_readCommand_115 rfl rfl ?_
              refine R_iload_n dX10_readCommand_116 rfl rfl ?_
              obtain ⟨hg5, hf⟩ := gdE hf
              obtain ⟨M117, hM117, hf⟩ := ltE hf
              refine R_iastore dX10_readCommand_117 a_105 hg5.1 hg5.2 hM117 ?_
              refine R_iload_n dX10_readCommand_118 rfl rfl ?_
              refine R_iconst dX10_readCommand_119 (v := 4) rfl ?_
              refine R_icmp_ne dX10_readCommand_120 rfl (fun h => absurd h (by decide)) (fun _ => ?_)
              refine R_iconst dX10_readCommand_123 (v := 0) rfl ?_
              refine R_goto dX10_readCommand_124 rfl ?_
              refine R_istore_n dX10_readCommand_146 rfl (by decide) rfl rfl ?_
              refine R_iconst dX10_readCommand_147 (v := 0) rfl ?_
              refine R_istore dX10_readCommand_148 (by decide) rfl rfl ?_
              exact R_subk (rn_X10_readCommand_L150 4096 _ _ _ _ _  hf) ⟨rfl, rfl, rfl, rfl, trivial⟩
            · replace hf := iposE hf h106
              refine R_iconst dX10_readCommand_109 (v := 0) rfl ?_
              cases hf; exact E_zret dX10_readCommand_110 rfl (by decide) rfl rfl
        · replace hf := inegE hf h54
          refine R_iconst dX10_readCommand_57 (v := 3) rfl ?_
          refine R_goto dX10_readCommand_58 rfl ?_
          refine R_istore_n dX10_readCommand_90 rfl (by decide) rfl rfl ?_
          refine R_aload_n dX10_readCommand_91 rfl rfl ?_
          refine R_iconst dX10_readCommand_92 (v := 1) rfl ?_
          refine R_iload_n dX10_readCommand_93 rfl rfl ?_
          refine R_iconst dX10_readCommand_94 (v := (-1)) rfl ?_
          refine R_icmp_eq dX10_readCommand_95 rfl (fun h => absurd h (by decide)) (fun _ => ?_)
          refine R_iconst dX10_readCommand_98 (v := 1) rfl ?_
          refine R_goto dX10_readCommand_99 rfl ?_
          obtain ⟨p103, hp103, hf⟩ := bdE hf
          refine R_callV (As := [aI 1, aI 1]) (st := []) dX10_readCommand_103 (ct_X10_starts _ _ _  hp103) mwX10_starts mvX10_starts mlX10_181 cl10 o_84 rfl rfl ⟨nle, nle, nle, nle⟩ nle rfl ?_
          refine R_if_ne dX10_readCommand_106 rfl (fun h106 => ?_) (fun h106 => ?_)
          · replace hf := inegE hf h106
            refine R_aload_n dX10_readCommand_111 rfl rfl ?_
            refine R_getR dX10_readCommand_112 cl10 flX10_86 o_84 ff10_41 (fr10_41 _) a_105.1 ?_
            refine R_iload_n dX10_readCommand_115 rfl rfl ?_
            refine R_iload_n dX10_readCommand_116 rfl rfl ?_
            obtain ⟨hg6, hf⟩ := gdE hf
            obtain ⟨M117, hM117, hf⟩ := ltE hf
            refine R_iastore dX10_readCommand_117 a_105 hg6.1 hg6.2 hM117 ?_
            refine R_iload_n dX10_readCommand_118 rfl rfl ?_
            refine R_iconst dX10_readCommand_119 (v := 4) rfl ?_
            refine R_icmp_ne dX10_readCommand_120 rfl (fun _ => ?_) (fun h => absurd h (by decide))
            refine R_iload_n dX10_readCommand_127 rfl rfl ?_
            refine R_iconst dX10_readCommand_128 (v := 5) rfl ?_
            refine R_icmp_ne dX10_readCommand_129 rfl (fun _ => ?_) (fun h => absurd h (by decide))
            refine R_iload_n dX10_readCommand_136 rfl rfl ?_
            refine R_iconst dX10_readCommand_137 (v := 3) rfl ?_
            refine R_icmp_ne dX10_readCommand_138 rfl (fun h => absurd h (by decide)) (fun _ => ?_)
            refine R_iconst dX10_readCommand_141 (v := 3) rfl ?_
            refine R_goto dX10_readCommand_142 rfl ?_
            refine R_istore_n dX10_readCommand_146 rfl (by decide) rfl rfl ?_
            refine R_iconst dX10_readCommand_147 (v := 0) rfl ?_
            refine R_istore dX10_readCommand_148 (by decide) rfl rfl ?_
            exact R_subk (rn_X10_readCommand_L150 4096 _ _ _ _ _  hf) ⟨rfl, rfl, rfl, rfl, trivial⟩
          · replace hf := iposE hf h106
            refine R_iconst dX10_readCommand_109 (v := 0) rfl ?_
            cases hf; exact E_zret dX10_readCommand_110 rfl (by decide) rfl rfl
      · replace hf := inegE hf h40
        refine R_iconst dX10_readCommand_43 (v := 2) rfl ?_
        refine R_goto dX10_readCommand_44 rfl ?_
        refine R_istore_n dX10_readCommand_90 rfl (by decide) rfl rfl ?_
        refine R_aload_n dX10_readCommand_91 rfl rfl ?_
        refine R_iconst dX10_readCommand_92 (v := 1) rfl ?_
        refine R_iload_n dX10_readCommand_93 rfl rfl ?_
        refine R_iconst dX10_readCommand_94 (v := (-1)) rfl ?_
        refine R_icmp_eq dX10_readCommand_95 rfl (fun h => absurd h (by decide)) (fun _ => ?_)
        refine R_iconst dX10_readCommand_98 (v := 1) rfl ?_
        refine R_goto dX10_readCommand_99 rfl ?_
        obtain ⟨p103, hp103, hf⟩ := bdE hf
        refine R_callV (As := [aI 1, aI 1]) (st := []) dX10_readCommand_103 (ct_X10_starts _ _ _  hp103) mwX10_starts mvX10_starts mlX10_181 cl10 o_84 rfl rfl ⟨nle, nle, nle, nle⟩ nle rfl ?_
        refine R_if_ne dX10_readCommand_106 rfl (fun h106 => ?_) (fun h106 => ?_)
        · replace hf := inegE hf h106
          refine R_aload_n dX10_readCommand_111 rfl rfl ?_
          refine R_getR dX10_readCommand_112 cl10 flX10_86 o_84 ff10_41 (fr10_41 _) a_105.1 ?_
          refine R_iload_n dX10_readCommand_115 rfl rfl ?_
          refine R_iload_n dX10_readCommand_116 rfl rfl ?_
          obtain ⟨hg7, hf⟩ := gdE hf
          obtain ⟨M117, hM117, hf⟩ := ltE hf
          refine R_iastore dX10_readCommand_117 a_105 hg7.1 hg7.2 hM117 ?_
          refine R_iload_n dX10_readCommand_118 rfl rfl ?_
          refine R_iconst dX10_readCommand_119 (v := 4) rfl ?_
          refine R_icmp_ne dX10_readCommand_120 rfl (fun _ => ?_) (fun h => absurd h (by decide))
          refine R_iload_n dX10_readCommand_127 rfl rfl ?_
          refine R_iconst dX10_readCommand_128 (v := 5) rfl ?_
          refine R_icmp_ne dX10_readCommand_129 rfl (fun _ => ?_) (fun h => absurd h (by decide))
          refine R_iload_n dX10_readCommand_136 rfl rfl ?_
          refine R_iconst dX10_readCommand_137 (v := 3) rfl ?_
          refine R_icmp_ne dX10_readCommand_138 rfl (fun _ => ?_) (fun h => absurd h (by decide))
          refine R_iconst dX10_readCommand_145 (v := 2) rfl ?_
          refine R_istore_n dX10_readCommand_146 rfl (by decide) rfl rfl ?_
          refine R_iconst dX10_readCommand_147 (v := 0) rfl ?_
          refine R_istore dX10_readCommand_148 (by decide) rfl rfl ?_
          exact R_subk (rn_X10_readCommand_L150 4096 _ _ _ _ _  hf) ⟨rfl, rfl, rfl, rfl, trivial⟩
        · replace hf := iposE hf h106
          refine R_iconst dX10_readCommand_109 (v := 0) rfl ?_
          cases hf; exact E_zret dX10_readCommand_110 rfl (by decide) rfl rfl
    · replace hf := inegE hf h26
      refine R_iconst dX10_readCommand_29 (v := 1) rfl ?_
      refine R_goto dX10_readCommand_30 rfl ?_
      refine R_istore_n dX10_readCommand_90 rfl (by decide) rfl rfl ?_
      refine R_aload_n dX10_readCommand_91 rfl rfl ?_
      refine R_iconst dX10_readCommand_92 (v := 1) rfl ?_
      refine R_iload_n dX10_readCommand_93 rfl rfl ?_
      refine R_iconst dX10_readCommand_94 (v := (-1)) rfl ?_
      refine R_icmp_eq dX10_readCommand_95 rfl (fun h => absurd h (by decide)) (fun _ => ?_)
      refine R_iconst dX10_readCommand_98 (v := 1) rfl ?_
      refine R_goto dX10_readCommand_99 rfl ?_
      obtain ⟨p103, hp103, hf⟩ := bdE hf
      refine R_callV (As := [aI 1, aI 1]) (st := []) dX10_readCommand_103 (ct_X10_starts _ _ _  hp103) mwX10_starts mvX10_starts mlX10_181 cl10 o_84 rfl rfl ⟨nle, nle, nle, nle⟩ nle rfl ?_
      refine R_if_ne dX10_readCommand_106 rfl (fun h106 => ?_) (fun h106 => ?_)
      · replace hf := inegE hf h106
        refine R_aload_n dX10_readCommand_111 rfl rfl ?_
        refine R_getR dX10_readCommand_112 cl10 flX10_86 o_84 ff10_41 (fr10_41 _) a_105.1 ?_
        refine R_iload_n dX10_readCommand_115 rfl rfl ?_
        refine R_iload_n dX10_readCommand_116 rfl rfl ?_
        obtain ⟨hg8, hf⟩ := gdE hf
        obtain ⟨M117, hM117, hf⟩ := ltE hf
        refine R_iastore dX10_readCommand_117 a_105 hg8.1 hg8.2 hM117 ?_
        refine R_iload_n dX10_readCommand_118 rfl rfl ?_
        refine R_iconst dX10_readCommand_119 (v := 4) rfl ?_
        refine R_icmp_ne dX10_readCommand_120 rfl (fun _ => ?_) (fun h => absurd h (by decide))
        refine R_iload_n dX10_readCommand_127 rfl rfl ?_
        refine R_iconst dX10_readCommand_128 (v := 5) rfl ?_
        refine R_icmp_ne dX10_readCommand_129 rfl (fun _ => ?_) (fun h => absurd h (by decide))
        refine R_iload_n dX10_readCommand_136 rfl rfl ?_
        refine R_iconst dX10_readCommand_137 (v := 3) rfl ?_
        refine R_icmp_ne dX10_readCommand_138 rfl (fun _ => ?_) (fun h => absurd h (by decide))
        refine R_iconst dX10_readCommand_145 (v := 2) rfl ?_
        refine R_istore_n dX10_readCommand_146 rfl (by decide) rfl rfl ?_
        refine R_iconst dX10_readCommand_147 (v := 0) rfl ?_
        refine R_istore dX10_readCommand_148 (by decide) rfl rfl ?_
        exact R_subk (rn_X10_readCommand_L150 4096 _ _ _ _ _  hf) ⟨rfl, rfl, rfl, rfl, trivial⟩
      · replace hf := iposE hf h106
        refine R_iconst dX10_readCommand_109 (v := 0) rfl ?_
        cases hf; exact E_zret dX10_readCommand_110 rfl (by decide) rfl rfl
  · replace hf := inegE hf h12
    refine R_iconst dX10_readCommand_15 (v := 0) rfl ?_
    refine R_goto dX10_readCommand_16 rfl ?_
    refine R_istore_n dX10_readCommand_90 rfl (by decide) rfl rfl ?_
    refine R_aload_n dX10_readCommand_91 rfl rfl ?_
    refine R_iconst dX10_readCommand_92 (v := 1) rfl ?_
    refine R_iload_n dX10_readCommand_93 rfl rfl ?_
    refine R_iconst dX10_readCommand_94 (v := (-1)) rfl ?_
    refine R_icmp_eq dX10_readCommand_95 rfl (fun h => absurd h (by decide)) (fun _ => ?_)
    refine R_iconst dX10_readCommand_98 (v := 1) rfl ?_
    refine R_goto dX10_readCommand_99 rfl ?_
    obtain ⟨p103, hp103, hf⟩ := bdE hf
    refine R_callV (As := [aI 1, aI 1]) (st := []) dX10_readCommand_103 (ct_X10_starts _ _ _  hp103) mwX10_starts mvX10_starts mlX10_181 cl10 o_84 rfl rfl ⟨nle, nle, nle, nle⟩ nle rfl ?_
    refine R_if_ne dX10_readCommand_106 rfl (fun h106 => ?_) (fun h106 => ?_)
    · replace hf := inegE hf h106
      refine R_aload_n dX10_readCommand_111 rfl rfl ?_
      refine R_getR dX10_readCommand_112 cl10 flX10_86 o_84 ff10_41 (fr10_41 _) a_105.1 ?_
      refine R_iload_n dX10_readCommand_115 rfl rfl ?_
      refine R_iload_n dX10_readCommand_116 rfl rfl ?_
      obtain ⟨hg9, hf⟩ := gdE hf
      obtain ⟨M117, hM117, hf⟩ := ltE hf
      refine R_iastore dX10_readCommand_117 a_105 hg9.1 hg9.2 hM117 ?_
      refine R_iload_n dX10_readCommand_118 rfl rfl ?_
      refine R_iconst dX10_readCommand_119 (v := 4) rfl ?_
      refine R_icmp_ne dX10_readCommand_120 rfl (fun _ => ?_) (fun h => absurd h (by decide))
      refine R_iload_n dX10_readCommand_127 rfl rfl ?_
      refine R_iconst dX10_readCommand_128 (v := 5) rfl ?_
      refine R_icmp_ne dX10_readCommand_129 rfl (fun _ => ?_) (fun h => absurd h (by decide))
      refine R_iload_n dX10_readCommand_136 rfl rfl ?_
      refine R_iconst dX10_readCommand_137 (v := 3) rfl ?_
      refine R_icmp_ne dX10_readCommand_138 rfl (fun _ => ?_) (fun h => absurd h (by decide))
      refine R_iconst dX10_readCommand_145 (v := 2) rfl ?_
      refine R_istore_n dX10_readCommand_146 rfl (by decide) rfl rfl ?_
      refine R_iconst dX10_readCommand_147 (v := 0) rfl ?_
      refine R_istore dX10_readCommand_148 (by decide) rfl rfl ?_
      exact R_subk (rn_X10_readCommand_L150 4096 _ _ _ _ _  hf) ⟨rfl, rfl, rfl, rfl, trivial⟩
    · replace hf := iposE hf h106
      refine R_iconst dX10_readCommand_109 (v := 0) rfl ?_
      cases hf; exact E_zret dX10_readCommand_110 rfl (by decide) rfl rfl
/-! BracketHallModel.isRange(II)Z -/
def f_X10_isRange (v1 : Int) (v2 : Int) (M : Mem) : Option (Int) :=
  if v2 < v1 then
    some 0
  else
    if (M 90 0) < v2 then
      some 0
    else
      some 1
set_option maxRecDepth 20000 in
theorem ct_X10_isRange {G : Gl} (v1 : Int) (v2 : Int) (M : Mem) {res : Int}  (hf : f_X10_isRange v1 v2 M = some res) : Ct G miX10_isRange yX10_isRange 0 [aR 84, aI v1, aI v2] M (some (aI res)) M := by
  refine Ct.of (L := [some (aR 84), some (aI v1), some (aI v2)]) mwX10_isRange rfl trivial nle ⟨rfl, rfl, rfl, trivial⟩ ?_
  unfold f_X10_isRange at hf
  refine R_iload_n dX10_isRange_0 rfl rfl ?_
  refine R_iload_n dX10_isRange_1 rfl rfl ?_
  refine R_icmp_gt dX10_isRange_2 rfl (fun h2 => ?_) (fun h2 => ?_)
  · replace hf := iposE hf h2
    refine R_iconst dX10_isRange_19 (v := 0) rfl ?_
    cases hf; exact E_zret dX10_isRange_20 rfl (by decide) rfl rfl
  · replace hf := inegE hf h2
    refine R_iload_n dX10_isRange_5 rfl rfl ?_
    refine R_aload_n dX10_isRange_6 rfl rfl ?_
    refine R_getR dX10_isRange_7 cl10 flX10_35 o_84 ff10_14 (fr10_14 _) a_90.1 ?_
    refine R_iconst dX10_isRange_10 (v := 0) rfl ?_
    refine R_iaload dX10_isRange_11 a_90 (by decide) (by decide) rfl ?_
    refine R_icmp_gt dX10_isRange_12 rfl (fun h12 => ?_) (fun h12 => ?_)
    · replace hf := iposE hf h12
      refine R_iconst dX10_isRange_19 (v := 0) rfl ?_
      cases hf; exact E_zret dX10_isRange_20 rfl (by decide) rfl rfl
    · replace hf := inegE hf h12
      refine R_iconst dX10_isRange_15 (v := 1) rfl ?_
      refine R_goto dX10_isRange_16 rfl ?_
      cases hf; exact E_zret dX10_isRange_20 rfl (by decide) rfl rfl
/-! BracketHallModel.swaps(II)Z -/
def f_X10_swaps (v1 : Int) (v2 : Int) (M : Mem) : Option (Int × Mem) :=
  if (M 90 0) ≤ v1 then
    some (0, M)
  else
    if v2 < (M 90 0) then
      if (0 : Int) ≤ w32 (14 + v1) ∧ w32 (14 + v1) < 254 then
      lt1 (M 90 (w32 (14 + v1))) fun v3_31 =>
      if (0 : Int) ≤ w32 (14 + v2) ∧ w32 (14 + v2) < 254 then
      lt1 (up M 90 (w32 (14 + v1)) (M 90 (w32 (14 + v2)))) fun M49 =>
      lt1 (up M49 90 (w32 (14 + v2)) v3_31) fun M59 =>
      some (1, M59)
      else none
      else none
    else
      some (0, M)
set_option maxRecDepth 20000 in
theorem ct_X10_swaps {G : Gl} (v1 : Int) (v2 : Int) (M : Mem) {res : Int × Mem}  (hf : f_X10_swaps v1 v2 M = some res) : Ct G miX10_swaps yX10_swaps 0 [aR 84, aI v1, aI v2] M (some (aI res.1)) res.2 := by
  refine Ct.of (L := [some (aR 84), some (aI v1), some (aI v2), none]) mwX10_swaps rfl trivial nle ⟨rfl, rfl, rfl, trivial⟩ ?_
  unfold f_X10_swaps at hf
  refine R_iload_n dX10_swaps_0 rfl rfl ?_
  refine R_aload_n dX10_swaps_1 rfl rfl ?_
  refine R_getR dX10_swaps_2 cl10 flX10_35 o_84 ff10_14 (fr10_14 _) a_90.1 ?_
  refine R_iconst dX10_swaps_5 (v := 0) rfl ?_
  refine R_iaload dX10_swaps_6 a_90 (by decide) (by decide) rfl ?_
  refine R_icmp_ge dX10_swaps_7 rfl (fun h7 => ?_) (fun h7 => ?_)
  · replace hf := iposE hf h7
    refine R_iconst dX10_swaps_20 (v := 0) rfl ?_
    cases hf; exact E_zret dX10_swaps_21 rfl (by decide) rfl rfl
  · replace hf := inegE hf h7
    refine R_iload_n dX10_swaps_10 rfl rfl ?_
    refine R_aload_n dX10_swaps_11 rfl rfl ?_
    refine R_getR dX10_swaps_12 cl10 flX10_35 o_84 ff10_14 (fr10_14 _) a_90.1 ?_
    refine R_iconst dX10_swaps_15 (v := 0) rfl ?_
    refine R_iaload dX10_swaps_16 a_90 (by decide) (by decide) rfl ?_
    refine R_icmp_lt dX10_swaps_17 rfl (fun h17 => ?_) (fun h17 => ?_)
    · replace hf := iposE hf h17
      refine R_aload_n dX10_swaps_22 rfl rfl ?_
      refine R_getR dX10_swaps_23 cl10 flX10_35 o_84 ff10_14 (fr10_14 _) a_90.1 ?_
      refine R_bipush dX10_swaps_26 (v := 14) rfl ?_
      refine R_iload_n dX10_swaps_28 rfl rfl ?_
      refine R_iadd dX10_swaps_29 rfl ?_
      obtain ⟨hg1, hf⟩ := gdE hf
      refine R_iaload dX10_swaps_30 a_90 hg1.1 hg1.2 rfl ?_
      obtain ⟨v3_31, hv3_31, hf⟩ := ltE hf
      refine R_istore_n dX10_swaps_31 rfl (by decide) hv3_31 rfl ?_
      refine R_aload_n dX10_swaps_32 rfl rfl ?_
      refine R_getR dX10_swaps_33 cl10 flX10_35 o_84 ff10_14 (fr10_14 _) a_90.1 ?_
      refine R_bipush dX10_swaps_36 (v := 14) rfl ?_
      refine R_iload_n dX10_swaps_38 rfl rfl ?_
      refine R_iadd dX10_swaps_39 rfl ?_
      refine R_aload_n dX10_swaps_40 rfl rfl ?_
      refine R_getR dX10_swaps_41 cl10 flX10_35 o_84 ff10_14 (fr10_14 _) a_90.1 ?_
      refine R_bipush dX10_swaps_44 (v := 14) rfl ?_
      refine R_iload_n dX10_swaps_46 rfl rfl ?_
      refine R_iadd dX10_swaps_47 rfl ?_
      obtain ⟨hg2, hf⟩ := gdE hf
      refine R_iaload dX10_swaps_48 a_90 hg2.1 hg2.2 rfl ?_
      obtain ⟨M49, hM49, hf⟩ := ltE hf
      refine R_iastore dX10_swaps_49 a_90 hg1.1 hg1.2 hM49 ?_
      refine R_aload_n dX10_swaps_50 rfl rfl ?_
      refine R_getR dX10_swaps_51 cl10 flX10_35 o_84 ff10_14 (fr10_14 _) a_90.1 ?_
      refine R_bipush dX10_swaps_54 (v := 14) rfl ?_
      refine R_iload_n dX10_swaps_56 rfl rfl ?_
      refine R_iadd dX10_swaps_57 rfl ?_
      refine R_iload_n dX10_swaps_58 rfl rfl ?_
      obtain ⟨M59, hM59, hf⟩ := ltE hf
      refine R_iastore dX10_swaps_59 a_90 hg2.1 hg2.2 hM59 ?_
      refine R_iconst dX10_swaps_60 (v := 1) rfl ?_
      cases hf; exact E_zret dX10_swaps_61 rfl (by decide) rfl rfl
    · replace hf := inegE hf h17
      refine R_iconst dX10_swaps_20 (v := 0) rfl ?_
      cases hf; exact E_zret dX10_swaps_21 rfl (by decide) rfl rfl
/-! BracketHallModel.canRepair()Z -/
def f_X10_canRepair  (M : Mem) : Option (Int × Mem) :=
  (f_X10_laysRepair M).bind fun p1 =>
  lt1 (p1.1) fun v1_4 =>
  (f_X10_longBehind p1.2).bind fun p6 =>
  if p6 ≤ 240 then
    (f_X10_repairs p1.2).bind fun p18 =>
    some (1, p18)
  else
    some (0, p1.2)
set_option maxRecDepth 20000 in
theorem ct_X10_canRepair {G : Gl}  (M : Mem) {res : Int × Mem}  (hf : f_X10_canRepair  M = some res) : Ct G miX10_canRepair yX10_canRepair 5 [aR 84] M (some (aI res.1)) res.2 := by
  refine Ct.of (L := [some (aR 84), none]) mwX10_canRepair rfl trivial nle ⟨rfl, trivial⟩ ?_
  unfold f_X10_canRepair at hf
  refine R_aload_n dX10_canRepair_0 rfl rfl ?_
  obtain ⟨p1, hp1, hf⟩ := bdE hf
  refine R_callV (As := []) (st := []) dX10_canRepair_1 (ct_X10_laysRepair  _  hp1) mwX10_laysRepair mvX10_laysRepair mlX10_346 cl10 o_84 rfl rfl ⟨nle, nle, nle, nle⟩ nle rfl ?_
  obtain ⟨v1_4, hv1_4, hf⟩ := ltE hf
  refine R_istore_n dX10_canRepair_4 rfl (by decide) hv1_4 rfl ?_
  refine R_aload_n dX10_canRepair_5 rfl rfl ?_
  obtain ⟨p6, hp6, hf⟩ := bdE hf
  refine R_callV (As := []) (st := []) dX10_canRepair_6 (ct_X10_longBehind  _  hp6) mwX10_longBehind mvX10_longBehind mlX10_374 cl10 o_84 rfl rfl ⟨nle, nle, nle, nle⟩ nle rfl ?_
  refine R_sipush dX10_canRepair_9 (v := 240) rfl ?_
  refine R_icmp_le dX10_canRepair_12 rfl (fun h12 => ?_) (fun h12 => ?_)
  · replace hf := iposE hf h12
    refine R_aload_n dX10_canRepair_17 rfl rfl ?_
    obtain ⟨p18, hp18, hf⟩ := bdE hf
    refine R_callV (As := []) (st := []) dX10_canRepair_18 (ct_X10_repairs  _  hp18) mwX10_repairs mvX10_repairs mlX10_377 cl10 o_84 rfl rfl ⟨nle, nle, nle, nle⟩ nle rfl ?_
    refine R_iconst dX10_canRepair_21 (v := 1) rfl ?_
    cases hf; exact E_zret dX10_canRepair_22 rfl (by decide) rfl rfl
  · replace hf := inegE hf h12
    refine R_iconst dX10_canRepair_15 (v := 0) rfl ?_
    cases hf; exact E_zret dX10_canRepair_16 rfl (by decide) rfl rfl
/-! BracketHallModel.doesOne(I)Z -/
def f_X10_doesOne (v1 : Int) (M : Mem) : Option (Int × Mem) :=
  if (0 : Int) ≤ v1 ∧ v1 < 200 then
  lt1 (M 106 v1) fun v2_6 =>
  lt1 (M 107 v1) fun v3_13 =>
  if (M 105 v1) = 0 then
    (f_X10_isRange v2_6 v3_13 M).bind fun p59 =>
    if p59 = 0 then
      some (0, M)
    else
      (f_X10_takesOut v2_6 v3_13 M).bind fun p68 =>
      some (1, p68)
  else if (M 105 v1) = 1 then
    if (M 90 0) < v2_6 then
      some (0, M)
    else
      (f_X10_canBe v3_13 M).bind fun p86 =>
      if p86 = 0 then
        some (0, M)
      else
        if 240 ≤ (M 90 0) then
          some (0, M)
        else
          (f_X10_puts v2_6 v3_13 M).bind fun p107 =>
          some (1, p107)
  else if (M 105 v1) = 2 then
    (f_X10_swaps v2_6 v3_13 M).bind fun p117 =>
    if p117.1 = 0 ∨ p117.1 = 1 then
    some (p117.1, p117.2)
    else none
  else if (M 105 v1) = 3 then
    (f_X10_isRange v2_6 v3_13 M).bind fun p124 =>
    if p124 = 0 then
      some (0, M)
    else
      if (M 84 1) ≤ (M 108 v1) then
        some (0, M)
      else
        if 240 < (w32 ((M 90 0) + 2)) then
          some (0, M)
        else
          (f_X10_wraps v2_6 v3_13 (M 108 v1) M).bind fun p166 =>
          some (1, p166)
  else if (M 105 v1) = 4 then
    (f_X10_canRepair M).bind fun p174 =>
    if p174.1 = 0 ∨ p174.1 = 1 then
    some (p174.1, p174.2)
    else none
  else
    (f_X10_findsPairs M).bind fun p179 =>
    (f_X10_lones p179).bind fun p183 =>
    if p183 = v2_6 then
      some (1, p179)
    else
      some (0, p179)
  else none
set_option maxRecDepth 20000 in
theorem ct_X10_doesOne {G : Gl} (v1 : Int) (M : Mem) {res : Int × Mem}  (hf : f_X10_doesOne v1 M = some res) : Ct G miX10_doesOne yX10_doesOne 6 [aR 84, aI v1] M (some (aI res.1)) res.2 := by
  refine Ct.of (L := [some (aR 84), some (aI v1), none, none]) mwX10_doesOne rfl trivial nle ⟨rfl, rfl, trivial⟩ ?_
  unfold f_X10_doesOne at hf
  refine R_aload_n dX10_doesOne_0 rfl rfl ?_
  refine R_getR dX10_doesOne_1 cl10 flX10_89 o_84 ff10_42 (fr10_42 _) a_106.1 ?_
  refine R_iload_n dX10_doesOne_4 rfl rfl ?_
  obtain ⟨hg1, hf⟩ := gdE hf
  refine R_iaload dX10_doesOne_5 a_106 hg1.1 hg1.2 rfl ?_
  obtain ⟨v2_6, hv2_6, hf⟩ := ltE hf
  refine R_istore_n dX10_doesOne_6 rfl (by decide) hv2_6 rfl ?_
  refine R_aload_n dX10_doesOne_7 rfl rfl ?_
  refine R_getR dX10_doesOne_8 cl10 flX10_92 o_84 ff10_43 (fr10_43 _) a_107.1 ?_
  refine R_iload_n dX10_doesOne_11 rfl rfl ?_
  refine R_iaload dX10_doesOne_12 a_107 hg1.1 hg1.2 rfl ?_
  obtain ⟨v3_13, hv3_13, hf⟩ := ltE hf
  refine R_istore_n dX10_doesOne_13 rfl (by decide) hv3_13 rfl ?_
  refine R_aload_n dX10_doesOne_14 rfl rfl ?_
  refine R_getR dX10_doesOne_15 cl10 flX10_86 o_84 ff10_41 (fr10_41 _) a_105.1 ?_
  refine R_iload_n dX10_doesOne_18 rfl rfl ?_
  refine R_iaload dX10_doesOne_19 a_105 hg1.1 hg1.2 rfl ?_
  by_cases h20_0 : (M 105 v1) = 0
  · replace hf := iposE hf h20_0
    refine R_switchIn dX10_doesOne_20 (by omega) (by omega) (by rw [h20_0]; rfl) rfl ?_
    refine R_aload_n dX10_doesOne_56 rfl rfl ?_
    refine R_iload_n dX10_doesOne_57 rfl rfl ?_
    refine R_iload_n dX10_doesOne_58 rfl rfl ?_
    obtain ⟨p59, hp59, hf⟩ := bdE hf
    refine R_callV (As := [aI v2_6, aI v3_13]) (st := []) dX10_doesOne_59 (ct_X10_isRange _ _ _  hp59) mwX10_isRange mvX10_isRange mlX10_395 cl10 o_84 rfl rfl ⟨nle, nle, nle, nle⟩ nle rfl ?_
    refine R_if_eq dX10_doesOne_62 rfl (fun h62 => ?_) (fun h62 => ?_)
    · replace hf := iposE hf h62
      refine R_iconst dX10_doesOne_73 (v := 0) rfl ?_
      cases hf; exact E_zret dX10_doesOne_74 rfl (by decide) rfl rfl
    · replace hf := inegE hf h62
      refine R_aload_n dX10_doesOne_65 rfl rfl ?_
      refine R_iload_n dX10_doesOne_66 rfl rfl ?_
      refine R_iload_n dX10_doesOne_67 rfl rfl ?_
      obtain ⟨p68, hp68, hf⟩ := bdE hf
      refine R_callV (As := [aI v2_6, aI v3_13]) (st := []) dX10_doesOne_68 (ct_X10_takesOut _ _ _  hp68) mwX10_takesOut mvX10_takesOut mlX10_361 cl10 o_84 rfl rfl ⟨nle, nle, nle, nle⟩ nle rfl ?_
      refine R_iconst dX10_doesOne_71 (v := 1) rfl ?_
      cases hf; exact E_zret dX10_doesOne_72 rfl (by decide) rfl rfl
  replace hf := inegE hf h20_0
  by_cases h20_1 : (M 105 v1) = 1
  · replace hf := iposE hf h20_1
    refine R_switchIn dX10_doesOne_20 (by omega) (by omega) (by rw [h20_1]; rfl) rfl ?_
    refine R_iload_n dX10_doesOne_75 rfl rfl ?_
    refine R_aload_n dX10_doesOne_76 rfl rfl ?_
    refine R_getR dX10_doesOne_77 cl10 flX10_35 o_84 ff10_14 (fr10_14 _) a_90.1 ?_
    refine R_iconst dX10_doesOne_80 (v := 0) rfl ?_
    refine R_iaload dX10_doesOne_81 a_90 (by decide) (by decide) rfl ?_
    refine R_icmp_gt dX10_doesOne_82 rfl (fun h82 => ?_) (fun h82 => ?_)
    · replace hf := iposE hf h82
      refine R_iconst dX10_doesOne_112 (v := 0) rfl ?_
      cases hf; exact E_zret dX10_doesOne_113 rfl (by decide) rfl rfl
    · replace hf := inegE hf h82
      refine R_iload_n dX10_doesOne_85 rfl rfl ?_
      obtain ⟨p86, hp86, hf⟩ := bdE hf
      refine R_callS (As := [aI v3_13]) (st := []) dX10_doesOne_86 (ct_X10_canBe _ _  hp86) mwX10_canBe msX10_canBe mlX10_254 rfl ⟨nle, nle, nle, nle⟩ nle rfl ?_
      refine R_if_eq dX10_doesOne_89 rfl (fun h89 => ?_) (fun h89 => ?_)
      · replace hf := iposE hf h89
        refine R_iconst dX10_doesOne_112 (v := 0) rfl ?_
        cases hf; exact E_zret dX10_doesOne_113 rfl (by decide) rfl rfl
      · replace hf := inegE hf h89
        refine R_aload_n dX10_doesOne_92 rfl rfl ?_
        refine R_getR dX10_doesOne_93 cl10 flX10_35 o_84 ff10_14 (fr10_14 _) a_90.1 ?_
        refine R_iconst dX10_doesOne_96 (v := 0) rfl ?_
        refine R_iaload dX10_doesOne_97 a_90 (by decide) (by decide) rfl ?_
        refine R_sipush dX10_doesOne_98 (v := 240) rfl ?_
        refine R_icmp_ge dX10_doesOne_101 rfl (fun h101 => ?_) (fun h101 => ?_)
        · replace hf := iposE hf h101
          refine R_iconst dX10_doesOne_112 (v := 0) rfl ?_
          cases hf; exact E_zret dX10_doesOne_113 rfl (by decide) rfl rfl
        · replace hf := inegE hf h101
          refine R_aload_n dX10_doesOne_104 rfl rfl ?_
          refine R_iload_n dX10_doesOne_105 rfl rfl ?_
          refine R_iload_n dX10_doesOne_106 rfl rfl ?_
          obtain ⟨p107, hp107, hf⟩ := bdE hf
          refine R_callV (As := [aI v2_6, aI v3_13]) (st := []) dX10_doesOne_107 (ct_X10_puts _ _ _  hp107) mwX10_puts mvX10_puts mlX10_358 cl10 o_84 rfl rfl ⟨nle, nle, nle, nle⟩ nle rfl ?_
          refine R_iconst dX10_doesOne_110 (v := 1) rfl ?_
          cases hf; exact E_zret dX10_doesOne_111 rfl (by decide) rfl rfl
  replace hf := inegE hf h20_1
  by_cases h20_2 : (M 105 v1) = 2
  · replace hf := iposE hf h20_2
    refine R_switchIn dX10_doesOne_20 (by omega) (by omega) (by rw [h20_2]; rfl) rfl ?_
    refine R_aload_n dX10_doesOne_114 rfl rfl ?_
    refine R_iload_n dX10_doesOne_115 rfl rfl ?_
    refine R_iload_n dX10_doesOne_116 rfl rfl ?_
    obtain ⟨p117, hp117, hf⟩ := bdE hf
    refine R_callV (As := [aI v2_6, aI v3_13]) (st := []) dX10_doesOne_117 (ct_X10_swaps _ _ _  hp117) mwX10_swaps mvX10_swaps mlX10_398 cl10 o_84 rfl rfl ⟨nle, nle, nle, nle⟩ nle rfl ?_
    obtain ⟨hb, hf⟩ := gdE hf
    cases hf; exact E_zret dX10_doesOne_120 rfl hb rfl rfl
  replace hf := inegE hf h20_2
  by_cases h20_3 : (M 105 v1) = 3
  · replace hf := iposE hf h20_3
    refine R_switchIn dX10_doesOne_20 (by omega) (by omega) (by rw [h20_3]; rfl) rfl ?_
    refine R_aload_n dX10_doesOne_121 rfl rfl ?_
    refine R_iload_n dX10_doesOne_122 rfl rfl ?_
    refine R_iload_n dX10_doesOne_123 rfl rfl ?_
    obtain ⟨p124, hp124, hf⟩ := bdE hf
    refine R_callV (As := [aI v2_6, aI v3_13]) (st := []) dX10_doesOne_124 (ct_X10_isRange _ _ _  hp124) mwX10_isRange mvX10_isRange mlX10_395 cl10 o_84 rfl rfl ⟨nle, nle, nle, nle⟩ nle rfl ?_
    refine R_if_eq dX10_doesOne_127 rfl (fun h127 => ?_) (fun h127 => ?_)
    · replace hf := iposE hf h127
      refine R_iconst dX10_doesOne_171 (v := 0) rfl ?_
      cases hf; exact E_zret dX10_doesOne_172 rfl (by decide) rfl rfl
    · replace hf := inegE hf h127
      refine R_aload_n dX10_doesOne_130 rfl rfl ?_
      refine R_getR dX10_doesOne_131 cl10 flX10_95 o_84 ff10_44 (fr10_44 _) a_108.1 ?_
      refine R_iload_n dX10_doesOne_134 rfl rfl ?_
      refine R_iaload dX10_doesOne_135 a_108 hg1.1 hg1.2 rfl ?_
      refine R_aload_n dX10_doesOne_136 rfl rfl ?_
      refine R_getI (ki := 1) dX10_doesOne_137 cl10 flX10_110 o_84 ff10_1 rfl rfl ?_
      refine R_icmp_ge dX10_doesOne_140 rfl (fun h140 => ?_) (fun h140 => ?_)
      · replace hf := iposE hf h140
        refine R_iconst dX10_doesOne_171 (v := 0) rfl ?_
        cases hf; exact E_zret dX10_doesOne_172 rfl (by decide) rfl rfl
      · replace hf := inegE hf h140
        refine R_aload_n dX10_doesOne_143 rfl rfl ?_
        refine R_getR dX10_doesOne_144 cl10 flX10_35 o_84 ff10_14 (fr10_14 _) a_90.1 ?_
        refine R_iconst dX10_doesOne_147 (v := 0) rfl ?_
        refine R_iaload dX10_doesOne_148 a_90 (by decide) (by decide) rfl ?_
        refine R_iconst dX10_doesOne_149 (v := 2) rfl ?_
        refine R_iadd dX10_doesOne_150 rfl ?_
        refine R_sipush dX10_doesOne_151 (v := 240) rfl ?_
        refine R_icmp_gt dX10_doesOne_154 rfl (fun h154 => ?_) (fun h154 => ?_)
        · replace hf := iposE hf h154
          refine R_iconst dX10_doesOne_171 (v := 0) rfl ?_
          cases hf; exact E_zret dX10_doesOne_172 rfl (by decide) rfl rfl
        · replace hf := inegE hf h154
          refine R_aload_n dX10_doesOne_157 rfl rfl ?_
          refine R_iload_n dX10_doesOne_158 rfl rfl ?_
          refine R_iload_n dX10_doesOne_159 rfl rfl ?_
          refine R_aload_n dX10_doesOne_160 rfl rfl ?_
          refine R_getR dX10_doesOne_161 cl10 flX10_95 o_84 ff10_44 (fr10_44 _) a_108.1 ?_
          refine R_iload_n dX10_doesOne_164 rfl rfl ?_
          refine R_iaload dX10_doesOne_165 a_108 hg1.1 hg1.2 rfl ?_
          obtain ⟨p166, hp166, hf⟩ := bdE hf
          refine R_callV (As := [aI v2_6, aI v3_13, aI (M 108 v1)]) (st := []) dX10_doesOne_166 (ct_X10_wraps _ _ _ _  hp166) mwX10_wraps mvX10_wraps mlX10_370 cl10 o_84 rfl rfl ⟨nle, nle, nle, nle⟩ nle rfl ?_
          refine R_iconst dX10_doesOne_169 (v := 1) rfl ?_
          cases hf; exact E_zret dX10_doesOne_170 rfl (by decide) rfl rfl
  replace hf := inegE hf h20_3
  by_cases h20_4 : (M 105 v1) = 4
  · replace hf := iposE hf h20_4
    refine R_switchIn dX10_doesOne_20 (by omega) (by omega) (by rw [h20_4]; rfl) rfl ?_
    refine R_aload_n dX10_doesOne_173 rfl rfl ?_
    obtain ⟨p174, hp174, hf⟩ := bdE hf
    refine R_callV (As := []) (st := []) dX10_doesOne_174 (ct_X10_canRepair  _  hp174) mwX10_canRepair mvX10_canRepair mlX10_401 cl10 o_84 rfl rfl ⟨nle, nle, nle, nle⟩ nle rfl ?_
    obtain ⟨hb, hf⟩ := gdE hf
    cases hf; exact E_zret dX10_doesOne_177 rfl hb rfl rfl
  replace hf := inegE hf h20_4
  refine R_switchOut dX10_doesOne_20 (by omega) rfl ?_
  refine R_aload_n dX10_doesOne_178 rfl rfl ?_
  obtain ⟨p179, hp179, hf⟩ := bdE hf
  refine R_callV (As := []) (st := []) dX10_doesOne_179 (ct_X10_findsPairs  _  hp179) mwX10_findsPairs mvX10_findsPairs mlX10_292 cl10 o_84 rfl rfl ⟨nle, nle, nle, nle⟩ nle rfl ?_
  refine R_aload_n dX10_doesOne_182 rfl rfl ?_
  obtain ⟨p183, hp183, hf⟩ := bdE hf
  refine R_callV (As := []) (st := []) dX10_doesOne_183 (ct_X10_lones  _  hp183) mwX10_lones mvX10_lones mlX10_298 cl10 o_84 rfl rfl ⟨nle, nle, nle, nle⟩ nle rfl ?_
  refine R_iload_n dX10_doesOne_186 rfl rfl ?_
  refine R_icmp_ne dX10_doesOne_187 rfl (fun h187 => ?_) (fun h187 => ?_)
  · replace hf := inegE hf h187
    refine R_iconst dX10_doesOne_194 (v := 0) rfl ?_
    cases hf; exact E_zret dX10_doesOne_195 rfl (by decide) rfl rfl
  · replace hf := iposE hf h187
    refine R_iconst dX10_doesOne_190 (v := 1) rfl ?_
    refine R_goto dX10_doesOne_191 rfl ?_
    cases hf; exact E_zret dX10_doesOne_195 rfl (by decide) rfl rfl
/-! BracketHallModel.script(I)I -/
def f_X10_script_K106 (v3 : Int) (M : Mem) : Option (Int × Mem) :=
  (f_X10_copies 109 0 90 0 M).bind fun p116 =>
  some (w32 ((-20) - v3), p116)
def f_X10_script_L90 : Nat → Int → Mem → Option (Int × Mem)
  | 0, _, _ => none
  | n + 1, v3, M =>
    if (M 84 40) ≤ v3 then
      (f_X10_keepsRow 109 M).bind fun p135 =>
      some (p135 84 40, p135)
    else
      (f_X10_doesOne v3 M).bind fun p100 =>
      if p100.1 = 0 then
        f_X10_script_K106 v3 p100.2
      else
        lt1 (w32 (v3 + 1)) fun v3_124 =>
        f_X10_script_L90 n v3_124 p100.2
def f_X10_script_K63 (v2 : Int) (M : Mem) : Option (Int × Mem) :=
  if v2 = 0 then
    some (w32 ((-10) - (M 84 22)), M)
  else
    (f_X10_copies 90 0 109 0 M).bind fun p85 =>
    f_X10_script_L90 4096 0 p85
def f_X10_script_L44 : Nat → Int → Mem → Option (Int × Mem)
  | 0, _, _ => none
  | n + 1, v2, M =>
    if v2 = 0 then
      f_X10_script_K63 v2 M
    else
      if (M 84 20) = 0 then
        f_X10_script_K63 v2 M
      else
        (f_X10_readCommand M).bind fun p56 =>
        lt1 (p56.1) fun v2_59 =>
        f_X10_script_L44 n v2_59 p56.2
def f_X10_script (v1 : Int) (M : Mem) : Option (Int × Mem) :=
  lt1 (up M 84 0 0) fun M2 =>
  (f_X10_isIn v1 0 (M2 84 16) M2).bind fun p12 =>
  if p12 = 0 then
    (f_X10_throwsIf 1 1 M2).bind fun p24 =>
    if p24.1 = 0 then
      (f_X10_beginsText v1 p24.2).bind fun p34 =>
      lt1 (up p34 84 40 0) fun M39 =>
      f_X10_script_L44 4096 1 M39
    else
      some (0, p24.2)
  else
    (f_X10_throwsIf 0 1 M2).bind fun p24 =>
    if p24.1 = 0 then
      (f_X10_beginsText v1 p24.2).bind fun p34 =>
      lt1 (up p34 84 40 0) fun M39 =>
      f_X10_script_L44 4096 1 M39
    else
      some (0, p24.2)
set_option maxRecDepth 20000 in
theorem rn_X10_script_K106 {G : Gl} (v3 : Int) (M : Mem) (res : Int × Mem)  (hf : f_X10_script_K106 v3 M = some res) : Run G false (rmD 7 0 0) miX10_script (ZP G (some (aI res.1)) res.2) 0 0 106 [some (aR 84), none, none, some (aI v3)] [] M := by
  unfold f_X10_script_K106 at hf
  refine R_aload_n dX10_script_106 rfl rfl ?_
  refine R_getR dX10_script_107 cl10 flX10_98 o_84 ff10_45 (fr10_45 _) a_109.1 ?_
  refine R_iconst dX10_script_110 (v := 0) rfl ?_
  refine R_aload_n dX10_script_111 rfl rfl ?_
  refine R_getR dX10_script_112 cl10 flX10_35 o_84 ff10_14 (fr10_14 _) a_90.1 ?_
  refine R_iconst dX10_script_115 (v := 0) rfl ?_
  obtain ⟨p116, hp116, hf⟩ := bdE hf
  refine R_callS (As := [aR 109, aI 0, aR 90, aI 0]) (st := []) dX10_script_116 (ct_X10_copies _ _ _ _ _ a_109.i a_90.i hp116) mwX10_copies msX10_copies mlX10_244 rfl ⟨nle, nle, nle, nle⟩ nle rfl ?_
  refine R_bipush dX10_script_119 (v := (-20)) rfl ?_
  refine R_iload_n dX10_script_121 rfl rfl ?_
  refine R_isub dX10_script_122 rfl ?_
  cases hf; exact E_iret dX10_script_123 rfl rfl rfl
set_option maxRecDepth 20000 in
theorem rn_X10_script_L90 {G : Gl} : ∀ (n : Nat) (v3 : Int) (M : Mem) (res : Int × Mem),  f_X10_script_L90 n v3 M = some res → Run G false (rmD 7 0 0) miX10_script (ZP G (some (aI res.1)) res.2) 0 0 90 [some (aR 84), none, none, some (aI v3)] [] M := by
  intro n
  induction n with
  | zero => intro v3 M res  hf; cases hf
  | succ n ih =>
    intro v3 M res  hf
    rw [f_X10_script_L90] at hf
    refine R_iload_n dX10_script_90 rfl rfl ?_
    refine R_aload_n dX10_script_91 rfl rfl ?_
    refine R_getI (ki := 40) dX10_script_92 cl10 flX10_380 o_84 ff10_40 rfl rfl ?_
    refine R_icmp_ge dX10_script_95 rfl (fun h95 => ?_) (fun h95 => ?_)
    · replace hf := iposE hf h95
      refine R_aload_n dX10_script_130 rfl rfl ?_
      refine R_aload_n dX10_script_131 rfl rfl ?_
      refine R_getR dX10_script_132 cl10 flX10_98 o_84 ff10_45 (fr10_45 _) a_109.1 ?_
      obtain ⟨p135, hp135, hf⟩ := bdE hf
      refine R_callV (As := [aR 109]) (st := []) dX10_script_135 (ct_X10_keepsRow _ _ a_109.i hp135) mwX10_keepsRow mvX10_keepsRow mlX10_410 cl10 o_84 rfl rfl ⟨nle, nle, nle, nle⟩ nle rfl ?_
      refine R_aload_n dX10_script_138 rfl rfl ?_
      refine R_getI (ki := 40) dX10_script_139 cl10 flX10_380 o_84 ff10_40 rfl rfl ?_
      cases hf; exact E_iret dX10_script_142 rfl rfl rfl
    · replace hf := inegE hf h95
      refine R_aload_n dX10_script_98 rfl rfl ?_
      refine R_iload_n dX10_script_99 rfl rfl ?_
      obtain ⟨p100, hp100, hf⟩ := bdE hf
      refine R_callV (As := [aI v3]) (st := []) dX10_script_100 (ct_X10_doesOne _ _  hp100) mwX10_doesOne mvX10_doesOne mlX10_407 cl10 o_84 rfl rfl ⟨nle, nle, nle, nle⟩ nle rfl ?_
      refine R_if_ne dX10_script_103 rfl (fun h103 => ?_) (fun h103 => ?_)
      · replace hf := inegE hf h103
        obtain ⟨v3_124, hv3_124, hf⟩ := ltE hf
        refine R_iinc dX10_script_124 rfl rfl hv3_124 (by decide) rfl ?_
        refine R_goto dX10_script_127 rfl ?_
        exact R_subk (ih _ _ _  hf) ⟨rfl, rfl, trivial⟩
      · replace hf := iposE hf h103
        exact R_subk (rn_X10_script_K106 _ _ _  hf) ⟨rfl, rfl, trivial⟩
set_option maxRecDepth 20000 in
theorem rn_X10_script_K63 {G : Gl} (v2 : Int) (M : Mem) (res : Int × Mem)  (hf : f_X10_script_K63 v2 M = some res) : Run G false (rmD 7 0 0) miX10_script (ZP G (some (aI res.1)) res.2) 0 0 63 [some (aR 84), none, some (aI v2), none] [] M := by
  unfold f_X10_script_K63 at hf
  refine R_iload_n dX10_script_63 rfl rfl ?_
  refine R_if_ne dX10_script_64 rfl (fun h64 => ?_) (fun h64 => ?_)
  · replace hf := inegE hf h64
    refine R_aload_n dX10_script_75 rfl rfl ?_
    refine R_getR dX10_script_76 cl10 flX10_35 o_84 ff10_14 (fr10_14 _) a_90.1 ?_
    refine R_iconst dX10_script_79 (v := 0) rfl ?_
    refine R_aload_n dX10_script_80 rfl rfl ?_
    refine R_getR dX10_script_81 cl10 flX10_98 o_84 ff10_45 (fr10_45 _) a_109.1 ?_
    refine R_iconst dX10_script_84 (v := 0) rfl ?_
    obtain ⟨p85, hp85, hf⟩ := bdE hf
    refine R_callS (As := [aR 90, aI 0, aR 109, aI 0]) (st := []) dX10_script_85 (ct_X10_copies _ _ _ _ _ a_90.i a_109.i hp85) mwX10_copies msX10_copies mlX10_244 rfl ⟨nle, nle, nle, nle⟩ nle rfl ?_
    refine R_iconst dX10_script_88 (v := 0) rfl ?_
    refine R_istore_n dX10_script_89 rfl (by decide) rfl rfl ?_
    exact R_subk (rn_X10_script_L90 4096 _ _ _  hf) ⟨rfl, rfl, trivial⟩
  · replace hf := iposE hf h64
    refine R_bipush dX10_script_67 (v := (-10)) rfl ?_
    refine R_aload_n dX10_script_69 rfl rfl ?_
    refine R_getI (ki := 22) dX10_script_70 cl10 flX10_169 o_84 ff10_22 rfl rfl ?_
    refine R_isub dX10_script_73 rfl ?_
    cases hf; exact E_iret dX10_script_74 rfl rfl rfl
set_option maxRecDepth 20000 in
theorem rn_X10_script_L44 {G : Gl} : ∀ (n : Nat) (v2 : Int) (M : Mem) (res : Int × Mem),  f_X10_script_L44 n v2 M = some res → Run G false (rmD 7 0 0) miX10_script (ZP G (some (aI res.1)) res.2) 0 0 44 [some (aR 84), none, some (aI v2), none] [] M := by
  intro n
  induction n with
  | zero => intro v2 M res  hf; cases hf
  | succ n ih =>
    intro v2 M res  hf
    rw [f_X10_script_L44] at hf
    refine R_iload_n dX10_script_44 rfl rfl ?_
    refine R_if_eq dX10_script_45 rfl (fun h45 => ?_) (fun h45 => ?_)
    · replace hf := iposE hf h45
      exact R_subk (rn_X10_script_K63 _ _ _  hf) ⟨rfl, rfl, trivial⟩
    · replace hf := inegE hf h45
      refine R_aload_n dX10_script_48 rfl rfl ?_
      refine R_getI (ki := 20) dX10_script_49 cl10 flX10_154 o_84 ff10_20 rfl rfl ?_
      refine R_if_eq dX10_script_52 rfl (fun h52 => ?_) (fun h52 => ?_)
      · replace hf := iposE hf h52
        exact R_subk (rn_X10_script_K63 _ _ _  hf) ⟨rfl, rfl, trivial⟩
      · replace hf := inegE hf h52
        refine R_aload_n dX10_script_55 rfl rfl ?_
        obtain ⟨p56, hp56, hf⟩ := bdE hf
        refine R_callV (As := []) (st := []) dX10_script_56 (ct_X10_readCommand  _  hp56) mwX10_readCommand mvX10_readCommand mlX10_404 cl10 o_84 rfl rfl ⟨nle, nle, nle, nle⟩ nle rfl ?_
        obtain ⟨v2_59, hv2_59, hf⟩ := ltE hf
        refine R_istore_n dX10_script_59 rfl (by decide) hv2_59 rfl ?_
        refine R_goto dX10_script_60 rfl ?_
        exact R_subk (ih _ _ _  hf) ⟨rfl, rfl, trivial⟩
set_option maxRecDepth 20000 in
theorem ct_X10_script {G : Gl} (v1 : Int) (M : Mem) {res : Int × Mem}  (hf : f_X10_script v1 M = some res) : Ct G miX10_script yX10_script 7 [aR 84, aI v1] M (some (aI res.1)) res.2 := by
  refine Ct.of (L := [some (aR 84), some (aI v1), none, none]) mwX10_script rfl trivial nle ⟨rfl, rfl, trivial⟩ ?_
  unfold f_X10_script at hf
  refine R_aload_n dX10_script_0 rfl rfl ?_
  refine R_iconst dX10_script_1 (v := 0) rfl ?_
  obtain ⟨M2, hM2, hf⟩ := ltE hf
  refine R_put (ki := 0) dX10_script_2 cl10 flX10_117 o_84 (Or.inl fz10_0) rfl hM2 ?_
  refine R_aload_n dX10_script_5 rfl rfl ?_
  refine R_iload_n dX10_script_6 rfl rfl ?_
  refine R_iconst dX10_script_7 (v := 0) rfl ?_
  refine R_aload_n dX10_script_8 rfl rfl ?_
  refine R_getI (ki := 16) dX10_script_9 cl10 flX10_120 o_84 ff10_16 rfl rfl ?_
  obtain ⟨p12, hp12, hf⟩ := bdE hf
  refine R_callS (As := [aI v1, aI 0, aI (M2 84 16)]) (st := [aR 84]) dX10_script_12 (ct_X10_isIn _ _ _ _  hp12) mwX10_isIn msX10_isIn mlX10_130 rfl ⟨nle, nle, nle, nle⟩ nle rfl ?_
  refine R_if_ne dX10_script_15 rfl (fun h15 => ?_) (fun h15 => ?_)
  · replace hf := inegE hf h15
    refine R_iconst dX10_script_22 (v := 0) rfl ?_
    refine R_iconst dX10_script_23 (v := 1) rfl ?_
    obtain ⟨p24, hp24, hf⟩ := bdE hf
    refine R_callV (As := [aI 0, aI 1]) (st := []) dX10_script_24 (ct_X10_throwsIf _ _ _  hp24) mwX10_throwsIf mvX10_throwsIf mlX10_227 cl10 o_84 rfl rfl ⟨nle, nle, nle, nle⟩ nle rfl ?_
    refine R_if_eq dX10_script_27 rfl (fun h27 => ?_) (fun h27 => ?_)
    · replace hf := iposE hf h27
      refine R_aload_n dX10_script_32 rfl rfl ?_
      refine R_iload_n dX10_script_33 rfl rfl ?_
      obtain ⟨p34, hp34, hf⟩ := bdE hf
      refine R_callV (As := [aI v1]) (st := []) dX10_script_34 (ct_X10_beginsText _ _  hp34) mwX10_beginsText mvX10_beginsText mlX10_231 cl10 o_84 rfl rfl ⟨nle, nle, nle, nle⟩ nle rfl ?_
      refine R_aload_n dX10_script_37 rfl rfl ?_
      refine R_iconst dX10_script_38 (v := 0) rfl ?_
      obtain ⟨M39, hM39, hf⟩ := ltE hf
      refine R_put (ki := 40) dX10_script_39 cl10 flX10_380 o_84 (Or.inl fz10_40) rfl hM39 ?_
      refine R_iconst dX10_script_42 (v := 1) rfl ?_
      refine R_istore_n dX10_script_43 rfl (by decide) rfl rfl ?_
      exact R_subk (rn_X10_script_L44 4096 _ _ _  hf) ⟨rfl, rfl, trivial⟩
    · replace hf := inegE hf h27
      refine R_iconst dX10_script_30 (v := 0) rfl ?_
      cases hf; exact E_iret dX10_script_31 rfl rfl rfl
  · replace hf := iposE hf h15
    refine R_iconst dX10_script_18 (v := 1) rfl ?_
    refine R_goto dX10_script_19 rfl ?_
    refine R_iconst dX10_script_23 (v := 1) rfl ?_
    obtain ⟨p24, hp24, hf⟩ := bdE hf
    refine R_callV (As := [aI 1, aI 1]) (st := []) dX10_script_24 (ct_X10_throwsIf _ _ _  hp24) mwX10_throwsIf mvX10_throwsIf mlX10_227 cl10 o_84 rfl rfl ⟨nle, nle, nle, nle⟩ nle rfl ?_
    refine R_if_eq dX10_script_27 rfl (fun h27 => ?_) (fun h27 => ?_)
    · replace hf := iposE hf h27
      refine R_aload_n dX10_script_32 rfl rfl ?_
      refine R_iload_n dX10_script_33 rfl rfl ?_
      obtain ⟨p34, hp34, hf⟩ := bdE hf
      refine R_callV (As := [aI v1]) (st := []) dX10_script_34 (ct_X10_beginsText _ _  hp34) mwX10_beginsText mvX10_beginsText mlX10_231 cl10 o_84 rfl rfl ⟨nle, nle, nle, nle⟩ nle rfl ?_
      refine R_aload_n dX10_script_37 rfl rfl ?_
      refine R_iconst dX10_script_38 (v := 0) rfl ?_
      obtain ⟨M39, hM39, hf⟩ := ltE hf
      refine R_put (ki := 40) dX10_script_39 cl10 flX10_380 o_84 (Or.inl fz10_40) rfl hM39 ?_
      refine R_iconst dX10_script_42 (v := 1) rfl ?_
      refine R_istore_n dX10_script_43 rfl (by decide) rfl rfl ?_
      exact R_subk (rn_X10_script_L44 4096 _ _ _  hf) ⟨rfl, rfl, trivial⟩
    · replace hf := inegE hf h27
      refine R_iconst dX10_script_30 (v := 0) rfl ?_
      cases hf; exact E_iret dX10_script_31 rfl rfl rfl
/-! BracketHallModel.undo()I -/
def f_X10_undo  (M : Mem) : Option (Int × Mem) :=
  lt1 (up M 84 0 0) fun M2 =>
  if (M2 84 46) = 0 then
    some ((-1), M2)
  else
    lt1 (up M2 84 46 (w32 ((M2 84 46) - 1))) fun M21 =>
    (f_X10_copies 110 (w32 (254 * (M21 84 46))) 90 0 M21).bind fun p41 =>
    some (p41 84 46, p41)
set_option maxRecDepth 20000 in
theorem ct_X10_undo {G : Gl}  (M : Mem) {res : Int × Mem}  (hf : f_X10_undo  M = some res) : Ct G miX10_undo yX10_undo 1 [aR 84] M (some (aI res.1)) res.2 := by
  refine Ct.of (L := [some (aR 84)]) mwX10_undo rfl trivial nle ⟨rfl, trivial⟩ ?_
  unfold f_X10_undo at hf
  refine R_aload_n dX10_undo_0 rfl rfl ?_
  refine R_iconst dX10_undo_1 (v := 0) rfl ?_
  obtain ⟨M2, hM2, hf⟩ := ltE hf
  refine R_put (ki := 0) dX10_undo_2 cl10 flX10_117 o_84 (Or.inl fz10_0) rfl hM2 ?_
  refine R_aload_n dX10_undo_5 rfl rfl ?_
  refine R_getI (ki := 46) dX10_undo_6 cl10 flX10_251 o_84 ff10_46 rfl rfl ?_
  refine R_if_ne dX10_undo_9 rfl (fun h9 => ?_) (fun h9 => ?_)
  · replace hf := inegE hf h9
    refine R_aload_n dX10_undo_14 rfl rfl ?_
    refine R_dupR dX10_undo_15 ?_
    refine R_getI (ki := 46) dX10_undo_16 cl10 flX10_251 o_84 ff10_46 rfl rfl ?_
    refine R_iconst dX10_undo_19 (v := 1) rfl ?_
    refine R_isub dX10_undo_20 rfl ?_
    obtain ⟨M21, hM21, hf⟩ := ltE hf
    refine R_put (ki := 46) dX10_undo_21 cl10 flX10_251 o_84 (Or.inl fz10_46) rfl hM21 ?_
    refine R_aload_n dX10_undo_24 rfl rfl ?_
    refine R_getR dX10_undo_25 cl10 flX10_101 o_84 ff10_47 (fr10_47 _) a_110.1 ?_
    refine R_sipush dX10_undo_28 (v := 254) rfl ?_
    refine R_aload_n dX10_undo_31 rfl rfl ?_
    refine R_getI (ki := 46) dX10_undo_32 cl10 flX10_251 o_84 ff10_46 rfl rfl ?_
    refine R_imul dX10_undo_35 rfl ?_
    refine R_aload_n dX10_undo_36 rfl rfl ?_
    refine R_getR dX10_undo_37 cl10 flX10_35 o_84 ff10_14 (fr10_14 _) a_90.1 ?_
    refine R_iconst dX10_undo_40 (v := 0) rfl ?_
    obtain ⟨p41, hp41, hf⟩ := bdE hf
    refine R_callS (As := [aR 110, aI (w32 (254 * (M21 84 46))), aR 90, aI 0]) (st := []) dX10_undo_41 (ct_X10_copies _ _ _ _ _ a_110.i a_90.i hp41) mwX10_copies msX10_copies mlX10_244 rfl ⟨nle, nle, nle, nle⟩ nle rfl ?_
    refine R_aload_n dX10_undo_44 rfl rfl ?_
    refine R_getI (ki := 46) dX10_undo_45 cl10 flX10_251 o_84 ff10_46 rfl rfl ?_
    cases hf; exact E_iret dX10_undo_48 rfl rfl rfl
  · replace hf := iposE hf h9
    refine R_iconst dX10_undo_12 (v := (-1)) rfl ?_
    cases hf; exact E_iret dX10_undo_13 rfl rfl rfl
/-! BracketHallModel.noSlot(I)Z -/
def f_X10_noSlot (v1 : Int) (M : Mem) : Option (Int × Mem) :=
  lt1 (up M 84 0 0) fun M2 =>
  (f_X10_isIn v1 0 1 M2).bind fun p9 =>
  if p9 = 0 then
    (f_X10_throwsIf 1 1 M2).bind fun p21 =>
    if p21.1 = 0 ∨ p21.1 = 1 then
    some (p21.1, p21.2)
    else none
  else
    (f_X10_throwsIf 0 1 M2).bind fun p21 =>
    if p21.1 = 0 ∨ p21.1 = 1 then
    some (p21.1, p21.2)
    else none
set_option maxRecDepth 20000 in
theorem ct_X10_noSlot {G : Gl} (v1 : Int) (M : Mem) {res : Int × Mem}  (hf : f_X10_noSlot v1 M = some res) : Ct G miX10_noSlot yX10_noSlot 1 [aR 84, aI v1] M (some (aI res.1)) res.2 := by
  refine Ct.of (L := [some (aR 84), some (aI v1)]) mwX10_noSlot rfl trivial nle ⟨rfl, rfl, trivial⟩ ?_
  unfold f_X10_noSlot at hf
  refine R_aload_n dX10_noSlot_0 rfl rfl ?_
  refine R_iconst dX10_noSlot_1 (v := 0) rfl ?_
  obtain ⟨M2, hM2, hf⟩ := ltE hf
  refine R_put (ki := 0) dX10_noSlot_2 cl10 flX10_117 o_84 (Or.inl fz10_0) rfl hM2 ?_
  refine R_aload_n dX10_noSlot_5 rfl rfl ?_
  refine R_iload_n dX10_noSlot_6 rfl rfl ?_
  refine R_iconst dX10_noSlot_7 (v := 0) rfl ?_
  refine R_iconst dX10_noSlot_8 (v := 1) rfl ?_
  obtain ⟨p9, hp9, hf⟩ := bdE hf
  refine R_callS (As := [aI v1, aI 0, aI 1]) (st := [aR 84]) dX10_noSlot_9 (ct_X10_isIn _ _ _ _  hp9) mwX10_isIn msX10_isIn mlX10_130 rfl ⟨nle, nle, nle, nle⟩ nle rfl ?_
  refine R_if_ne dX10_noSlot_12 rfl (fun h12 => ?_) (fun h12 => ?_)
  · replace hf := inegE hf h12
    refine R_iconst dX10_noSlot_19 (v := 0) rfl ?_
    refine R_iconst dX10_noSlot_20 (v := 1) rfl ?_
    obtain ⟨p21, hp21, hf⟩ := bdE hf
    refine R_callV (As := [aI 0, aI 1]) (st := []) dX10_noSlot_21 (ct_X10_throwsIf _ _ _  hp21) mwX10_throwsIf mvX10_throwsIf mlX10_227 cl10 o_84 rfl rfl ⟨nle, nle, nle, nle⟩ nle rfl ?_
    obtain ⟨hb, hf⟩ := gdE hf
    cases hf; exact E_zret dX10_noSlot_24 rfl hb rfl rfl
  · replace hf := iposE hf h12
    refine R_iconst dX10_noSlot_15 (v := 1) rfl ?_
    refine R_goto dX10_noSlot_16 rfl ?_
    refine R_iconst dX10_noSlot_20 (v := 1) rfl ?_
    obtain ⟨p21, hp21, hf⟩ := bdE hf
    refine R_callV (As := [aI 1, aI 1]) (st := []) dX10_noSlot_21 (ct_X10_throwsIf _ _ _  hp21) mwX10_throwsIf mvX10_throwsIf mlX10_227 cl10 o_84 rfl rfl ⟨nle, nle, nle, nle⟩ nle rfl ?_
    obtain ⟨hb, hf⟩ := gdE hf
    cases hf; exact E_zret dX10_noSlot_24 rfl hb rfl rfl
/-! BracketHallModel.saveSnapshot(I)Z -/
def f_X10_saveSnapshot (v1 : Int) (M : Mem) : Option (Int × Mem) :=
  (f_X10_noSlot v1 M).bind fun p2 =>
  if p2.1 = 0 then
    if (0 : Int) ≤ v1 ∧ v1 < 2 then
    lt1 (p2.2 112 v1) fun v2_16 =>
    (f_X10_copies 90 0 111 (w32 (254 * v1)) p2.2).bind fun p31 =>
    lt1 (up p31 112 v1 1) fun M40 =>
    if v2_16 = 0 ∨ v2_16 = 1 then
    some (v2_16, M40)
    else none
    else none
  else
    some (0, p2.2)
set_option maxRecDepth 20000 in
theorem ct_X10_saveSnapshot {G : Gl} (v1 : Int) (M : Mem) {res : Int × Mem}  (hf : f_X10_saveSnapshot v1 M = some res) : Ct G miX10_saveSnapshot yX10_saveSnapshot 2 [aR 84, aI v1] M (some (aI res.1)) res.2 := by
  refine Ct.of (L := [some (aR 84), some (aI v1), none]) mwX10_saveSnapshot rfl trivial nle ⟨rfl, rfl, trivial⟩ ?_
  unfold f_X10_saveSnapshot at hf
  refine R_aload_n dX10_saveSnapshot_0 rfl rfl ?_
  refine R_iload_n dX10_saveSnapshot_1 rfl rfl ?_
  obtain ⟨p2, hp2, hf⟩ := bdE hf
  refine R_callV (As := [aI v1]) (st := []) dX10_saveSnapshot_2 (ct_X10_noSlot _ _  hp2) mwX10_noSlot mvX10_noSlot mlX10_413 cl10 o_84 rfl rfl ⟨nle, nle, nle, nle⟩ nle rfl ?_
  refine R_if_eq dX10_saveSnapshot_5 rfl (fun h5 => ?_) (fun h5 => ?_)
  · replace hf := iposE hf h5
    refine R_aload_n dX10_saveSnapshot_10 rfl rfl ?_
    refine R_getR dX10_saveSnapshot_11 cl10 flX10_107 o_84 ff10_49 (fr10_49 _) a_112.1 ?_
    refine R_iload_n dX10_saveSnapshot_14 rfl rfl ?_
    obtain ⟨hg1, hf⟩ := gdE hf
    refine R_zaload dX10_saveSnapshot_15 a_112 hg1.1 hg1.2 rfl ?_
    obtain ⟨v2_16, hv2_16, hf⟩ := ltE hf
    refine R_istore_n dX10_saveSnapshot_16 rfl (by decide) hv2_16 rfl ?_
    refine R_aload_n dX10_saveSnapshot_17 rfl rfl ?_
    refine R_getR dX10_saveSnapshot_18 cl10 flX10_35 o_84 ff10_14 (fr10_14 _) a_90.1 ?_
    refine R_iconst dX10_saveSnapshot_21 (v := 0) rfl ?_
    refine R_aload_n dX10_saveSnapshot_22 rfl rfl ?_
    refine R_getR dX10_saveSnapshot_23 cl10 flX10_104 o_84 ff10_48 (fr10_48 _) a_111.1 ?_
    refine R_sipush dX10_saveSnapshot_26 (v := 254) rfl ?_
    refine R_iload_n dX10_saveSnapshot_29 rfl rfl ?_
    refine R_imul dX10_saveSnapshot_30 rfl ?_
    obtain ⟨p31, hp31, hf⟩ := bdE hf
    refine R_callS (As := [aR 90, aI 0, aR 111, aI (w32 (254 * v1))]) (st := []) dX10_saveSnapshot_31 (ct_X10_copies _ _ _ _ _ a_90.i a_111.i hp31) mwX10_copies msX10_copies mlX10_244 rfl ⟨nle, nle, nle, nle⟩ nle rfl ?_
    refine R_aload_n dX10_saveSnapshot_34 rfl rfl ?_
    refine R_getR dX10_saveSnapshot_35 cl10 flX10_107 o_84 ff10_49 (fr10_49 _) a_112.1 ?_
    refine R_iload_n dX10_saveSnapshot_38 rfl rfl ?_
    refine R_iconst dX10_saveSnapshot_39 (v := 1) rfl ?_
    obtain ⟨M40, hM40, hf⟩ := ltE hf
    refine R_zastore dX10_saveSnapshot_40 a_112 hg1.1 hg1.2 (by decide) hM40 ?_
    refine R_iload_n dX10_saveSnapshot_41 rfl rfl ?_
    obtain ⟨hb, hf⟩ := gdE hf
    cases hf; exact E_zret dX10_saveSnapshot_42 rfl hb rfl rfl
  · replace hf := inegE hf h5
    refine R_iconst dX10_saveSnapshot_8 (v := 0) rfl ?_
    cases hf; exact E_zret dX10_saveSnapshot_9 rfl (by decide) rfl rfl
